/-! the reference counts all: the ways to each node -/
section MC
variable {M : Mm} {m : Nat} {σ : Sg} {Q : Option Value → Mm → Prop} {rs : List Ru} {k N : Nat} {str : Nat → List Nat}
set_option maxHeartbeats 2000000 in
theorem k_mKahn (hS : MdS M m) (hT : TreeV M m rs k N str) (hw : RWf rs k) (hac : AC rs) (h11 : gI M m 11 = nI k) {w : List Nat} (nd : w.Nodup) (hRw : ∀ t ∈ w, RnM N rs str t) (h0w : 0 ∈ w) (hcl : ∀ u l, u ∈ w → l < k → okM rs str (toM M (m + 22) u l) = true → toM M (m + 22) u l ∈ w) (hV : RcV M m N (RnM N rs str) (toM M (m + 22)) w (edg k w)) {l2 l3 l4 : Value}
    (hQ : ∀ M', FrZ (caZ m) M M' → ∀ v : Int64, (∀ t, tot rs k = some t → v = lN (cp t)) → Q none (sJ (sI M' m 53 (bI (tot rs k).isNone)) m 54 v)) : wp F_Md_countAll 156 [.ref m, .int (nI w.length), l2, l3, l4, jk, jk, jk, jk, jk] [] M Q := by
  obtain ⟨⟨hN1, hN2, hs0, h51⟩, -, -, hE⟩ := id hT
  have hA := hT.aut
  have hG : GrR k (toM M (m + 22)) (okM rs str) (RnM N rs str) := by have := hA.gr (by omega) hw; rwa [fkM_to] at this
  have hreach : ∀ t, RnM N rs str t → ∃ a, pth k (toM M (m + 22)) (RnM N rs str) 0 a t := fun t ht => by have := hA.reach (by omega) hw hac ht; rwa [fkM_to] at this
  have hin : ∀ t, RnM N rs str t → t ≠ 0 → ∃ u l, RnM N rs str u ∧ l < k ∧ toM M (m + 22) u l = t := fun t ht hne => by
    obtain ⟨a, ha⟩ := hreach t ht
    exact pth_last a 0 ha hne
  have hwy0 : ∀ a, wyG k (toM M (m + 22)) (okM rs str) a 0 = wy rs k a [] := fun a => by
    have := hA.wy (by omega) a 0 hN1
    rw [hs0, fkM_to] at this
    exact this
  have pin : ∀ a u t, pth k (toM M (m + 22)) (RnM N rs str) u a t → u ∈ w → t ∈ w := by
    intro a
    induction a with
    | zero => intro u t hp hu; rw [← hp.2]; exact hu
    | succ a ih =>
      intro u t hp hu
      obtain ⟨h1, l, h2, h3⟩ := hp
      have hr : RnM N rs str (toM M (m + 22) u l) := by
        cases a with
        | zero => exact h3.1
        | succ a => exact h3.1
      exact ih _ t h3 (hcl u l hu h2 hr.2)
  have memU : ∀ t, t ∈ w ↔ RnM N rs str t := fun t => ⟨hRw t, fun ht => by obtain ⟨a, ha⟩ := hreach t ht; exact pin a 0 t ha h0w⟩
  have hk8 := hw.2.1
  have hUl : w.length ≤ N := by
    have := nodup_le nd (m := List.range N) (fun t ht => List.mem_range.mpr (hRw t ht).1)
    rwa [List.length_range] at this
  have hCAP : CAP = 1000000000000001 := rfl
  have c8 : (8 : Int32) = nI 8 := rfl
  have l0 : (0 : Int64) = lN 0 := by decide
  have l1 : (1 : Int64) = lN 1 := by decide
  have fS : ∀ M', FrZ (caZ m) M M' → MdS M' m := fun M' F => hS.z F
  have nm : ¬ caZ m m := by unfold caZ; omega
  -- the end
  have fin : ∀ rem come val q U n tt M' (l7 l8 l9 : Value), KN k (toM M (m + 22)) (okM rs str) (RnM N rs str) rem come val q U q.length n k tt → FrZ (caZ m) M M' → wp F_Md_countAll 321 [.ref m, .int (nI w.length), .int (nI q.length), .ref (m + 23), .int (nI q.length), .long (lN (cp tt)), jk, l7, l8, l9] [] M' Q := by
    intro rem come val q U n tt M' l7 l8 l9 K ff
    have hqN : q.length ≤ N := by
      have := nodup_le K.1.1 (m := List.range N) (fun t ht => List.mem_range.mpr (K.1.2.1 t ht).1)
      rwa [List.length_range] at this
    have S' := fS M' ff
    have c1 := nI_leI (show w.length < 2 ^ 31 by omega) (show q.length < 2 ^ 31 by omega)
    simp only [B_Md_countAll_321, c1]
    by_cases hle : w.length ≤ q.length
    · have hall : ∀ t, RnM N rs str t → t ∈ q := fun t ht => by
        cases Classical.em (t ∈ q) with
        | inl y => exact y
        | inr y =>
          have h1 : (t :: q).Nodup := List.nodup_cons.mpr ⟨y, K.1.1⟩
          have := nodup_le h1 (m := w) (fun u hu => (memU u).mpr (by
            rcases List.mem_cons.mp hu with z | z
            · rw [z]; exact ht
            · exact K.1.2.1 u z))
          simp at this
          omega
      obtain ⟨f1, f2⟩ := K.fin hG hall
      rw [hwy0] at f1
      have ht := tot_some f1
      have h2 : tt = lenS rs k q.length := by
        rw [f2]
        unfold lenS
        exact sum_congr (fun a _ => hwy0 a)
      have := hQ M' ff (lN (cp tt)) (fun t e => by rw [ht] at e; cases e; rw [h2])
      rw [ht] at this
      simp only [hle, if_true, B_Md_countAll_331, B_Md_countAll_332, SS, S'.1, true_and, true_or]
      exact this
    · have hne : ∃ t, RnM N rs str t ∧ t ∉ q := by
        cases Classical.em (∃ t, RnM N rs str t ∧ t ∉ q) with
        | inl y => exact y
        | inr y =>
          exfalso
          apply hle
          refine nodup_le nd (fun u hu => ?_)
          cases Classical.em (u ∈ q) with
          | inl z => exact z
          | inr z => exact absurd ⟨u, hRw u hu, z⟩ y
      obtain ⟨t, ht, htq⟩ := hne
      have hend := K.endless hG hreach ht htq
      have htn := tot_none (rs := rs) (k := k) (fun a => by have := hend a; rw [hwy0] at this; exact this)
      have := hQ M' ff (lN (cp tt)) (fun t e => by rw [htn] at e; cases e)
      rw [htn] at this
      simp only [hle, if_false, B_Md_countAll_321, B_Md_countAll_332, SS, S'.1, true_and, or_true]
      exact this
  have inner : ∀ (d l : Nat) (rem : List (Nat × Nat)) (come val : Nat → Nat) (q U : List Nat) (h n tt : Nat) (M' : Mm) (l9 : Value), l + d = k → KN k (toM M (m + 22)) (okM rs str) (RnM N rs str) rem come val q U (h + 1) n l tt → rem.length ≤ 96008 → q.length ≤ N → RnM N rs str n → FrZ (caZ m) M M' → KnV M' (m + 26) (m + 23) (m + 28) N (RnM N rs str) come val q →
      (∀ (rem : List (Nat × Nat)) (come val : Nat → Nat) (q U : List Nat) (M' : Mm) (l8 l9 : Value), KN k (toM M (m + 22)) (okM rs str) (RnM N rs str) rem come val q U (h + 1) n k tt → rem.length ≤ 96008 → q.length ≤ N → FrZ (caZ m) M M' → KnV M' (m + 26) (m + 23) (m + 28) N (RnM N rs str) come val q → wp F_Md_countAll 318 [.ref m, .int (nI w.length), .int (nI (h + 1)), .ref (m + 23), .int (nI q.length), .long (lN (cp tt)), jk, .int (nI n), l8, l9] [] M' Q) →
      wp F_Md_countAll 224 [.ref m, .int (nI w.length), .int (nI (h + 1)), .ref (m + 23), .int (nI q.length), .long (lN (cp tt)), jk, .int (nI n), .int (nI l), l9] [] M' Q := by
    intro d
    induction d with
    | zero =>
      intro l rem come val q U h n tt M' l9 hl K hrem hqN hRn ff hv next
      have S' := fS M' ff
      have e1 : nI k ≤ nI l := nI_le (by omega) (by omega)
      have g11 : gI M' m 11 = nI k := ((ff.2.2.2.2 m nm).1 _).trans h11
      have hlk : l = k := by omega
      subst hlk
      simp only [B_Md_countAll_224, S'.1, g11, e1, if_true, true_and]
      exact next rem come val q U M' _ _ K hrem hqN ff hv
    | succ d ih =>
      intro l rem come val q U h n tt M' l9 hl K hrem hqN hRn ff hv next
      have S' := fS M' ff
      have hlk : l < k := by omega
      have e1 : ¬ nI k ≤ nI l := nI_ge (by omega) (by omega)
      have g11 : gI M' m 11 = nI k := ((ff.2.2.2.2 m nm).1 _).trans h11
      obtain ⟨t1, t2, t3⟩ := hT.to hRn.1 hlk
      have t2' : gI M' (m + 22) (8 * n + l) = nI (toM M (m + 22) n l) := ((ff.2.2.2.2 _ (by unfold caZ; omega)).1 _).trans t2
      have gE : gI M' (m + 25) (toM M (m + 22) n l) = bI (endAt rs (str (toM M (m + 22) n l))).isSome := ((ff.2.2.2.2 _ (by unfold caZ; omega)).1 _).trans (hE _ t1)
      have hnN := hRn.1
      have x2 : ixI M' (m + 22) (nI (8 * n + l)) := ixI_of S'.go.2 (by omega) (by omega)
      have x3 : ixB M' (m + 25) (nI (toM M (m + 22) n l)) := ixZ_of S'.isEnd.2 (by omega) (by omega)
      simp only [B_Md_countAll_224, SS, S'.1, S'.go.1, S'.isEnd.1, g11, e1, if_false, true_and, c8, pk_mul, nI_add, x2, cl_nI (show 8 * n + l < 2147483648 by omega), t2', x3, cl_nI (show toM M (m + 22) n l < 2147483648 by omega), gE]
      have hrl : (rem.erase (n, l)).length ≤ 96008 := Nat.le_trans (List.length_erase_le) hrem
      cases hb : (endAt rs (str (toM M (m + 22) n l))).isSome with
      | true =>
        have hok : okM rs str (toM M (m + 22) n l) = false := by unfold okM; rw [Option.isNone_eq_false_iff]; exact hb
        simp only [bI_t, i10, not_false_eq_true, ne_eq, if_true, if_false, B_Md_countAll_312, SS, nI_i1]
        rw [G_Md_countAll_315]
        exact ih (l + 1) _ come val q U h n tt M' _ (by omega) (K.skip hG hlk hok) hrl hqN hRn ff hv next
      | false =>
        have hok : okM rs str (toM M (m + 22) n l) = true := by
          unfold okM
          cases he : endAt rs (str (toM M (m + 22) n l)) with
          | none => rfl
          | some r => rw [he] at hb; cases hb
        obtain ⟨c1, c2, c3, c4, K2⟩ := K.edge hG hlk hok
        have hcb : come (toM M (m + 22) n l) ≤ 96008 := by
          have := K.2.2.2.1 _ c2
          rw [this]
          exact Nat.le_trans List.countP_le_length hrem
        generalize hto : toM M (m + 22) n l = t at *
        have i1 : ixJ M' (m + 28) (nI t) := ixJ_of S'.all.2 (by omega) (by omega)
        have i2 : ixJ M' (m + 28) (nI n) := ixJ_of S'.all.2 (by omega) (by omega)
        have i3 : ∀ v, ixI (sJ M' (m + 28) t v) (m + 26) (nI t) := fun v => ixI_of S'.come.2 (by omega) (by omega)
        have i4 : ∀ v, ixW (sJ M' (m + 28) t v) (m + 26) (nI t) := fun v => ixW_of S'.come.2 (by omega) (by omega)
        have i6 : ∀ v u, ixI (sI (sJ M' (m + 28) t v) (m + 26) t u) (m + 26) (nI t) := fun v u => ixI_of S'.come.2 (by omega) (by omega)
        have e5 : cl (nI t) = t := cl_nI (by omega)
        have e6 : cl (nI n) = n := cl_nI (by omega)
        have e8 : nI (come t) - 1 = nI (come t - 1) := by
          have := nI_pred (come t - 1)
          rw [show come t - 1 + 1 = come t by omega] at this
          exact this
        have e9 : (nI (come t - 1) = 0) = (come t = 1) := by
          rw [bN _ (by omega)]
          exact propext ⟨fun y => by omega, fun y => by omega⟩
        simp only [bI_f, not_true_eq_false, ne_eq, if_true, if_false, B_Md_countAll_224, SS, S'.1, S'.all.1, i1, i2, e5, e6, hv.2.1 t c2, hv.2.1 n hRn, true_and]
        rw [k_mSum (by have := cp_le (val t); have := cp_le (val n); omega)]
        have hcpv : cp (cp (val t) + cp (val n)) = cp (val t + val n) := by rw [cp_add, cp_add']
        have f1 : FrZ (caZ m) M' (sJ M' (m + 28) t (lN (cp (val t + val n)))) := FrZ.sJ (Or.inr (Or.inr (Or.inr rfl)))
        have f2 : FrZ (caZ m) M' (sI (sJ M' (m + 28) t (lN (cp (val t + val n)))) (m + 26) t (nI (come t - 1))) := f1.trans (FrZ.sI (Or.inr (Or.inr (Or.inl rfl))))
        simp only [SS, List.cons_append, List.nil_append, B_Md_countAll_224, B_Md_countAll_224_1, hcpv, i1, i3, i4, i6, S'.1, S'.all.1, S'.come.1, e5, hv.1 t c2, e8, and_self, if_true, e9, true_and]
        have hv2 : KnV (sI (sJ M' (m + 28) t (lN (cp (val t + val n)))) (m + 26) t (nI (come t - 1))) (m + 26) (m + 23) (m + 28) N (RnM N rs str) (upd1 come t (come t - 1)) (upd1 val t (val t + val n)) q := by
          refine ⟨fun u hu => ?_, fun u hu => ?_, fun j hj => ?_⟩
          · rw [gI_sI, gI_sJ]
            unfold upd1
            by_cases y : u = t
            · rw [if_pos ⟨rfl, y⟩, if_pos y]
            · rw [if_neg (fun z => y z.2), if_neg y]; exact hv.1 u hu
          · rw [gJ_sI, gJ_sJ]
            unfold upd1
            by_cases y : u = t
            · rw [if_pos ⟨rfl, y⟩, if_pos y]
            · rw [if_neg (fun z => y z.2), if_neg y]; exact hv.2.1 u hu
          · rw [gI_sI, if_neg (by omega), gI_sJ]; exact hv.2.2 j hj
        by_cases hc1 : come t = 1
        · rw [if_pos hc1] at K2
          have hqN2 : (q ++ [t]).length ≤ N := by
            have := nodup_le K2.1.1 (m := List.range N) (fun u hu => List.mem_range.mpr (K2.1.2.1 u hu).1)
            rwa [List.length_range] at this
          have hln : (q ++ [t]).length = q.length + 1 := by simp
          have i5 : ∀ v u, ixW (sI (sJ M' (m + 28) t v) (m + 26) t u) (m + 23) (nI q.length) := fun v u => ixW_of S'.back.2 (by omega) (by omega)
          have e10 : cl (nI q.length) = q.length := cl_nI (by omega)
          simp only [hc1, not_true_eq_false, ne_eq, if_true, if_false, B_Md_countAll_224_1, B_Md_countAll_312, SS, S'.1, i5, nI_i1, e10, true_and]
          rw [G_Md_countAll_315, ← hln]
          rw [hc1] at hv2 f2 K2
          have hv3 : KnV (sI (sI (sJ M' (m + 28) t (lN (cp (val t + val n)))) (m + 26) t (nI (1 - 1))) (m + 23) q.length (nI t)) (m + 26) (m + 23) (m + 28) N (RnM N rs str) (upd1 come t (1 - 1)) (upd1 val t (val t + val n)) (q ++ [t]) := by
            refine ⟨fun u hu => ?_, fun u hu => ?_, fun j hj => ?_⟩
            · rw [gI_sI, if_neg (by omega)]; exact hv2.1 u hu
            · rw [gJ_sI]; exact hv2.2.1 u hu
            · rw [gI_sI, getD_app (by omega)]
              by_cases y : j < q.length
              · rw [if_pos y, if_neg (fun z => by omega)]; exact hv2.2.2 j y
              · rw [if_neg y, if_pos ⟨rfl, by omega⟩]
          exact ih (l + 1) _ _ _ (q ++ [t]) U h n tt _ _ (by omega) K2 hrl hqN2 hRn (ff.trans (f2.trans (FrZ.sI (Or.inl rfl)))) hv3 next
        · rw [if_neg hc1] at K2
          simp only [hc1, not_false_eq_true, ne_eq, if_true, if_false, B_Md_countAll_312, SS, nI_i1]
          rw [G_Md_countAll_315]
          exact ih (l + 1) _ _ _ q U h n tt _ _ (by omega) K2 hrl hqN hRn (ff.trans f2) hv2 next
  have outer : ∀ (d h : Nat) (rem : List (Nat × Nat)) (come val : Nat → Nat) (q U : List Nat) (n tt : Nat) (M' : Mm) (l7 l8 l9 : Value), h + d = N → KN k (toM M (m + 22)) (okM rs str) (RnM N rs str) rem come val q U h n k tt → rem.length ≤ 96008 → q.length ≤ N → FrZ (caZ m) M M' → KnV M' (m + 26) (m + 23) (m + 28) N (RnM N rs str) come val q → wp F_Md_countAll 193 [.ref m, .int (nI w.length), .int (nI h), .ref (m + 23), .int (nI q.length), .long (lN (cp tt)), jk, l7, l8, l9] [] M' Q := by
    intro d
    have stop : ∀ (h : Nat) (rem : List (Nat × Nat)) (come val : Nat → Nat) (q U : List Nat) (n tt : Nat) (M' : Mm) (l7 l8 l9 : Value), ¬ h < q.length → KN k (toM M (m + 22)) (okM rs str) (RnM N rs str) rem come val q U h n k tt → q.length ≤ N → FrZ (caZ m) M M' → wp F_Md_countAll 193 [.ref m, .int (nI w.length), .int (nI h), .ref (m + 23), .int (nI q.length), .long (lN (cp tt)), jk, l7, l8, l9] [] M' Q := by
      intro h rem come val q U n tt M' l7 l8 l9 hq K hqN ff
      have hhq : h = q.length := by have := K.1.2.2.1; omega
      have e2 : nI q.length ≤ nI h := nI_le (by omega) (by omega)
      rw [hhq] at K
      simp only [B_Md_countAll_193, e2, if_true]
      rw [hhq]
      exact fin rem come val q U n tt M' _ _ _ K ff
    induction d with
    | zero =>
      intro h rem come val q U n tt M' l7 l8 l9 hh K hrem hqN ff hv
      exact stop h rem come val q U n tt M' _ _ _ (by omega) K hqN ff
    | succ d ih =>
      intro h rem come val q U n tt M' l7 l8 l9 hh K hrem hqN ff hv
      by_cases hq : h < q.length
      case neg => exact stop h rem come val q U n tt M' _ _ _ hq K hqN ff
      have S' := fS M' ff
      have e2 : ¬ nI q.length ≤ nI h := nI_ge (by omega) (by omega)
      obtain ⟨u, hu⟩ : ∃ u, q[h]? = some u := ⟨q[h], List.getElem?_eq_getElem hq⟩
      obtain ⟨K2, hRu⟩ := K.next hu
      have huN := hRu.1
      have i1 : ixI M' (m + 23) (nI h) := ixI_of S'.back.2 (by omega) (by omega)
      have e3 : cl (nI h) = h := cl_nI (by omega)
      have e4 : gI M' (m + 23) h = nI u := by rw [hv.2.2 h hq, getD_of hu]
      have i2 : ixJ M' (m + 28) (nI u) := ixJ_of S'.all.2 (by omega) (by omega)
      have e5 : cl (nI u) = u := cl_nI (by omega)
      simp only [B_Md_countAll_193, SS, S'.1, S'.all.1, e2, if_false, i1, e3, e4, i2, e5, hv.2.1 u hRu, true_and, nI_i1]
      rw [k_mSum (by have := cp_le tt; have := cp_le (val u); omega)]
      have hcpv : cp (cp tt + cp (val u)) = cp (tt + val u) := by rw [cp_add, cp_add']
      simp only [SS, List.cons_append, List.nil_append, B_Md_countAll_193, hcpv, ← nI_0]
      refine inner k 0 rem come val q (U.erase u) h u (tt + val u) M' _ (by omega) K2 hrem hqN hRu ff hv ?_
      intro rem2 come2 val2 q2 U2 M2 l8' l9' K3 hrem2 hqN2 ff2 hv2
      rw [G_Md_countAll_318]
      exact ih (h + 1) rem2 come2 val2 q2 U2 u (tt + val u) M2 _ _ _ (by omega) K3 hrem2 hqN2 ff2 hv2
  have hedl : (edg k w).length ≤ 96008 := by
    rw [edg_len]
    have : w.length * k ≤ 12001 * 8 := Nat.mul_le_mul (by omega) hk8
    omega
  have K0 := KN.start hG (U := w) ⟨nd, memU⟩ (come := fun t => (edg k w).countP (fun e => toM M (m + 22) e.1 e.2 == t)) hin (fun t ht => rfl) 0
  have c0b : (edg k w).countP (fun e => toM M (m + 22) e.1 e.2 == 0) ≤ 96008 := Nat.le_trans List.countP_le_length hedl
  have c00 : cl 0 = 0 := rfl
  have z0 : (0 : Int32) = nI 0 := rfl
  have hR0 : RnM N rs str 0 := hRw 0 h0w
  have i0 : ixJ M (m + 28) 0 := by
    have := ixJ_of (M := M) (j := 0) hS.all.2 (by omega) (by omega)
    rw [nI_0] at this; exact this
  have i1 : ixI (sJ M (m + 28) 0 1) (m + 26) 0 := by
    have := ixI_of (M := sJ M (m + 28) 0 1) (j := 0) hS.come.2 (by omega) (by omega)
    rw [nI_0] at this; exact this
  have F1 : FrZ (caZ m) M (sJ M (m + 28) 0 1) := FrZ.sJ (Or.inr (Or.inr (Or.inr rfl)))
  have S1 := fS _ F1
  have e0 := bN ((edg k w).countP (fun e => toM M (m + 22) e.1 e.2 == 0)) (by omega)
  have v1 : ∀ t, RnM N rs str t → gJ (sJ M (m + 28) 0 1) (m + 28) t = lN (cp (upd1 (fun _ => 0) 0 1 t)) := by
    intro t ht
    rw [gJ_sJ]
    unfold upd1
    by_cases y : t = 0
    · rw [if_pos ⟨rfl, y⟩, if_pos y]; decide
    · rw [if_neg (fun z => y z.2), if_neg y, hV.2.1 t ht.1, if_pos ((memU t).mpr ht)]
      show (0 : Int64) = lN (cp 0)
      decide
  simp only [B_Md_countAll_156, SS, hS.1, hS.all.1, hS.back.1, hS.come.1, i0, i1, c00, hV.2.2 0 hR0, e0, true_and]
  by_cases hz : (edg k w).countP (fun e => toM M (m + 22) e.1 e.2 == 0) = 0
  · rw [if_pos hz] at K0
    have i3 : ixW (sJ M (m + 28) 0 1) (m + 23) 0 := by
      have := ixW_of (M := sJ M (m + 28) 0 1) (j := 0) hS.back.2 (by omega) (by omega)
      rw [nI_0] at this; exact this
    simp only [hz, not_true_eq_false, ne_eq, if_true, if_false, B_Md_countAll_156, B_Md_countAll_190, SS, i3, c00, true_and]
    have k1 : (0 : Int32) + 1 = nI ([0] : List Nat).length := rfl
    have ff2 : FrZ (caZ m) M (sI (sJ M (m + 28) 0 1) (m + 23) 0 0) := F1.trans (FrZ.sI (Or.inl rfl))
    have hv0 : KnV (sI (sJ M (m + 28) 0 1) (m + 23) 0 0) (m + 26) (m + 23) (m + 28) N (RnM N rs str) (fun t => (edg k w).countP (fun e => toM M (m + 22) e.1 e.2 == t)) (upd1 (fun _ => 0) 0 1) [0] := by
      refine ⟨fun t ht => ?_, fun t ht => ?_, fun j hj => ?_⟩
      · rw [gI_sI, if_neg (by omega), gI_sJ]; exact hV.2.2 t ht
      · rw [gJ_sI]; exact v1 t ht
      · have : j = 0 := by simpa using hj
        subst this
        rw [gI_sI, if_pos ⟨rfl, rfl⟩]; rfl
    have := outer N 0 _ _ _ [0] _ 0 0 _ jk jk jk (by omega) K0 hedl (by simp; omega) ff2 hv0
    exact this
  · rw [if_neg hz] at K0
    simp only [hz, not_false_eq_true, ne_eq, if_true, if_false, B_Md_countAll_190, SS]
    have hv0 : KnV (sJ M (m + 28) 0 1) (m + 26) (m + 23) (m + 28) N (RnM N rs str) (fun t => (edg k w).countP (fun e => toM M (m + 22) e.1 e.2 == t)) (upd1 (fun _ => 0) 0 1) [] := ⟨fun t ht => by rw [gI_sJ]; exact hV.2.2 t ht, v1, fun j hj => by simp at hj⟩
    have := outer N 0 _ _ _ [] _ 0 0 _ jk jk jk (by omega) K0 hedl (by simp) F1 hv0
    exact this
end MC
