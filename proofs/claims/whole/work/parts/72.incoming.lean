/-! the sum of all: no LEFT stands in another, so each node that goes on is come to -/
def AC (rs : List Ru) : Prop := ∀ i j, i < rs.length → j < rs.length → i ≠ j → (rs.getD i dR).2.2 = true → (rs.getD j dR).2.2 = true → hol (rs.getD i dR).1 (rs.getD j dR).1 = false
theorem hol_infix {a b : List Nat} (h : b <:+: a) : hol a b = true := by
  obtain ⟨u, v, rfl⟩ := h
  unfold hol
  rw [List.any_eq_true]
  refine ⟨u.length, List.mem_range.mpr (by simp; omega), ?_⟩
  unfold mat
  simp
theorem AC.pre {rs : List Ru} (hac : AC rs) {s p : List Nat} (hs : pf rs s = true) (he : endAt rs s = none) (hp : p <+: s) : endAt rs p = none := by
  cases hep : endAt rs p with
  | none => rfl
  | some i =>
    exfalso
    obtain ⟨h1, h2, h3⟩ := endAt_some hep
    have hne : p ≠ s := fun q => by rw [q, he] at hep; cases hep
    have hsn : s ≠ [] := fun q => by subst q; exact hne (List.prefix_nil.mp hp)
    obtain ⟨u, hu, hl, hpu⟩ := (pf_iff hsn).mp hs
    obtain ⟨j, hj, rfl⟩ := List.mem_iff_getElem.mp hu
    have hgj : rs.getD j dR = rs[j] := by rw [List.getD_eq_getElem?_getD, List.getElem?_eq_getElem hj]; rfl
    have hlt : p.length < s.length := by
      rcases Nat.lt_or_ge p.length s.length with q | q
      · exact q
      · exact absurd (hp.eq_of_length (Nat.le_antisymm hp.length_le q)) hne
    have hin : (rs.getD i dR).1 <:+: rs[j].1 := by
      have h4 : p <+: rs[j].1 := hp.trans hpu
      exact (h3.isInfix).trans h4.isInfix
    by_cases hij : i = j
    · subst hij
      have := h3.length_le
      have := hpu.length_le
      rw [hgj] at *
      omega
    · have := hac j i hj h1 (fun q => hij q.symm) (by rw [hgj]; exact hl) h2
      rw [hgj, hol_infix hin] at this
      cases this
def RnM (N : Nat) (rs : List Ru) (str : Nat → List Nat) (n : Nat) : Prop := n < N ∧ okM rs str n = true
theorem okM_iff {rs : List Ru} {str : Nat → List Nat} {n : Nat} : okM rs str n = true ↔ endAt rs (str n) = none := by unfold okM; cases endAt rs (str n) <;> simp
theorem AutN.gr {M : Mm} {mc A D cap : Nat} {rs : List Ru} {k N : Nat} {str : Nat → List Nat} (h : AutN M mc A D cap rs k N str) (hc : cap ≤ 12001) (hw : RWf rs k) : GrR k (toM M A) (okM rs str) (RnM N rs str) := by
  refine ⟨⟨h.2.2.2.1, okM_iff.mpr ?_⟩, fun n hn => hn.2, fun n l hn hl ho => ⟨(h.to hc hn.1 hl).1, ho⟩⟩
  rw [h.2.2.2.2.1]
  exact endAt_nil (fun u hu _ => (hw.1 u hu).1)
theorem AutN.reach {M : Mm} {mc A D cap : Nat} {rs : List Ru} {k N : Nat} {str : Nat → List Nat} (h : AutN M mc A D cap rs k N str) (hc : cap ≤ 12001) (hw : RWf rs k) (hac : AC rs) {t : Nat} (ht : RnM N rs str t) : ∃ a, pth k (toM M A) (RnM N rs str) 0 a t := by
  have hG := h.gr hc hw
  have hpt := h.2.2.2.2.2.1 t ht.1
  have het := okM_iff.mp ht.2
  have main : ∀ m, m ≤ (str t).length → ∃ n, RnM N rs str n ∧ str n = (str t).take m ∧ pth k (toM M A) (RnM N rs str) 0 m n := by
    intro m
    induction m with
    | zero => intro _; exact ⟨0, hG.1, by rw [h.2.2.2.2.1, List.take_zero], hG.1, rfl⟩
    | succ m ih =>
      intro hm
      obtain ⟨n, h1, h2, h3⟩ := ih (by omega)
      have hml : m < (str t).length := by omega
      have hsp : (str t).take (m + 1) = (str t).take m ++ [(str t).getD m 0] := take_succ_getD 0 hml
      have hck : (str t).getD m 0 < k := pf_lt hw hpt _ (by rw [List.getD_eq_getElem?_getD, List.getElem?_eq_getElem hml]; exact List.getElem_mem hml)
      obtain ⟨t1, -, t3⟩ := h.to hc h1.1 hck
      have hpf : pf rs ((str t).take (m + 1)) = true := pf_pre (t := (str t).drop (m + 1)) (by rw [List.take_append_drop]; exact hpt)
      have hst : str (toM M A n ((str t).getD m 0)) = (str t).take (m + 1) := by rw [t3, h2, ← hsp, lsuf_self hpf]
      have hok : RnM N rs str (toM M A n ((str t).getD m 0)) := ⟨t1, okM_iff.mpr (by rw [hst]; exact hac.pre hpt het (List.take_prefix _ _))⟩
      refine ⟨_, hok, hst, pth_app (u := 0) m 0 h3 ⟨h1, _, hck, hok, rfl⟩⟩
  obtain ⟨n, h1, h2, h3⟩ := main (str t).length (Nat.le_refl _)
  rw [List.take_length] at h2
  have : n = t := h.2.2.2.2.2.2.2.1 n t h1.1 ht.1 h2
  subst this
  exact ⟨_, h3⟩
theorem pth_last {k : Nat} {to : Nat → Nat → Nat} {R : Nat → Prop} {t : Nat} : ∀ (a u : Nat), pth k to R u a t → t ≠ u → ∃ m l, R m ∧ l < k ∧ to m l = t := by
  intro a
  induction a with
  | zero => intro u h hne; exact absurd h.2.symm hne
  | succ a ih =>
    intro u ⟨h1, l, h2, h3⟩ hne
    by_cases e : t = to u l
    · exact ⟨u, l, h1, h2, e.symm⟩
    · exact ih _ h3 e
/-- numbers were written to the cells S alone, nothing else -/
def FrZ (S : Nat → Prop) (M M' : Mm) : Prop := nxt M' = nxt M ∧ slo M' = slo M ∧ (∀ b, sh M' b = sh M b) ∧ (∀ b j, gR M' b j = gR M b j) ∧ ∀ b, ¬ S b → (∀ j, gI M' b j = gI M b j) ∧ ∀ j, gJ M' b j = gJ M b j
theorem FrZ.rfl {S : Nat → Prop} {M : Mm} : FrZ S M M := ⟨Eq.refl _, Eq.refl _, fun _ => Eq.refl _, fun _ _ => Eq.refl _, fun _ _ => ⟨fun _ => Eq.refl _, fun _ => Eq.refl _⟩⟩
theorem FrZ.trans {S : Nat → Prop} {M M1 M2 : Mm} (h : FrZ S M M1) (h2 : FrZ S M1 M2) : FrZ S M M2 := ⟨h2.1.trans h.1, h2.2.1.trans h.2.1, fun b => (h2.2.2.1 b).trans (h.2.2.1 b), fun b j => (h2.2.2.2.1 b j).trans (h.2.2.2.1 b j), fun b hb => ⟨fun j => ((h2.2.2.2.2 b hb).1 j).trans ((h.2.2.2.2 b hb).1 j), fun j => ((h2.2.2.2.2 b hb).2 j).trans ((h.2.2.2.2 b hb).2 j)⟩⟩
theorem FrZ.sI {S : Nat → Prop} {M : Mm} {a j : Nat} {v : Int32} (h : S a) : FrZ S M (sI M a j v) := ⟨Eq.refl _, Eq.refl _, fun _ => Eq.refl _, fun _ _ => Eq.refl _, fun b hb => ⟨fun i => by
  have hq : ¬ (b = a ∧ i = j) := fun q => hb (q.1 ▸ h)
  rw [gI_sI, if_neg hq], fun _ => Eq.refl _⟩⟩
theorem FrZ.sJ {S : Nat → Prop} {M : Mm} {a j : Nat} {v : Int64} (h : S a) : FrZ S M (sJ M a j v) := ⟨Eq.refl _, Eq.refl _, fun _ => Eq.refl _, fun _ _ => Eq.refl _, fun b hb => ⟨fun _ => Eq.refl _, fun i => by
  have hq : ¬ (b = a ∧ i = j) := fun q => hb (q.1 ▸ h)
  rw [gJ_sJ, if_neg hq]⟩⟩
theorem FrZ.x {S : Nat → Prop} {M M' : Mm} (h : FrZ S M M') : FrX S (fun _ => False) M M' := ⟨Nat.le_of_eq h.1.symm, Nat.le_of_eq h.2.1.symm, fun b _ => h.2.2.1 b, fun b _ hb => h.2.2.2.2 b hb, fun b _ _ k => h.2.2.2.1 b k⟩
theorem ElS.frZ {M M1 : Mm} {S : Nat → Prop} {x W I Qa P wl ql : Nat} (h : ElS M x W I Qa P wl ql) (hf : FrZ S M M1) : ElS M1 x W I Qa P wl ql := by
  obtain ⟨a1, ⟨b1, b2, b3, b4, b5, b6⟩, ⟨c1, c2, c3, c4⟩, d, e, f, g⟩ := h
  obtain ⟨f1, f2, f3, f4, f5⟩ := hf
  exact ⟨(f3 _).trans a1, ⟨(f4 _ _).trans b1, (f4 _ _).trans b2, (f4 _ _).trans b3, (f4 _ _).trans b4, (f4 _ _).trans b5, (f4 _ _).trans b6⟩, ⟨(f3 _).trans c1, (f3 _).trans c2, (f3 _).trans c3, (f3 _).trans c4⟩, d, by rw [f1]; exact e, fun j h1 hj => by rw [f4]; exact f j h1 hj, g⟩
abbrev qZ (I Qa P b : Nat) : Prop := b = I ∨ b = Qa ∨ b = P
/-- the machine through the Elements' rows -/
def Mch (M : Mm) (x A B C D cap : Nat) (rs : List Ru) (k N : Nat) (str : Nat → List Nat) : Prop := MCS M (x + 1013) A B C D cap ∧ AutN M (x + 1013) A D cap rs k N str
theorem Mch.frZ {M M1 : Mm} {x A B C D cap k N W I Qa P wl ql : Nat} {rs : List Ru} {str : Nat → List Nat} (h : Mch M x A B C D cap rs k N str) (hE : ElS M x W I Qa P wl ql) (hf : FrZ (qZ I Qa P) M M1) : Mch M1 x A B C D cap rs k N str ∧ ∀ j, gI M1 A j = gI M A j := by
  obtain ⟨h1, h2⟩ := h
  have n1 : ¬ qZ I Qa P (x + 1013) := fun q => by
    rcases q with q | q | q
    · have := hE.2.2.1.2.1; rw [← q, h1.1] at this; cases this
    · have := hE.2.2.1.2.2.1; rw [← q, h1.1] at this; cases this
    · have := hE.2.2.1.2.2.2; rw [← q, h1.1] at this; cases this
  have n2 : ¬ qZ I Qa P A := fun q => by
    rcases q with q | q | q
    · exact (hE.2.2.2.2.2.1 1 (by omega) (by omega)).1 (q ▸ h1.2.1.1)
    · exact (hE.2.2.2.2.2.1 1 (by omega) (by omega)).2 (q ▸ h1.2.1.1)
    · have := hE.2.2.1.2.2.2; rw [← q, h1.2.2.2.1.1] at this; cases this
  have n3 : ¬ qZ I Qa P D := fun q => by
    rcases q with q | q | q
    · exact (hE.2.2.2.2.2.1 4 (by omega) (by omega)).1 (q ▸ h1.2.1.2.2.2)
    · exact (hE.2.2.2.2.2.1 4 (by omega) (by omega)).2 (q ▸ h1.2.1.2.2.2)
    · have := hE.2.2.1.2.2.2; rw [← q, h1.2.2.2.1.2.2.2] at this; cases this
  exact ⟨⟨h1.frx hf.x ((hf.2.2.2.2 _ n1).1 0) (fun q => q), h2.frx hf.x h1.2.2.2.2.2.2.2.1 h1.2.2.2.2.2.2.2.2.1 h1.2.2.2.2.2.2.2.2.2.2.2 n1 n2 n3⟩, (hf.2.2.2.2 _ n2).1⟩
def edg (k : Nat) (U : List Nat) : List (Nat × Nat) := U.flatMap (fun m => (List.range k).map (fun l => (m, l)))
def okU (rs : List Ru) (str : Nat → List Nat) (n : Nat) : List Nat := (List.range n).filter (okM rs str)
theorem okU_succ {rs : List Ru} {str : Nat → List Nat} (n : Nat) : okU rs str (n + 1) = okU rs str n ++ (if okM rs str n = true then [n] else []) := by
  unfold okU
  rw [List.range_succ, List.filter_append]
  simp [List.filter_cons]
theorem edg_app {k : Nat} (U V : List Nat) : edg k (U ++ V) = edg k U ++ edg k V := by unfold edg; rw [List.flatMap_append]
theorem k_countIncoming {M : Mm} {x A B C D cap k N W I Qa P wl ql : Nat} {rs : List Ru} {str : Nat → List Nat} {Q : Option Value → Mm → Prop} (hE : ElS M x W I Qa P wl ql) (hM : Mch M x A B C D cap rs k N str) (hw : RWf rs k) (hN : N ≤ ql) (h0 : ∀ t, t < N → gI M I t = 0)
    (hQ : ∀ M', FrZ (qZ I Qa P) M M' → (∀ b, b ≠ I → ∀ j, gI M' b j = gI M b j) → (∀ b j, gJ M' b j = gJ M b j) → (∀ t, t < N → gI M' I t = nI ((edg k (okU rs str N)).countP (fun e => toM M A e.1 e.2 == t))) → Q (some (.int (nI (okU rs str N).length))) M') : wp F_Elements_countIncoming 0 [.ref (x + 1034), jk, jk, jk] [] M Q := by
  have hcap := hM.1.2.2.2.2.2.2.1
  have hNc := hM.2.1
  have hk8 := hw.2.1
  have hrs := hw.2.2
  have hql := hE.2.2.2.2.2.2.2.2
  have z0 : (0 : Int32) = nI 0 := rfl
  have outer : ∀ d n M' l3, n + d = N → FrZ (qZ I Qa P) M M' → (∀ b, b ≠ I → ∀ j, gI M' b j = gI M b j) → (∀ b j, gJ M' b j = gJ M b j) → (∀ t, t < N → gI M' I t = nI ((edg k (okU rs str n)).countP (fun e => toM M A e.1 e.2 == t))) → wp F_Elements_countIncoming 4 [.ref (x + 1034), .int (nI (okU rs str n).length), .int (nI n), l3] [] M' Q := by
    intro d
    induction d with
    | zero =>
      intro n M' l3 hn ff gi gj hc
      obtain ⟨hM', gA⟩ := hM.frZ hE ff
      have hE' := hE.frZ ff
      have e1 : nI N ≤ nI n := nI_le (by omega) (by omega)
      simp only [B_Elements_countIncoming_4, B_Elements_countIncoming_75, SS, hE'.1, hE'.2.1.2.1, hM'.1.1, hM'.2.2.1, e1, if_true, true_and]
      rw [show n = N by omega] at hc ⊢
      exact hQ M' ff gi gj hc
    | succ d ih =>
      intro n M' l3 hn ff gi gj hc
      obtain ⟨hM', gA⟩ := hM.frZ hE ff
      have hE' := hE.frZ ff
      have hnN : n < N := by omega
      have e1 : ¬ nI N ≤ nI n := nI_ge (by omega) (by omega)
      have hbe : ∀ i, endAt rs (str n) = some i → i < 2147483648 := fun i hi => by have := (endAt_some hi).1; omega
      simp only [B_Elements_countIncoming_4, SS, hE'.1, hE'.2.1.2.1, hM'.1.1, hM'.2.2.1, e1, if_false, true_and]
      rw [k_isReducible hM'.1 (show n < cap by omega) (hM'.2.2.2.2.2.2.2.2.2.2 n hnN) hbe]
      simp only [SS, List.cons_append, List.nil_append, B_Elements_countIncoming_4, bI_ne]
      cases hb : (endAt rs (str n)).isSome with
      | true =>
        have hok : okM rs str n = false := by unfold okM; rw [Option.isNone_eq_false_iff]; exact hb
        simp only [Bool.true_eq_false, if_false, B_Elements_countIncoming_69, SS, nI_i1]
        rw [G_Elements_countIncoming_72]
        have := ih (n + 1) M' l3 (by omega) ff gi gj
        rw [okU_succ, hok] at this
        simp only [Bool.false_eq_true, if_false, List.append_nil] at this
        exact this hc
      | false =>
        have hok : okM rs str n = true := by
          unfold okM
          cases he : endAt rs (str n) with
          | none => rfl
          | some r => rw [he] at hb; cases hb
        have hU : okU rs str (n + 1) = okU rs str n ++ [n] := by rw [okU_succ, if_pos hok]
        simp only [if_true, B_Elements_countIncoming_29, SS, nI_i1]
        rw [z0]
        have inner : ∀ d2 c M2, c + d2 = k → FrZ (qZ I Qa P) M M2 → (∀ b, b ≠ I → ∀ j, gI M2 b j = gI M b j) → (∀ b j, gJ M2 b j = gJ M b j) → (∀ t, t < N → gI M2 I t = nI ((edg k (okU rs str n) ++ (List.range c).map (fun l => (n, l))).countP (fun e => toM M A e.1 e.2 == t))) → wp F_Elements_countIncoming 34 [.ref (x + 1034), .int (nI ((okU rs str n).length + 1)), .int (nI n), .int (nI c)] [] M2 Q := by
          intro d2
          induction d2 with
          | zero =>
            intro c M2 hc2 f2 gi2 gj2 hcc
            obtain ⟨hM2, gA2⟩ := hM.frZ hE f2
            have hE2 := hE.frZ f2
            have e4 : nI k ≤ nI c := nI_le (by omega) (by omega)
            simp only [B_Elements_countIncoming_34, B_Elements_countIncoming_69, SS, hE2.1, hE2.2.1.2.1, hM2.1.1, hM2.2.2.2.1, e4, if_true, nI_i1, true_and]
            rw [G_Elements_countIncoming_72]
            have := ih (n + 1) M2 (.int (nI c)) (by omega) f2 gi2 gj2
            rw [hU, edg_app, List.length_append] at this
            refine this (fun t ht => ?_)
            rw [hcc t ht, show c = k by omega]
            unfold edg
            simp
          | succ d2 ih2 =>
            intro c M2 hc2 f2 gi2 gj2 hcc
            obtain ⟨hM2, gA2⟩ := hM.frZ hE f2
            have hE2 := hE.frZ f2
            have e4 : ¬ nI k ≤ nI c := nI_ge (by omega) (by omega)
            obtain ⟨t1, t2, t3⟩ := hM.2.to hcap hnN (show c < k by omega)
            simp only [B_Elements_countIncoming_34, SS, hE2.1, hE2.2.1.2.1, hE2.2.1.2.2.2.1, hM2.1.1, hM2.2.2.2.1, e4, if_false, true_and]
            rw [k_after hM2.1 (by omega), gA2, t2]
            generalize hto : toM M A n c = to at *
            have i1 : ixI M2 I (nI to) := ixI_of hE2.2.2.1.2.1 (by omega) (by omega)
            have i2 : ixW M2 I (nI to) := ixW_of hE2.2.2.1.2.1 (by omega) (by omega)
            have e5 : cl (nI to) = to := cl_nI (by omega)
            simp only [SS, List.cons_append, List.nil_append, B_Elements_countIncoming_34, i1, i2, e5, hcc to t1, nI_i1, true_and]
            rw [G_Elements_countIncoming_66]
            refine ih2 (c + 1) _ (by omega) (f2.trans (FrZ.sI (Or.inl rfl))) (fun b hb j => ?_) (fun b j => ?_) (fun t ht => ?_)
            · rw [gI_sI, if_neg (fun q => hb q.1)]; exact gi2 b hb j
            · rw [gJ_sI]; exact gj2 b j
            · rw [gI_sI, List.range_succ, List.map_append, ← List.append_assoc, List.countP_append]
              by_cases q : t = to
              · rw [if_pos ⟨rfl, q⟩, q]
                congr 1
                simp [hto]
                omega
              · rw [if_neg (fun z => q z.2), hcc t ht]
                congr 1
                have : ¬ toM M A n c = t := fun z => q (by rw [← z, hto])
                simp [this]
        refine inner k 0 M' (by omega) ff gi gj (fun t ht => ?_)
        rw [hc t ht]
        simp
  simp only [B_Elements_countIncoming_0, SS]
  rw [z0]
  refine outer N 0 M _ (by omega) FrZ.rfl (fun _ _ _ => rfl) (fun _ _ => rfl) (fun t ht => ?_)
  rw [h0 t ht]
  rfl
