theorem eA_yS {x a : Nat} (h : eA x a) : yS x a := by
  rcases h with h | h
  · exact Or.inr (Or.inr (Or.inl ⟨by omega, by omega⟩))
  · exact Or.inr (Or.inr (Or.inr h))
theorem k_renewC {M : Mm} {x k f W I Qa P wl ql : Nat} {rs : List Ru} {Q : Option Value → Mm → Prop} (h : Cmp M x rs k f []) (eS0 : ElS M x W I Qa P wl ql)
    (hQ : ∀ M1 A B C D cap N str, Cmp M1 x rs k f [] → ElS M1 x W I Qa P wl ql → gI M1 (x + 9) 3 = 0 → (gI M (x + 9) 3 = 0 → M1 = M) → Efr M M1 x → (∀ j, gI M1 (x + 1034) j = gI M (x + 1034) j) → (∀ j, gJ M1 (x + 1034) j = gJ M (x + 1034) j) → (∀ j, gJ M1 W j = gJ M W j) → Mch M1 x A B C D cap rs k N str → Q none M1) : wp F_Machine_renew 0 [.ref (x + 1013), .ref (x + 9), jk] [] M Q := by
  obtain ⟨hlo, hwf, hRU, hRV⟩ := h.1.lo
  refine k_renewE h.1 ?_
  intro M1 T z0 same unch
  obtain ⟨t1, t2, t3, t4, t5⟩ := T
  have eS1 := eS0.frx t2 (by omega) (by omega) t4
  have nx1 := t2.1
  have kept : ∀ b, (b = x + 1034 ∨ (b < nxt M ∧ ∃ q, sh M b = some (.inr (1, q)))) → (∀ j, gI M1 b j = gI M b j) ∧ ∀ j, gJ M1 b j = gJ M b j := fun b hb => by
    have hne : ¬ (b = x + 9 ∨ b = x + 1013 ∨ (mA (x + 1013) (x + 1094) b ∧ ∃ n, sh M b = some (.inr (0, n))) ∨ nxt M ≤ b) := by
      intro q
      rcases hb with rfl | ⟨hb1, q1, hq1⟩
      · rcases q with q | q | ⟨-, n, q⟩ | q
        · omega
        · omega
        · rw [eS0.1] at q; cases q
        · omega
      · rcases q with q | q | ⟨-, n, q⟩ | q
        · rw [q, hRU.1] at hq1; cases hq1
        · rw [q, h.1.mcS] at hq1; cases hq1
        · rw [hq1] at q; cases q
        · omega
    rcases unch b with q | q | q | q | q
    · exact absurd (Or.inl q) hne
    · exact absurd (Or.inr (Or.inl q)) hne
    · exact absurd (Or.inr (Or.inr (Or.inl q))) hne
    · exact absurd (Or.inr (Or.inr (Or.inr q))) hne
    · exact q
  have k34 := kept (x + 1034) (Or.inl rfl)
  have kW := kept W (Or.inr ⟨eS0.2.2.2.2.1.1.2, _, eS0.2.2.1.1⟩)
  have f1 : FrX (yS x) (yT x) M M1 := ⟨t2.1, t2.2.1, t2.2.2.1, fun b hb hs => by
    rcases unch b with q | q | q | q | q
    · exact absurd (Or.inl q) hs
    · exact absurd (Or.inr (Or.inl ⟨by omega, by omega⟩)) hs
    · rcases q.1 with w | w
      · exact absurd (Or.inr (Or.inl ⟨by omega, by omega⟩)) hs
      · exact absurd (Or.inr (Or.inr (Or.inr w))) hs
    · omega
    · exact q, fun b hb hs => t2.2.2.2.2 b hb (fun q => hs (Or.inl q))⟩
  obtain ⟨C1, rg1⟩ := h.el t1 f1 (fun _ q => q) (fun _ q => q)
  have P1 : Pg M M1 x := (t3.pt rg1 t4).g (by rw [eS1.wl.1, eS0.wl.1]) (by rw [eS1.wl.2, eS0.wl.2])
  obtain ⟨A, B, C, D, cap, m1, m2, m3, m4, m5, m6, m7, m8, m9, m10, m11, m12⟩ := t1
  have aut : AutV M1 (x + 1013) A D cap rs k := by
    rcases m8 with q | q
    · exact q.2
    · rw [z0] at q; exact absurd q (by decide)
  obtain ⟨N, str, hA⟩ := aut.n
  exact hQ M1 A B C D cap N str C1 eS1 z0 same ⟨f1, P1⟩ k34.1 k34.2 kW.2 ⟨m1, hA⟩
theorem k_total {M : Mm} {x k f cr : Nat} {rs : List Ru} {tk : Bool} {Q : Option Value → Mm → Prop} (h : Cmp M x rs k f []) (hV : ElV M x rs k cr tk) (hac : AC rs)
    (hQ : ∀ M', Cmp M' x rs k f [] → ElV M' x rs k cr true → gI M' (x + 9) 3 = 0 → Efr M M' x → Q (some (.long (totJ rs k))) M') : wp F_Elements_total 0 [.ref (x + 1034)] [] M Q := by
  obtain ⟨hlo, hwf, hRU, hRV⟩ := h.1.lo
  have hV0 := hV
  obtain ⟨W, I, Qa, P, wl, ql, eS0, g3, hcr, g4, hz, hwy, htk⟩ := hV
  simp only [B_Elements_total_0, eS0.1, g4, bI_ne, true_and]
  cases tk with
  | true =>
    simp only [Bool.true_eq_false, if_false, B_Elements_total_35, eS0.1, htk rfl, true_and]
    exact hQ M h hV0 (hz (Or.inr rfl)) Efr.rfl
  | false =>
    simp only [if_true, B_Elements_total_0, SS, eS0.1, eS0.2.1.1, eS0.2.1.2.1, h.1.mcS, true_and]
    refine k_renewC h eS0 ?_
    intro M1 A B C D cap N str C1 eS1 z1 same F1 i34 j34 jW hM1
    have hcap := hM1.1.2.2.2.2.2.2.1
    have hlo1 := C1.1.lo.1
    have hwy1 : 0 < cr → 81 * N ≤ wl ∧ WyV M W N rs k str cr := fun hc => by
      have e := same (hz (Or.inl hc))
      rw [e] at hM1
      exact hwy hc A D cap N str hcap hM1.1.2.1.1 hM1.1.2.1.2.2.2 hM1.2
    simp only [Option.toList_none, List.nil_append, B_Elements_total_0, eS1.1, true_and]
    refine k_makeQueue eS1 hM1 hlo1 (fun b hb q => ?_) ?_
    · rcases hb with rfl | rfl | rfl
      · omega
      · have := hM1.1.2.2.2.1.1; rw [q, eS1.1] at this; cases this
      · have := hM1.1.2.2.2.1.2.2.2; rw [q, eS1.1] at this; cases this
    intro I' Qa' P' ql' M2 eS2 hM2 hN2 zi zp f2 rmc nx2 sl2
    have shp1 : ∀ b q j, 1 ≤ j → j < 5 → gR M1 (x + 1013) j = some b → sh M1 b = some (.inr (0, q)) → ¬ (b = I ∨ b = P) := fun b q j h1 h2 hg hb w => by
      rcases w with w | w
      · exact (eS1.2.2.2.2.2.1 j h1 h2).1 (w ▸ hg)
      · have := eS1.2.2.1.2.2.2; rw [← w, hb] at this; cases this
    have far : ∀ a, eA x a → a ≠ x + 1034 ∧ x + 1035 ≤ a ∧ ¬ ruS (x + 9) a := fun a ha => by unfold eA at ha; exact ⟨by omega, by omega, fun q => by omega⟩
    have E2 : Eng M2 (x + 1018) (x + 9) (x + 1013) rs k (x + 1094) := C1.1.frx f2 (fun b hb => ⟨fun w => by
      rcases w with rfl | rfl
      · exact (far _ eS1.2.2.2.2.1.2.1.1).2.2 hb
      · exact (far _ eS1.2.2.2.2.1.2.2.2.1).2.2 hb, fun w => by omega⟩) ⟨fun w => by
      rcases w with w | w
      · have := far _ eS1.2.2.2.2.1.2.1.1; omega
      · have := far _ eS1.2.2.2.2.1.2.2.2.1; omega, by omega⟩ (fun b q j h1 h2 hg _ hs => shp1 b q j h1 h2 hg hs) (by omega)
    have hy2 : ∀ b, (b = I ∨ b = P) → yS x b := fun b w => by
      rcases w with rfl | rfl
      · exact eA_yS eS1.2.2.2.2.1.2.1.1
      · exact eA_yS eS1.2.2.2.2.1.2.2.2.1
    obtain ⟨C2, rg2⟩ := C1.el E2 f2 hy2 (fun b w => Or.inr w)
    have F2 : Efr M M2 x := F1.trans ⟨f2.weaken (fun b _ w => hy2 b w) (fun b _ w => Or.inr w), by
      have hcp : capM M2 (x + 1013) = capM M1 (x + 1013) := by rw [hM2.1.cap_eq, hM1.1.cap_eq]
      unfold Pg
      rw [hcp, rg2, eS2.wl.1, eS2.wl.2, eS1.wl.1, eS1.wl.2]
      omega⟩
    have nx2' := f2.1
    have x34 : ¬ (x + 1034 = I ∨ x + 1034 = P) := fun w => by
      rcases w with w | w
      · exact (far _ eS1.2.2.2.2.1.2.1.1).1 w.symm
      · exact (far _ eS1.2.2.2.2.1.2.2.2.1).1 w.symm
    have xW : ¬ (W = I ∨ W = P) := fun w => by
      rcases w with w | w
      · have := eS1.2.2.1.2.1; rw [← w, eS1.2.2.1.1] at this; cases this
      · exact eS1.2.2.2.1.1 w
    have i34' : ∀ j, gI M2 (x + 1034) j = gI M (x + 1034) j := fun j => ((f2.2.2.2.1 _ (by omega) x34).1 j).trans (i34 j)
    have jW' : ∀ j, gJ M2 W j = gJ M W j := fun j => ((f2.2.2.2.1 _ eS1.2.2.2.2.1.1.2 xW).2 j).trans (jW j)
    have z2 : gI M2 (x + 9) 3 = 0 := ((f2.2.2.2.1 _ (by omega) (fun w => by
      rcases w with w | w
      · have := far _ eS1.2.2.2.2.1.2.1.1; omega
      · have := far _ eS1.2.2.2.2.1.2.2.2.1; omega)).1 3).trans z1
    simp only [Option.toList_none, List.nil_append, B_Elements_total_0, eS2.1, true_and]
    refine k_countPaths eS2 hM2 hwf hac hN2 zi zp ?_
    intro M3 f3
    have eS3 := eS2.frZ f3
    have hM3 := (hM2.frZ eS2 f3).1
    have hy3 : ∀ b, qZ I' Qa' P' b → eA x b := fun b w => by
      rcases w with rfl | rfl | rfl
      · exact eS2.2.2.2.2.1.2.1.1
      · exact eS2.2.2.2.2.1.2.2.1.1
      · exact eS2.2.2.2.2.1.2.2.2.1
    have f4 : FrX (fun b => qZ I' Qa' P' b ∨ b = x + 1034) (fun _ => False) M2 (sI (sJ M3 (x + 1034) 5 (totJ rs k)) (x + 1034) 4 1) := (f3.x.weaken (fun b _ w => Or.inl w) (fun _ _ w => w)).trans' ((FrZ.sJ (S := fun b => b = x + 1034) rfl).trans (FrZ.sI rfl)).x (fun b _ w => Or.inr w) (fun _ _ w => w)
    have hy4 : ∀ b, (qZ I' Qa' P' b ∨ b = x + 1034) → yS x b := fun b w => by
      rcases w with w | rfl
      · exact eA_yS (hy3 b w)
      · exact Or.inr (Or.inr (Or.inl ⟨by omega, by omega⟩))
    have n9 : ∀ b, b < x + 1034 → ¬ (qZ I' Qa' P' b ∨ b = x + 1034) := fun b hb w => by
      rcases w with w | rfl
      · have := far _ (hy3 b w); omega
      · omega
    have E4 : Eng (sI (sJ M3 (x + 1034) 5 (totJ rs k)) (x + 1034) 4 1) (x + 1018) (x + 9) (x + 1013) rs k (x + 1094) := C2.1.frx f4 (fun b hb => ⟨n9 b (by omega), fun q => q⟩) ⟨n9 _ (by omega), fun q => q⟩ (fun b q j h1 h2 hg _ hs w => by
      rcases w with (w | w | w) | w
      · exact (eS2.2.2.2.2.2.1 j h1 h2).1 (w ▸ hg)
      · exact (eS2.2.2.2.2.2.1 j h1 h2).2 (w ▸ hg)
      · have := eS2.2.2.1.2.2.2; rw [← w, hs] at this; cases this
      · rw [w, eS2.1] at hs; cases hs) (fun q => q)
    obtain ⟨C4, rg4⟩ := C2.el E4 f4 hy4 (fun _ w => w.elim)
    have e34 : ∀ j, gI (sI (sJ M3 (x + 1034) 5 (totJ rs k)) (x + 1034) 4 1) (x + 1034) j = if j = 4 then 1 else gI M (x + 1034) j := fun j => by
      rw [gI_sI]
      by_cases y : j = 4
      · rw [if_pos ⟨rfl, y⟩, if_pos y]
      · rw [if_neg (fun w => y w.2), if_neg y, gI_sJ, (f3.2.2.2.2 _ (fun w => (far _ (hy3 _ w)).1 rfl)).1 j]
        exact i34' j
    have eS4 : ElS (sI (sJ M3 (x + 1034) 5 (totJ rs k)) (x + 1034) 4 1) x W I' Qa' P' wl ql' := eS3.frZ ((FrZ.sJ (S := fun b => b = x + 1034) rfl).trans (FrZ.sI rfl))
    have xW3 : ¬ qZ I' Qa' P' W := fun w => by
      rcases w with w | w | w
      · have := eS2.2.2.1.2.1; rw [← w, eS2.2.2.1.1] at this; cases this
      · have := eS2.2.2.1.2.2.1; rw [← w, eS2.2.2.1.1] at this; cases this
      · exact eS2.2.2.2.1.1 w
    have jW4 : ∀ j, gJ (sI (sJ M3 (x + 1034) 5 (totJ rs k)) (x + 1034) 4 1) W j = gJ M W j := fun j => by
      rw [gJ_sI, gJ_sJ, if_neg (fun w => (far _ eS2.2.2.2.2.1.1.1).1 w.1), (f3.2.2.2.2 _ xW3).2 j]
      exact jW' j
    have hM4 : AutN (sI (sJ M3 (x + 1034) 5 (totJ rs k)) (x + 1034) 4 1) (x + 1013) A D cap rs k N str ∧ MCS (sI (sJ M3 (x + 1034) 5 (totJ rs k)) (x + 1034) 4 1) (x + 1013) A B C D cap := by
      have fz : FrZ (fun b => b = x + 1034) M3 (sI (sJ M3 (x + 1034) 5 (totJ rs k)) (x + 1034) 4 1) := (FrZ.sJ (S := fun b => b = x + 1034) rfl).trans (FrZ.sI rfl)
      have nA : ∀ b q, sh M3 b = some (.inr (0, q)) → ¬ b = x + 1034 := fun b q hb w => by rw [w, eS3.1] at hb; cases hb
      exact ⟨hM3.2.frx fz.x hM3.1.2.2.2.2.2.2.2.1 hM3.1.2.2.2.2.2.2.2.2.1 hM3.1.2.2.2.2.2.2.2.2.2.2.2 (by omega) (nA _ _ hM3.1.2.2.2.1.1) (nA _ _ hM3.1.2.2.2.1.2.2.2), hM3.1.frx fz.x ((fz.2.2.2.2 _ (by omega)).1 0) (fun q => q)⟩
    have s3 : sh M3 (x + 1034) = some (.inl 1) := eS3.1
    simp only [SS, List.cons_append, List.nil_append, B_Elements_total_0, B_Elements_total_35, s3, and_self, if_true, or_true, true_and]
    refine hQ _ C4 ⟨W, I', Qa', P', wl, ql', eS4, ?_, hcr, ?_, fun _ => ?_, fun hc A2 D2 cap2 N2' str2 hc2 hA2 hD2 hAut => ?_, fun _ => ?_⟩ ?_ (F2.trans ⟨f4.weaken (fun b _ w => hy4 b w) (fun _ _ w => w.elim), ?_⟩)
    · rw [e34, if_neg (by omega)]; exact g3
    · rw [e34, if_pos rfl]; rfl
    · exact ((f4.2.2.2.1 (x + 9) (by omega) (n9 _ (by omega))).1 3).trans z2
    · cases hM4.2.2.1.1.symm.trans hA2
      cases hM4.2.2.1.2.2.2.symm.trans hD2
      obtain ⟨u1, u2⟩ := hM4.1.uniq hAut hwf hcap hc2
      subst u1
      obtain ⟨w1, w2⟩ := hwy1 hc
      exact ⟨w1, fun r m hr hm => by rw [← u2 m hm, jW4]; exact w2 r m hr hm⟩
    · rw [gJ_sI, gJ_sJ, if_pos ⟨rfl, rfl⟩]
    · exact ((f4.2.2.2.1 (x + 9) (by omega) (n9 _ (by omega))).1 3).trans z2
    · have hcp : capM (sI (sJ M3 (x + 1034) 5 (totJ rs k)) (x + 1034) 4 1) (x + 1013) = capM M2 (x + 1013) := by rw [hM4.2.cap_eq, hM2.1.cap_eq]
      have n4 : nxt (sI (sJ M3 (x + 1034) 5 (totJ rs k)) (x + 1034) 4 1) = nxt M2 := f3.1
      have s4 : slo (sI (sJ M3 (x + 1034) 5 (totJ rs k)) (x + 1034) 4 1) = slo M2 := f3.2.1
      unfold Pg
      rw [hcp, rg4, eS4.wl.1, eS4.wl.2, eS2.wl.1, eS2.wl.2, n4, s4]
      omega

/-- ELEMENT i comes into a word u -/
def eP (x u b : Nat) : Prop := yS x b ∨ wS u b
theorem k_spell' {M : Mm} {x k f cr u ru i : Nat} {rs : List Ru} {tk : Bool} {Q : Option Value → Mm → Prop} (h : Cmp M x rs k f []) (hV : ElV M x rs k cr tk) (hac : AC rs) (hi : i < 2147483648) (su : WS M u ru) (hru : 80 ≤ ru) (bru : ru < 2147483648) (hu : x + 1039 ≤ u ∧ u + 1 < x + 1094)
    (hQ0 : ∀ o, elt rs k i = o → (o = none ∨ o = some none) → ∀ M' cr' tk', Cmp M' x rs k f [] → ElV M' x rs k cr' tk' → Efr M M' x → Q (some (.int (if o = none then -2 else -4))) M') (hQ1 : ∀ w, elt rs k i = some (some w) → w.length ≤ 80 → (∀ c ∈ w, c < k) → ∀ M1 M' cr' tk', Cmp M1 x rs k f [] → ElV M1 x rs k cr' tk' → gI M1 (x + 9) 3 = 0 → Efr M M1 x → FrS (wS u) M1 M' → WV M' u w → Q (some (.int (nI w.length))) M') : wp F_Elements_spell 0 [.ref (x + 1034), .int (nI i), .ref u, jk, jk, jk, jk, jk] [] M Q := by
  have s34 : sh M (x + 1034) = some (.inl 1) := by obtain ⟨W, I, Qa, P, wl, ql, eS0, -⟩ := hV; exact eS0.1
  have e1 : 0 ≤ nI i := nI_pos' (by omega)
  have hlo := h.1.lo.1
  have hwf := h.1.lo.2.1
  have hCAP : CAP = 1000000000000001 := rfl
  have k80 : (80 : Int32) = nI 80 := rfl
  have z0 : (0 : Int32) = nI 0 := rfl
  have l0 : (0 : Int64) = lN 0 := by decide
  have loop : ∀ fu n a M' cr' l6 l7, n + fu = 81 → a ≤ i → elS rs k 81 0 i = elS rs k fu n a → Cmp M' x rs k f [] → ElV M' x rs k cr' tk → Efr M M' x → wp F_Elements_spell 13 [.ref (x + 1034), .int (nI i), .ref u, .long (lN a), jk, .int (nI n), l6, l7] [] M' Q := by
    intro fu
    induction fu with
    | zero =>
      intro n a M' cr' l6 l7 hn ha he C V F
      have e2 : nI 80 < nI n := nI_lt (by omega) (by omega)
      have s34' : sh M' (x + 1034) = some (.inl 1) := by obtain ⟨W, I, Qa, P, wl, ql, eS0, -⟩ := V; exact eS0.1
      simp only [B_Elements_spell_13, B_Elements_spell_67, k80, e2, if_true, s34', true_and]
      refine k_total C V hac ?_
      intro M2 C2 V2 z2 F2
      simp only [SS, List.cons_append, List.nil_append, B_Elements_spell_67]
      have hel : elt rs k i = (match tot rs k with | some v => if v ≤ i then none else some none | none => some none) := by
        unfold elt
        rw [he, elS]
        cases tot rs k <;> rfl
      have F3 := F.trans F2
      cases ht : tot rs k with
      | none =>
        have e3 : totJ rs k = -5 := by unfold totJ; rw [ht]
        rw [ht] at hel
        have e4 : lg_cmp (-5) 0 < 0 := by decide
        simp only [e3, e4, if_true, B_Elements_spell_93, B_Elements_spell_95]
        have := hQ0 (some none) hel (Or.inr rfl) M2 cr' true C2 V2 F3
        exact this
      | some v =>
        rw [ht] at hel
        simp only at hel
        by_cases hm : 1000000000000000 < v
        · have e3 : totJ rs k = -4 := by unfold totJ; rw [ht]; simp only; rw [if_pos hm]
          have e4 : lg_cmp (-4) 0 < 0 := by decide
          simp only [e3, e4, if_true, B_Elements_spell_93, B_Elements_spell_95]
          rw [if_neg (by omega)] at hel
          exact hQ0 (some none) hel (Or.inr rfl) M2 cr' true C2 V2 F3
        · have e3 : totJ rs k = lN v := by unfold totJ; rw [ht]; simp only; rw [if_neg hm]
          have e4 := lcL (a := v) (b := 0) (by omega) (by omega)
          rw [← l0] at e4
          have e5 : ¬ v < 0 := by omega
          have e6 := lcL (a := i) (b := v) (by omega) (by omega)
          have e7 : (nI i).toInt64 = lN i := nI_l (by omega)
          simp only [e3, e4, e5, if_false, e7, e6, B_Elements_spell_67]
          by_cases hiv : i < v
          · simp only [hiv, if_true, B_Elements_spell_93, B_Elements_spell_95]
            rw [if_neg (by omega)] at hel
            exact hQ0 (some none) hel (Or.inr rfl) M2 cr' true C2 V2 F3
          · simp only [hiv, if_false, B_Elements_spell_95]
            rw [if_pos (by omega)] at hel
            exact hQ0 none hel (Or.inl rfl) M2 cr' true C2 V2 F3
    | succ fu ih =>
      intro n a M' cr' l6 l7 hn ha he C V F
      have e2 : ¬ nI 80 < nI n := nI_nlt (by omega) (by omega)
      have s34' : sh M' (x + 1034) = some (.inl 1) := by obtain ⟨W, I, Qa, P, wl, ql, eS0, -⟩ := V; exact eS0.1
      simp only [B_Elements_spell_13, k80, e2, if_false, s34', true_and]
      refine k_ofLength C V (by omega) ?_
      intro M2 cr2 C2 V2 z2 hn2 F2
      have F3 := F.trans F2
      have hcl := cp_le (wy rs k n [])
      have e3 := lcE (a := cp (wy rs k n [])) (b := 0) (by omega) (by omega)
      rw [← l0] at e3
      have e4 : (cp (wy rs k n []) = 0) = (wy rs k n [] = 0) := by unfold cp; exact propext (by omega)
      simp only [SS, List.cons_append, List.nil_append, B_Elements_spell_13, e3, e4]
      by_cases hz : wy rs k n [] = 0
      · simp only [hz, if_true]
        have hel : elt rs k i = none := by
          unfold elt
          rw [he, elS, if_pos hz]
        exact hQ0 none hel (Or.inl rfl) M2 cr2 tk C2 V2 F3
      · have e5 := lcGe (a := a) (b := cp (wy rs k n [])) (by omega) (by omega)
        have e6 : (cp (wy rs k n []) ≤ a) = (wy rs k n [] ≤ a) := by unfold cp; exact propext (by omega)
        simp only [hz, if_false, B_Elements_spell_38, e5, e6]
        by_cases hlt : a < wy rs k n []
        · have hnle : ¬ wy rs k n [] ≤ a := by omega
          obtain ⟨W, I, Qa, P, wl, ql, A, B, C', D, cap, N, str, eS2, mc2, A2, w1, w2⟩ := V2.openW C2 z2 (by omega)
          have su2 : WS M2 u ru := su.frx F3.1 (by omega) (fun q => by unfold yT at q; omega)
          simp only [hnle, if_false, eS2.1, B_Elements_spell_38, true_and]
          refine k_spellOfLength eS2 mc2 A2 hwf w1 w2 (by omega) (by omega) hlt (by omega) su2 (by omega) bru hu ?_
          intro M3 f3 wv3 hlen hlk
          have hel : elt rs k i = some (some (spw rs k n [] a)) := by
            unfold elt
            rw [he, elS, if_neg hz, if_pos hlt]
          simp only [Option.toList_none, List.nil_append, B_Elements_spell_38]
          have := hQ1 _ hel (by omega) hlk M2 M3 cr2 tk C2 V2 z2 F3 f3 wv3
          rw [hlen] at this
          exact this
        · have hle : wy rs k n [] ≤ a := by omega
          have hsb : lN a - lN (cp (wy rs k n [])) = lN (a - wy rs k n []) := by
            have hcw : cp (wy rs k n []) = wy rs k n [] := by unfold cp; omega
            rw [hcw]; exact lN_sub hle
          simp only [hle, if_true, B_Elements_spell_56, hsb, SS, nI_i1]
          rw [G_Elements_spell_64]
          refine ih (n + 1) _ M2 cr2 _ _ (by omega) (by omega) ?_ C2 V2 F3
          rw [he, elS, if_neg hz, if_neg hlt]
  have e7 : (nI i).toInt64 = lN i := nI_l (by omega)
  simp only [B_Elements_spell_0, e1, if_true, B_Elements_spell_7, e7, SS]
  rw [z0]
  exact loop 81 0 i M cr _ _ (by omega) (Nat.le_refl _) rfl h hV Efr.rfl
