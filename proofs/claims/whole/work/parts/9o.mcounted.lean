/-! the reference has counted -/
section MC
variable {M : Mm} {m : Nat} {σ : Sg} {Q : Option Value → Mm → Prop} {rs : List Ru} {k N : Nat} {str : Nat → List Nat}
theorem k_mCountAll (hS : MdS M m) (hT : TreeV M m rs k N str) (hw : RWf rs k) (hac : AC rs) (h11 : gI M m 11 = nI k) (hcm : ∀ n, n < N → gI M (m + 26) n = 0)
    (hQ : ∀ M', FrZ (caZ m) M M' → ∀ v : Int64, (∀ t, tot rs k = some t → v = lN (cp t)) → Q none (sJ (sI M' m 53 (bI (tot rs k).isNone)) m 54 v)) : wp F_Md_countAll 0 [.ref m, jk, jk, jk, jk, jk, jk, jk, jk, jk] [] M Q := by
  obtain ⟨⟨hN1, hN2, hs0, h51⟩, -, -, hE⟩ := id hT
  have j1 : (1 : Int32) = nI 1 := rfl
  have c00 : cl (nI 0) = 0 := rfl
  have x0 : ixW M (m + 24) (nI 0) := ixW_of hS.row.2 (by omega) (by omega)
  simp only [B_Md_countAll_0, SS, hS.1, hS.row.1, true_and, ← nI_0, x0, c00]
  have F0 : FrZ (caZ m) M (sI M (m + 24) 0 (nI 0)) := FrZ.sI (Or.inr (Or.inl rfl))
  have g24 : gI (sI M (m + 24) 0 (nI 0)) (m + 24) 0 = nI 0 := by simp [SS]
  have g26 : ∀ n, n < N → gI (sI M (m + 24) 0 (nI 0)) (m + 26) n = 0 := fun n hn => by rw [gI_sI, if_neg (by omega)]; exact hcm n hn
  have g22 : ∀ b, b ≠ m + 24 → ∀ j, gI (sI M (m + 24) 0 (nI 0)) b j = gI M b j := fun b hb j => by rw [gI_sI, if_neg (fun z => hb z.1)]
  generalize sI M (m + 24) 0 (nI 0) = M0 at F0 g24 g26 g22
  have loop : ∀ d n M', n + d = N → FrJ (fun b => b = m + 28) M0 M' → (∀ q, q < n → gJ M' (m + 28) q = -1) → wp F_Md_countAll 11 [.ref m, .int (nI 1), .int (nI n), jk, jk, jk, jk, jk, jk, jk] [] M' Q := by
    intro d
    induction d with
    | succ d ih =>
      intro n M' hn F' V'
      have S0 := hS.z F0
      have S' : MdS M' m := ⟨(F'.sh _).trans S0.1, fun i hi => ⟨(F'.gR _ _).trans (S0.2 i hi).1, (F'.sh _).trans (S0.2 i hi).2⟩⟩
      have e1 : ¬ nI N ≤ nI n := nI_ge (by omega) (by omega)
      have g51 : gI M' m 51 = nI N := (F'.gI _ _).trans ((g22 _ (by omega) _).trans h51)
      have x1 : ixJ M' (m + 28) (nI n) := ixJ_of S'.all.2 (by omega) (by omega)
      simp only [B_Md_countAll_11, SS, S'.1, S'.all.1, g51, e1, if_false, x1, cl_nI (show n < 2147483648 by omega), true_and, nI_i1]
      rw [G_Md_countAll_31]
      refine ih (n + 1) _ (by omega) (F'.trans (FrJ.sJ rfl)) (fun q hq => ?_)
      rw [gJ_sJ]
      by_cases z : q = n
      · rw [if_pos ⟨rfl, z⟩]
      · rw [if_neg (fun y => z y.2)]; exact V' q (by omega)
    | zero =>
      intro n M' hn F' V'
      have S0 := hS.z F0
      have S' : MdS M' m := ⟨(F'.sh _).trans S0.1, fun i hi => ⟨(F'.gR _ _).trans (S0.2 i hi).1, (F'.sh _).trans (S0.2 i hi).2⟩⟩
      have e1 : nI N ≤ nI n := nI_le (by omega) (by omega)
      have g51 : gI M' m 51 = nI N := (F'.gI _ _).trans ((g22 _ (by omega) _).trans h51)
      have x1 : ixJ M' (m + 28) (nI 0) := ixJ_of S'.all.2 (by omega) (by omega)
      simp only [B_Md_countAll_11, B_Md_countAll_34, SS, S'.1, S'.all.1, g51, e1, if_true, true_and, ← nI_0, x1, c00]
      have FZ : FrZ (caZ m) M (sJ M' (m + 28) 0 0) := F0.trans (FrZ.trans ⟨F'.nxt, F'.slo, fun b => F'.sh b, fun b j => F'.gR b j, fun b hb => ⟨fun j => F'.gI b j, fun j => F'.gJ (fun q => hb (Or.inr (Or.inr (Or.inr q)))) j⟩⟩ (FrZ.sJ (Or.inr (Or.inr (Or.inr rfl)))))
      have gI' : ∀ b, b ≠ m + 24 → ∀ j, gI (sJ M' (m + 28) 0 0) b j = gI M b j := fun b hb j => by rw [gI_sJ]; exact (F'.gI _ _).trans (g22 b hb j)
      have V1 : ∀ q, q < N → gJ (sJ M' (m + 28) 0 0) (m + 28) q = if q ∈ [0] then 0 else -1 := fun q hq => by
        rw [gJ_sJ]
        by_cases z : q = 0
        · rw [if_pos ⟨rfl, z⟩, if_pos (by simp [z])]
        · rw [if_neg (fun y => z y.2), if_neg (by simp [z])]; exact V' q (by omega)
      have V2 : gI (sJ M' (m + 28) 0 0) (m + 24) 0 = nI 0 := by rw [gI_sJ]; exact (F'.gI _ _).trans g24
      have V3 : ∀ n, n < N → gI (sJ M' (m + 28) 0 0) (m + 26) n = 0 := fun n hn => by rw [gI_sJ]; exact (F'.gI _ _).trans (g26 n hn)
      generalize sJ M' (m + 28) 0 0 = M1 at FZ gI' V1 V2 V3
      have S1 := hS.z FZ
      have T1 : TreeV M1 m rs k N str := hT.eq (gI' _ (by omega) _) (gI' _ (by omega)) (gI' _ (by omega))
      refine k_mReach S1 T1 hw ((gI' _ (by omega) _).trans h11) rfl ⟨fun j hj => ?_, V1, fun t ht => ?_⟩ ?_
      · have : j = 0 := by simpa using hj
        rw [this]; exact V2
      · rw [V3 t ht.1]; rfl
      · intro w M2 l3 l4 nd hR h0 hcl V F2
        have S2 := S1.z F2
        have gI2 : ∀ b, ¬ caZ m b → ∀ j, gI M2 b j = gI M1 b j := fun b hb j => (F2.2.2.2.2 b hb).1 j
        have T2 : TreeV M2 m rs k N str := T1.eq (gI2 _ (by unfold caZ; omega) _) (gI2 _ (by unfold caZ; omega)) (gI2 _ (by unfold caZ; omega))
        have et : toM M1 (m + 22) = toM M2 (m + 22) := by
          funext a c
          unfold toM
          rw [gI2 _ (by unfold caZ; omega)]
        rw [et] at hcl V
        refine k_mKahn S2 T2 hw hac ((gI2 _ (by unfold caZ; omega) _).trans ((gI' _ (by omega) _).trans h11)) nd hR h0 hcl V ?_
        intro M3 F3 v hv
        exact hQ M3 ((FZ.trans F2).trans F3) v hv
  exact loop N 0 M0 (by omega) FrJ.rfl (fun q hq => by omega)
theorem MdV.cnt {M1 : Mm} (h : MdV M m σ) (hf : FrZ (fun b => b = m ∨ (m + 22 ≤ b ∧ b ≤ m + 28)) M M1) (hg : ∀ j, j ≠ 51 → j ≠ 52 → j ≠ 53 → gI M1 m j = gI M m j) (h52 : gI M1 m 52 = 1) (hc : CnV M1 m (sRs σ) (sK σ)) (hr : sRow σ = []) (hs : sSt σ = false) : MdV M1 m σ := by
  obtain ⟨a1, a2, ⟨a3, a4, a5⟩, a6, ⟨f, a7⟩, a8, a9, a10, a11, a12⟩ := h
  have c : ∀ b, ¬ (b = m ∨ (m + 22 ≤ b ∧ b ≤ m + 28)) → ∀ j, gI M1 b j = gI M b j := fun b hb j => (hf.2.2.2.2 b hb).1 j
  have g : ∀ j, j ≤ 50 → gI M1 m j = gI M m j := fun j hj => hg j (by omega) (by omega) (by omega)
  exact ⟨a1.z hf, a2.eq (g _ (by omega)) (c _ (by omega)), ⟨(g _ (by omega)).trans a3, (g _ (by omega)).trans a4, fun j hj => (c _ (by omega) _).trans (a5 j hj)⟩, a6.eq (g _ (by omega)) (fun b h1 h2 => c b (by omega)), ⟨f, a7.eq (g _ (by omega)) (g _ (by omega)) (c _ (by omega)) (c _ (by omega))⟩, a8.eq (g _ (by omega)) (g _ (by omega)) (g _ (by omega)), a9.eq (g _ (by omega)) (g _ (by omega)) (g _ (by omega)), a10.eq (c _ (by omega)) (c _ (by omega)), a11.eq (g _ (by omega)) (c _ (by omega)) (c _ (by omega)), ⟨true, h52, fun _ => ⟨hr, hs, hc⟩⟩⟩
abbrev cnZ (m b : Nat) : Prop := b = m ∨ (m + 22 ≤ b ∧ b ≤ m + 28)
theorem k_counted (h : MdV M m σ) (hI : SgI σ) (hr : sRow σ = []) (hs : sSt σ = false) (hQ : ∀ M', MdV M' m σ → CnV M' m (sRs σ) (sK σ) → FrZ (cnZ m) M M' → Q none M') : wp F_Md_counted 0 [.ref m] [] M Q := by
  obtain ⟨cd, g52, hcd⟩ := h.2.2.2.2.2.2.2.2.2
  have S := h.1
  simp only [B_Md_counted_0, B_Md_counted_24, S.1, g52, true_and]
  cases cd with
  | true =>
    simp only [bI_t, i10, not_false_eq_true, ne_eq, if_true, if_false]
    exact hQ M h (hcd rfl).2.2 FrZ.rfl
  | false =>
    have hw := hI.2.2.1
    have hac := hI.2.2.2.2.2.1 hs
    simp only [bI_f, not_true_eq_false, ne_eq, if_true, if_false, B_Md_counted_0, S.1, true_and, or_true]
    have F0 : FrS (fun b => b = m) M (sI M m 52 1) := FrS.sI rfl
    have g0 : ∀ j, j ≠ 52 → gI (sI M m 52 1) m j = gI M m j := fun j hj => by rw [gI_sI, if_neg (fun z => hj z.2)]
    have g052 : gI (sI M m 52 1) m 52 = 1 := by simp [SS]
    simp only [SS, S.1, true_and]
    generalize sI M m 52 1 = M0 at F0 g0 g052
    have S0 := S.fr F0
    have h11 : gI M0 m 11 = nI (sK σ) := (g0 _ (by omega)).trans h.2.2.1.2.1
    refine k_layTree S0 (h.2.2.2.1.eq (g0 _ (by omega)) (fun b h1 h2 j => F0.gI (by omega) j)) hw h11 ?_
    intro N str M1 T1 cm1 F1 g1
    have S1 := S0.fr F1
    simp only [SS, Option.toList_none, List.nil_append, B_Md_counted_0, S1.1, true_and]
    refine k_mWays S1 T1 hw.2.1 ((g1 _ (by omega)).trans h11) ?_
    intro M2 F2 W2
    have S2 : MdS M2 m := ⟨(F2.sh _).trans S1.1, fun i hi => ⟨(F2.gR _ _).trans (S1.2 i hi).1, (F2.sh _).trans (S1.2 i hi).2⟩⟩
    have T2 : TreeV M2 m (sRs σ) (sK σ) N str := T1.eq (F2.gI _ _) (fun j => F2.gI _ j) (fun j => F2.gI _ j)
    simp only [SS, Option.toList_none, List.nil_append, B_Md_counted_0, S2.1, true_and]
    refine k_mCountAll S2 T2 hw hac ((F2.gI _ _).trans ((g1 _ (by omega)).trans h11)) (fun n hn => (F2.gI _ _).trans (cm1 n hn)) ?_
    intro M3 F3 v hv
    simp only [SS, Option.toList_none, List.nil_append, B_Md_counted_0, B_Md_counted_24]
    have nm : ¬ caZ m m := by unfold caZ; omega
    have gI3 : ∀ j, gI M3 m j = gI M1 m j := fun j => ((F3.2.2.2.2 m nm).1 j).trans (F2.gI _ _)
    have FZ : FrZ (fun b => b = m ∨ (m + 22 ≤ b ∧ b ≤ m + 28)) M M3 := (((F0.z.weaken (fun b q => Or.inl q)).trans (F1.z.weaken (fun b q => by omega))).trans ⟨F2.nxt, F2.slo, fun b => F2.sh b, fun b j => F2.gR b j, fun b hb => ⟨fun j => F2.gI b j, fun j => F2.gJ (fun q => hb (by omega)) j⟩⟩).trans (F3.weaken (fun b q => by unfold caZ at q; omega))
    have FF : FrZ (fun b => b = m ∨ (m + 22 ≤ b ∧ b ≤ m + 28)) M (sJ (sI M3 m 53 (bI (tot (sRs σ) (sK σ)).isNone)) m 54 v) := (FZ.trans (FrZ.sI (Or.inl rfl))).trans (FrZ.sJ (Or.inl rfl))
    have hC : CnV (sJ (sI M3 m 53 (bI (tot (sRs σ) (sK σ)).isNone)) m 54 v) m (sRs σ) (sK σ) := by
      refine ⟨⟨N, str, T2.1.1, T2.1.2.1, T2.1.2.2.1, fun n e hn he => ?_, fun r n hr' hn => ?_⟩, ?_, fun t ht => ?_⟩
      · obtain ⟨q, q1, q2, q3⟩ := T2.2.2.1 n e hn he
        refine ⟨q, q1, ?_, q3⟩
        rw [gI_sJ, gI_sI, if_neg (by omega), (F3.2.2.2.2 _ (by unfold caZ; omega)).1]
        exact q2
      · rw [gJ_sJ, if_neg (by omega), gJ_sI, (F3.2.2.2.2 _ (by unfold caZ; omega)).2]
        exact W2 r n (by omega) hn
      · rw [gI_sJ, gI_sI, if_pos ⟨rfl, rfl⟩]
      · rw [gJ_sJ, if_pos ⟨rfl, rfl⟩]; exact hv t ht
    refine hQ _ (h.cnt FF (fun j h1 h2 h3 => ?_) ?_ hC hr hs) hC FF
    · rw [gI_sJ, gI_sI, if_neg (by omega), gI3, g1 j h1, g0 j h2]
    · rw [gI_sJ, gI_sI, if_neg (by omega), gI3, g1 52 (by omega)]; exact g052
end MC
