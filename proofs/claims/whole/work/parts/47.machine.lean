/-! the machine's cell mc and its four rows A (next), B (fall), C (order), D (ends) -/
def MCS (M : Mm) (mc A B C D cap : Nat) : Prop := sh M mc = some (.inl 3) ∧ (gR M mc 1 = some A ∧ gR M mc 2 = some B ∧ gR M mc 3 = some C ∧ gR M mc 4 = some D) ∧ gI M mc 0 = nI cap ∧ (sh M A = some (.inr (0, 8 * cap)) ∧ sh M B = some (.inr (0, cap)) ∧ sh M C = some (.inr (0, cap)) ∧ sh M D = some (.inr (0, cap))) ∧
  (A ≠ B ∧ A ≠ C ∧ A ≠ D ∧ B ≠ C ∧ B ≠ D ∧ C ≠ D) ∧ 64 ≤ cap ∧ cap ≤ 12001 ∧ mc < nxt M ∧ A < nxt M ∧ B < nxt M ∧ C < nxt M ∧ D < nxt M
theorem MCS.ne {M : Mm} {mc A B C D cap : Nat} (h : MCS M mc A B C D cap) : A ≠ mc ∧ B ≠ mc ∧ C ≠ mc ∧ D ≠ mc := by
  obtain ⟨h1, -, -, ⟨h2, h3, h4, h5⟩, -⟩ := h
  refine ⟨fun e => ?_, fun e => ?_, fun e => ?_, fun e => ?_⟩
  · rw [e, h1] at h2; cases h2
  · rw [e, h1] at h3; cases h3
  · rw [e, h1] at h4; cases h4
  · rw [e, h1] at h5; cases h5
/-- whole numbers of the cells S may have changed, not the machine's capacity -/
theorem MCS.fr {M M1 : Mm} {S : Nat → Prop} {mc A B C D cap : Nat} (h : MCS M mc A B C D cap) (hf : FrS S M M1) (h0 : gI M1 mc 0 = gI M mc 0) : MCS M1 mc A B C D cap :=
  ⟨(hf.sh _).trans h.1, ⟨(hf.gR _ _).trans h.2.1.1, (hf.gR _ _).trans h.2.1.2.1, (hf.gR _ _).trans h.2.1.2.2.1, (hf.gR _ _).trans h.2.1.2.2.2⟩, h0.trans h.2.2.1, ⟨(hf.sh _).trans h.2.2.2.1.1, (hf.sh _).trans h.2.2.2.1.2.1, (hf.sh _).trans h.2.2.2.1.2.2.1, (hf.sh _).trans h.2.2.2.1.2.2.2⟩, h.2.2.2.2.1, h.2.2.2.2.2.1, h.2.2.2.2.2.2.1, by rw [hf.nxt]; exact h.2.2.2.2.2.2.2⟩
theorem k_fill_next {M : Mm} {mc A B C D cap w : Nat} {Q : Option Value → Mm → Prop} (h : MCS M mc A B C D cap) (hw : w ≤ cap) (k : ∀ M', FrS (fun b => b = A) M M' → (∀ j, j < 8 * w → gI M' A j = -1) → wp F_Machine_clear 103 [.ref mc, .int (nI w), .int (nI (8 * w))] [] M' Q) : wp F_Machine_clear 73 [.ref mc, .int (nI w), .int (nI 0)] [] M Q := by
  have hcap := h.2.2.2.2.2.2.1
  have loop : ∀ d i, i + d = 8 * w → ∀ M', FrS (fun b => b = A) M M' → (∀ j, j < i → gI M' A j = -1) → wp F_Machine_clear 73 [.ref mc, .int (nI w), .int (nI i)] [] M' Q := by
    intro d
    induction d with
    | zero =>
      intro i hi M' hf hj
      have e1 : nI (w * 8) ≤ nI i := nI_le (by omega) (by omega)
      have k8 : (8 : Int32) = nI 8 := rfl
      simp only [B_Machine_clear_73, k8, pk_mul, e1, if_true]
      rw [show i = 8 * w by omega]
      exact k M' hf (fun j hj2 => hj j (by omega))
    | succ d ih =>
      intro i hi M' hf hj
      have h' := h.fr hf (hf.gI (fun e => h.ne.1 e.symm) 0)
      have e1 : ¬ nI (w * 8) ≤ nI i := nI_ge (by omega) (by omega)
      have k8 : (8 : Int32) = nI 8 := rfl
      have e2 : ixW M' A (nI i) := ixW_of h'.2.2.2.1.1 (by omega) (by omega)
      have e3 : ¬ nI (8 * cap) ≤ nI i := nI_ge (by omega) (by omega)
      simp only [B_Machine_clear_73, SS, k8, pk_mul, e1, e3, if_false, h'.1, h'.2.1.1, h'.2.2.2.1.1, e2, true_and, cl_nI (show i < 2147483648 by omega), nI_i1]
      rw [G_Machine_clear_100]
      refine ih (i + 1) (by omega) _ (hf.trans (FrS.sI rfl)) (fun j hj2 => ?_)
      rw [gI_sI]
      split
      · rfl
      · exact hj j (by omega)
  exact loop (8 * w) 0 (by omega) M FrS.rfl (fun j hj => by omega)
theorem k_fill_ends {M : Mm} {mc A B C D cap w : Nat} {x : Int32} {Q : Option Value → Mm → Prop} (h : MCS M mc A B C D cap) (hw : w ≤ cap) (k : ∀ M', FrS (fun b => b = D) M M' → (∀ j, j < w → gI M' D j = -1) → Q none (sI M' mc 5 1)) : wp F_Machine_clear 103 [.ref mc, .int (nI w), .int x] [] M Q := by
  have hcap := h.2.2.2.2.2.2.1
  have loop : ∀ d i, i + d = w → ∀ M', FrS (fun b => b = D) M M' → (∀ j, j < i → gI M' D j = -1) → wp F_Machine_clear 105 [.ref mc, .int (nI w), .int (nI i)] [] M' Q := by
    intro d
    induction d with
    | zero =>
      intro i hi M' hf hj
      have e1 : nI w ≤ nI i := nI_le (by omega) (by omega)
      have h' := h.fr hf (hf.gI (fun e => h.ne.2.2.2 e.symm) 0)
      simp only [B_Machine_clear_105, B_Machine_clear_132, e1, if_true, h'.1, true_and]
      exact k M' hf (fun j hj2 => hj j (by omega))
    | succ d ih =>
      intro i hi M' hf hj
      have h' := h.fr hf (hf.gI (fun e => h.ne.2.2.2 e.symm) 0)
      have e1 : ¬ nI w ≤ nI i := nI_ge (by omega) (by omega)
      have e2 : ixW M' D (nI i) := ixW_of h'.2.2.2.1.2.2.2 (by omega) (by omega)
      have e3 : ¬ nI cap ≤ nI i := nI_ge (by omega) (by omega)
      simp only [B_Machine_clear_105, SS, e1, e3, if_false, h'.1, h'.2.1.2.2.2, h'.2.2.2.1.2.2.2, e2, true_and, cl_nI (show i < 2147483648 by omega), nI_i1]
      rw [G_Machine_clear_129]
      refine ih (i + 1) (by omega) _ (hf.trans (FrS.sI rfl)) (fun j hj2 => ?_)
      rw [gI_sI]
      split
      · rfl
      · exact hj j (by omega)
  simp only [B_Machine_clear_103, SS, ← nI_0]
  exact loop w 0 (by omega) M FrS.rfl (fun j hj => by omega)
/-- four new rows for the machine -/
def grow (M : Mm) (mc nc : Nat) : Mm := sR (nw (sR (nw (sR (nw (sR (nw (sI M mc 0 (nI nc)) (.inr (0, nc * 8)) (nc * 8)) mc 1 (some (nxt M))) (.inr (0, nc)) nc) mc 2 (some (nxt M + 1))) (.inr (0, nc)) nc) mc 3 (some (nxt M + 1 + 1))) (.inr (0, nc)) nc) mc 4 (some (nxt M + 1 + 1 + 1))
theorem grow_ok {M : Mm} {mc nc : Nat} (h : sh M mc = some (.inl 3)) (hm : mc < nxt M) (h1 : 64 ≤ nc) (h2 : nc ≤ 12001) : MCS (grow M mc nc) mc (nxt M) (nxt M + 1) (nxt M + 2) (nxt M + 3) nc ∧ FrX (fun b => b = mc ∨ b = nxt M ∨ b = nxt M) (fun b => b = mc) M (grow M mc nc) ∧ nxt (grow M mc nc) = nxt M + 4 ∧ slo (grow M mc nc) = slo M + 11 * nc ∧ gI (grow M mc nc) mc 6 = gI M mc 6 := by
  have a0 : ¬ mc = nxt M := by omega
  have a1 : ¬ mc = nxt M + 1 := by omega
  have a2 : ¬ mc = nxt M + 1 + 1 := by omega
  have a3 : ¬ mc = nxt M + 1 + 1 + 1 := by omega
  have sz : nxt (grow M mc nc) = nxt M + 4 := by simp only [grow, SS, nxt_nw]
  refine ⟨⟨?_, ⟨?_, ?_, ?_, ?_⟩, ?_, ⟨?_, ?_, ?_, ?_⟩, by omega, h1, h2, by rw [sz]; omega, by rw [sz]; omega, by rw [sz]; omega, by rw [sz]; omega, by rw [sz]; omega⟩, ⟨by rw [sz]; omega, ?_, fun b hb => ?_, fun b hb hn => ⟨fun k => ?_, fun k => ?_⟩, fun b hb hn k => ?_⟩, sz, ?_, ?_⟩
  · simp only [grow, SS, sh_nw, nxt_nw, a0, a1, a2, a3, if_false, h]
  · simp [grow, SS, gR_nw, nxt_nw, a0, a1, a2, a3]
  · simp [grow, SS, gR_nw, nxt_nw, a0, a1, a2, a3]
  · simp [grow, SS, gR_nw, nxt_nw, a0, a1, a2, a3]
  · simp [grow, SS, gR_nw, nxt_nw, a0, a1, a2, a3]
  · simp [grow, SS, gI_nw, nxt_nw, a0, a1, a2, a3]
  · simp only [grow, SS, sh_nw, nxt_nw, show ¬ nxt M = nxt M + 1 by omega, show ¬ nxt M = nxt M + 1 + 1 by omega, show ¬ nxt M = nxt M + 1 + 1 + 1 by omega, if_false, if_true, Nat.mul_comm]
  · simp only [grow, SS, sh_nw, nxt_nw, show ¬ nxt M + 1 = nxt M + 1 + 1 by omega, show ¬ nxt M + 1 = nxt M + 1 + 1 + 1 by omega, if_false, if_true]
  · simp only [grow, SS, sh_nw, nxt_nw, show ¬ nxt M + 2 = nxt M + 1 + 1 + 1 by omega, show nxt M + 2 = nxt M + 1 + 1 by omega, if_false, if_true]
  · simp only [grow, SS, sh_nw, nxt_nw, show nxt M + 3 = nxt M + 1 + 1 + 1 by omega, if_true]
  · simp only [grow, slo_sR, slo_nw, slo_sI]; omega
  · simp only [grow, SS, sh_nw, nxt_nw, show ¬ b = nxt M by omega, show ¬ b = nxt M + 1 by omega, show ¬ b = nxt M + 1 + 1 by omega, show ¬ b = nxt M + 1 + 1 + 1 by omega, if_false]
  · have hn' : ¬ b = mc := fun q => hn (Or.inl q)
    simp only [grow, SS, gI_nw, nxt_nw, hn', show ¬ b = nxt M by omega, show ¬ b = nxt M + 1 by omega, show ¬ b = nxt M + 1 + 1 by omega, show ¬ b = nxt M + 1 + 1 + 1 by omega, if_false, false_and]
  · simp only [grow, SS, gJ_nw, nxt_nw, show ¬ b = nxt M by omega, show ¬ b = nxt M + 1 by omega, show ¬ b = nxt M + 1 + 1 by omega, show ¬ b = nxt M + 1 + 1 + 1 by omega, if_false]
  · simp only [grow, SS, gR_nw, nxt_nw, hn, show ¬ b = nxt M by omega, show ¬ b = nxt M + 1 by omega, show ¬ b = nxt M + 1 + 1 by omega, show ¬ b = nxt M + 1 + 1 + 1 by omega, if_false, false_and]
  · simp only [grow, slo_sR, slo_nw, slo_sI]; omega
  · simp [grow, SS, gI_nw, nxt_nw, a0, a1, a2, a3]
/-- clear(w): either there was room, or four new rows come -/
def Mcl (M M' : Mm) (mc A B C D cap A' B' C' D' cap' w : Nat) : Prop := MCS M' mc A' B' C' D' cap' ∧ w ≤ cap' ∧ (∀ j, j < 8 * w → gI M' A' j = -1) ∧ (∀ j, j < w → gI M' D' j = -1) ∧ gI M' mc 5 = 1 ∧ gI M' mc 6 = gI M mc 6 ∧ FrX (fun b => b = mc ∨ b = A ∨ b = D) (fun b => b = mc) M M' ∧
  ((cap' = cap ∧ A' = A ∧ B' = B ∧ C' = C ∧ D' = D ∧ nxt M' = nxt M ∧ slo M' = slo M) ∨ (cap < w ∧ cap' = max w (min (2 * cap) 12001) ∧ A' = nxt M ∧ B' = nxt M + 1 ∧ C' = nxt M + 2 ∧ D' = nxt M + 3 ∧ nxt M' = nxt M + 4 ∧ slo M' = slo M + 11 * cap'))
theorem k_Machine_clear {M : Mm} {mc A B C D cap w : Nat} {Q : Option Value → Mm → Prop} (h : MCS M mc A B C D cap) (hw : w ≤ 12001) (hQ : ∀ A' B' C' D' cap' M', Mcl M M' mc A B C D cap A' B' C' D' cap' w → Q none M') : wp F_Machine_clear 0 [.ref mc, .int (nI w), jk] [] M Q := by
  have hcap := h.2.2.2.2.2.2.1
  have hcap0 := h.2.2.2.2.2.1
  obtain ⟨l0, l1, l2, l3, l4⟩ := h.2.2.2.2.2.2.2
  obtain ⟨n1, n2, n3, n4⟩ := h.ne
  have c1 := nI_leI (show w < 2 ^ 31 by omega) (show cap < 2 ^ 31 by omega)
  by_cases hc : w ≤ cap
  · simp only [B_Machine_clear_0, B_Machine_clear_71, h.1, h.2.2.1, true_and, c1, hc, if_true, ← nI_0, SS]
    refine k_fill_next h hc (fun M1 f1 w1 => ?_)
    have h1 := h.fr f1 (f1.gI (fun e => n1 e.symm) 0)
    refine k_fill_ends h1 hc (fun M2 f2 w2 => ?_)
    have h2 := h1.fr f2 (f2.gI (fun e => n4 e.symm) 0)
    have f3 : FrS (fun b => b = mc ∨ b = A ∨ b = D) M (sI M2 mc 5 1) := ((f1.weaken (fun b hb => Or.inr (Or.inl hb))).trans (f2.weaken (fun b hb => Or.inr (Or.inr hb)))).trans (FrS.sI (Or.inl rfl))
    have nA : ¬ A = mc := n1
    have nD : ¬ D = mc := n4
    refine hQ A B C D cap _ ⟨h.fr f3 ?_, hc, fun j hj => ?_, fun j hj => ?_, ?_, ?_, f3.x.weaken (fun _ _ q => q) (fun _ _ q => q.elim), Or.inl ⟨rfl, rfl, rfl, rfl, rfl, f3.nxt, f3.slo⟩⟩
    · rw [gI_sI, if_neg (by omega), f2.gI (fun e => n4 e.symm), f1.gI (fun e => n1 e.symm)]
    · rw [gI_sI, if_neg (fun q => nA q.1), f2.gI h.2.2.2.2.1.2.2.1]; exact w1 j hj
    · rw [gI_sI, if_neg (fun q => nD q.1)]; exact w2 j hj
    · simp [SS]
    · rw [gI_sI, if_neg (by omega), f2.gI (fun e => n4 e.symm), f1.gI (fun e => n1 e.symm)]
  · have k8 : (8 : Int32) = nI 8 := rfl
    have k2 : (2 : Int32) = nI 2 := rfl
    have kN : (12001 : Int32) = nI 12001 := rfl
    have e1 : nI (2 * cap) = nI 2 * nI cap := (pk_mul 2 cap).symm
    have hm := min_nI (show 2 * cap < 2147483648 by omega) (show 12001 < 2147483648 by omega)
    have hx := max_nI (show w < 2147483648 by omega) (show min (2 * cap) 12001 < 2147483648 by omega)
    have hge : w ≤ max w (min (2 * cap) 12001) ∧ max w (min (2 * cap) 12001) ≤ 12001 ∧ cap < max w (min (2 * cap) 12001) := by omega
    generalize hnc : max w (min (2 * cap) 12001) = nc at hx hge
    have e2 : ¬ nI (nc * 8) < 0 := nI_pos (by omega)
    have e3 : ¬ nI nc < 0 := nI_pos (by omega)
    have e4 : cl (nI (nc * 8)) = nc * 8 := cl_nI (by omega)
    have e5 : cl (nI nc) = nc := cl_nI (by omega)
    have e6 : nc * 8 ≤ 16777216 := by omega
    have e7 : nc ≤ 16777216 := by omega
    have a0 : ¬ mc = nxt M := by omega
    have a1 : ¬ mc = nxt M + 1 := by omega
    have a2 : ¬ mc = nxt M + 1 + 1 := by omega
    have a3 : ¬ mc = nxt M + 1 + 1 + 1 := by omega
    simp only [B_Machine_clear_0, B_Machine_clear_71, SS, h.1, h.2.2.1, true_and, c1, hc, if_false, k8, k2, kN, pk_mul, hm, hx, e2, e3, e4, e5, e6, e7, not_false_eq_true, sh_nw, gI_nw, nxt_nw, a0, a1, a2, a3, and_self, if_true]
    simp only [← nI_0]
    show wp F_Machine_clear 73 [.ref mc, .int (nI w), .int (nI 0)] [] (grow M mc nc) Q
    have g := grow_ok (M := M) (mc := mc) (nc := nc) h.1 l0 (by omega) (by omega)
    obtain ⟨g1, g2, g3, g4, g5⟩ := g
    obtain ⟨m1, m2, m3, m4⟩ := g1.ne
    refine k_fill_next g1 (by omega) (fun M1 f1 w1 => ?_)
    have h1 := g1.fr f1 (f1.gI (fun e => m1 e.symm) 0)
    refine k_fill_ends h1 (by omega) (fun M2 f2 w2 => ?_)
    have h2 := h1.fr f2 (f2.gI (fun e => m4 e.symm) 0)
    have f3 : FrS (fun b => b = mc ∨ b = nxt M ∨ b = nxt M + 3) (grow M mc nc) (sI M2 mc 5 1) := ((f1.weaken (fun b hb => Or.inr (Or.inl hb))).trans (f2.weaken (fun b hb => Or.inr (Or.inr hb)))).trans (FrS.sI (Or.inl rfl))
    refine hQ (nxt M) (nxt M + 1) (nxt M + 2) (nxt M + 3) nc _ ⟨g1.fr f3 ?_, by omega, fun j hj => ?_, fun j hj => ?_, ?_, ?_, ?_, Or.inr ⟨by omega, hnc.symm, rfl, rfl, rfl, rfl, by rw [f3.nxt]; exact g3, by rw [f3.slo]; exact g4⟩⟩
    · rw [gI_sI, if_neg (by omega), f2.gI (fun e => m4 e.symm), f1.gI (fun e => m1 e.symm)]
    · rw [gI_sI, if_neg (fun q => m1 q.1), f2.gI (show ¬ nxt M = nxt M + 3 by omega)]; exact w1 j hj
    · rw [gI_sI, if_neg (fun q => m4 q.1)]; exact w2 j hj
    · simp [SS]
    · rw [gI_sI, if_neg (by omega), f2.gI (fun e => m4 e.symm), f1.gI (fun e => m1 e.symm)]; exact g5
    · exact (g2.trans' f3.x (fun b hb q => by rcases q with q | q | q; exact Or.inl q; omega; omega) (fun b hb q => q.elim)).weaken (fun b hb q => by rcases q with q | q | q; exact Or.inl q; omega; omega) (fun _ _ q => q)
/-- the node behind a node by a letter -/
theorem k_after {M : Mm} {mc A B C D cap n c : Nat} {Q : Option Value → Mm → Prop} (h : MCS M mc A B C D cap) (hn : 8 * n + c < 8 * cap) : wp F_Machine_after 0 [.ref mc, .int (nI n), .int (nI c), jk] [] M Q = Q (some (.int (gI M A (8 * n + c)))) M := by
  have hcap := h.2.2.2.2.2.2.1
  have k8 : (8 : Int32) = nI 8 := rfl
  have i1 : ixI M A (nI (n * 8 + c)) := ixI_of h.2.2.2.1.1 (by omega) (by omega)
  have p0 : ¬ nI (n * 8 + c) < 0 := nI_pos (by omega)
  have p1 : ¬ nI (8 * cap) ≤ nI (n * 8 + c) := nI_ge (by omega) (by omega)
  simp only [B_Machine_after_0, B_Machine_after_30, SS, h.1, h.2.1.1, h.2.2.2.1.1, true_and, k8, pk_mul, nI_add, p0, p1, if_false, i1, cl_nI (show n * 8 + c < 2147483648 by omega)]
  rw [Nat.mul_comm n 8]
/-- what a node's end says -/
theorem k_ruleAt {M : Mm} {mc A B C D cap n : Nat} {Q : Option Value → Mm → Prop} (h : MCS M mc A B C D cap) (hn : n < cap) : wp F_Machine_ruleAt 0 [.ref mc, .int (nI n)] [] M Q = Q (some (.int (gI M D n))) M := by
  have hcap := h.2.2.2.2.2.2.1
  have i1 : ixI M D (nI n) := ixI_of h.2.2.2.1.2.2.2 (by omega) (by omega)
  have p0 : ¬ nI n < 0 := nI_pos (by omega)
  have p1 : ¬ nI cap ≤ nI n := nI_ge (by omega) (by omega)
  simp only [B_Machine_ruleAt_0, B_Machine_ruleAt_23, SS, h.1, h.2.1.2.2.2, h.2.2.2.1.2.2.2, true_and, p0, p1, if_false, i1, cl_nI (show n < 2147483648 by omega)]
