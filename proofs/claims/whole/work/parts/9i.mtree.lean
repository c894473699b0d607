/-! the reference's tree of LEFTS -/
def TrMm (M : Mm) (m N : Nat) (nx : Nat → Nat → Option Nat) (k : Nat) : Prop := (∀ n c, n < N → c < k → gI M (m + 22) (8 * n + c) = oI (nx n c)) ∧ (∀ n c, N ≤ n → nx n c = none) ∧ ∀ n c, k ≤ c → nx n c = none
abbrev trC (m b : Nat) : Prop := b = m ∨ b = m + 22 ∨ b = m + 23 ∨ b = m + 25 ∨ b = m + 26
def ndN (M M' : Mm) (m k N : Nat) : Prop := FrS (trC m) M M' ∧ (∀ j, j ≠ 51 → gI M' m j = gI M m j) ∧ gI M' m 51 = nI (N + 1) ∧ (∀ c, c < k → gI M' (m + 22) (8 * N + c) = -1) ∧ (∀ j, j < 8 * N → gI M' (m + 22) j = gI M (m + 22) j) ∧ gI M' (m + 25) N = 0 ∧ gI M' (m + 26) N = 0 ∧ (∀ j, j ≠ N → gI M' (m + 25) j = gI M (m + 25) j) ∧ ∀ j, j ≠ N → gI M' (m + 26) j = gI M (m + 26) j
section MC
variable {M : Mm} {m : Nat} {Q : Option Value → Mm → Prop}
theorem k_node {N k : Nat} (hS : MdS M m) (h11 : gI M m 11 = nI k) (hk : k ≤ 8) (h51 : gI M m 51 = nI N) (hN : N < 12001) (hQ : ∀ M', ndN M M' m k N → Q (some (.int (nI N))) M') : wp F_Md_node 0 [.ref m, jk] [] M Q := by
  have c8 : (8 : Int32) = nI 8 := rfl
  have loop : ∀ d i M', i + d = k → FrS (fun b => b = m + 22) M M' → (∀ c, c < i → gI M' (m + 22) (8 * N + c) = -1) → (∀ j, j < 8 * N → gI M' (m + 22) j = gI M (m + 22) j) → wp F_Md_node 2 [.ref m, .int (nI i)] [] M' Q := by
    intro d
    induction d with
    | zero =>
      intro i M' hi F' A' O'
      have S' := hS.fr F'
      have e1 : nI k ≤ nI i := nI_le (by omega) (by omega)
      have g11 : gI M' m 11 = nI k := (F'.gI (by omega) _).trans h11
      have g51 : gI M' m 51 = nI N := (F'.gI (by omega) _).trans h51
      have bs : ∀ v K, bsW M' (m + 25) (nI N) v K = K (sI M' (m + 25) N (vp_nar .boolean v)) := fun v K => bsW_z S'.isEnd.2 (by omega) (by omega)
      have z0 : vp_nar .boolean 0 = 0 := by decide
      have x1 : ixW (sI M' (m + 25) N 0) (m + 23) (nI N) := ixW_of S'.back.2 (by omega) (by omega)
      have x2 : ixW (sI (sI M' (m + 25) N 0) (m + 23) N 0) (m + 26) (nI N) := ixW_of S'.come.2 (by omega) (by omega)
      have cln := cl_nI (show N < 2147483648 by omega)
      have a1 : ¬ m = m + 25 := by omega
      have a2 : ¬ m = m + 23 := by omega
      have a3 : ¬ m = m + 26 := by omega
      simp only [B_Md_node_2, B_Md_node_31, SS, S'.1, S'.isEnd.1, S'.back.1, S'.come.1, g11, g51, e1, if_true, if_false, true_and, bs, z0, x1, x2, cln, a1, a2, a3, false_and, and_self, nI_i1, nI_pred]
      have F4 : FrS (trC m) M' (sI (sI (sI (sI M' (m + 25) N 0) (m + 23) N 0) (m + 26) N 0) m 51 (nI (N + 1))) := (((FrS.sI (Or.inr (Or.inr (Or.inr (Or.inl rfl))))).trans (FrS.sI (Or.inr (Or.inr (Or.inl rfl))))).trans (FrS.sI (Or.inr (Or.inr (Or.inr (Or.inr rfl)))))).trans (FrS.sI (Or.inl rfl))
      refine hQ _ ⟨(F'.weaken (fun b q => Or.inr (Or.inl q))).trans F4, fun j hj => ?_, ?_, fun c hc => ?_, fun j hj => ?_, ?_, ?_, fun j hj => ?_, fun j hj => ?_⟩
      · rw [gI_sI, if_neg (by omega), gI_sI, if_neg (by omega), gI_sI, if_neg (by omega), gI_sI, if_neg (by omega)]
        exact F'.gI (by omega) j
      · rw [gI_sI, if_pos ⟨rfl, rfl⟩]
      · rw [gI_sI, if_neg (by omega), gI_sI, if_neg (by omega), gI_sI, if_neg (by omega), gI_sI, if_neg (by omega)]
        exact A' c (by omega)
      · rw [gI_sI, if_neg (by omega), gI_sI, if_neg (by omega), gI_sI, if_neg (by omega), gI_sI, if_neg (by omega)]
        exact O' j hj
      · rw [gI_sI, if_neg (by omega), gI_sI, if_neg (by omega), gI_sI, if_neg (by omega), gI_sI, if_pos ⟨rfl, rfl⟩]
      · rw [gI_sI, if_neg (by omega), gI_sI, if_pos ⟨rfl, rfl⟩]
      · rw [gI_sI, if_neg (by omega), gI_sI, if_neg (by omega), gI_sI, if_neg (by omega), gI_sI, if_neg (by omega)]
        exact F'.gI (by omega) j
      · rw [gI_sI, if_neg (by omega), gI_sI, if_neg (by omega), gI_sI, if_neg (by omega), gI_sI, if_neg (by omega)]
        exact F'.gI (by omega) j
    | succ d ih =>
      intro i M' hi F' A' O'
      have S' := hS.fr F'
      have e1 : ¬ nI k ≤ nI i := nI_ge (by omega) (by omega)
      have g11 : gI M' m 11 = nI k := (F'.gI (by omega) _).trans h11
      have g51 : gI M' m 51 = nI N := (F'.gI (by omega) _).trans h51
      have x1 : ixW M' (m + 22) (nI (8 * N + i)) := ixW_of S'.go.2 (by omega) (by omega)
      simp only [B_Md_node_2, SS, S'.1, S'.go.1, g11, g51, e1, if_false, true_and, c8, pk_mul, nI_add, x1, cl_nI (show 8 * N + i < 2147483648 by omega), nI_i1]
      rw [G_Md_node_28]
      refine ih (i + 1) _ (by omega) (F'.trans (FrS.sI rfl)) (fun c hc => ?_) (fun j hj => ?_)
      · rw [gI_sI]
        by_cases z : c = i
        · rw [if_pos ⟨rfl, by omega⟩]
        · rw [if_neg (fun q => by omega)]; exact A' c (by omega)
      · rw [gI_sI, if_neg (fun q => by omega)]; exact O' j hj
  simp only [B_Md_node_0, SS]
  exact loop k 0 M (by omega) FrS.rfl (fun c hc => by omega) (fun _ _ => rfl)
end MC
