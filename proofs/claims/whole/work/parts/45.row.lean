/-! PAIRS: a PAIR's cell p has its words at p + 1 and p + 3 -/
def PS (M : Mm) (p : Nat) : Prop := sh M p = some (.inl 4) ∧ gR M p 0 = some (p + 1) ∧ gR M p 1 = some (p + 3) ∧ WS M (p + 1) 120 ∧ WS M (p + 3) 120
theorem PS.frx {M M1 : Mm} {S T : Nat → Prop} {r : Nat} (h : PS M r) (hf : FrX S T M M1) (hr : r + 5 ≤ nxt M) (ht : ∀ b, r ≤ b → b < r + 5 → ¬ T b) : PS M1 r := ⟨(hf.2.2.1 _ (by omega)).trans h.1, (hf.2.2.2.2 _ (by omega) (ht _ (by omega) (by omega)) _).trans h.2.1, (hf.2.2.2.2 _ (by omega) (ht _ (by omega) (by omega)) _).trans h.2.2.1, h.2.2.2.1.frx hf (by omega) (ht _ (by omega) (by omega)), h.2.2.2.2.frx hf (by omega) (ht _ (by omega) (by omega))⟩
theorem k_Pair_init {M : Mm} {p : Nat} {Q : Option Value → Mm → Prop} (h : sh M p = some (.inl 4)) (hp : nxt M = p + 1) (hQ : ∀ M', FrX (fun _ => False) (fun b => b = p) M M' → PS M' p → nxt M' = p + 5 → slo M' = slo M + 244 → Q none M') : wp F_Pair_init 0 [.ref p] [] M Q := by
  have k120 : (120 : Int32) = nI 120 := rfl
  have a1 : ¬ p = p + 1 := by omega
  have a2 : ¬ p = p + 1 + 1 := by omega
  have a3 : ¬ p = p + 1 + 1 + 1 := by omega
  have a4 : ¬ p = p + 1 + 1 + 1 + 1 := by omega
  simp only [B_Pair_init_0, k120]
  rw [c_Word_init (by simp only [sh_nw, if_true]) (by simp only [nxt_nw]; omega) (by omega)]
  simp only [Option.toList_none, List.nil_append, B_Pair_init_0, SS, sh_nw, nxt_nw, hp, a1, a2, if_false, h, true_and, k120]
  rw [c_Word_init (by simp only [SS, sh_nw, nxt_nw, hp, if_true]) (by simp only [SS, nxt_nw]; omega) (by omega)]
  simp only [Option.toList_none, List.nil_append, B_Pair_init_0, SS, sh_nw, nxt_nw, hp, a1, a2, a3, show ¬ p = p + 1 + 1 + 1 + 1 by omega, if_false, h, true_and]
  refine hQ _ ⟨?_, ?_, fun b hb => ?_, fun b hb _ => ⟨fun k => ?_, fun k => ?_⟩, fun b hb hn k => ?_⟩ ⟨?_, ?_, ?_, ⟨?_, ?_, ?_⟩, ⟨?_, ?_, ?_⟩⟩ ?_ ?_
  · simp only [SS, nxt_nw, hp]; omega
  · simp only [slo_sR, slo_nw]; omega
  · have : b < p + 1 := by omega
    simp only [SS, sh_nw, nxt_nw, hp, show ¬ b = p + 1 by omega, show ¬ b = p + 1 + 1 by omega, show ¬ b = p + 1 + 1 + 1 by omega, show ¬ b = p + 1 + 1 + 1 + 1 by omega, if_false]
  · simp only [SS, gI_nw, nxt_nw, hp, show ¬ b = p + 1 by omega, show ¬ b = p + 1 + 1 by omega, show ¬ b = p + 1 + 1 + 1 by omega, show ¬ b = p + 1 + 1 + 1 + 1 by omega, if_false]
  · simp only [SS, gJ_nw, nxt_nw, hp, show ¬ b = p + 1 by omega, show ¬ b = p + 1 + 1 by omega, show ¬ b = p + 1 + 1 + 1 by omega, show ¬ b = p + 1 + 1 + 1 + 1 by omega, if_false]
  · simp only [SS, gR_nw, nxt_nw, hp, hn, show ¬ b = p + 1 by omega, show ¬ b = p + 1 + 1 by omega, show ¬ b = p + 1 + 1 + 1 by omega, show ¬ b = p + 1 + 1 + 1 + 1 by omega, if_false, false_and]
  all_goals simp [SS, sh_nw, gR_nw, nxt_nw, slo_nw, slo_sR, hp, h, a2, a3, a4]
  all_goals try omega
/-- the row of PAIRS: the cell z, its ring z + 1; PAIRS lie from lo on, apart -/
def RWS (M : Mm) (z lo : Nat) : Prop := sh M z = some (.inl 7) ∧ gR M z 0 = some (z + 1) ∧ sh M (z + 1) = some (.inr (12, 1000)) ∧ z + 2 ≤ nxt M ∧
  (∀ i p, i < 1000 → gR M (z + 1) i = some p → PS M p ∧ lo ≤ p ∧ p + 5 ≤ nxt M) ∧ ∀ i j p q, i < 1000 → j < 1000 → i ≠ j → gR M (z + 1) i = some p → gR M (z + 1) j = some q → p + 5 ≤ q ∨ q + 5 ≤ p
abbrev Pr : Type := List Nat × List Nat
abbrev dP : Pr := ([], [])
def PV (M : Mm) (p : Nat) (u : Pr) : Prop := WV M (p + 1) u.1 ∧ WV M (p + 3) u.2 ∧ u.1.length ≤ 120 ∧ u.2.length ≤ 120
def RWV (M : Mm) (z : Nat) (f : Nat) (row : List Pr) : Prop := gI M z 1 = nI f ∧ f < 1000 ∧ gI M z 2 = nI row.length ∧ row.length ≤ 1000 ∧ ∀ k, k < row.length → ∃ p, gR M (z + 1) ((f + k) % 1000) = some p ∧ PV M p (row.getD k dP)
/-- how many places of the ring are filled -/
def rgN (M : Mm) (z : Nat) : Nat := (List.range 1000).countP (fun i => (gR M (z + 1) i).isSome)
theorem rgN_sI {M : Mm} {a j z : Nat} {x : Int32} : rgN (sI M a j x) z = rgN M z := by
  unfold rgN
  simp only [SS]
theorem rem1000 {a : Nat} (h : a < 2147483648) : nI a - nI a / 1000 * 1000 = nI (a % 1000) := pk_rem (d := 1000) h (by omega) (by omega)
theorem k_Row_clear {M : Mm} {z lo : Nat} {Q : Option Value → Mm → Prop} (h : RWS M z lo) : wp F_Row_clear 0 [.ref z] [] M Q = Q none (sI (sI M z 1 0) z 2 0) := by
  simp only [B_Row_clear_0, SS, h.1, true_and]
theorem k_Row_at {M : Mm} {z lo f : Nat} {row : List Pr} {i : Int32} {Q : Option Value → Mm → Prop} (h : RWS M z lo) (v : RWV M z f row)
    (h1 : (i < 0 ∨ nI row.length ≤ i) → Q (some .null) M) (h2 : ∀ k p, k < row.length → i = nI k → gR M (z + 1) ((f + k) % 1000) = some p → PV M p (row.getD k dP) → Q (some (.ref p)) M) : wp F_Row_at 0 [.ref z, .int i] [] M Q := by
  have hl := v.2.2.2.1
  have hf := v.2.1
  rcases pk_ix i (n := row.length) (by omega) with hi | hi | ⟨j, hj, rfl⟩
  · simp only [B_Row_at_0, B_Row_at_30, B_Row_at_31, hi, if_true]
    exact h1 (Or.inl hi)
  · simp only [B_Row_at_0, B_Row_at_30, B_Row_at_31, h.1, v.2.2.1, hi, big_pos hi (by omega), if_true, if_false, true_and]
    exact h1 (Or.inr hi)
  · have e1 : ¬ nI j < 0 := nI_pos (by omega)
    have e2 : ¬ nI row.length ≤ nI j := nI_ge hj (by omega)
    obtain ⟨p, hp, pv⟩ := v.2.2.2.2 j hj
    have e3 : ixR M (z + 1) (nI ((f + j) % 1000)) := ixR_of h.2.2.1 (by omega) (Nat.mod_lt _ (by omega)) (by omega)
    have e4 : cl (nI ((f + j) % 1000)) = (f + j) % 1000 := cl_nI (by have := Nat.mod_lt (f + j) (show 1000 > 0 by omega); omega)
    simp only [B_Row_at_0, B_Row_at_31, SS, h.1, h.2.1, v.1, v.2.2.1, e1, e2, if_false, true_and, nI_add, rem1000 (show f + j < 2147483648 by omega), e3, e4, hp, show ¬ (1000 : Int32) = 0 by decide, not_false_eq_true]
    exact h2 j p hj rfl hp pv
theorem k_takeFirst {M : Mm} {z lo f : Nat} {u : Pr} {row : List Pr} {Q : Option Value → Mm → Prop} (h : RWS M z lo) (v : RWV M z f (u :: row))
    (hQ : ∀ p, gR M (z + 1) f = some p → PV M p u → ∀ M', FrS (fun b => b = z) M M' → RWV M' z ((f + 1) % 1000) row → Q (some (.ref p)) M') : wp F_Row_takeFirst 0 [.ref z, jk] [] M Q := by
  have hl := v.2.2.2.1
  have hf := v.2.1
  simp only [B_Row_takeFirst_0, h.1, true_and]
  refine k_Row_at h v (fun q => ?_) ?_
  · exfalso
    rcases q with q | q
    · exact absurd q (by decide)
    · have := (nI_leI (show (u :: row).length < 2 ^ 31 by omega) (show 0 < 2 ^ 31 by omega)).mp (by rw [nI_0]; exact q)
      simp at this
  · intro k p hk e hp pv
    have ek : k = 0 := by
      have := (nI_eq (show 0 < 2 ^ 31 by omega) (show k < 2 ^ 31 by omega)).mp (by rw [nI_0]; exact e)
      omega
    subst ek
    have hp : gR M (z + 1) f = some p := by rw [← hp, Nat.add_zero f, Nat.mod_eq_of_lt hf]
    have e5 : nI (u :: row).length - 1 = nI row.length := nI_pred _
    simp only [SS, List.cons_append, List.nil_append, B_Row_takeFirst_0, B_Row_takeFirst_34, h.1, v.1, v.2.2.1, true_and, nI_i1, rem1000 (show f + 1 < 2147483648 by omega), show ¬ (1000 : Int32) = 0 by decide, not_false_eq_true, show ¬ (2 : Nat) = 1 by omega, and_false, if_false, e5]
    have f9 : FrS (fun b => b = z) M (sI (sI M z 1 (nI ((f + 1) % 1000))) z 2 (nI row.length)) := (FrS.sI (S := fun b => b = z) rfl).trans (FrS.sI rfl)
    refine hQ p hp pv _ f9 ⟨by simp [SS], Nat.mod_lt _ (by omega), by simp [SS], by simp at hl; omega, fun k hk => ?_⟩
    obtain ⟨p2, hp2, pv2⟩ := v.2.2.2.2 (k + 1) (by simp; omega)
    have hne : p2 ≠ z := fun q => by
      have := (h.2.2.2.2.1 _ p2 (Nat.mod_lt _ (by omega)) hp2).1.1
      rw [q, h.1] at this
      cases this
    have sp := (h.2.2.2.2.1 _ p2 (Nat.mod_lt _ (by omega)) hp2).1
    have nz : ∀ b, sh M b ≠ some (.inl 7) → b ≠ z := fun b hb q => hb (q ▸ h.1)
    have z1 : p2 + 1 ≠ z := nz _ (by rw [sp.2.2.2.1.1]; simp)
    have z2 : p2 + 1 + 1 ≠ z := nz _ (by rw [sp.2.2.2.1.2.2]; simp)
    have z3 : p2 + 3 ≠ z := nz _ (by rw [sp.2.2.2.2.1]; simp)
    have z4 : p2 + 3 + 1 ≠ z := nz _ (by rw [sp.2.2.2.2.2.2]; simp)
    refine ⟨p2, ?_, pv2.1.fr f9 z1 z2, pv2.2.1.fr f9 z3 z4, pv2.2.2⟩
    rw [f9.gR, ← hp2]
    congr 1
    omega

theorem countP_up {p q : Nat → Bool} {j n : Nat} (hj : j < n) (h1 : p j = false) (h2 : q j = true) (h : ∀ i, i < n → i ≠ j → q i = p i) : (List.range n).countP q = (List.range n).countP p + 1 := by
  induction n with
  | zero => omega
  | succ n ih =>
    rw [List.range_succ, List.countP_append, List.countP_append, List.countP_singleton, List.countP_singleton]
    by_cases e : j = n
    · subst e
      have : (List.range j).countP q = (List.range j).countP p := by
        refine List.countP_congr (fun i hi => ?_)
        have hi := List.mem_range.mp hi
        rw [h i (by omega) (by omega)]
      rw [this, h1, h2]
      simp
    · rw [ih (by omega) (fun i hi hne => h i (by omega) hne), h n (by omega) (fun q => e q.symm)]
      omega
/-- behind(): what it leaves, with the place for a PAIR to be written -/
def Bhd (M M' : Mm) (z lo f n p d : Nat) : Prop := RWS M' z lo ∧ gR M' (z + 1) ((f + n) % 1000) = some p ∧ gI M' z 1 = nI f ∧ gI M' z 2 = nI (n + 1) ∧ (∀ k, k < n → gR M' (z + 1) ((f + k) % 1000) = gR M (z + 1) ((f + k) % 1000)) ∧ FrX (fun b => b = z) (fun b => b = z + 1) M M' ∧
  nxt M' = nxt M + 5 * d ∧ slo M' = slo M + 246 * d ∧ rgN M' z = rgN M z + d ∧ (∀ k q, k < n → gR M (z + 1) ((f + k) % 1000) = some q → p + 5 ≤ q ∨ q + 5 ≤ p) ∧ PS M' p ∧ lo ≤ p ∧ p + 5 ≤ nxt M'
theorem mod_ne {f k n : Nat} (hk : k < n) (hn : n < 1000) : (f + k) % 1000 ≠ (f + n) % 1000 := by omega
theorem k_behind {M : Mm} {z lo f : Nat} {row : List Pr} {Q : Option Value → Mm → Prop} (h : RWS M z lo) (v : RWV M z f row) (hlo : lo ≤ nxt M)
    (h1 : row.length = 1000 → Q (some .null) M) (h2 : row.length < 1000 → ∀ p d M', Bhd M M' z lo f row.length p d → Q (some (.ref p)) M') : wp F_Row_behind 0 [.ref z, jk] [] M Q := by
  have hl := v.2.2.2.1
  have hf := v.2.1
  have k1000 : (1000 : Int32) = nI 1000 := rfl
  have c1 := nI_ltI (show row.length < 2 ^ 31 by omega) (show 1000 < 2 ^ 31 by omega)
  by_cases hfull : row.length = 1000
  · have c2 : ¬ row.length < 1000 := by omega
    simp only [B_Row_behind_0, h.1, v.2.2.1, true_and, k1000, c1, c2, if_false]
    exact h1 hfull
  have c2 : row.length < 1000 := by omega
  have hm : (f + row.length) % 1000 < 1000 := Nat.mod_lt _ (by omega)
  generalize hpl : (f + row.length) % 1000 = pl at hm
  have e3 : ∀ N, sh N (z + 1) = some (.inr (12, 1000)) → ixR N (z + 1) (nI pl) := fun N hN => ixR_of hN (by omega) hm (by omega)
  have e4 : cl (nI pl) = pl := cl_nI (by omega)
  have e5 : nI (f + row.length) - nI (f + row.length) / nI 1000 * nI 1000 = nI pl := by rw [← hpl]; exact rem1000 (by omega)
  have e6 : ¬ nI 1000 = 0 := by decide
  have apart : ∀ k q p, k < row.length → gR M (z + 1) ((f + k) % 1000) = some q → gR M (z + 1) pl = some p → p + 5 ≤ q ∨ q + 5 ≤ p := fun k q p hk hq hp => h.2.2.2.2.2 pl ((f + k) % 1000) p q hm (Nat.mod_lt _ (by omega)) (by have := mod_ne (f := f) hk c2; omega) hp hq
  cases hr : gR M (z + 1) pl with
  | some p =>
    simp only [B_Row_behind_0, B_Row_behind_12, B_Row_behind_48, SS, h.1, h.2.1, v.1, v.2.2.1, true_and, k1000, c1, c2, if_true, nI_add, e5, e6, e3 M h.2.2.1, e4, hr, not_false_eq_true, nI_i1]
    have i1 : ixR (sI M z 2 (nI (row.length + 1))) (z + 1) (nI pl) := e3 _ h.2.2.1
    simp only [i1, true_and]
    obtain ⟨g1, g2, g3⟩ := h.2.2.2.2.1 pl p hm hr
    have fx : FrX (fun b => b = z) (fun b => b = z + 1) M (sI M z 2 (nI (row.length + 1))) := (FrS.sI (S := fun b => b = z) (j := 2) (x := nI (row.length + 1)) rfl).x.weaken (fun _ _ q => q) (fun _ _ q => q.elim)
    refine h2 c2 p 0 _ ⟨h, by rw [hpl]; exact hr, ?_, ?_, fun k _ => by rw [gR_sI], fx, by simp only [SS, Nat.mul_zero, Nat.add_zero], by simp only [slo_sI, Nat.mul_zero, Nat.add_zero], by rw [rgN_sI, Nat.add_zero], fun k q hk hq => apart k q p hk hq hr, g1, g2, g3⟩
    · simp [SS, v.1]
    · simp [SS]
  | none =>
    have hz2 := h.2.2.2.1
    simp only [B_Row_behind_0, B_Row_behind_12, SS, h.1, h.2.1, v.1, v.2.2.1, true_and, k1000, c1, c2, if_true, nI_add, e5, e6, e3 M h.2.2.1, e4, hr, not_false_eq_true]
    refine k_Pair_init (by simp only [sh_nw, if_true]) (by simp only [nxt_nw]) ?_
    intro M1 fx ps n1 s1
    have q1 : nxt (nw M (.inl 4) 2) = nxt M + 1 := rfl
    have shz : sh M1 z = some (.inl 7) := by rw [fx.2.2.1 z (by omega), sh_nw, if_neg (by omega)]; exact h.1
    have shz1 : sh M1 (z + 1) = some (.inr (12, 1000)) := by rw [fx.2.2.1 (z + 1) (by omega), sh_nw, if_neg (by omega)]; exact h.2.2.1
    have gz : ∀ k, gI M1 z k = gI M z k := fun k => by rw [(fx.2.2.2.1 z (by omega) (fun q => q)).1 k, gI_nw, if_neg (by omega)]
    have rz : gR M1 z 0 = some (z + 1) := by rw [fx.2.2.2.2 z (by omega) (by omega), gR_nw, if_neg (by omega)]; exact h.2.1
    have rz1 : ∀ k, gR M1 (z + 1) k = gR M (z + 1) k := fun k => by rw [fx.2.2.2.2 (z + 1) (by omega) (by omega), gR_nw, if_neg (by omega)]
    have w2 : (∃ kd n c, sh M1 (z + 1) = some (.inr (kd, n)) ∧ sh M1 (nxt M) = some (.inl c) ∧ lk aO 0 kd = some c ∧ inb (nI pl) n = true) := ⟨12, 1000, 4, shz1, ps.1, rfl, inb_nI hm (by omega)⟩
    simp only [SS, Option.toList_none, List.nil_append, B_Row_behind_12, w2, true_and, e4]
    have i1 : ixR (sI (sR M1 (z + 1) pl (some (nxt M))) z 2 (nI (row.length + 1))) (z + 1) (nI pl) := e3 _ shz1
    have n2 : ¬ z = z + 1 := by omega
    simp only [B_Row_behind_48, SS, shz, rz, gz, v.2.2.1, nI_i1, i1, n2, e4, true_and, false_and, if_false, and_self, if_true]
    have fx2 : FrX (fun b => b = z) (fun b => b = z + 1) M M1 := ⟨by omega, by rw [s1, slo_nw]; omega, fun b hb => by rw [fx.2.2.1 b (by omega), sh_nw, if_neg (by omega)], fun b hb _ => ⟨fun k => by rw [(fx.2.2.2.1 b (by omega) (fun q => q)).1 k, gI_nw, if_neg (by omega)], fun k => by rw [(fx.2.2.2.1 b (by omega) (fun q => q)).2 k, gJ_nw, if_neg (by omega)]⟩, fun b hb hn k => by rw [fx.2.2.2.2 b (by omega) (by omega), gR_nw, if_neg (by omega)]⟩
    have fx3 : FrX (fun b => b = z) (fun b => b = z + 1) M (sI (sR M1 (z + 1) pl (some (nxt M))) z 2 (nI (row.length + 1))) := ⟨fx2.1, fx2.2.1, fx2.2.2.1, fun b hb hn => ⟨fun k => by rw [gI_sI, if_neg (fun q => hn q.1), gI_sR]; exact (fx2.2.2.2.1 b hb hn).1 k, (fx2.2.2.2.1 b hb hn).2⟩, fun b hb hn k => by rw [gR_sI, gR_sR, if_neg (fun q => hn q.1)]; exact fx2.2.2.2.2 b hb hn k⟩
    have psN : PS (sI (sR M1 (z + 1) pl (some (nxt M))) z 2 (nI (row.length + 1))) (nxt M) := by
      refine ⟨ps.1, ?_, ?_, ⟨ps.2.2.2.1.1, ?_, ps.2.2.2.1.2.2⟩, ⟨ps.2.2.2.2.1, ?_, ps.2.2.2.2.2.2⟩⟩
      · rw [gR_sI, gR_sR, if_neg (by omega)]; exact ps.2.1
      · rw [gR_sI, gR_sR, if_neg (by omega)]; exact ps.2.2.1
      · rw [gR_sI, gR_sR, if_neg (by omega)]; exact ps.2.2.2.1.2.1
      · rw [gR_sI, gR_sR, if_neg (by omega)]; exact ps.2.2.2.2.2.1
    have n5 : nxt (sI (sR M1 (z + 1) pl (some (nxt M))) z 2 (nI (row.length + 1))) = nxt M + 5 := n1
    have rg : ∀ i, gR (sI (sR M1 (z + 1) pl (some (nxt M))) z 2 (nI (row.length + 1))) (z + 1) i = if i = pl then some (nxt M) else gR M (z + 1) i := fun i => by
      rw [gR_sI, gR_sR]
      by_cases e : i = pl
      · rw [if_pos ⟨rfl, e⟩, if_pos e]
      · rw [if_neg (fun q => e q.2), if_neg e, rz1]
    have rws : RWS (sI (sR M1 (z + 1) pl (some (nxt M))) z 2 (nI (row.length + 1))) z lo := by
      refine ⟨shz, ?_, shz1, by rw [n5]; omega, fun i p hi hp => ?_, fun i j p q hi hj hne hp hq => ?_⟩
      · rw [gR_sI, gR_sR, if_neg (by omega)]; exact rz
      · rw [rg] at hp
        by_cases e : i = pl
        · rw [if_pos e] at hp
          cases hp
          exact ⟨psN, hlo, Nat.le_of_eq n5.symm⟩
        · rw [if_neg e] at hp
          obtain ⟨a1, a2, a3⟩ := h.2.2.2.2.1 i p hi hp
          exact ⟨a1.frx fx3 a3 (fun b b1 b2 q => by
            have t : ∀ c, sh M c ≠ some (.inr (12, 1000)) → c ≠ z + 1 := fun c hc q => hc (q ▸ h.2.2.1)
            have t0 := t p (by rw [a1.1]; simp)
            have t1 := t (p + 1) (by rw [a1.2.2.2.1.1]; simp)
            have t2 := t (p + 1 + 1) (by rw [a1.2.2.2.1.2.2]; simp)
            have t3 := t (p + 3) (by rw [a1.2.2.2.2.1]; simp)
            have t4 := t (p + 3 + 1) (by rw [a1.2.2.2.2.2.2]; simp)
            omega), a2, by rw [n5]; omega⟩
      · rw [rg] at hp hq
        by_cases e : i = pl
        · rw [if_pos e] at hp
          cases hp
          rw [if_neg (fun z => hne (e.trans z.symm))] at hq
          exact Or.inr (h.2.2.2.2.1 j q hj hq).2.2
        · rw [if_neg e] at hp
          by_cases e2 : j = pl
          · rw [if_pos e2] at hq
            cases hq
            exact Or.inl (h.2.2.2.2.1 i p hi hp).2.2
          · rw [if_neg e2] at hq
            exact h.2.2.2.2.2 i j p q hi hj hne hp hq
    refine h2 c2 (nxt M) 1 _ ⟨rws, by rw [hpl, rg, if_pos rfl], ?_, ?_, fun k hk => ?_, fx3, n5, ?_, ?_, fun k q hk hq => Or.inr (h.2.2.2.2.1 _ q (Nat.mod_lt _ (by omega)) hq).2.2, psN, hlo, Nat.le_of_eq n5.symm⟩
    · simp only [SS, show ¬ (1 : Nat) = 2 by omega, and_false, if_false, gz]; exact v.1
    · simp [SS]
    · rw [rg, if_neg (by have := mod_ne (f := f) hk c2; omega)]
    · rw [slo_sI, slo_sR, s1, slo_nw]
    · unfold rgN
      refine countP_up hm ?_ ?_ (fun i hi hne => ?_)
      · rw [hr]; rfl
      · rw [rg, if_pos rfl]; rfl
      · rw [rg, if_neg hne]
