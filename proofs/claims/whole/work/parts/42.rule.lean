/-! RULES: a RULE's cell r has its words at r + 1 and r + 3 -/
abbrev Ru : Type := List Nat × List Nat × Bool
def RS (M : Mm) (r : Nat) : Prop := sh M r = some (.inl 8) ∧ gR M r 0 = some (r + 1) ∧ gR M r 1 = some (r + 3) ∧ WS M (r + 1) 60 ∧ WS M (r + 3) 60
/-- a RULE's words are of at most 60 letters -/
def RV (M : Mm) (r : Nat) (u : Ru) : Prop := WV M (r + 1) u.1 ∧ WV M (r + 3) u.2.1 ∧ gI M r 2 = bI u.2.2 ∧ u.1.length ≤ 60 ∧ u.2.1.length ≤ 60
theorem RS.fr {M M1 : Mm} {S : Nat → Prop} {r : Nat} (h : RS M r) (hf : FrS S M M1) : RS M1 r := ⟨(hf.sh _).trans h.1, (hf.gR _ _).trans h.2.1, (hf.gR _ _).trans h.2.2.1, h.2.2.2.1.fr hf, h.2.2.2.2.fr hf⟩
theorem RV.fr {M M1 : Mm} {S : Nat → Prop} {r : Nat} {u : Ru} (h : RV M r u) (hf : FrS S M M1) (hs : ∀ b, r ≤ b → b < r + 5 → ¬ S b) : RV M1 r u := ⟨h.1.fr hf (hs _ (by omega) (by omega)) (hs _ (by omega) (by omega)), h.2.1.fr hf (hs _ (by omega) (by omega)) (hs _ (by omega) (by omega)), (hf.gI (hs _ (by omega) (by omega)) _).trans h.2.2.1, h.2.2.2⟩
theorem min_nI {a b : Nat} (ha : a < 2147483648) (hb : b < 2147483648) : (if nI b < nI a then nI b else nI a) = nI (min a b) := by
  simp only [nI_ltI (show b < 2 ^ 31 by omega) (show a < 2 ^ 31 by omega)]
  split
  · rw [Nat.min_eq_right (by omega)]
  · rw [Nat.min_eq_left (by omega)]
theorem max_nI {a b : Nat} (ha : a < 2147483648) (hb : b < 2147483648) : (if nI a < nI b then nI b else nI a) = nI (max a b) := by
  simp only [nI_ltI (show a < 2 ^ 31 by omega) (show b < 2 ^ 31 by omega)]
  split
  · rw [Nat.max_eq_right (by omega)]
  · rw [Nat.max_eq_left (by omega)]
theorem k_mostShared {M : Mm} {r r2 : Nat} {u u2 : Ru} {Q : Option Value → Mm → Prop} (h : RS M r) (h2 : RS M r2) (v : RV M r u) (v2 : RV M r2 u2) : wp F_Rule_mostShared 0 [.ref r, .ref r2] [] M Q = Q (some (.int (nI (min u.1.length u2.1.length) - 1))) M := by
  simp only [B_Rule_mostShared_0, SS, h.1, h.2.1, h.2.2.2.1.1, h2.1, h2.2.1, h2.2.2.2.1.1, v.1.1, v2.1.1, true_and, min_nI (show u.1.length < 2147483648 by have := v.2.2.2.1; omega) (show u2.1.length < 2147483648 by have := v2.2.2.2.1; omega)]
theorem k_overlaps {M : Mm} {r r2 n : Nat} {u u2 : Ru} {Q : Option Value → Mm → Prop} (h : RS M r) (h2 : RS M r2) (v : RV M r u) (v2 : RV M r2 u2) (hn : n ≤ u.1.length) (hn2 : n ≤ u2.1.length) : wp F_Rule_overlaps 0 [.ref r, .ref r2, .int (nI n)] [] M Q = Q (some (.int (bI (mat u.1 (u.1.length - n) u2.1 n)))) M := by
  simp only [B_Rule_overlaps_0, SS, h.1, h.2.1, h.2.2.2.1.1, h2.1, h2.2.1, v.1.1, true_and, pk_sub hn]
  rw [k_Word_matches h.2.2.2.1 h2.2.2.2.1 v.1 v2.1 v.2.2.2.1 v2.2.2.2.1 (by omega) (by omega) (by omega) hn2]
  simp only [SS, List.cons_append, List.nil_append, B_Rule_overlaps_0]
  cases mat u.1 (u.1.length - n) u2.1 n <;> simp [bI]
theorem k_spell {M : Mm} {r r2 n p q : Nat} {u u2 : Ru} {Q : Option Value → Mm → Prop} (h : RS M r) (h2 : RS M r2) (v : RV M r u) (v2 : RV M r2 u2) (hp : WS M p 120) (hq : WS M q 120) (hn : n ≤ u.1.length) (hn2 : n ≤ u2.1.length)
    (hpq : p ≠ q) (d1 : ∀ b, r ≤ b → b < r + 5 → ¬ wS p b ∧ ¬ wS q b) (d2 : ∀ b, r2 ≤ b → b < r2 + 5 → ¬ wS p b ∧ ¬ wS q b)
    (hQ : ∀ M', FrS (fun b => wS p b ∨ wS q b) M M' → WV M' p (u.2.1 ++ u2.1.drop n) → WV M' q (u.1.take (u.1.length - n) ++ u2.2.1) → Q none M') : wp F_Rule_spellOverlap 0 [.ref r, .ref r2, .int (nI n), .ref p, .ref q] [] M Q := by
  obtain ⟨m1, m2⟩ := hp.ne hq
  simp only [B_Rule_spellOverlap_0, SS, h.1, h.2.2.1, hp.1, true_and]
  refine k_Word_become hp h.2.2.2.2 v.2.1 (fun e => (d1 (r + 3) (by omega) (by omega)).1 (Or.inl e)) (by have := v.2.2.2.2; omega) v.2.2.2.2 (by omega) (by omega) ?_
  intro M1 f1 w1
  have f1' : FrS (fun b => wS p b ∨ wS q b) M M1 := f1.weaken (fun b hb => Or.inl hb)
  have n1 : ∀ b, r2 ≤ b → b < r2 + 5 → ¬ (wS p b ∨ wS q b) := fun b x y z => z.elim (d2 b x y).1 (d2 b x y).2
  have n0 : ∀ b, r ≤ b → b < r + 5 → ¬ (wS p b ∨ wS q b) := fun b x y z => z.elim (d1 b x y).1 (d1 b x y).2
  have s1 := h.fr f1'; have s2 := h2.fr f1'; have v1 := v.fr f1' n0; have v21 := v2.fr f1' n1
  have hp1 := hp.fr f1; have hq1 := hq.fr f1
  simp only [SS, Option.toList_none, List.nil_append, B_Rule_spellOverlap_0, s2.1, s2.2.1, s2.2.2.2.1.1, hp1.1, v21.1.1, true_and]
  refine k_Word_append hp1 s2.2.2.2.1 w1 v21.1 (fun e => (d2 (r2 + 1) (by omega) (by omega)).1 (Or.inl e)) hn2 (Nat.le_refl _) v2.2.2.2.1 (by have := v.2.2.2.2; have := v2.2.2.2.1; omega) (by omega) (by omega) ?_
  intro M2 f2 w2
  have f2' : FrS (fun b => wS p b ∨ wS q b) M M2 := f1'.trans (f2.weaken (fun b hb => Or.inl hb))
  have s1 := h.fr f2'; have s2 := h2.fr f2'; have v1 := v.fr f2' n0; have v21 := v2.fr f2' n1
  have hp2 := hp.fr f2'; have hq2 := hq.fr f2'
  simp only [SS, Option.toList_none, List.nil_append, B_Rule_spellOverlap_0, hq2.1, true_and]
  refine k_Word_clear hq2 ?_
  intro M3 f3 w3
  have f3' : FrS (fun b => wS p b ∨ wS q b) M M3 := f2'.trans (f3.weaken (fun b hb => Or.inr hb))
  have s1 := h.fr f3'; have s2 := h2.fr f3'; have v1 := v.fr f3' n0; have v21 := v2.fr f3' n1
  have hp3 := hp.fr f3'; have hq3 := hq.fr f3'
  have np : ¬ wS q p ∧ ¬ wS q (p + 1) := ⟨fun z => z.elim hpq m2, fun z => z.elim (fun e => m1 e.symm) (fun e => hpq (by omega))⟩
  have w23 := w2.fr f3 np.1 np.2
  simp only [SS, Option.toList_none, List.nil_append, B_Rule_spellOverlap_0, s1.1, s1.2.1, s1.2.2.2.1.1, hq3.1, v1.1.1, true_and, pk_sub hn, ← nI_0]
  refine k_Word_append hq3 s1.2.2.2.1 w3 v1.1 (fun e => (d1 (r + 1) (by omega) (by omega)).2 (Or.inl e)) (Nat.zero_le _) (Nat.sub_le _ _) v.2.2.2.1 (by have := v.2.2.2.1; simp; omega) (by omega) (by omega) ?_
  intro M4 f4 w4
  have f4' : FrS (fun b => wS p b ∨ wS q b) M M4 := f3'.trans (f4.weaken (fun b hb => Or.inr hb))
  have s1 := h.fr f4'; have s2 := h2.fr f4'; have v1 := v.fr f4' n0; have v21 := v2.fr f4' n1
  have hp4 := hp.fr f4'; have hq4 := hq.fr f4'
  have w24 := w23.fr f4 np.1 np.2
  simp only [SS, Option.toList_none, List.nil_append, B_Rule_spellOverlap_0, B_Rule_spellOverlap_0_1, s2.1, s2.2.2.1, s2.2.2.2.2.1, hq4.1, v21.2.1.1, true_and, ← nI_0]
  refine k_Word_append hq4 s2.2.2.2.2 w4 v21.2.1 (fun e => (d2 (r2 + 3) (by omega) (by omega)).2 (Or.inl e)) (Nat.zero_le _) (Nat.le_refl _) v2.2.2.2.2 (by have := v.2.2.2.1; have := v2.2.2.2.2; simp; omega) (by omega) (by omega) ?_
  intro M5 f5 w5
  simp only [Option.toList_none, List.nil_append, B_Rule_spellOverlap_0, B_Rule_spellOverlap_0_1]
  refine hQ M5 (f4'.trans (f5.weaken (fun b hb => Or.inr hb))) ?_ ?_
  · have := w24.fr f5 np.1 np.2
    rw [show (u2.1.drop n).take (u2.1.length - n) = u2.1.drop n from List.take_of_length_le (by simp)] at this
    exact this
  · have := w5
    simp only [List.nil_append, List.drop_zero, Nat.sub_zero, List.take_length] at this
    exact this
