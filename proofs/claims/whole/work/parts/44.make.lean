theorem c_Word_init {M : Mm} {w room : Nat} {Q : Option Value → Mm → Prop} (h : sh M w = some (.inl 10)) (hw : w < nxt M) (hr : room ≤ 16777216) : wp F_Word_init 0 [.ref w, .int (nI room)] [] M Q = Q none (sR (nw M (.inr (2, room)) room) w 0 (some (nxt M))) := by
  have e1 : ¬ nI room < 0 := nI_pos (by omega)
  have e2 : ¬ w = nxt M := by omega
  simp only [B_Word_init_0, e1, if_false, not_false_eq_true, true_and, cl_nI (show room < 2147483648 by omega), hr, sh_nw, e2, h]
theorem k_make {M : Mm} {z w v rw rv : Nat} {rs : List Ru} {l r : List Nat} {Q : Option Value → Mm → Prop} (h : RUS M z) (hv : RUV M z rs) (s1 : WS M w rw) (s2 : WS M v rv) (v1 : WV M w l) (v2 : WV M v r) (b1 : l.length ≤ rw) (b2 : r.length ≤ rv) (b3 : rw < 2147483648) (b4 : rv < 2147483648) (hr : r.length ≤ l.length) (d1 : ¬ ruS z w) (d2 : ¬ ruS z v) (d3 : ¬ ruS z (w + 1)) (d4 : ¬ ruS z (v + 1))
    (hQ1 : (200 ≤ rs.length ∨ 60 < l.length) → Q (some (.int (-1))) M)
    (hQ2 : rs.length < 200 → l.length ≤ 60 → ∀ M', FrS (ruS z) M M' → RUV M' z (rs ++ [(l, r, true)]) → gI M' z 2 = gI M z 2 → gI M' z 3 = 1 → Q (some (.int (nI rs.length))) M') : wp F_Rules_make 0 [.ref z, .ref w, .ref v] [] M Q := by
  have hl := hv.2.1
  have c1 := nI_leI (show 200 < 2 ^ 31 by omega) (show rs.length < 2 ^ 31 by omega)
  have c2 := nI_leI (show l.length < 2 ^ 31 by omega) (show 60 < 2 ^ 31 by omega)
  have k200 : (200 : Int32) = nI 200 := rfl
  have k60 : (60 : Int32) = nI 60 := rfl
  simp only [B_Rules_make_0, B_Rules_make_19, h.1, hv.1, s1.1, v1.1, true_and, k200, k60, c1, c2]
  by_cases q1 : 200 ≤ rs.length
  · rw [if_pos q1]; exact hQ1 (Or.inl q1)
  rw [if_neg q1]
  by_cases q3 : 60 < l.length
  · rw [if_neg (by omega)]; exact hQ1 (Or.inr q3)
  have q2 : l.length ≤ 60 := by omega
  rw [if_pos q2]
  obtain ⟨t1, t2⟩ := h.2.2.2 rs.length (by omega)
  have e1 : ∀ N, sh N (z + 1) = some (.inr (11, 200)) → ixR N (z + 1) (nI rs.length) := fun N hN => ixR_of hN (by omega) (by omega) (by omega)
  have e2 : cl (nI rs.length) = rs.length := cl_nI (by omega)
  generalize hrr : z + 2 + 5 * rs.length = rr at t1 t2
  have hrr2 : z + 2 ≤ rr ∧ rr + 5 ≤ z + 1002 := by omega
  simp only [B_Rules_make_21, SS, h.1, h.2.1, hv.1, e1 M h.2.2.1, e2, t1, t2.1, t2.2.1, t2.2.2.2.1.1, true_and]
  refine k_Word_become t2.2.2.2.1 s1 v1 (fun e => d1 ⟨by omega, by omega⟩) q2 b1 (by omega) b3 ?_
  intro M1 f1 w1
  have f1' : FrS (ruS z) M M1 := f1.weaken (fun b hb => by rcases hb with rfl | rfl <;> exact ⟨by omega, by omega⟩)
  have nz : ¬ wS (rr + 1) z := by intro q; rcases q with q | q <;> omega
  have h1 := h.fr f1'; have s21 := s2.fr f1'; have v21 := v2.fr f1' d2 d4; have t21 := t2.fr f1'
  have hm1 : gI M1 z 1 = nI rs.length := (f1.gI nz 1).trans hv.1
  have t11 : gR M1 (z + 1) rs.length = some rr := (f1.gR _ _).trans t1
  simp only [SS, Option.toList_none, List.nil_append, B_Rules_make_21, h1.1, h1.2.1, hm1, e1 M1 h1.2.2.1, e2, t11, t21.1, t21.2.2.1, t21.2.2.2.2.1, true_and]
  refine k_Word_become t21.2.2.2.2 s21 v21 (fun e => d2 ⟨by omega, by omega⟩) (by omega) b2 (by omega) b4 ?_
  intro M2 f2 w2
  have f2' : FrS (ruS z) M M2 := f1'.trans (f2.weaken (fun b hb => by rcases hb with rfl | rfl <;> exact ⟨by omega, by omega⟩))
  have nz2 : ¬ wS (rr + 3) z := by intro q; rcases q with q | q <;> omega
  have h2 := h.fr f2'; have t22 := t2.fr f2'
  have hm2 : gI M2 z 1 = nI rs.length := (f2.gI nz2 1).trans hm1
  have t12 : gR M2 (z + 1) rs.length = some rr := (f2.gR _ _).trans t11
  have n1 : ¬ z = rr := by omega
  have n2 : ¬ rr = z := by omega
  simp only [SS, Option.toList_none, List.nil_append, B_Rules_make_21, h2.1, h2.2.1, hm2, e1 M2 h2.2.2.1, e2, t12, t22.1, true_and, true_or, or_true, n1, false_and, if_false, nI_i1]
  have e3 : ¬ (1 : Nat) = 3 := by omega
  simp only [e3, and_false, if_false, hm2, nI_i1, and_self, if_true]
  have f3 : FrS (fun b => b = z ∨ b = rr) M2 (sI (sI (sI M2 rr 2 1) z 3 1) z 1 (nI (rs.length + 1))) := ((FrS.sI (Or.inr rfl)).trans (FrS.sI (Or.inl rfl))).trans (FrS.sI (Or.inl rfl))
  have f3' : FrS (ruS z) M (sI (sI (sI M2 rr 2 1) z 3 1) z 1 (nI (rs.length + 1))) := f2'.trans (f3.weaken (fun b hb => by rcases hb with rfl | rfl <;> exact ⟨by omega, by omega⟩))
  rw [show nI (rs.length + 1) - 1 = nI rs.length from nI_pred _]
  refine hQ2 (by omega) q2 _ f3' ⟨?_, by simp; omega, fun j hj => ?_⟩ ?_ ?_
  · simp [SS]
  · simp only [List.length_append, List.length_cons, List.length_nil] at hj
    by_cases e : j < rs.length
    · have vj := hv.2.2 j e
      have e5 : (rs ++ [(l, r, true)]).getD j dR = rs.getD j dR := by
        rw [List.getD_eq_getElem?_getD, List.getElem?_append_left e, ← List.getD_eq_getElem?_getD]
      rw [e5]
      have g1 := vj.fr f1 (fun b x y q => by rcases q with q | q <;> omega)
      have g2 := g1.fr f2 (fun b x y q => by rcases q with q | q <;> omega)
      exact g2.fr f3 (fun b x y q => by rcases q with q | q <;> omega)
    · have e4 : j = rs.length := by omega
      subst e4
      have e5 : (rs ++ [(l, r, true)]).getD rs.length dR = (l, r, true) := by simp
      rw [e5, hrr]
      refine ⟨(w1.fr f2 (fun q => by rcases q with q | q <;> omega) (fun q => by rcases q with q | q <;> omega)).fr f3 (fun q => by rcases q with q | q <;> omega) (fun q => by rcases q with q | q <;> omega), w2.fr f3 (fun q => by rcases q with q | q <;> omega) (fun q => by rcases q with q | q <;> omega), ?_, q2, by show r.length ≤ 60; omega⟩
      simp [SS, n2, bI]
  · simp only [SS, n1, true_and, false_and, if_false, show ¬ (2 : Nat) = 1 by omega, show ¬ (2 : Nat) = 3 by omega]
    exact (f2.gI nz2 2).trans (f1.gI nz 2)
  · simp [SS]
/-! cells that are made: what was there stays, but for numbers in S and references in T -/
def FrX (S T : Nat → Prop) (M M' : Mm) : Prop := nxt M ≤ nxt M' ∧ slo M ≤ slo M' ∧ (∀ b, b < nxt M → sh M' b = sh M b) ∧ (∀ b, b < nxt M → ¬ S b → (∀ k, gI M' b k = gI M b k) ∧ ∀ k, gJ M' b k = gJ M b k) ∧ ∀ b, b < nxt M → ¬ T b → ∀ k, gR M' b k = gR M b k
theorem FrX.rfl {S T : Nat → Prop} {M : Mm} : FrX S T M M := ⟨Nat.le_refl _, Nat.le_refl _, fun _ _ => Eq.refl _, fun _ _ _ => ⟨fun _ => Eq.refl _, fun _ => Eq.refl _⟩, fun _ _ _ _ => Eq.refl _⟩
theorem FrS.x {S : Nat → Prop} {M M' : Mm} (h : FrS S M M') : FrX S (fun _ => False) M M' := ⟨Nat.le_of_eq h.nxt.symm, Nat.le_of_eq h.slo.symm, fun b _ => h.sh b, fun b _ hb => ⟨fun k => h.gI hb k, fun k => h.gJ b k⟩, fun b _ _ k => h.gR b k⟩
theorem FrX.weaken {S T S' T' : Nat → Prop} {M M' : Mm} (h : FrX S T M M') (hs : ∀ b, b < nxt M → S b → S' b) (ht : ∀ b, b < nxt M → T b → T' b) : FrX S' T' M M' := ⟨h.1, h.2.1, h.2.2.1, fun b hb hn => h.2.2.2.1 b hb (fun q => hn (hs b hb q)), fun b hb hn => h.2.2.2.2 b hb (fun q => hn (ht b hb q))⟩
theorem FrX.trans {S T : Nat → Prop} {M M1 M2 : Mm} (h : FrX S T M M1) (h2 : FrX S T M1 M2) : FrX S T M M2 := ⟨Nat.le_trans h.1 h2.1, Nat.le_trans h.2.1 h2.2.1, fun b hb => (h2.2.2.1 b (by have := h.1; omega)).trans (h.2.2.1 b hb), fun b hb hn => ⟨fun k => ((h2.2.2.2.1 b (by have := h.1; omega) hn).1 k).trans ((h.2.2.2.1 b hb hn).1 k), fun k => ((h2.2.2.2.1 b (by have := h.1; omega) hn).2 k).trans ((h.2.2.2.1 b hb hn).2 k)⟩, fun b hb hn k => (h2.2.2.2.2 b (by have := h.1; omega) hn k).trans (h.2.2.2.2 b hb hn k)⟩
/-- the second may write what is new since the first -/
theorem FrX.trans' {S T S2 T2 : Nat → Prop} {M M1 M2 : Mm} (h : FrX S T M M1) (h2 : FrX S2 T2 M1 M2) (hs : ∀ b, b < nxt M → S2 b → S b) (ht : ∀ b, b < nxt M → T2 b → T b) : FrX S T M M2 := ⟨Nat.le_trans h.1 h2.1, Nat.le_trans h.2.1 h2.2.1, fun b hb => (h2.2.2.1 b (by have := h.1; omega)).trans (h.2.2.1 b hb), fun b hb hn => ⟨fun k => ((h2.2.2.2.1 b (by have := h.1; omega) (fun q => hn (hs b hb q))).1 k).trans ((h.2.2.2.1 b hb hn).1 k), fun k => ((h2.2.2.2.1 b (by have := h.1; omega) (fun q => hn (hs b hb q))).2 k).trans ((h.2.2.2.1 b hb hn).2 k)⟩, fun b hb hn k => (h2.2.2.2.2 b (by have := h.1; omega) (fun q => hn (ht b hb q)) k).trans (h.2.2.2.2 b hb hn k)⟩
theorem WS.frx {M M1 : Mm} {S T : Nat → Prop} {w room : Nat} (h : WS M w room) (hf : FrX S T M M1) (hw : w + 1 < nxt M) (ht : ¬ T w) : WS M1 w room := ⟨(hf.2.2.1 _ (by omega)).trans h.1, (hf.2.2.2.2 _ (by omega) ht _).trans h.2.1, (hf.2.2.1 _ hw).trans h.2.2⟩
theorem WV.frx {M M1 : Mm} {S T : Nat → Prop} {w : Nat} {l : List Nat} (h : WV M w l) (hf : FrX S T M M1) (hw : w + 1 < nxt M) (h1 : ¬ S w) (h2 : ¬ S (w + 1)) : WV M1 w l := ⟨((hf.2.2.2.1 _ (by omega) h1).1 _).trans h.1, fun j hj => ((hf.2.2.2.1 _ hw h2).1 _).trans (h.2.1 j hj), h.2.2⟩
theorem RS.frx {M M1 : Mm} {S T : Nat → Prop} {r : Nat} (h : RS M r) (hf : FrX S T M M1) (hr : r + 5 ≤ nxt M) (ht : ∀ b, r ≤ b → b < r + 5 → ¬ T b) : RS M1 r := ⟨(hf.2.2.1 _ (by omega)).trans h.1, (hf.2.2.2.2 _ (by omega) (ht _ (by omega) (by omega)) _).trans h.2.1, (hf.2.2.2.2 _ (by omega) (ht _ (by omega) (by omega)) _).trans h.2.2.1, h.2.2.2.1.frx hf (by omega) (ht _ (by omega) (by omega)), h.2.2.2.2.frx hf (by omega) (ht _ (by omega) (by omega))⟩
theorem RV.frx {M M1 : Mm} {S T : Nat → Prop} {r : Nat} {u : Ru} (h : RV M r u) (hf : FrX S T M M1) (hr : r + 5 ≤ nxt M) (hs : ∀ b, r ≤ b → b < r + 5 → ¬ S b) : RV M1 r u := ⟨h.1.frx hf (by omega) (hs _ (by omega) (by omega)) (hs _ (by omega) (by omega)), h.2.1.frx hf (by omega) (hs _ (by omega) (by omega)) (hs _ (by omega) (by omega)), ((hf.2.2.2.1 _ (by omega) (hs _ (by omega) (by omega))).1 _).trans h.2.2.1, h.2.2.2⟩
theorem RUS.frx {M M1 : Mm} {S T : Nat → Prop} {z : Nat} (h : RUS M z) (hf : FrX S T M M1) (hz : z + 1002 ≤ nxt M) (ht : ∀ b, ruS z b → ¬ T b) : RUS M1 z := ⟨(hf.2.2.1 _ (by omega)).trans h.1, (hf.2.2.2.2 _ (by omega) (ht _ ⟨by omega, by omega⟩) _).trans h.2.1, (hf.2.2.1 _ (by omega)).trans h.2.2.1, fun i hi => ⟨(hf.2.2.2.2 _ (by omega) (ht _ ⟨by omega, by omega⟩) _).trans (h.2.2.2 i hi).1, (h.2.2.2 i hi).2.frx hf (by omega) (fun b x y => ht b ⟨by omega, by omega⟩)⟩⟩
theorem RUV.frx {M M1 : Mm} {S T : Nat → Prop} {z : Nat} {rs : List Ru} (h : RUV M z rs) (hf : FrX S T M M1) (hz : z + 1002 ≤ nxt M) (h1 : gI M1 z 1 = gI M z 1) (hs : ∀ b, z < b → b < z + 1002 → ¬ S b) : RUV M1 z rs := ⟨h1.trans h.1, h.2.1, fun i hi => (h.2.2 i hi).frx hf (by have := h.2.1; omega) (fun b x y => hs b (by omega) (by have := h.2.1; omega))⟩
