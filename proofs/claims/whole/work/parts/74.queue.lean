theorem phiQ_mono {a b : Nat} (h : a < b) (hb : b ≤ 12001) (hm : min (2 * a) 12001 ≤ b) : phiQ a + 3 * b ≤ phiQ b := by
  unfold phiQ
  split <;> split <;> omega
theorem k_makeQueue {M : Mm} {x A B C D cap k N W I Qa P wl ql : Nat} {rs : List Ru} {str : Nat → List Nat} {Q : Option Value → Mm → Prop} (hE : ElS M x W I Qa P wl ql) (hM : Mch M x A B C D cap rs k N str) (hx : x + 1094 ≤ nxt M) (hmx : ∀ b, b = x + 1013 ∨ b = A ∨ b = D → b ≠ x + 1034)
    (hQ : ∀ I' Qa' P' ql' M', ElS M' x W I' Qa' P' wl ql' → Mch M' x A B C D cap rs k N str → N ≤ ql' → (∀ t, t < N → gI M' I' t = 0) → (∀ t, t < N → gJ M' P' t = 0) → FrX (fun b => b = I ∨ b = P) (fun b => b = x + 1034) M M' → (∀ j, gR M' (x + 1013) j = gR M (x + 1013) j) → nxt M' + 3 * ql ≤ nxt M + 3 * ql' → slo M' + phiQ ql ≤ slo M + phiQ ql' → Q none M') : wp F_Elements_makeQueue 0 [.ref (x + 1034), jk] [] M Q := by
  have hcap := hM.1.2.2.2.2.2.2.1
  have hNc := hM.2.1
  have hql := hE.2.2.2.2.2.2.2.2
  have z0 : (0 : Int32) = nI 0 := rfl
  have fill : ∀ I' Qa' P' ql' M1, ElS M1 x W I' Qa' P' wl ql' → Mch M1 x A B C D cap rs k N str → N ≤ ql' → ql' ≤ 12001 → (∀ M', FrZ (fun b => b = I' ∨ b = P') M1 M' → ElS M' x W I' Qa' P' wl ql' → Mch M' x A B C D cap rs k N str → (∀ t, t < N → gI M' I' t = 0) → (∀ t, t < N → gJ M' P' t = 0) → Q none M') → ∀ l1, wp F_Elements_makeQueue 60 [.ref (x + 1034), l1] [] M1 Q := by
    intro I' Qa' P' ql' M1 e1 m1 hN' hql' kk l1
    have loop : ∀ d n M2, n + d = N → FrZ (fun b => b = I' ∨ b = P') M1 M2 → (∀ t, t < n → gI M2 I' t = 0) → (∀ t, t < n → gJ M2 P' t = 0) → wp F_Elements_makeQueue 62 [.ref (x + 1034), .int (nI n)] [] M2 Q := by
      intro d
      induction d with
      | zero =>
        intro n M2 hn ff g1 g2
        have ff' : FrZ (qZ I' Qa' P') M1 M2 := ⟨ff.1, ff.2.1, ff.2.2.1, ff.2.2.2.1, fun b hb => ff.2.2.2.2 b (fun q => hb (by rcases q with q | q; exact Or.inl q; exact Or.inr (Or.inr q)))⟩
        have m2 := (m1.frZ e1 ff').1
        have e2 := e1.frZ ff
        have q1 : nI N ≤ nI n := nI_le (by omega) (by omega)
        simp only [B_Elements_makeQueue_62, B_Elements_makeQueue_93, SS, e2.1, e2.2.1.2.1, m2.1.1, m2.2.2.1, q1, if_true, true_and]
        rw [show n = N by omega] at g1 g2
        exact kk M2 ff e2 m2 g1 g2
      | succ d ih =>
        intro n M2 hn ff g1 g2
        have ff' : FrZ (qZ I' Qa' P') M1 M2 := ⟨ff.1, ff.2.1, ff.2.2.1, ff.2.2.2.1, fun b hb => ff.2.2.2.2 b (fun q => hb (by rcases q with q | q; exact Or.inl q; exact Or.inr (Or.inr q)))⟩
        have m2 := (m1.frZ e1 ff').1
        have e2 := e1.frZ ff
        have q1 : ¬ nI N ≤ nI n := nI_ge (by omega) (by omega)
        have i1 : ixW M2 I' (nI n) := ixW_of e2.2.2.1.2.1 (by omega) (by omega)
        have i2 : ixJ (sI M2 I' n 0) P' (nI n) := ixJ_of (M := sI M2 I' n 0) e2.2.2.1.2.2.2 (by omega) (by omega)
        have q2 : cl (nI n) = n := cl_nI (by omega)
        simp only [B_Elements_makeQueue_62, SS, e2.1, e2.2.1.2.1, e2.2.1.2.2.2.1, e2.2.1.2.2.2.2.2, m2.1.1, m2.2.2.1, q1, i1, i2, q2, if_false, nI_i1, true_and]
        rw [G_Elements_makeQueue_90]
        refine ih (n + 1) _ (by omega) (ff.trans ((FrZ.sI (Or.inl rfl)).trans (FrZ.sJ (Or.inr rfl)))) (fun t ht => ?_) (fun t ht => ?_)
        · rw [gI_sJ, gI_sI]
          by_cases y : t = n
          · rw [if_pos ⟨rfl, y⟩]
          · rw [if_neg (fun w => y w.2)]; exact g1 t (by omega)
        · rw [gJ_sJ]
          by_cases y : t = n
          · rw [if_pos ⟨rfl, y⟩]
          · rw [if_neg (fun w => y w.2), gJ_sI]; exact g2 t (by omega)
    simp only [B_Elements_makeQueue_60, SS]
    rw [z0]
    exact loop N 0 M1 (by omega) FrZ.rfl (fun t ht => by omega) (fun t ht => by omega)
  have c1 := nI_leI (show N < 2 ^ 31 by omega) (show ql < 2 ^ 31 by omega)
  simp only [B_Elements_makeQueue_0, SS, hE.1, hE.2.1.2.1, hE.2.1.2.2.2.2.1, hE.2.2.1.2.2.1, hM.1.1, hM.2.2.1, c1, true_and]
  by_cases hg : N ≤ ql
  · simp only [hg, if_true]
    refine fill I Qa P ql M hE hM hg hql ?_ _
    intro M' ff e' m' g1 g2
    refine hQ I Qa P ql M' e' m' hg g1 g2 (ff.x.weaken (fun _ _ q => q) (fun _ _ q => q.elim)) (fun j => ff.2.2.2.1 _ j) ?_ ?_
    · rw [ff.1]; omega
    · rw [ff.2.1]; omega
  · have k2 : (2 : Int32) = nI 2 := rfl
    have k12 : (12001 : Int32) = nI 12001 := rfl
    have e1 : (if nI 12001 < nI (2 * ql) then nI 12001 else nI (2 * ql)) = nI (min (2 * ql) 12001) := min_nI (by omega) (by omega)
    have e2 : (if nI N < nI (min (2 * ql) 12001) then nI (min (2 * ql) 12001) else nI N) = nI (max N (min (2 * ql) 12001)) := max_nI (by omega) (by omega)
    have hL1 : max N (min (2 * ql) 12001) ≤ 12001 := by omega
    have hL2 : N ≤ max N (min (2 * ql) 12001) := by omega
    have hL4 : min (2 * ql) 12001 ≤ max N (min (2 * ql) 12001) := by omega
    generalize hL : max N (min (2 * ql) 12001) = L at *
    have e3 : ¬ nI L < 0 := nI_pos (by omega)
    have e4 : cl (nI L) = L := cl_nI (by omega)
    have e5 : L ≤ 16777216 := by omega
    simp only [hg, if_false, B_Elements_makeQueue_0, k2, k12, pk_mul, SS, hE.1, hE.2.1.2.1, hE.2.1.2.2.2.2.1, hE.2.2.1.2.2.1, hM.1.1, hM.2.2.1, e1, e2, e3, e4, e5, not_false_eq_true, true_and]
    have n1 : ¬ x + 1034 = nxt M := by omega
    have n2 : ¬ x + 1034 = nxt M + 1 := by omega
    have n3 : ¬ x + 1034 = nxt M + 1 + 1 := by omega
    simp only [sh_nw, nxt_nw, nxt_sR, sh_sR, n1, n2, n3, if_false, hE.1, true_and]
    have f2 : FrX (fun _ => False) (fun b => b = x + 1034) M (sR (nw (sR (nw (sR (nw M (.inr (0, L)) L) (x + 1034) 6 (some (nxt M))) (.inr (0, L)) L) (x + 1034) 7 (some (nxt M + 1))) (.inr (1, L)) L) (x + 1034) 8 (some (nxt M + 1 + 1))) := by
      refine ⟨by simp only [nxt_sR, nxt_nw]; omega, by simp only [slo_sR, slo_nw]; omega, fun b hb => ?_, fun b hb _ => ⟨fun j => ?_, fun j => ?_⟩, fun b hb hs j => ?_⟩
      · simp only [sh_sR, sh_nw, nxt_sR, nxt_nw, show ¬ b = nxt M by omega, show ¬ b = nxt M + 1 by omega, show ¬ b = nxt M + 1 + 1 by omega, if_false]
      · simp only [gI_sR, gI_nw, nxt_sR, nxt_nw, show ¬ b = nxt M by omega, show ¬ b = nxt M + 1 by omega, show ¬ b = nxt M + 1 + 1 by omega, if_false]
      · simp only [gJ_sR, gJ_nw, nxt_sR, nxt_nw, show ¬ b = nxt M by omega, show ¬ b = nxt M + 1 by omega, show ¬ b = nxt M + 1 + 1 by omega, if_false]
      · have hs' : ¬ b = x + 1034 := hs
        simp only [gR_sR, gR_nw, nxt_sR, nxt_nw, hs', false_and, show ¬ b = nxt M by omega, show ¬ b = nxt M + 1 by omega, show ¬ b = nxt M + 1 + 1 by omega, if_false]
    have r34 : ∀ j, gR (sR (nw (sR (nw (sR (nw M (.inr (0, L)) L) (x + 1034) 6 (some (nxt M))) (.inr (0, L)) L) (x + 1034) 7 (some (nxt M + 1))) (.inr (1, L)) L) (x + 1034) 8 (some (nxt M + 1 + 1))) (x + 1034) j = if j = 8 then some (nxt M + 1 + 1) else if j = 7 then some (nxt M + 1) else if j = 6 then some (nxt M) else gR M (x + 1034) j := fun j => by
      simp only [gR_sR, gR_nw, nxt_sR, nxt_nw, true_and, n1, n2, n3, if_false]
    have sI' : sh (sR (nw (sR (nw (sR (nw M (.inr (0, L)) L) (x + 1034) 6 (some (nxt M))) (.inr (0, L)) L) (x + 1034) 7 (some (nxt M + 1))) (.inr (1, L)) L) (x + 1034) 8 (some (nxt M + 1 + 1))) (nxt M) = some (.inr (0, L)) := by
      simp only [sh_sR, sh_nw, nxt_sR, nxt_nw, show ¬ nxt M = nxt M + 1 by omega, show ¬ nxt M = nxt M + 1 + 1 by omega, if_false, if_true]
    have sQ' : sh (sR (nw (sR (nw (sR (nw M (.inr (0, L)) L) (x + 1034) 6 (some (nxt M))) (.inr (0, L)) L) (x + 1034) 7 (some (nxt M + 1))) (.inr (1, L)) L) (x + 1034) 8 (some (nxt M + 1 + 1))) (nxt M + 1) = some (.inr (0, L)) := by
      simp only [sh_sR, sh_nw, nxt_sR, nxt_nw, show ¬ nxt M + 1 = nxt M + 1 + 1 by omega, if_false, if_true]
    have sP' : sh (sR (nw (sR (nw (sR (nw M (.inr (0, L)) L) (x + 1034) 6 (some (nxt M))) (.inr (0, L)) L) (x + 1034) 7 (some (nxt M + 1))) (.inr (1, L)) L) (x + 1034) 8 (some (nxt M + 1 + 1))) (nxt M + 1 + 1) = some (.inr (1, L)) := by
      simp only [sh_sR, sh_nw, nxt_sR, nxt_nw, if_true]
    have nx' : nxt (sR (nw (sR (nw (sR (nw M (.inr (0, L)) L) (x + 1034) 6 (some (nxt M))) (.inr (0, L)) L) (x + 1034) 7 (some (nxt M + 1))) (.inr (1, L)) L) (x + 1034) 8 (some (nxt M + 1 + 1))) = nxt M + 3 := rfl
    have sl' : slo (sR (nw (sR (nw (sR (nw M (.inr (0, L)) L) (x + 1034) 6 (some (nxt M))) (.inr (0, L)) L) (x + 1034) 7 (some (nxt M + 1))) (.inr (1, L)) L) (x + 1034) 8 (some (nxt M + 1 + 1))) = slo M + L + L + L := rfl
    generalize sR (nw (sR (nw (sR (nw M (.inr (0, L)) L) (x + 1034) 6 (some (nxt M))) (.inr (0, L)) L) (x + 1034) 7 (some (nxt M + 1))) (.inr (1, L)) L) (x + 1034) 8 (some (nxt M + 1 + 1)) = M1 at *
    have rmc : ∀ j, gR M1 (x + 1013) j = gR M (x + 1013) j := fun j => f2.2.2.2.2 _ (by omega) (by omega) j
    have gmc := hM.1.2.2.2.2.2.2.2
    have m1 : Mch M1 x A B C D cap rs k N str := ⟨hM.1.frx f2 ((f2.2.2.2.1 _ (by omega) (fun q => q)).1 0) (by omega), hM.2.frx f2 (by omega) gmc.2.1 gmc.2.2.2.2 (fun q => q) (fun q => q) (fun q => q)⟩
    have e1' : ElS M1 x W (nxt M) (nxt M + 1) (nxt M + 1 + 1) wl L := by
      obtain ⟨a1, ⟨b1, b2, b3, b4, b5, b6⟩, ⟨c1, c2, c3, c4⟩, d, ⟨e1, e2, e3, e4⟩, f, g⟩ := hE
      refine ⟨(f2.2.2.1 _ (by omega)).trans a1, ⟨by rw [r34]; exact b1, by rw [r34]; exact b2, by rw [r34]; exact b3, by rw [r34]; rfl, by rw [r34]; rfl, by rw [r34]; rfl⟩, ⟨(f2.2.2.1 _ e1.2).trans c1, sI', sQ', sP'⟩, ⟨by omega, by omega⟩, ⟨⟨e1.1, by omega⟩, ⟨Or.inr (by omega), by omega⟩, ⟨Or.inr (by omega), by omega⟩, ⟨Or.inr (by omega), by omega⟩⟩, fun j h1 hj => ?_, g.1, g.2.1, hL1⟩
      rw [rmc]
      have hb : ∀ a, gR M (x + 1013) j = some a → a < nxt M := fun a ha => by
        rcases (show j = 1 ∨ j = 2 ∨ j = 3 ∨ j = 4 by omega) with q | q | q | q <;> rw [q] at ha
        · rw [hM.1.2.1.1] at ha; cases ha; exact gmc.2.1
        · rw [hM.1.2.1.2.1] at ha; cases ha; exact gmc.2.2.1
        · rw [hM.1.2.1.2.2.1] at ha; cases ha; exact gmc.2.2.2.1
        · rw [hM.1.2.1.2.2.2] at ha; cases ha; exact gmc.2.2.2.2
      exact ⟨fun q => by have := hb _ q; omega, fun q => by have := hb _ q; omega⟩
    refine fill (nxt M) (nxt M + 1) (nxt M + 1 + 1) L M1 e1' m1 hL2 hL1 ?_ _
    intro M' ff e' m' g1 g2
    refine hQ _ _ _ L M' e' m' hL2 g1 g2 ?_ (fun j => (ff.2.2.2.1 _ j).trans (rmc j)) ?_ ?_
    · exact (f2.weaken (fun _ _ q => q.elim) (fun _ _ q => q)).trans' (S2 := fun b => b = nxt M ∨ b = nxt M + 1 + 1) (T2 := fun _ => False) ff.x (fun b hb q => by omega) (fun _ _ q => q.elim)
    · rw [ff.1, nx']; omega
    · rw [ff.2.1, sl']
      have := phiQ_mono (a := ql) (b := L) (by omega) hL1 hL4
      omega
