/-! the law's run -/
section LW
variable {M : Mm} {b L x s0 i0 : Nat} {σ : Sg} {Q : Option Value → Mm → Prop}
theorem law_sw {v : Int32} (h : LwV M b L x s0 σ) (hi : i0 + 4 ≤ L) (hL : L ≤ 2048) (K : ∀ M2 σ2, LwV M2 b L x s0 σ2 → wp F_Law_law 882 [.ref b, .ref x, .ref (x + 1064), .int (nI i0)] [] M2 Q) : wp F_Law_law 32 [.ref b, .ref x, .ref (x + 1064), .int (nI i0)] [.int v] M Q := by
  by_cases z : v.toInt < 0 ∨ 25 < v.toInt
  · rw [sw_Law_law_32 _ _ _ _ _ _ _ _ z]
    exact K M σ h
  · obtain ⟨k, hk, rfl⟩ : ∃ k, k < 26 ∧ v = nI k := ⟨v.toInt.toNat, by omega, Int32.toInt_inj.mp (by rw [nI_toInt (by omega)]; omega)⟩
    rcases (show k = 0 ∨ k = 1 ∨ k = 2 ∨ k = 3 ∨ k = 4 ∨ k = 5 ∨ k = 6 ∨ k = 7 ∨ k = 8 ∨ k = 9 ∨ k = 10 ∨ k = 11 ∨ k = 12 ∨ k = 13 ∨ k = 14 ∨ k = 15 ∨ k = 16 ∨ k = 17 ∨ k = 18 ∨ k = 19 ∨ k = 20 ∨ k = 21 ∨ k = 22 ∨ k = 23 ∨ k = 24 ∨ k = 25 by omega) with rfl | rfl | rfl | rfl | rfl | rfl | rfl | rfl | rfl | rfl | rfl | rfl | rfl | rfl | rfl | rfl | rfl | rfl | rfl | rfl | rfl | rfl | rfl | rfl | rfl | rfl
    · simp only [show nI 0 = (0 : Int32) from rfl, B_Law_law_18]
      exact L_feed h hi hL K
    · simp only [show nI 1 = (1 : Int32) from rfl, B_Law_law_18]
      exact L_read h hi hL K
    · simp only [show nI 2 = (2 : Int32) from rfl, B_Law_law_18]
      exact L_word h hi hL K
    · simp only [show nI 3 = (3 : Int32) from rfl, B_Law_law_18]
      exact L_fault h hi hL K
    · simp only [show nI 4 = (4 : Int32) from rfl, B_Law_law_18]
      exact L_complete h hi hL K
    · simp only [show nI 5 = (5 : Int32) from rfl, B_Law_law_18]
      exact L_count h hi hL K
    · simp only [show nI 6 = (6 : Int32) from rfl, B_Law_law_18]
      exact L_rule h hi hL K
    · simp only [show nI 7 = (7 : Int32) from rfl, B_Law_law_18]
      exact L_ruleLetter h hi hL K
    · simp only [show nI 8 = (8 : Int32) from rfl, B_Law_law_18]
      exact L_waiting h hi hL K
    · simp only [show nI 9 = (9 : Int32) from rfl, B_Law_law_18]
      exact L_open h hi hL K
    · simp only [show nI 10 = (10 : Int32) from rfl, B_Law_law_18]
      exact L_overlap h hi hL K
    · simp only [show nI 11 = (11 : Int32) from rfl, B_Law_law_18]
      exact L_length h hi hL K
    · simp only [show nI 12 = (12 : Int32) from rfl, B_Law_law_18]
      exact L_letter h hi hL K
    · simp only [show nI 13 = (13 : Int32) from rfl, B_Law_law_18]
      exact L_join h hi hL K
    · simp only [show nI 14 = (14 : Int32) from rfl, B_Law_law_18]
      exact L_reduce h hi hL K
    · simp only [show nI 15 = (15 : Int32) from rfl, B_Law_law_18]
      exact L_step h hi hL K
    · simp only [show nI 16 = (16 : Int32) from rfl, B_Law_law_18]
      exact L_same h hi hL K
    · simp only [show nI 17 = (17 : Int32) from rfl, B_Law_law_18]
      exact L_compare h hi hL K
    · simp only [show nI 18 = (18 : Int32) from rfl, B_Law_law_18]
      exact L_many h hi hL K
    · simp only [show nI 19 = (19 : Int32) from rfl, B_Law_law_18]
      exact L_size h hi hL K
    · simp only [show nI 20 = (20 : Int32) from rfl, B_Law_law_18]
      exact L_element h hi hL K
    · simp only [show nI 21 = (21 : Int32) from rfl, B_Law_law_18]
      exact L_number h hi hL K
    · simp only [show nI 22 = (22 : Int32) from rfl, B_Law_law_18]
      exact L_product h hi hL K
    · simp only [show nI 23 = (23 : Int32) from rfl, B_Law_law_18]
      exact L_power h hi hL K
    · simp only [show nI 24 = (24 : Int32) from rfl, B_Law_law_18]
      exact L_inverse h hi hL K
    · simp only [show nI 25 = (25 : Int32) from rfl, B_Law_law_18]
      exact L_commutes h hi hL K
theorem law_loop (hL : L ≤ 2048) (fin : ∀ M' σ', LwV M' b L x s0 σ' → Q (some (.int 1)) M') : ∀ (d i0 : Nat) (M : Mm) (σ : Sg), L ≤ i0 + 4 * d → i0 ≤ L → LwV M b L x s0 σ → wp F_Law_law 18 [.ref b, .ref x, .ref (x + 1064), .int (nI i0)] [] M Q := by
  intro d
  have cmp : ∀ i0, i0 ≤ L → ((nI L - 4 < nI i0) = ((L : Int) - 4 < i0)) := fun i0 h0 => by
    have e1 : (nI L - 4).toInt = (L : Int) - 4 := pk_sub_toInt (a := L) (b := 4) (by omega) (by omega)
    have e2 : (nI i0).toInt = (i0 : Int) := nI_toInt (show i0 < 2 ^ 31 by omega)
    rw [Int32.lt_iff_toInt_lt, e1, e2]
  have ofL : Int32.ofNat L = nI L := rfl
  induction d with
  | zero =>
    intro i0 M σ h1 h2 h
    have hsb := h.2.2.2.1
    have z : (L : Int) - 4 < i0 := by omega
    simp only [B_Law_law_18, SS, hsb, ofL, cmp i0 h2, z, if_true, B_Law_law_888, or_true, true_and]
    exact fin M σ h
  | succ d ih =>
    intro i0 M σ h1 h2 h
    have hsb := h.2.2.2.1
    by_cases z : (L : Int) - 4 < i0
    · simp only [B_Law_law_18, SS, hsb, ofL, cmp i0 h2, z, if_true, B_Law_law_888, or_true, true_and]
      exact fin M σ h
    · have x0 : ixI M b (nI i0) := ix9 hsb (by omega) (by omega)
      simp only [B_Law_law_18, SS, hsb, ofL, cmp i0 h2, z, if_false, x0, true_and]
      refine law_sw h (by omega) hL ?_
      intro M2 σ2 h'
      have e4 : nI i0 + 4 = nI (i0 + 4) := nI_add i0 4
      simp only [B_Law_law_882, SS, e4]
      rw [G_Law_law_885]
      exact ih (i0 + 4) M2 σ2 (by omega) (by omega) h'
theorem LwV.room (h : LwV M b L x s0 σ) : nxt M ≤ x + 1094 + 100752 ∧ slo M ≤ s0 + 3666285 := by
  obtain ⟨⟨hB, f, kn, cr, tk, c1, c2, c3, c4, c5, c6⟩, -⟩ := h
  obtain ⟨⟨A, B, C, D, cap, mc, -⟩, -⟩ := c1
  obtain ⟨W, I, Qa, P, wl, ql, eS, -⟩ := c4
  obtain ⟨r1, r2⟩ := c6
  have hc : capM M (x + 1013) = cap := mc.cap_eq
  have hcap := mc.2.2.2.2.2.2.1
  have hrg : rgN M (x + 1011) ≤ 1000 := by
    unfold rgN
    have := List.countP_le_length (p := fun i => (gR M (x + 1011 + 1) i).isSome) (l := List.range 1000)
    rwa [List.length_range] at this
  have hw1 := eS.wl.1
  have hw2 := eS.wl.2
  have b1 := eS.2.2.2.2.2.2.2.1
  have b2 := eS.2.2.2.2.2.2.2.2
  rw [hc, hw1, hw2] at r1 r2
  have p1 : phi cap ≤ 396033 := by unfold phi; split <;> omega
  have p2 : phiW wl ≤ 2916243 := by unfold phiW; split <;> omega
  have p3 : phiQ ql ≤ 108009 := by unfold phiQ; split <;> omega
  exact ⟨by omega, by omega⟩
theorem law_runs : LawRuns := by
  intro b L x xs hL hb
  have n0 : nxt (M0 b L x xs) = x := rfl
  have s0 : slo (M0 b L x xs) = 0 := rfl
  have hsb : sh (M0 b L x xs) b = some (.inr (9, L)) := by
    show (if b = b then (some (.inr (9, L)) : Option Tg) else none) = _
    rw [if_pos rfl]
  generalize M0 b L x xs = M at n0 s0 hsb
  simp only [B_Law_law_0, SS, n0]
  have hsx : sh (nw M (.inl 11) 20) x = some (.inl 11) := by rw [sh_nw, if_pos n0.symm]
  have hxn : nxt (nw M (.inl 11) 20) = x + 1 := by rw [nxt_nw, n0]
  have hz : ∀ j, gI (nw M (.inl 11) 20) x j = 0 := fun j => by rw [gI_nw, if_pos n0.symm]
  have hsb1 : sh (nw M (.inl 11) 20) b = some (.inr (9, L)) := by rw [sh_nw, if_neg (by omega)]; exact hsb
  have hsl : slo (nw M (.inl 11) 20) = 20 := by rw [slo_nw, s0]
  generalize nw M (.inl 11) 20 = M1 at hsx hxn hz hsb1 hsl
  refine k_Mr_init hsx hxn ?_
  intro M2 r g
  have n2 := r.2.2.1
  simp only [SS, Option.toList_none, List.nil_append, B_Law_law_0, n2]
  have t1 : sh (nw M2 (.inl 12) 56) (x + 1064) = some (.inl 12) := by rw [sh_nw, if_pos n2.symm]
  have t2 : nxt (nw M2 (.inl 12) 56) = x + 1064 + 1 := by rw [nxt_nw, n2]
  have t3 : ∀ j, gI (nw M2 (.inl 12) 56) (x + 1064) j = 0 := fun j => by rw [gI_nw, if_pos n2.symm]
  have t4 : slo (nw M2 (.inl 12) 56) = slo M2 + 56 := by rw [slo_nw]
  have t5 : ∀ q, q < x + 1064 → sh (nw M2 (.inl 12) 56) q = sh M2 q ∧ (∀ j, gI (nw M2 (.inl 12) 56) q j = gI M2 q j) ∧ (∀ j, gJ (nw M2 (.inl 12) 56) q j = gJ M2 q j) ∧ ∀ j, gR (nw M2 (.inl 12) 56) q j = gR M2 q j := fun q hq => ⟨by rw [sh_nw, if_neg (by omega)], fun j => by rw [gI_nw, if_neg (by omega)], fun j => by rw [gJ_nw, if_neg (by omega)], fun j => by rw [gR_nw, if_neg (by omega)]⟩
  generalize nw M2 (.inl 12) 56 = M3 at t1 t2 t3 t4 t5
  refine k_Md_init t1 t2 t3 ?_
  intro M4 V4 n4 s4 f4
  simp only [SS, Option.toList_none, List.nil_append, B_Law_law_0, ← nI_0]
  have hcl : ClV M4 x (slo M4) sg0 := cl_start r g hsx hxn hz (by omega) (by omega) (fun q hq => by
    obtain ⟨a1, a2, a3, a4⟩ := f4 q hq
    obtain ⟨b1, b2, b3, b4⟩ := t5 q hq
    exact ⟨a1.trans b1, fun j => (a2 j).trans (b2 j), fun j => (a3 j).trans (b3 j), fun j => (a4 j).trans (b4 j)⟩)
  have hsi : SgI sg0 := SgI.of (fun j a q => by cases q) (fun i hi => ⟨by simp, fun c hc => by simp at hc⟩) ⟨fun u hu => by simp at hu, by omega, by simp⟩ (fun u hu => by simp at hu) ⟨by simp, fun p hp => by simp at hp⟩ (fun _ => AC_nil) (fun q hq => by cases hq) (by simp) (fun c hc => by simp at hc) (by simp)
  have hb4 : sh M4 b = some (.inr (9, L)) := ((f4 b (by omega)).1.trans (t5 b (by omega)).1).trans ((r.1.2.2.1 b (by omega)).trans hsb1)
  have hsr := r.2.2.2
  refine law_loop hL (fun M' σ' h' => ?_) L 0 M4 sg0 (by omega) (by omega) ⟨hcl, V4, hsi, hb4, hb⟩
  have := h'.room
  exact ⟨rfl, by omega, by omega⟩
end LW
