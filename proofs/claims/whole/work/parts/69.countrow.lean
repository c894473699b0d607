/-! the class's Elements: ways by row and node -/
def AutN (M : Mm) (mc A D cap : Nat) (rs : List Ru) (k N : Nat) (str : Nat → List Nat) : Prop := N ≤ cap ∧ gI M mc 5 = nI N ∧ gI M mc 6 = nI k ∧ 1 ≤ N ∧ str 0 = [] ∧ (∀ n, n < N → pf rs (str n) = true) ∧ (∀ s, pf rs s = true → ∃ n, n < N ∧ str n = s) ∧ (∀ n m, n < N → m < N → str n = str m → n = m) ∧
  (∀ n e, n < N → e < k → ∃ m, m < N ∧ gI M A (8 * n + e) = nI m ∧ str m = lsuf rs (str n ++ [e])) ∧ ∀ n, n < N → gI M D n = oI (endAt rs (str n))
theorem AutV.n {M : Mm} {mc A D cap : Nat} {rs : List Ru} {k : Nat} (h : AutV M mc A D cap rs k) : ∃ N str, AutN M mc A D cap rs k N str := h
theorem pf_lt {rs : List Ru} {k : Nat} (hw : RWf rs k) {s : List Nat} (h : pf rs s = true) : ∀ c ∈ s, c < k := by
  intro c hc
  by_cases e : s = []
  · subst e; simp at hc
  · obtain ⟨u, hu, -, hp⟩ := (pf_iff e).mp h
    exact (hw.1 u hu).2.2.2.1 c (hp.subset hc)
/-- where reading leads does not hang on how the nodes are named -/
theorem AutN.run {M : Mm} {mc A D cap cap' : Nat} {rs : List Ru} {k N N' : Nat} {str str' : Nat → List Nat} (h : AutN M mc A D cap rs k N str) (h' : AutN M mc A D cap' rs k N' str') (hc : cap ≤ 12001) (hc' : cap' ≤ 12001) : ∀ s : List Nat, (∀ c ∈ s, c < k) → ∃ n, n < N ∧ n < N' ∧ str n = lsuf rs s ∧ str' n = lsuf rs s := by
  intro s
  generalize hl : s.length = m
  induction m generalizing s with
  | zero =>
    intro _
    have : s = [] := List.length_eq_zero_iff.mp hl
    subst this
    exact ⟨0, h.2.2.2.1, h'.2.2.2.1, h.2.2.2.2.1, h'.2.2.2.2.1⟩
  | succ m ih =>
    intro hk
    have hne : s ≠ [] := fun e => by subst e; simp at hl
    obtain ⟨s0, c, rfl⟩ : ∃ s0 c, s = s0 ++ [c] := ⟨s.dropLast, s.getLast hne, (List.dropLast_concat_getLast hne).symm⟩
    obtain ⟨n, h1, h2, h3, h4⟩ := ih s0 (by simpa using hl) (fun e he => hk e (List.mem_append_left _ he))
    have hc2 := hk c (by simp)
    obtain ⟨a, a1, a2, a3⟩ := h.2.2.2.2.2.2.2.2.1 n c h1 hc2
    obtain ⟨b, b1, b2, b3⟩ := h'.2.2.2.2.2.2.2.2.1 n c h2 hc2
    have e := a2.symm.trans b2
    have : a = b := (nI_eq (by have := h.1; omega) (by have := h'.1; omega)).mp e
    subst this
    exact ⟨a, a1, b1, by rw [a3, h3, ← lsuf_snoc], by rw [b3, h4, ← lsuf_snoc]⟩
theorem AutN.uniq {M : Mm} {mc A D cap cap' : Nat} {rs : List Ru} {k N N' : Nat} {str str' : Nat → List Nat} (h : AutN M mc A D cap rs k N str) (h' : AutN M mc A D cap' rs k N' str') (hw : RWf rs k) (hc : cap ≤ 12001) (hc' : cap' ≤ 12001) : N = N' ∧ ∀ n, n < N → str n = str' n := by
  have hN : N = N' := (nI_eq (by have := h.1; omega) (by have := h'.1; omega)).mp (h.2.1.symm.trans h'.2.1)
  refine ⟨hN, fun n hn => ?_⟩
  obtain ⟨m, h1, h2, h3, h4⟩ := AutN.run h h' hc hc' (str n) (pf_lt hw (h.2.2.2.2.2.1 n hn))
  rw [lsuf_self (h.2.2.2.2.2.1 n hn)] at h3 h4
  have : m = n := h.2.2.2.2.2.2.2.1 m n h1 hn h3
  subst this
  exact h4.symm
/-- the graph of its nodes -/
def toM (M : Mm) (A : Nat) (n c : Nat) : Nat := cl (gI M A (8 * n + c))
def okM (rs : List Ru) (str : Nat → List Nat) (n : Nat) : Bool := (endAt rs (str n)).isNone
theorem AutN.to {M : Mm} {mc A D cap : Nat} {rs : List Ru} {k N : Nat} {str : Nat → List Nat} (h : AutN M mc A D cap rs k N str) (hc : cap ≤ 12001) {n c : Nat} (hn : n < N) (hk : c < k) : toM M A n c < N ∧ gI M A (8 * n + c) = nI (toM M A n c) ∧ str (toM M A n c) = lsuf rs (str n ++ [c]) := by
  obtain ⟨m, h1, h2, h3⟩ := h.2.2.2.2.2.2.2.2.1 n c hn hk
  have : toM M A n c = m := by unfold toM; rw [h2]; exact cl_nI (by have := h.1; omega)
  rw [this]
  exact ⟨h1, h2, h3⟩
theorem AutN.wy {M : Mm} {mc A D cap : Nat} {rs : List Ru} {k N : Nat} {str : Nat → List Nat} (h : AutN M mc A D cap rs k N str) (hc : cap ≤ 12001) : ∀ m n, n < N → wyG k (toM M A) (okM rs str) m n = wy rs k m (str n) := by
  intro m
  induction m with
  | zero => intro n hn; unfold wyG Jvm.Pilot.CMonoidRulesLaw_law_r2753_cc2f72.wy okM; cases endAt rs (str n) <;> rfl
  | succ m ih =>
    intro n hn
    unfold wyG Jvm.Pilot.CMonoidRulesLaw_law_r2753_cc2f72.wy okM
    cases endAt rs (str n) with
    | some r => rfl
    | none =>
      simp only [Option.isNone_none, Option.isSome_none, if_true, Bool.false_eq_true, if_false]
      refine sum_congr (fun c hc2 => ?_)
      obtain ⟨t1, -, t3⟩ := h.to hc hn (List.mem_range.mp hc2)
      rw [← t3]
      exact ih _ t1
theorem k_isReducible {M : Mm} {mc A B C D cap n : Nat} {o : Option Nat} {Q : Option Value → Mm → Prop} (h : MCS M mc A B C D cap) (hn : n < cap) (ho : gI M D n = oI o) (hb : ∀ i, o = some i → i < 2147483648) : wp F_Machine_isReducible 0 [.ref mc, .int (nI n)] [] M Q = Q (some (.int (bI o.isSome))) M := by
  simp only [B_Machine_isReducible_0, SS, h.1, true_and]
  rw [k_ruleAt h hn, ho]
  simp only [SS, List.cons_append, List.nil_append, B_Machine_isReducible_0, oI_lt hb]
  cases o <;> simp [B_Machine_isReducible_0, B_Machine_isReducible_12, B_Machine_isReducible_13, bI]
theorem lcE {a b : Nat} (ha : a < 9223372036854775808) (hb : b < 9223372036854775808) : (lg_cmp (lN a) (lN b) = 0) = (a = b) := propext ((lg_cmp_eq _ _).trans (pk_lEQ ha hb))
theorem lcL {a b : Nat} (ha : a < 9223372036854775808) (hb : b < 9223372036854775808) : (lg_cmp (lN a) (lN b) < 0) = (a < b) := propext ((lg_cmp_lt _ _).trans (pk_lLT ha hb))
theorem lcLe {a b : Nat} (ha : a < 9223372036854775808) (hb : b < 9223372036854775808) : (lg_cmp (lN a) (lN b) ≤ 0) = (a ≤ b) := propext ((lg_cmp_le _ _).trans (pk_lLE ha hb))
theorem lcGe {a b : Nat} (ha : a < 9223372036854775808) (hb : b < 9223372036854775808) : (0 ≤ lg_cmp (lN a) (lN b)) = (b ≤ a) := propext ((lg_cmp_ge _ _).trans (pk_lLE hb ha))
theorem lM0 : (1000000000000000 : Int64) = lN 1000000000000000 := by decide
theorem lM1 : (1000000000000001 : Int64) = lN CAP := by decide
theorem k_capped {M : Mm} {a : Nat} {Q : Option Value → Mm → Prop} (ha : a < 9223372036854775808) : wp F_Elements_capped 0 [.long (lN a), jk] [] M Q = Q (some (.long (lN (cp a)))) M := by
  simp only [B_Elements_capped_0, B_Elements_capped_14, B_Elements_capped_15, lM0, lM1, lcLe ha (show 1000000000000000 < 9223372036854775808 by omega)]
  unfold cp CAP
  by_cases h : a ≤ 1000000000000000
  · simp only [h, if_true]; rw [show min a 1000000000000001 = a by omega]
  · simp only [h, if_false]; rw [show min a 1000000000000001 = 1000000000000001 by omega]
/-- long ones of the cells S alone were written -/
def FrJ (S : Nat → Prop) (M M' : Mm) : Prop := ∃ F, M' = wJ M F ∧ ∀ b k, ¬ S b → F b k = gJ M b k
theorem FrJ.rfl {S : Nat → Prop} {M : Mm} : FrJ S M M := ⟨gJ M, Eq.refl _, fun _ _ _ => Eq.refl _⟩
theorem FrJ.trans {S : Nat → Prop} {M M1 M2 : Mm} (h : FrJ S M M1) (h2 : FrJ S M1 M2) : FrJ S M M2 := by
  obtain ⟨F, e, hF⟩ := h
  obtain ⟨F2, e2, hF2⟩ := h2
  subst e
  exact ⟨F2, e2, fun b k hb => (hF2 b k hb).trans (hF b k hb)⟩
theorem FrJ.gI {S : Nat → Prop} {M M1 : Mm} (h : FrJ S M M1) (b k : Nat) : gI M1 b k = gI M b k := by obtain ⟨F, e, -⟩ := h; subst e; exact Eq.refl _
theorem FrJ.gJ {S : Nat → Prop} {M M1 : Mm} (h : FrJ S M M1) {b : Nat} (hb : ¬ S b) (k : Nat) : gJ M1 b k = gJ M b k := by
  obtain ⟨F, e, hF⟩ := h
  subst e
  exact hF b k hb
theorem FrJ.sh {S : Nat → Prop} {M M1 : Mm} (h : FrJ S M M1) (b : Nat) : sh M1 b = sh M b := by obtain ⟨F, e, -⟩ := h; subst e; exact Eq.refl _
theorem FrJ.gR {S : Nat → Prop} {M M1 : Mm} (h : FrJ S M M1) (b k : Nat) : gR M1 b k = gR M b k := by obtain ⟨F, e, -⟩ := h; subst e; exact Eq.refl _
theorem FrJ.nxt {S : Nat → Prop} {M M1 : Mm} (h : FrJ S M M1) : nxt M1 = nxt M := by obtain ⟨F, e, -⟩ := h; subst e; exact Eq.refl _
theorem FrJ.slo {S : Nat → Prop} {M M1 : Mm} (h : FrJ S M M1) : slo M1 = slo M := by obtain ⟨F, e, -⟩ := h; subst e; exact Eq.refl _
theorem FrJ.sJ {S : Nat → Prop} {M : Mm} {a j : Nat} {x : Int64} (h : S a) : FrJ S M (sJ M a j x) := ⟨_, Eq.refl _, fun b k hb => by
  have : ¬ (b = a ∧ k = j) := fun q => hb (q.1 ▸ h)
  show (if b = a ∧ k = j then x else _) = _
  rw [if_neg this]; exact Eq.refl _⟩
theorem FrJ.x {S : Nat → Prop} {M M' : Mm} (h : FrJ S M M') : FrX S (fun _ => False) M M' := ⟨Nat.le_of_eq h.nxt.symm, Nat.le_of_eq h.slo.symm, fun b _ => h.sh b, fun b _ hb => ⟨fun k => h.gI b k, fun k => h.gJ hb k⟩, fun b _ _ k => h.gR b k⟩
theorem MCS.frJ {M M1 : Mm} {S : Nat → Prop} {mc A B C D cap : Nat} (h : MCS M mc A B C D cap) (hf : FrJ S M M1) : MCS M1 mc A B C D cap := h.frx hf.x (hf.gI _ _) (fun q => q)
theorem AutN.frJ {M M1 : Mm} {S : Nat → Prop} {mc A D cap : Nat} {rs : List Ru} {k N : Nat} {str : Nat → List Nat} (h : AutN M mc A D cap rs k N str) (hf : FrJ S M M1) : AutN M1 mc A D cap rs k N str := by
  obtain ⟨a1, a2, a3, a4, a5, a6, a7, a8, a9, a10⟩ := h
  exact ⟨a1, (hf.gI _ _).trans a2, (hf.gI _ _).trans a3, a4, a5, a6, a7, a8, fun n c hn he => by obtain ⟨m, y1, y2, y3⟩ := a9 n c hn he; exact ⟨m, y1, (hf.gI _ _).trans y2, y3⟩, fun n hn => (hf.gI _ _).trans (a10 n hn)⟩
theorem AutN.frx {M M1 : Mm} {S T : Nat → Prop} {mc A D cap : Nat} {rs : List Ru} {k N : Nat} {str : Nat → List Nat} (h : AutN M mc A D cap rs k N str) (hf : FrX S T M M1) (b0 : mc < nxt M) (b1 : A < nxt M) (b2 : D < nxt M) (h1 : ¬ S mc) (h2 : ¬ S A) (h3 : ¬ S D) : AutN M1 mc A D cap rs k N str := by
  obtain ⟨a1, a2, a3, a4, a5, a6, a7, a8, a9, a10⟩ := h
  have e : ∀ b, b < nxt M → ¬ S b → ∀ j, gI M1 b j = gI M b j := fun b x y j => (hf.2.2.2.1 b x y).1 j
  exact ⟨a1, (e _ b0 h1 _).trans a2, (e _ b0 h1 _).trans a3, a4, a5, a6, a7, a8, fun n c hn he => by obtain ⟨m, y1, y2, y3⟩ := a9 n c hn he; exact ⟨m, y1, (e _ b1 h2 _).trans y2, y3⟩, fun n hn => (e _ b2 h3 _).trans (a10 n hn)⟩
/-- the Elements' own cells -/
def eA (x a : Nat) : Prop := (x + 1035 ≤ a ∧ a < x + 1039) ∨ x + 1094 ≤ a
def ElS (M : Mm) (x W I Qa P wl ql : Nat) : Prop := sh M (x + 1034) = some (.inl 1) ∧ (gR M (x + 1034) 0 = some (x + 9) ∧ gR M (x + 1034) 1 = some (x + 1013) ∧ gR M (x + 1034) 2 = some W ∧ gR M (x + 1034) 6 = some I ∧ gR M (x + 1034) 7 = some Qa ∧ gR M (x + 1034) 8 = some P) ∧ (sh M W = some (.inr (1, wl)) ∧ sh M I = some (.inr (0, ql)) ∧ sh M Qa = some (.inr (0, ql)) ∧ sh M P = some (.inr (1, ql))) ∧
  (W ≠ P ∧ I ≠ Qa) ∧ ((eA x W ∧ W < nxt M) ∧ (eA x I ∧ I < nxt M) ∧ (eA x Qa ∧ Qa < nxt M) ∧ (eA x P ∧ P < nxt M)) ∧ (∀ j, 1 ≤ j → j < 5 → gR M (x + 1013) j ≠ some I ∧ gR M (x + 1013) j ≠ some Qa) ∧ wl % 81 = 0 ∧ wl ≤ 972081 ∧ ql ≤ 12001
def WyV (M : Mm) (W N : Nat) (rs : List Ru) (k : Nat) (str : Nat → List Nat) (cr : Nat) : Prop := ∀ r n, r < cr → n < N → gJ M W (r * N + n) = lN (cp (wy rs k r (str n)))
theorem ix2 {r n N R : Nat} (hr : r < R) (hn : n < N) : r * N + n < R * N := by
  have : (r + 1) * N ≤ R * N := Nat.mul_le_mul_right _ hr
  rw [Nat.succ_mul] at this
  omega
theorem k_waysOn {M : Mm} {x W I Qa P wl ql N n i : Nat} {Q : Option Value → Mm → Prop} (h : ElS M x W I Qa P wl ql) (hm : sh M (x + 1013) = some (.inl 3)) (h5 : gI M (x + 1013) 5 = nI N) (hi : n * N + i < wl) : wp F_Elements_waysOn 0 [.ref (x + 1034), .int (nI n), .int (nI i), jk] [] M Q = Q (some (.long (gJ M W (n * N + i)))) M := by
  have hw := h.2.2.2.2.2.2.2.1
  have i1 : ixJ M W (nI (n * N + i)) := ixJ_of h.2.2.1.1 hi (by omega)
  have e1 : cl (nI (n * N + i)) = n * N + i := cl_nI (by omega)
  have p0 : ¬ nI (n * N + i) < 0 := nI_pos (by omega)
  have p1 : ¬ nI wl ≤ nI (n * N + i) := nI_ge (by omega) (by omega)
  simp only [B_Elements_waysOn_0, B_Elements_waysOn_35, SS, h.1, h.2.1.2.1, h.2.1.2.2.1, h.2.2.1.1, hm, h5, pk_mul, nI_add, p0, p1, if_false, i1, e1, true_and]
theorem ElS.frJ {M M1 : Mm} {S : Nat → Prop} {x W I Qa P wl ql : Nat} (h : ElS M x W I Qa P wl ql) (hf : FrJ S M M1) : ElS M1 x W I Qa P wl ql := by
  obtain ⟨a1, ⟨b1, b2, b3, b4, b5, b6⟩, ⟨c1, c2, c3, c4⟩, d, e, f, g⟩ := h
  exact ⟨(hf.sh _).trans a1, ⟨(hf.gR _ _).trans b1, (hf.gR _ _).trans b2, (hf.gR _ _).trans b3, (hf.gR _ _).trans b4, (hf.gR _ _).trans b5, (hf.gR _ _).trans b6⟩, ⟨(hf.sh _).trans c1, (hf.sh _).trans c2, (hf.sh _).trans c3, (hf.sh _).trans c4⟩, d, by rw [hf.nxt]; exact e, fun j h1 hj => by rw [hf.gR]; exact f j h1 hj, g⟩
theorem k_countRow {M : Mm} {x W I Qa P wl ql A B C D cap k N r : Nat} {rs : List Ru} {str : Nat → List Nat} {Q : Option Value → Mm → Prop} (hE : ElS M x W I Qa P wl ql) (hM : MCS M (x + 1013) A B C D cap) (hA : AutN M (x + 1013) A D cap rs k N str) (hw : RWf rs k) (hr : r ≤ 80) (hwl : 81 * N ≤ wl) (hV : WyV M W N rs k str r)
    (hQ : ∀ M', FrJ (fun b => b = W) M M' → WyV M' W N rs k str (r + 1) → Q none M') : wp F_Elements_countRow 0 [.ref (x + 1034), .int (nI r), jk, jk, jk, jk] [] M Q := by
  have hcap := hM.2.2.2.2.2.2.1
  have hk8 := hw.2.1
  have hN := hA.1
  have hrs := hw.2.2
  have hrN : ∀ a n, a ≤ 80 → n < N → a * N + n < wl := fun a n h1 h2 => Nat.lt_of_lt_of_le (ix2 (show a < 81 by omega) h2) hwl
  have z0 : (0 : Int32) = nI 0 := rfl
  -- the loop of nodes
  have outer : ∀ d n M' l3 l4 l5, n + d = N → FrJ (fun b => b = W) M M' → WyV M' W N rs k str r → (∀ m, m < n → gJ M' W (r * N + m) = lN (cp (wy rs k r (str m)))) → wp F_Elements_countRow 2 [.ref (x + 1034), .int (nI r), .int (nI n), l3, l4, l5] [] M' Q := by
    intro d
    induction d with
    | zero =>
      intro n M' l3 l4 l5 hn ff hV' hnew
      have hE' := hE.frJ ff
      have hM' := hM.frJ ff
      have hA' := hA.frJ ff
      have e1 : nI N ≤ nI n := nI_le (by omega) (by omega)
      simp only [B_Elements_countRow_2, B_Elements_countRow_109, SS, hE'.1, hE'.2.1.2.1, hM'.1, hA'.2.1, e1, if_true, true_and]
      refine hQ M' ff (fun a m ha hm => ?_)
      by_cases q : a < r
      · exact hV' a m q hm
      · rw [show a = r by omega]; exact hnew m (by omega)
    | succ d ih =>
      intro n M' l3 l4 l5 hn ff hV' hnew
      have hE' := hE.frJ ff
      have hM' := hM.frJ ff
      have hA' := hA.frJ ff
      have hnN : n < N := by omega
      have e1 : ¬ nI N ≤ nI n := nI_ge (by omega) (by omega)
      -- the sum is there: it is stored
      have store : ∀ s l5, s < 9223372036854775808 → wy rs k r (str n) = (if (endAt rs (str n)).isSome = true then 0 else wy rs k r (str n)) → ((endAt rs (str n)).isSome = false → cp s = cp (wy rs k r (str n))) → wp F_Elements_countRow 68 [.ref (x + 1034), .int (nI r), .int (nI n), .long (lN s), jk, l5] [] M' Q := by
        intro s l5 hs hwz hcp
        have hbe : ∀ i, endAt rs (str n) = some i → i < 2147483648 := fun i hi => by have := (endAt_some hi).1; omega
        have hj := hrN r n hr hnN
        have i1 : ixJ M' W (nI (r * N + n)) := ixJ_of hE'.2.2.1.1 hj (by have := hE'.2.2.2.2.2.2.2.1; omega)
        have e2 : cl (nI (r * N + n)) = r * N + n := cl_nI (by have := hE'.2.2.2.2.2.2.2.1; omega)
        have fin : ∀ v, v = lN (cp (wy rs k r (str n))) → wp F_Elements_countRow 102 [.ref (x + 1034), .int (nI r), .int (nI n), .long (lN s), jk, l5] [.long v, .int (nI (r * N + n)), .ref W] M' Q := by
          intro v hv
          simp only [B_Elements_countRow_102, i1, e2, SS, nI_i1, true_and]
          rw [G_Elements_countRow_106]
          refine ih (n + 1) _ _ _ _ (by omega) (ff.trans (FrJ.sJ rfl)) (fun a m ha hm => ?_) (fun m hm => ?_)
          · rw [gJ_sJ, if_neg (fun q => by
              have h1 := ix2 (N := N) (show a < r from ha) hm
              omega)]
            exact hV' a m ha hm
          · rw [gJ_sJ]
            by_cases q : m = n
            · rw [if_pos ⟨rfl, by rw [q]⟩, q, hv]
            · rw [if_neg (fun z => q (by omega))]; exact hnew m (by omega)
        simp only [B_Elements_countRow_68, SS, hE'.1, hE'.2.1.2.1, hE'.2.1.2.2.1, hM'.1, hA'.2.1, pk_mul, nI_add, true_and]
        rw [k_isReducible hM' (show n < cap by omega) (hA'.2.2.2.2.2.2.2.2.2 n hnN) hbe]
        simp only [SS, List.cons_append, List.nil_append, B_Elements_countRow_68, bI_ne]
        cases hb : (endAt rs (str n)).isSome with
        | true =>
          simp only [Bool.true_eq_false, if_false]
          rw [hb, if_pos rfl] at hwz
          exact fin 0 (by rw [hwz]; rfl)
        | false =>
          simp only [if_true, B_Elements_countRow_98]
          rw [k_capped hs]
          simp only [SS, List.cons_append, List.nil_append, B_Elements_countRow_98]
          exact fin _ (by rw [hcp hb])
      have hwz : wy rs k r (str n) = (if (endAt rs (str n)).isSome = true then 0 else wy rs k r (str n)) := by
        split
        · rename_i q; exact wy_bad q
        · rfl
      simp only [B_Elements_countRow_2, SS, hE'.1, hE'.2.1.2.1, hM'.1, hA'.2.1, e1, if_false, true_and]
      cases r with
      | zero =>
        have e3 : (nI 0 : Int32) = 0 := rfl
        have e4 : (0 : Int32) ≤ 0 := by decide
        have l1 : (1 : Int64) = lN 1 := by decide
        simp only [e3, e4, if_true, B_Elements_countRow_2, B_Elements_countRow_22, B_Elements_countRow_26, SS]
        rw [l1]
        have := store 1 (.int 0) (by omega) hwz (fun hb => by simp [wy, hb])
        rw [e3] at this
        exact this
      | succ r =>
        have e3 : ¬ nI (r + 1) = 0 := nI_ne0 (by omega) (by omega)
        have e4 : ¬ nI (r + 1) ≤ 0 := nI_nle (by omega) (by omega)
        have l0 : (0 : Int64) = lN 0 := by decide
        simp only [e3, if_false, B_Elements_countRow_21, B_Elements_countRow_22, SS]
        rw [l0, z0]
        have inner : ∀ d2 c, c + d2 = k → wp F_Elements_countRow 26 [.ref (x + 1034), .int (nI (r + 1)), .int (nI n), .long (lN (((List.range c).map (fun e => cp (wy rs k r (lsuf rs (str n ++ [e]))))).sum)), jk, .int (nI c)] [] M' Q := by
          intro d2
          induction d2 with
          | zero =>
            intro c hc
            have e5 : nI k ≤ nI c := nI_le (by omega) (by omega)
            simp only [B_Elements_countRow_26, e4, if_false, SS, hE'.1, hE'.2.1.2.1, hM'.1, hA'.2.2.1, e5, if_true, true_and]
            have hck : c = k := by omega
            subst hck
            have hsl := sum_cp_le ((List.range c).map (fun e => wy rs c r (lsuf rs (str n ++ [e]))))
            rw [List.map_map, List.length_map, List.length_range] at hsl
            refine store _ _ ?_ hwz (fun hb => ?_)
            · have : CAP * c ≤ CAP * 8 := Nat.mul_le_mul_left _ hk8
              have h3 : CAP * 8 = 8000000000000008 := rfl
              exact Nat.lt_of_le_of_lt hsl (by omega)
            · have := cp_sum ((List.range c).map (fun e => wy rs c r (lsuf rs (str n ++ [e]))))
              rw [List.map_map] at this
              rw [wy, if_neg (by rw [hb]; simp)]
              exact this
          | succ d2 ih2 =>
            intro c hc
            have e5 : ¬ nI k ≤ nI c := nI_ge (by omega) (by omega)
            have e6 : nI (r + 1) - 1 = nI r := nI_pred r
            obtain ⟨t1, t2, t3⟩ := hA'.to hcap hnN (show c < k by omega)
            simp only [B_Elements_countRow_26, e4, if_false, SS, hE'.1, hE'.2.1.2.1, hM'.1, hA'.2.2.1, e5, e6, true_and]
            rw [k_after hM' (by omega), t2]
            simp only [SS, List.cons_append, List.nil_append, B_Elements_countRow_26, hE'.1, true_and]
            rw [k_waysOn hE' hM'.1 hA'.2.1 (hrN r _ (by omega) t1), hV' r _ (by omega) t1, t3]
            simp only [SS, List.cons_append, List.nil_append, B_Elements_countRow_26, lN_add, nI_i1]
            rw [G_Elements_countRow_65]
            have := ih2 (c + 1) (by omega)
            rw [List.range_succ, List.map_append, List.sum_append] at this
            simp only [List.map_cons, List.map_nil, List.sum_cons, List.sum_nil, Nat.add_zero] at this
            exact this
        have := inner k 0 (by omega)
        simpa using this
  simp only [B_Elements_countRow_0, SS]
  rw [z0]
  exact outer N 0 M _ _ _ (by omega) FrJ.rfl hV (fun m hm => by omega)
