/-- the machine is that of the RULES rs over k letters -/
def AutV (M : Mm) (mc A D cap : Nat) (rs : List Ru) (k : Nat) : Prop := ∃ (N : Nat) (str : Nat → List Nat), N ≤ cap ∧ gI M mc 5 = nI N ∧ gI M mc 6 = nI k ∧ 1 ≤ N ∧ str 0 = [] ∧ (∀ n, n < N → pf rs (str n) = true) ∧ (∀ s, pf rs s = true → ∃ n, n < N ∧ str n = s) ∧ (∀ n m, n < N → m < N → str n = str m → n = m) ∧
  (∀ n e, n < N → e < k → ∃ m, m < N ∧ gI M A (8 * n + e) = nI m ∧ str m = lsuf rs (str n ++ [e])) ∧ ∀ n, n < N → gI M D n = oI (endAt rs (str n))
theorem pf_snoc {rs : List Ru} {u : Ru} {s : List Nat} : pf (rs ++ [u]) s = (pf rs s || (u.2.2 && s.isPrefixOf u.1)) := by
  unfold pf
  rw [List.any_append]
  simp [Bool.or_assoc]
theorem exAt_snoc {rs : List Ru} {u : Ru} {s : List Nat} : exAt (rs ++ [u]) s = omin (exAt rs s) (if u.2.2 = true ∧ u.1 = s then some rs.length else none) := by
  unfold exAt
  rw [List.findIdx?_append]
  cases h : rs.findIdx? (fun u => u.2.2 && u.1 == s) with
  | none =>
    by_cases q : u.2.2 = true ∧ u.1 = s
    · rw [if_pos q]
      simp [List.findIdx?_cons, q.1, q.2, omin]
    · rw [if_neg q]
      have : (u.2.2 && u.1 == s) = false := by
        rw [← Bool.not_eq_true, Bool.and_eq_true, beq_iff_eq]; exact q
      simp [List.findIdx?_cons, this, omin]
  | some i =>
    obtain ⟨hi, -⟩ := List.findIdx?_eq_some_iff_getElem.mp h
    by_cases q : u.2.2 = true ∧ u.1 = s
    · rw [if_pos q]
      show some i = some (min i rs.length)
      rw [Nat.min_eq_left (by omega)]
    · rw [if_neg q]; rfl
theorem lettersN_snoc {rs : List Ru} {u : Ru} : lettersN (rs ++ [u]) = lettersN rs + (if u.2.2 = true then u.1.length else 0) := by simp [lettersN]
theorem lettersN_take {rs : List Ru} {i : Nat} (h : i ≤ rs.length) : lettersN (rs.take i) ≤ lettersN rs := by
  have h2 : lettersN (rs.take i ++ rs.drop i) = lettersN (rs.take i) + lettersN (rs.drop i) := by simp only [lettersN, List.map_append, List.sum_append]
  rw [List.take_append_drop] at h2
  omega
theorem lettersN_le {rs : List Ru} (h : ∀ u ∈ rs, u.1.length ≤ 60) : lettersN rs ≤ 60 * rs.length := by
  induction rs with
  | nil => simp [lettersN]
  | cons u l ih =>
    have h1 := ih (fun v hv => h v (List.mem_cons_of_mem _ hv))
    have h2 := h u List.mem_cons_self
    have : lettersN (u :: l) = (if u.2.2 = true then u.1.length else 0) + lettersN l := by simp [lettersN]
    rw [this, List.length_cons]
    split <;> omega
/-- RULES are as they must be -/
def RWf (rs : List Ru) (k : Nat) : Prop := (∀ u ∈ rs, u.1 ≠ [] ∧ u.1.length ≤ 60 ∧ u.2.1.length ≤ u.1.length ∧ (∀ c ∈ u.1, c < k) ∧ ∀ c ∈ u.2.1, c < k) ∧ k ≤ 8 ∧ rs.length ≤ 200
theorem getD_mem {rs : List Ru} {i : Nat} (h : i < rs.length) : rs.getD i dR ∈ rs := by
  rw [List.getD_eq_getElem?_getD, List.getElem?_eq_getElem h]
  exact List.getElem_mem h
/-- the trie of the first i RULES -/
def TrI (M : Mm) (mc A D : Nat) (rs : List Ru) (w i N : Nat) (str : Nat → List Nat) (nx : Nat → Nat → Option Nat) : Prop := Trie N str nx ∧ TrM M A N nx w ∧ gI M mc 5 = nI N ∧ N ≤ 1 + lettersN (rs.take i) ∧ (∀ n, n < N → pf (rs.take i) (str n) = true) ∧ (∀ s, pf (rs.take i) s = true → ∃ n, n < N ∧ str n = s) ∧ ∀ n, n < w → gI M D n = oI (if n < N then exAt (rs.take i) (str n) else none)
/-- what renew leaves -/
def Ren (M M' : Mm) (mc z A B C D cap A' B' C' D' cap' : Nat) (rs : List Ru) (k : Nat) : Prop := MCS M' mc A' B' C' D' cap' ∧ AutV M' mc A' D' cap' rs k ∧ gI M' z 3 = 0 ∧ (∀ j, j ≠ 3 → gI M' z j = gI M z j) ∧ RUS M' z ∧ RUV M' z rs ∧ FrX (fun b => b = z ∨ b = mc ∨ b = A ∨ b = B ∨ b = C ∨ b = D) (fun b => b = mc) M M' ∧
  ((cap' = cap ∧ A' = A ∧ B' = B ∧ C' = C ∧ D' = D ∧ nxt M' = nxt M ∧ slo M' = slo M) ∨ (cap < cap' ∧ min (2 * cap) 12001 ≤ cap' ∧ A' = nxt M ∧ B' = nxt M + 1 ∧ C' = nxt M + 2 ∧ D' = nxt M + 3 ∧ nxt M' = nxt M + 4 ∧ slo M' = slo M + 11 * cap'))
theorem k_renew {M : Mm} {mc z A B C D cap k : Nat} {rs : List Ru} {Q : Option Value → Mm → Prop} (h : MCS M mc A B C D cap) (hR : RUS M z) (hV : RUV M z rs) (hz : z + 1002 ≤ nxt M) (hwf : RWf rs k) (hk2 : gI M z 2 = nI k) (hch : (gI M z 3 = 0 ∧ AutV M mc A D cap rs k) ∨ gI M z 3 = 1)
    (hd : ¬ ruS z mc ∧ ¬ ruS z A ∧ ¬ ruS z B ∧ ¬ ruS z C ∧ ¬ ruS z D) (hQ : ∀ A' B' C' D' cap' M', Ren M M' mc z A B C D cap A' B' C' D' cap' rs k → Q none M') : wp F_Machine_renew 0 [.ref mc, .ref z, jk] [] M Q := by
  obtain ⟨hwf1, hk8, hlen⟩ := hwf
  obtain ⟨l0, l1, l2, l3, l4⟩ := h.2.2.2.2.2.2.2
  have hcap := h.2.2.2.2.2.2.1
  rcases hch with ⟨c0, hAut⟩ | c1
  · simp only [B_Machine_renew_0, hR.1, c0, if_true, true_and]
    exact hQ A B C D cap M ⟨h, hAut, c0, fun _ _ => rfl, hR, hV, FrX.rfl, Or.inl ⟨rfl, rfl, rfl, rfl, rfl, rfl, rfl⟩⟩
  have nzm : ¬ z = mc := fun e => hd.1 (by rw [← e]; exact ⟨by omega, by omega⟩)
  have nmz : ¬ mc = z := fun e => nzm e.symm
  have h1 : (1 : Int32) = 0 ↔ False := ⟨fun e => absurd e (by decide), False.elim⟩
  simp only [B_Machine_renew_0, B_Machine_renew_8, SS, hR.1, c1, h1, if_false, true_and, true_or, h.1, show ¬ (2 : Nat) = 3 by omega, and_false, hk2]
  -- the first writes
  have f0 : FrS (fun b => b = z ∨ b = mc) M (sI (sI M z 3 0) mc 6 (nI k)) := (FrS.sI (Or.inl rfl)).trans (FrS.sI (Or.inr rfl))
  have g0z : ∀ j, j ≠ 3 → gI (sI (sI M z 3 0) mc 6 (nI k)) z j = gI M z j := fun j hj => by rw [gI_sI, if_neg (fun q => nzm q.1), gI_sI, if_neg (fun q => hj q.2)]
  have g0z3 : gI (sI (sI M z 3 0) mc 6 (nI k)) z 3 = 0 := by rw [gI_sI, if_neg (fun q => nzm q.1), gI_sI, if_pos ⟨rfl, rfl⟩]
  have g06 : gI (sI (sI M z 3 0) mc 6 (nI k)) mc 6 = nI k := by rw [gI_sI, if_pos ⟨rfl, rfl⟩]
  have g00 : gI (sI (sI M z 3 0) mc 6 (nI k)) mc 0 = gI M mc 0 := by rw [gI_sI, if_neg (by omega), gI_sI, if_neg (fun q => nmz q.1)]
  generalize hM0 : sI (sI M z 3 0) mc 6 (nI k) = M0 at f0 g0z g0z3 g06 g00 ⊢
  have h0 := h.fr f0 g00
  have hR0 := hR.fr f0
  have hV0 : RUV M0 z rs := hV.frx f0.x (by omega) (g0z 1 (by omega)) (fun b b1 b2 q => by rcases q with q | q; omega; exact hd.1 (by rw [← q]; exact ⟨by omega, by omega⟩))
  rw [k_lettersOfLefts hR0 hV0]
  have hlet : lettersN rs ≤ 12000 := by have := lettersN_le (rs := rs) (fun u hu => (hwf1 u hu).2.1); omega
  have k1 : (1 : Int32) = nI 1 := rfl
  simp only [SS, List.cons_append, List.nil_append, B_Machine_renew_8, k1, nI_add, h0.1, true_and]
  refine k_Machine_clear h0 (by omega) ?_
  intro A' B' C' D' cap' M1 hcl
  obtain ⟨s1, s2, s3, s4, s5, s6, s7, s8⟩ := hcl
  have n0 : nxt M0 = nxt M := f0.nxt
  have hd' : ¬ ruS z mc ∧ ¬ ruS z A' ∧ ¬ ruS z B' ∧ ¬ ruS z C' ∧ ¬ ruS z D' := by
    rcases s8 with ⟨-, rfl, rfl, rfl, rfl, -⟩ | ⟨-, -, rfl, rfl, rfl, rfl, -⟩
    · exact hd
    · exact ⟨hd.1, fun q => by omega, fun q => by omega, fun q => by omega, fun q => by omega⟩
  have hAD : ∀ b, ruS z b → ¬ (b = mc ∨ b = A ∨ b = D) := fun b hb q => by
    rcases q with rfl | rfl | rfl
    · exact hd.1 hb
    · exact hd.2.1 hb
    · exact hd.2.2.2.2 hb
  have hz1 : z + 1002 ≤ nxt M1 := by have := s7.1; omega
  have hR1 : RUS M1 z := hR0.frx s7 (by omega) (fun b hb q => hd.1 (by rw [← q]; exact hb))
  have g1z : ∀ j, gI M1 z j = gI M0 z j := fun j => (s7.2.2.2.1 z (by omega) (hAD z ⟨by omega, by omega⟩)).1 j
  have hV1 : RUV M1 z rs := hV0.frx s7 (by omega) (g1z 1) (fun b b1 b2 => hAD b ⟨by omega, b2⟩)
  obtain ⟨m1, m2, m3, m4⟩ := s1.ne
  have dAD' : A' ≠ D' := s1.2.2.2.2.1.2.2.1
  have cN : ∀ N str nx i, TrI M1 mc A' D' rs (1 + lettersN rs) i N str nx → True := fun _ _ _ _ _ => trivial
  have loop : ∀ d i, i + d = rs.length → ∀ (N : Nat) (str : Nat → List Nat) (nx : Nat → Nat → Option Nat) (M2 : Mm), TrI M2 mc A' D' rs (1 + lettersN rs) i N str nx → FrS (fun b => b = mc ∨ b = A' ∨ b = D') M1 M2 → (∀ j, j ≠ 5 → gI M2 mc j = gI M1 mc j) → wp F_Machine_renew 33 [.ref mc, .ref z, .int (nI i)] [] M2 Q := by
    intro d
    induction d with
    | zero =>
      intro i hi N str nx M2 I f2 k5
      have hnr : ∀ b, ruS z b → ¬ (b = mc ∨ b = A' ∨ b = D') := fun b hb q => by
        rcases q with rfl | rfl | rfl
        · exact hd'.1 hb
        · exact hd'.2.1 hb
        · exact hd'.2.2.2.2 hb
      have hR2 := hR1.fr f2
      have hV2 := hV1.fr f2 hnr
      have t2 := s1.fr f2 (k5 0 (by omega))
      have e1 : nI rs.length ≤ nI i := nI_le (by omega) (by omega)
      simp only [B_Machine_renew_33, B_Machine_renew_73, hR2.1, hV2.1, e1, if_true, true_and, t2.1]
      rw [show i = rs.length by omega, TrI, List.take_length] at I
      obtain ⟨i1, i2, i3, i4, i5, i6, i7⟩ := I
      have T : TrR rs k N str nx := ⟨i1, i5, i6, fun u hu hl => ⟨(hwf1 u hu).1, (hwf1 u hu).2.2.2.1⟩⟩
      refine k_link t2 (by omega) i3 ((k5 6 (by omega)).trans (s6.trans g06)) hk8 T (fun n e hn he => i2.1 n e (by omega) he) (fun n hn => by rw [i7 n (by omega), if_pos hn]) hlen ?_
      intro M3 f3 x1 x2
      simp only [Option.toList_none, List.nil_append, B_Machine_renew_73]
      have nmc : ¬ (mc = A' ∨ mc = B' ∨ mc = C' ∨ mc = D') := by omega
      have hnr3 : ∀ b, ruS z b → ¬ (b = A' ∨ b = B' ∨ b = C' ∨ b = D') := fun b hb q => by
        rcases q with rfl | rfl | rfl | rfl
        · exact hd'.2.1 hb
        · exact hd'.2.2.1 hb
        · exact hd'.2.2.2.1 hb
        · exact hd'.2.2.2.2 hb
      have zz : ruS z z := ⟨by omega, by omega⟩
      have g3z : ∀ j, gI M3 z j = gI M0 z j := fun j => by rw [f3.gI (hnr3 z zz), f2.gI (hnr z zz), g1z]
      have fx0 : FrX (fun b => b = z ∨ b = mc ∨ b = A ∨ b = B ∨ b = C ∨ b = D) (fun b => b = mc) M M1 := (f0.x.weaken (fun b _ q => by rcases q with q | q; exact Or.inl q; exact Or.inr (Or.inl q)) (fun _ _ q => q.elim)).trans' s7 (fun b _ q => by rcases q with q | q | q; exact Or.inr (Or.inl q); exact Or.inr (Or.inr (Or.inl q)); exact Or.inr (Or.inr (Or.inr (Or.inr (Or.inr q))))) (fun _ _ q => q)
      have f4 : FrS (fun b => b = mc ∨ b = A' ∨ b = B' ∨ b = C' ∨ b = D') M1 M3 := (f2.weaken (fun b q => by omega)).trans (f3.weaken (fun b q => by omega))
      have fx : FrX (fun b => b = z ∨ b = mc ∨ b = A ∨ b = B ∨ b = C ∨ b = D) (fun b => b = mc) M M3 := fx0.trans' f4.x (fun b hb q => by
        rcases s8 with ⟨-, rfl, rfl, rfl, rfl, -⟩ | ⟨-, -, rfl, rfl, rfl, rfl, -⟩
        · omega
        · omega) (fun _ _ q => q.elim)
      refine hQ A' B' C' D' cap' M3 ⟨t2.fr f3 (f3.gI nmc 0), ⟨N, str, by omega, (f3.gI nmc 5).trans i3, (f3.gI nmc 6).trans ((k5 6 (by omega)).trans (s6.trans g06)), i1.1, i1.2.1, i5, i6, i1.2.2.2.2, x1, x2⟩, (g3z 3).trans g0z3, fun j hj => (g3z j).trans (g0z j hj), hR2.fr f3, hV2.fr f3 hnr3, fx, ?_⟩
      rcases s8 with ⟨a1, a2, a3, a4, a5, a6, a7⟩ | ⟨a1, a2, a3, a4, a5, a6, a7, a8⟩
      · exact Or.inl ⟨a1, a2, a3, a4, a5, by rw [f4.nxt, a6, n0], by rw [f4.slo, a7, f0.slo]⟩
      · refine Or.inr ⟨by omega, by omega, by rw [a3, n0], by rw [a4, n0], by rw [a5, n0], by rw [a6, n0], by rw [f4.nxt, a7, n0], by rw [f4.slo, a8, f0.slo]⟩
    | succ d ih =>
      intro i hi N str nx M2 I f2 k5
      have hnr : ∀ b, ruS z b → ¬ (b = mc ∨ b = A' ∨ b = D') := fun b hb q => by
        rcases q with rfl | rfl | rfl
        · exact hd'.1 hb
        · exact hd'.2.1 hb
        · exact hd'.2.2.2.2 hb
      have hR2 := hR1.fr f2
      have hV2 := hV1.fr f2 hnr
      have t2 := s1.fr f2 (k5 0 (by omega))
      have e1 : ¬ nI rs.length ≤ nI i := nI_ge (by omega) (by omega)
      obtain ⟨q1, q2⟩ := hR2.2.2.2 i (by omega)
      have vi := hV2.2.2 i (by omega)
      have i1 : ixR M2 (z + 1) (nI i) := ixR_of hR2.2.2.1 (by omega) (by omega) (by omega)
      have hu := hwf1 _ (getD_mem (show i < rs.length by omega))
      have hts : rs.take (i + 1) = rs.take i ++ [rs.getD i dR] := take_succ_getD dR (by omega)
      have htl : (rs.take i).length = i := by rw [List.length_take]; omega
      simp only [B_Machine_renew_33, SS, hR2.1, hR2.2.1, hV2.1, e1, if_false, true_and, i1, cl_nI (show i < 2147483648 by omega), q1, q2.1, vi.2.2.1]
      generalize hgu : rs.getD i dR = u at vi hu hts
      cases hb : u.2.2 with
      | false =>
        simp only [bI, Bool.false_eq_true, if_false, if_true, B_Machine_renew_67, nI_i1]
        rw [G_Machine_renew_70]
        refine ih (i + 1) (by omega) N str nx M2 ?_ f2 k5
        obtain ⟨j1, j2, j3, j4, j5, j6, j7⟩ := I
        refine ⟨j1, j2, j3, ?_, fun n hn => ?_, fun s hs => ?_, fun n hn => ?_⟩
        · rw [hts, lettersN_snoc, hb]; simpa using j4
        · rw [hts, pf_snoc, j5 n hn]; rfl
        · rw [hts, pf_snoc, hb] at hs
          simp only [Bool.false_and, Bool.or_false] at hs
          exact j6 s hs
        · rw [hts, j7 n hn]
          simp only [exAt_snoc, hb, Bool.false_eq_true, false_and, if_false]
          congr 2
          cases exAt (rs.take i) (str n) <;> rfl
      | true =>
        have hne : ¬ nI 1 = 0 := by decide
        simp only [bI, if_true, k1, hne, if_false, B_Machine_renew_33, SS, hR2.1, hR2.2.1, true_and, i1, cl_nI (show i < 2147483648 by omega), q1, q2.1, q2.2.1, t2.1]
        obtain ⟨j1, j2, j3, j4, j5, j6, j7⟩ := I
        have hl1 : lettersN (rs.take (i + 1)) ≤ lettersN rs := lettersN_take (by omega)
        rw [hts, lettersN_snoc, hb, if_pos rfl] at hl1
        refine k_insert (w := 1 + lettersN rs) t2 s2 q2.2.2.2.1 vi.1 hu.2.1 (fun c hc => by have := hu.2.2.2.1 c hc; omega) j1 j2 j3 (by omega) j7 (fun n a ha => ?_) (by omega) ⟨hnr _ ⟨by omega, by omega⟩, hnr _ ⟨by omega, by omega⟩⟩ ?_
        · split at ha
          · obtain ⟨hi2, -⟩ := List.findIdx?_eq_some_iff_getElem.mp ha
            omega
          · cases ha
        intro N' n' str' nx' M3 J
        obtain ⟨y1, y2, y3, y4, y5, y6, y7, y8, y9, y10, y11, y12, y13⟩ := J
        simp only [Option.toList_none, List.nil_append, B_Machine_renew_33, B_Machine_renew_67, nI_i1]
        rw [G_Machine_renew_70]
        refine ih (i + 1) (by omega) N' str' nx' M3 ⟨y4, y5, y3, ?_, fun n hn => ?_, fun s hs => ?_, fun n hn => ?_⟩ (f2.trans y1) (fun j hj => (y2 j hj).trans (k5 j hj))
        · rw [hts, lettersN_snoc, hb, if_pos rfl]; omega
        · rw [hts, pf_snoc, hb, Bool.or_eq_true]
          by_cases y : n < N
          · left; rw [y11 n y]; exact j5 n y
          · right
            obtain ⟨a, ha, e⟩ := y12 n (by omega) hn
            rw [e, Bool.true_and, List.isPrefixOf_iff_prefix]
            exact List.take_prefix _ _
        · rw [hts, pf_snoc, hb, Bool.or_eq_true] at hs
          rcases hs with hs | hs
          · obtain ⟨n, hn, e⟩ := j6 s hs
            exact ⟨n, by omega, by rw [y11 n hn]; exact e⟩
          · rw [Bool.true_and, List.isPrefixOf_iff_prefix] at hs
            obtain ⟨n, hn, e⟩ := y13 s.length hs.length_le
            exact ⟨n, hn, by rw [e]; exact (List.prefix_iff_eq_take.mp hs).symm⟩
        · rw [y10 n hn, hts]
          simp only [exAt_snoc, hb, htl, true_and]
          congr 1
          unfold upd1
          by_cases y : n = n'
          · rw [if_pos y, y, if_pos y8]
            rw [if_pos y9.symm]
            by_cases y' : n' < N
            · rw [if_pos y', y11 n' y']
            · rw [if_neg y']
              have : exAt (rs.take i) (str' n') = none := by
                cases hx : exAt (rs.take i) (str' n') with
                | none => rfl
                | some a =>
                  obtain ⟨n2, hn2, e2⟩ := j6 _ (exAt_pf hx)
                  have := y4.2.2.2.2 n2 n' (by omega) y8 (by rw [y11 n2 hn2]; exact e2)
                  omega
              rw [this]
          · rw [if_neg y]
            dsimp only
            by_cases y' : n < N
            · rw [if_pos y', if_pos (show n < N' by omega), y11 n y']
              have : ¬ u.1 = str n := fun e => y (y4.2.2.2.2 n n' (by omega) y8 (by rw [y9, e, y11 n y']))
              rw [if_neg this]
              cases exAt (rs.take i) (str n) <;> rfl
            · rw [if_neg y']
              by_cases y2' : n < N'
              · rw [if_pos y2']
                have h1 : exAt (rs.take i) (str' n) = none := by
                  cases hx : exAt (rs.take i) (str' n) with
                  | none => rfl
                  | some a =>
                    obtain ⟨n2, hn2, e2⟩ := j6 _ (exAt_pf hx)
                    have := y4.2.2.2.2 n2 n (by omega) y2' (by rw [y11 n2 hn2]; exact e2)
                    omega
                have : ¬ u.1 = str' n := fun e => y (y4.2.2.2.2 n n' y2' y8 (by rw [y9, e]))
                rw [h1, if_neg this]; rfl
              · rw [if_neg y2']
  simp only [Option.toList_none, List.nil_append, B_Machine_renew_8, SS, ← nI_0]
  refine loop rs.length 0 (by omega) 1 (fun _ => []) (fun _ _ => none) M1 ⟨⟨by omega, rfl, fun n c m _ hc => (by cases hc), fun n hn h0 => (by omega), fun n m hn hm _ => by omega⟩, ⟨fun n c hn hc => ?_, fun _ _ _ => rfl, fun _ _ _ => rfl⟩, s5, by omega, fun n hn => rfl, fun s hs => ⟨0, by omega, ?_⟩, fun n hn => ?_⟩ FrS.rfl (fun _ _ => rfl)
  · exact s3 _ (by omega)
  · by_cases e : s = []
    · exact e.symm
    · have := (pf_iff e).mp hs
      simp at this
  · rw [s4 n hn]
    split <;> rfl
