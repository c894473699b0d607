theorem k_rank {M : Mm} {x k f cr v rv : Nat} {rs : List Ru} {tk : Bool} {w : List Nat} {Q : Option Value → Mm → Prop} (h : Cmp M x rs k f []) (hV : ElV M x rs k cr tk) (sv : WS M v rv) (vv : WV M v w) (hl : w.length ≤ 80) (hrv : w.length ≤ rv) (brv : rv < 2147483648) (hk : ∀ c ∈ w, c < k) (hv : x + 1039 ≤ v ∧ v + 1 < x + 1094)
    (hQ : ∀ M' cr', Cmp M' x rs k f [] → ElV M' x rs k cr' tk → Efr M M' x → Q (some (.long (lN (((rkT rs k w).map cp).sum)))) M') : wp F_Elements_rank 0 [.ref (x + 1034), .ref v, jk, jk, jk, jk, jk, jk] [] M Q := by
  have s34 : sh M (x + 1034) = some (.inl 1) := by obtain ⟨W, I, Qa, P, wl, ql, eS0, -⟩ := hV; exact eS0.1
  have hk8 := h.1.lo.2.1.2.1
  have hlo := h.1.lo.1
  simp only [B_Elements_rank_0, s34, sv.1, vv.1, true_and]
  refine k_countRows h hV hl ?_
  intro M1 cr1 C1 V1 z1 hc1 F1
  obtain ⟨W, I, Qa, P, wl, ql, A, B, C, D, cap, N, str, e1, mc1, A1, w1, w2⟩ := V1.openW C1 z1 (by omega)
  have hN1 := A1.2.2.2.1
  have hN := A1.1
  have hcap := mc1.2.2.2.2.2.2.1
  have ny : ∀ b, x + 1039 ≤ b → b < x + 1094 → ¬ yS x b := fun b h1 h2 q => by unfold yS at q; omega
  have nt : ¬ yT x v := fun q => by unfold yT at q; omega
  have sv1 := sv.frx F1.1 (by omega) nt
  have vv1 := vv.frx F1.1 (by omega) (ny _ (by omega) (by omega)) (ny _ (by omega) (by omega))
  have fin := hQ M1 cr1 C1 V1 F1
  have z0 : (0 : Int32) = nI 0 := rfl
  have l0 : (0 : Int64) = lN 0 := by decide
  have rk2 : ∀ t i node acc l6 l7, w.drop i = t → i + t.length = w.length → node < N → acc + ((rkL rs k (str node) t).map cp).sum = ((rkT rs k w).map cp).sum → wp F_Elements_rank 44 [.ref (x + 1034), .ref v, .long (lN acc), jk, .int (nI node), .int (nI i), l6, l7] [] M1 Q := by
    intro t
    induction t with
    | nil =>
      intro i node acc l6 l7 hd hi hnode hacc
      have e2 : nI w.length ≤ nI i := nI_le (by simp at hi; omega) (by simp at hi; omega)
      simp only [B_Elements_rank_44, B_Elements_rank_124, sv1.1, vv1.1, e2, if_true, true_and]
      have : acc = ((rkT rs k w).map cp).sum := by rw [← hacc]; simp [rkL]
      rw [this]
      exact fin
    | cons c t ih =>
      intro i node acc l6 l7 hd hi hnode hacc
      simp only [List.length_cons] at hi
      have hil : i < w.length := by omega
      have e2 : ¬ nI w.length ≤ nI i := nI_ge (by omega) (by omega)
      have hc : w.getD i 0 = c := by rw [drop_getD hil] at hd; exact (List.cons.inj hd).1
      have hck : c < k := hk c (List.mem_of_mem_drop (i := i) (by rw [hd]; exact List.mem_cons_self))
      have i1 : ixB M1 (v + 1) (nI i) := ixB_of sv1.2.2 (by omega) brv
      have e3 : cl (nI i) = i := cl_nI (by omega)
      simp only [B_Elements_rank_44, sv1.1, sv1.2.1, vv1.1, e2, i1, e3, vv1.2.1 i hil, hc, if_false, SS, true_and]
      have hle : nI w.length - 1 = nI (w.length - 1) := by
        have := nI_pred (w.length - 1)
        rw [show w.length - 1 + 1 = w.length by omega] at this
        exact this
      have hsub : nI (w.length - 1) - nI i = nI t.length := by
        have := pk_sub (a := w.length - 1) (b := i) (by omega)
        rw [this, show w.length - 1 - i = t.length by omega]
      have inner : ∀ d e acc, e + d = c → acc + (((List.range' e d).map (fun d => wy rs k t.length (lsuf rs (str node ++ [d])))).map cp).sum + ((rkL rs k (lsuf rs (str node ++ [c])) t).map cp).sum = ((rkT rs k w).map cp).sum → wp F_Elements_rank 65 [.ref (x + 1034), .ref v, .long (lN acc), jk, .int (nI node), .int (nI i), .int (nI c), .int (nI e)] [] M1 Q := by
        intro d
        induction d with
        | zero =>
          intro e acc he hacc2
          have e4 : nI c ≤ nI e := nI_le (by omega) (by omega)
          obtain ⟨t1, t2, t3⟩ := A1.to hcap hnode hck
          simp only [B_Elements_rank_65, B_Elements_rank_105, e4, if_true, SS, e1.1, e1.2.1.2.1, mc1.1, true_and]
          rw [k_after mc1 (by omega), t2]
          simp only [SS, List.cons_append, List.nil_append, B_Elements_rank_105, nI_i1]
          rw [G_Elements_rank_121]
          refine ih (i + 1) _ acc _ _ ?_ (by omega) t1 ?_
          · rw [drop_getD hil] at hd
            exact (List.cons.inj hd).2
          · rw [t3]; simpa using hacc2
        | succ d ihd =>
          intro e acc he hacc2
          have e4 : ¬ nI c ≤ nI e := nI_ge (by omega) (by omega)
          obtain ⟨t1, t2, t3⟩ := A1.to hcap hnode (show e < k by omega)
          simp only [B_Elements_rank_65, e4, if_false, SS, sv1.1, vv1.1, e1.1, e1.2.1.2.1, mc1.1, hle, hsub, true_and]
          rw [k_after mc1 (by omega), t2]
          simp only [SS, List.cons_append, List.nil_append, B_Elements_rank_65, e1.1, true_and]
          rw [k_waysOn e1 mc1.1 A1.2.1 (Nat.lt_of_lt_of_le (ix2 (show t.length < 81 by omega) t1) w1), w2 _ _ (by omega) t1, t3]
          simp only [SS, List.cons_append, List.nil_append, B_Elements_rank_65, lN_add, nI_i1]
          rw [G_Elements_rank_102]
          refine ihd (e + 1) _ (by omega) ?_
          rw [List.range'_succ, List.map_cons, List.map_cons, List.sum_cons] at hacc2
          omega
      rw [z0]
      refine inner c 0 acc (by omega) ?_
      rw [rkL, List.map_append, List.sum_append] at hacc
      rw [← List.range_eq_range']
      omega
  have rk1 : ∀ d n acc, n + d = w.length → acc + (((List.range' n d).map (fun m => wy rs k m [])).map cp).sum + ((rkL rs k [] w).map cp).sum = ((rkT rs k w).map cp).sum → ∀ l5 l6 l7, wp F_Elements_rank 13 [.ref (x + 1034), .ref v, .long (lN acc), jk, .int (nI n), l5, l6, l7] [] M1 Q := by
    intro d
    induction d with
    | zero =>
      intro n acc hn hacc l5 l6 l7
      have e2 : nI w.length ≤ nI n := nI_le (by omega) (by omega)
      simp only [B_Elements_rank_13, B_Elements_rank_38, sv1.1, vv1.1, e2, if_true, SS, true_and]
      rw [z0]
      refine rk2 w 0 0 acc _ _ rfl (by omega) (by omega) ?_
      rw [A1.2.2.2.2.1]
      simpa using hacc
    | succ d ih =>
      intro n acc hn hacc l5 l6 l7
      have e2 : ¬ nI w.length ≤ nI n := nI_ge (by omega) (by omega)
      simp only [B_Elements_rank_13, sv1.1, vv1.1, e2, if_false, e1.1, true_and]
      rw [z0, k_waysOn e1 mc1.1 A1.2.1 (Nat.lt_of_lt_of_le (ix2 (show n < 81 by omega) (show 0 < N by omega)) w1), w2 n 0 (by omega) (by omega), A1.2.2.2.2.1]
      simp only [SS, List.cons_append, List.nil_append, B_Elements_rank_13, lN_add, nI_i1]
      rw [G_Elements_rank_35]
      refine ih (n + 1) _ (by omega) ?_ _ _ _
      rw [List.range'_succ, List.map_cons, List.map_cons, List.sum_cons] at hacc
      omega
  simp only [Option.toList_none, List.nil_append, B_Elements_rank_0, SS]
  rw [l0, z0]
  refine rk1 w.length 0 0 (by omega) ?_ _ _ _
  rw [rkT, List.map_append, List.sum_append, ← List.range_eq_range']
  omega
/-- a sum that is not passed stops at a letter -/
theorem sum_find {f : Nat → Nat} : ∀ {k a : Nat}, a < ((List.range k).map f).sum → ∃ c r, c < k ∧ r < f c ∧ a = ((List.range c).map f).sum + r := by
  intro k
  induction k with
  | zero => intro a h; simp at h
  | succ k ih =>
    intro a h
    by_cases q : a < ((List.range k).map f).sum
    · obtain ⟨c, r, h1, h2, h3⟩ := ih q
      exact ⟨c, r, by omega, h2, h3⟩
    · rw [List.range_succ, List.map_append, List.sum_append] at h
      simp at h
      exact ⟨k, a - ((List.range k).map f).sum, by omega, by omega, by omega⟩
theorem pick_lt {rs : List Ru} {k m a : Nat} {s : List Nat} (h : a < wy rs k (m + 1) s) : (pickL rs k m s (k - 1) 0 a).1 < k ∧ (pickL rs k m s (k - 1) 0 a).2 < wy rs k m (lsuf rs (s ++ [(pickL rs k m s (k - 1) 0 a).1])) ∧ (pickL rs k m s (k - 1) 0 a).2 ≤ a := by
  rw [wy] at h
  split at h
  · omega
  · obtain ⟨c, r, h1, h2, h3⟩ := sum_find h
    rw [h3, pick_eq h2 h1]
    exact ⟨h1, h2, by omega⟩
theorem k_spellOfLength {M : Mm} {x u ru k N n a cr cap A B C D W I Qa P wl ql : Nat} {rs : List Ru} {str : Nat → List Nat} {Q : Option Value → Mm → Prop} (e1 : ElS M x W I Qa P wl ql) (mc1 : MCS M (x + 1013) A B C D cap) (A1 : AutN M (x + 1013) A D cap rs k N str) (hwf : RWf rs k) (w1 : 81 * N ≤ wl) (w2 : WyV M W N rs k str cr) (hn : n ≤ cr) (hn80 : n ≤ 80) (ha : a < wy rs k n []) (haC : a < CAP) (su : WS M u ru) (hru : n ≤ ru) (bru : ru < 2147483648) (hu : x + 1039 ≤ u ∧ u + 1 < x + 1094)
    (hQ : ∀ M', FrS (wS u) M M' → WV M' u (spw rs k n [] a) → (spw rs k n [] a).length = n → (∀ c ∈ spw rs k n [] a, c < k) → Q none M') : wp F_Elements_spellOfLength 0 [.ref (x + 1034), .int (nI n), .long (lN a), jk, .ref u, jk, jk, jk, jk, jk, jk, jk] [] M Q := by
  have hN := A1.1
  have hcap := mc1.2.2.2.2.2.2.1
  have hk8 := hwf.2.1
  have hCAP : CAP = 1000000000000001 := rfl
  -- frames through writing the word
  have fr : ∀ M', FrS (wS u) M M' → ElS M' x W I Qa P wl ql ∧ MCS M' (x + 1013) A B C D cap ∧ (∀ b, b = x + 1013 ∨ b = A ∨ b = D → ∀ j, gI M' b j = gI M b j) ∧ (∀ b j, gJ M' b j = gJ M b j) := fun M' ff => by
    have hA' : ∀ b q, sh M b = some (.inr (0, q)) → ¬ wS u b := fun b q hb w => by
      rcases w with rfl | rfl
      · rw [su.1] at hb; cases hb
      · rw [su.2.2] at hb; cases hb
    have hmc : ¬ wS u (x + 1013) := fun w => by rcases w with w | w <;> omega
    refine ⟨?_, mc1.fr ff (ff.gI hmc 0), fun b hb j => ff.gI (fun w => ?_) j, fun b j => ff.gJ b j⟩
    · obtain ⟨a1, ⟨b1, b2, b3, b4, b5, b6⟩, ⟨c1, c2, c3, c4⟩, d, e, f, g⟩ := e1
      exact ⟨(ff.sh _).trans a1, ⟨(ff.gR _ _).trans b1, (ff.gR _ _).trans b2, (ff.gR _ _).trans b3, (ff.gR _ _).trans b4, (ff.gR _ _).trans b5, (ff.gR _ _).trans b6⟩, ⟨(ff.sh _).trans c1, (ff.sh _).trans c2, (ff.sh _).trans c3, (ff.sh _).trans c4⟩, d, by rw [ff.nxt]; exact e, fun j h1 hj => by rw [ff.gR]; exact f j h1 hj, g⟩
    · rcases hb with rfl | rfl | rfl
      · exact hmc w
      · exact hA' _ _ mc1.2.2.2.1.1 w
      · exact hA' _ _ mc1.2.2.2.1.2.2.2 w
  have z0 : (0 : Int32) = nI 0 := rfl
  generalize hres : spw rs k n [] a = res at hQ
  have outer : ∀ m done a node M' l9 l10 l11, done.length + m = n → node < N → a < wy rs k m (str node) → a < CAP → FrS (wS u) M M' → WV M' u done → (∀ c ∈ done, c < k) → done ++ spw rs k m (str node) a = res → ∀ l2 l3, wp F_Elements_spellOfLength 16 [.ref (x + 1034), .int (nI n), l2, l3, .ref u, .int (nI node), .long (lN a), jk, .int (nI m - 1), l9, l10, l11] [] M' Q := by
    intro m
    induction m with
    | zero =>
      intro done a node M' l9 l10 l11 hm hnode ha haC ff wv hdk hd l2 l3
      have e2 : nI 0 - 1 < 0 := by decide
      simp only [B_Elements_spellOfLength_16, B_Elements_spellOfLength_123, e2, if_true]
      have : done = res := by rw [← hd]; simp [spw]
      subst this
      exact hQ M' ff wv (by omega) hdk
    | succ m ih =>
      intro done a node M' l9 l10 l11 hm hnode ha haC ff wv hdk hd l2 l3
      obtain ⟨e', mc', gI', gJ'⟩ := fr M' ff
      have su' := su.fr ff
      have A' : AutN M' (x + 1013) A D cap rs k N str := by
        obtain ⟨a1, a2, a3, a4, a5, a6, a7, a8, a9, a10⟩ := A1
        exact ⟨a1, (gI' _ (Or.inl rfl) _).trans a2, (gI' _ (Or.inl rfl) _).trans a3, a4, a5, a6, a7, a8, fun n c hn he => by obtain ⟨m, y1, y2, y3⟩ := a9 n c hn he; exact ⟨m, y1, (gI' _ (Or.inr (Or.inl rfl)) _).trans y2, y3⟩, fun n hn => (gI' _ (Or.inr (Or.inr rfl)) _).trans (a10 n hn)⟩
      have w2' : WyV M' W N rs k str cr := fun r m hr hm => (gJ' _ _).trans (w2 r m hr hm)
      obtain ⟨p1, p2, p3⟩ := pick_lt ha
      have hk1 : 0 < k := by omega
      have e2 : nI (m + 1) - 1 = nI m := nI_pred m
      have e3 : ¬ nI m < 0 := nI_pos (by omega)
      have way : ∀ c, c < k → ∀ R, wp F_Machine_after 0 [.ref (x + 1013), .int (nI node), .int (nI c), jk] [] M' R = R (some (.int (nI (toM M' A node c)))) M' ∧ ∀ R2, wp F_Elements_waysOn 0 [.ref (x + 1034), .int (nI m), .int (nI (toM M' A node c)), jk] [] M' R2 = R2 (some (.long (lN (cp (wy rs k m (lsuf rs (str node ++ [c]))))))) M' := fun c hc R => by
        obtain ⟨t1, t2, t3⟩ := A'.to hcap hnode hc
        refine ⟨?_, fun R2 => ?_⟩
        · rw [k_after mc' (by omega), t2]
        · rw [k_waysOn e' mc'.1 A'.2.1 (Nat.lt_of_lt_of_le (ix2 (show m < 81 by omega) t1) w1), w2' _ _ (by omega) t1, t3]
      -- the letter is found
      have found : ∀ c a2 v10, pickL rs k m (str node) (k - 1) 0 a = (c, a2) → wp F_Elements_spellOfLength 97 [.ref (x + 1034), .int (nI n), l2, l3, .ref u, .int (nI node), .long (lN a2), jk, .int (nI m), .int (nI c), .long v10, jk] [] M' Q := by
        intro c a2 v10 hp
        rw [hp] at p1 p2 p3
        simp only at p1 p2 p3
        simp only [B_Elements_spellOfLength_97, su'.1, true_and]
        refine k_Word_add su' wv (by omega) bru (by omega) ?_
        intro M2 f2 wv2
        have ff2 := ff.trans f2
        obtain ⟨e2', mc2, gI2, gJ2⟩ := fr M2 ff2
        obtain ⟨t1, t2, t3⟩ := A1.to hcap hnode p1
        simp only [Option.toList_none, List.nil_append, B_Elements_spellOfLength_97, SS, e2'.1, e2'.2.1.2.1, mc2.1, true_and]
        rw [k_after mc2 (by omega), gI2 _ (Or.inr (Or.inl rfl)), t2]
        simp only [SS, List.cons_append, List.nil_append, B_Elements_spellOfLength_97, sub1]
        rw [G_Elements_spellOfLength_120]
        refine ih (done ++ [c]) a2 _ M2 _ _ _ (by simp; omega) t1 (by rw [t3]; exact p2) (by omega) ff2 wv2 (fun b hb => ?_) ?_ _ _
        · rcases List.mem_append.mp hb with q | q
          · exact hdk b q
          · rw [List.mem_singleton.mp q]; exact p1
        · rw [← hd, spw, hp, t3]
          simp
      have pickLoop : ∀ d c a2, c + d = k - 1 → a2 < CAP → pickL rs k m (str node) (k - 1) 0 a = pickL rs k m (str node) d c a2 → wp F_Elements_spellOfLength 43 [.ref (x + 1034), .int (nI n), l2, l3, .ref u, .int (nI node), .long (lN a2), jk, .int (nI m), .int (nI c), .long (lN (cp (wy rs k m (lsuf rs (str node ++ [c]))))), jk] [] M' Q := by
        intro d
        induction d with
        | zero =>
          intro c a2 hc ha2 hp
          have q1 := lcL (a := a2) (b := cp (wy rs k m (lsuf rs (str node ++ [c])))) (by omega) (by have := cp_le (wy rs k m (lsuf rs (str node ++ [c]))); omega)
          have q2 : nI k - 1 ≤ nI c := by
            have := nI_pred (k - 1)
            rw [show k - 1 + 1 = k by omega] at this
            rw [this]
            exact nI_le (by omega) (by omega)
          have := found c a2 (lN (cp (wy rs k m (lsuf rs (str node ++ [c]))))) (by rw [hp, pickL])
          simp only [B_Elements_spellOfLength_43, q1, SS, e'.1, e'.2.1.2.1, mc'.1, A'.2.2.1, q2, if_true, true_and]
          split
          · exact this
          · exact this
        | succ d ihd =>
          intro c a2 hc ha2 hp
          have q1 := lcL (a := a2) (b := cp (wy rs k m (lsuf rs (str node ++ [c])))) (by omega) (by have := cp_le (wy rs k m (lsuf rs (str node ++ [c]))); omega)
          have q3 := cp_lt (b := wy rs k m (lsuf rs (str node ++ [c]))) ha2
          have q2 : ¬ nI k - 1 ≤ nI c := by
            have := nI_pred (k - 1)
            rw [show k - 1 + 1 = k by omega] at this
            rw [this]
            exact nI_ge (by omega) (by omega)
          by_cases hlt : a2 < wy rs k m (lsuf rs (str node ++ [c]))
          · have := found c a2 (lN (cp (wy rs k m (lsuf rs (str node ++ [c]))))) (by rw [hp, pickL, if_pos hlt])
            simp only [B_Elements_spellOfLength_43, q1, q3, hlt, if_true]
            exact this
          · obtain ⟨y1, y2⟩ := way (c + 1) (by omega) (fun r M1 => wp F_Elements_spellOfLength 86 [.ref (x + 1034), .int (nI n), l2, l3, .ref u, .int (nI node), .long (lN (a2 - wy rs k m (lsuf rs (str node ++ [c])))), jk, .int (nI m), .int (nI (c + 1)), .long (lN (cp (wy rs k m (lsuf rs (str node ++ [c]))))), jk] (r.toList ++ []) M1 Q)
            have hcw : cp (wy rs k m (lsuf rs (str node ++ [c]))) = wy rs k m (lsuf rs (str node ++ [c])) := by unfold cp; omega
            have hsb : lN a2 - lN (cp (wy rs k m (lsuf rs (str node ++ [c])))) = lN (a2 - wy rs k m (lsuf rs (str node ++ [c]))) := by rw [hcw]; exact lN_sub (by omega)
            simp only [B_Elements_spellOfLength_43, q1, q3, hlt, if_false, SS, e'.1, e'.2.1.2.1, mc'.1, A'.2.2.1, q2, hsb, nI_i1, true_and]
            rw [(way (c + 1) (by omega) _).1]
            simp only [SS, List.cons_append, List.nil_append, B_Elements_spellOfLength_43, e'.1, true_and]
            rw [y2]
            simp only [SS, List.cons_append, List.nil_append, B_Elements_spellOfLength_43]
            rw [G_Elements_spellOfLength_94]
            refine ihd (c + 1) _ (by omega) (by omega) ?_
            rw [hp, pickL, if_neg hlt]
      simp only [B_Elements_spellOfLength_16, e2, e3, if_false, SS, e'.1, e'.2.1.2.1, mc'.1, true_and]
      rw [z0, (way 0 hk1 _).1]
      simp only [SS, List.cons_append, List.nil_append, B_Elements_spellOfLength_16, e'.1, true_and]
      rw [(way 0 hk1 (fun _ _ => True)).2]
      simp only [SS, List.cons_append, List.nil_append, B_Elements_spellOfLength_16]
      exact pickLoop (k - 1) 0 a (by omega) haC rfl
  simp only [B_Elements_spellOfLength_0, su.1, true_and]
  refine k_Word_clear su ?_
  intro M1 f1 wv1
  simp only [Option.toList_none, List.nil_append, B_Elements_spellOfLength_0, SS]
  rw [z0]
  refine outer n [] a 0 M1 _ _ _ (by simp) A1.2.2.2.1 (by rw [A1.2.2.2.2.1]; exact ha) haC f1 wv1 (fun c hc => by simp at hc) (by rw [A1.2.2.2.2.1]; simpa using hres) _ _
