/-! the class's calls: ELEMENTS of a COMPLETE system -/
theorem rkL_len {rs : List Ru} {k : Nat} : ∀ (w s : List Nat), (∀ c ∈ w, c < 8) → (rkL rs k s w).length ≤ 8 * w.length
  | [], s, _ => by simp [rkL]
  | c :: t, s, h => by
    have h1 := h c (by simp)
    have h2 := rkL_len (rs := rs) (k := k) t (lsuf rs (s ++ [c])) (fun d hd => h d (List.mem_cons_of_mem _ hd))
    simp only [rkL, List.length_append, List.length_map, List.length_range, List.length_cons]
    omega
theorem rkT_lt {rs : List Ru} {k : Nat} {w : List Nat} (hw : ∀ c ∈ w, c < 8) (hl : w.length ≤ 80) : ((rkT rs k w).map cp).sum < 9223372036854775808 := by
  have h1 := sum_cp_le (rkT rs k w)
  have h2 : (rkT rs k w).length ≤ 720 := by
    have := rkL_len (rs := rs) (k := k) w [] hw
    simp only [rkT, List.length_append, List.length_map, List.length_range]
    omega
  have h3 : CAP * (rkT rs k w).length ≤ CAP * 720 := Nat.mul_le_mul_left _ h2
  unfold CAP at h3 h1
  omega
theorem nbW_cases {rs : List Ru} {k : Nat} {f : List Nat} : ((rkT rs k f).map cp).sum ≤ 2147483647 ∧ nmb rs k f = some ((rkT rs k f).map cp).sum ∨ ¬ ((rkT rs k f).map cp).sum ≤ 2147483647 ∧ nmb rs k f = none := by
  obtain ⟨h1, h2⟩ := cp_sum_le (rkT rs k f) 2147483647 (by decide)
  unfold nmb
  by_cases q : (rkT rs k f).sum ≤ 2147483647
  · left; rw [if_pos q, h2 q]; exact ⟨q, rfl⟩
  · right; rw [if_neg q]; exact ⟨fun z => q (h1.mp z), rfl⟩
theorem nbW_lt {rs : List Ru} {k : Nat} {w f : List Nat} {n : Nat} (h : nbW rs k w = some (n, f)) : n ≤ 2147483647 ∧ ∃ tr, form rs w = some (f, tr) := by
  unfold nbW at h
  cases hf : form rs w with
  | none => rw [hf] at h; cases h
  | some q =>
    obtain ⟨g, tr⟩ := q
    rw [hf] at h
    dsimp only at h
    rcases nbW_cases (rs := rs) (k := k) (f := g) with ⟨a, b⟩ | ⟨a, b⟩
    · rw [b] at h; cases h; exact ⟨a, tr, rfl⟩
    · rw [b] at h; cases h
theorem mulW_lt {rs : List Ru} {k : Nat} {a b f : List Nat} {n : Nat} (h : mulW rs k a b = some (n, f)) : n ≤ 2147483647 ∧ a.length + b.length ≤ 80 ∧ ∃ tr, form rs (a ++ b) = some (f, tr) := by
  unfold mulW at h
  split at h
  · cases h
  · obtain ⟨h1, h2⟩ := nbW_lt h
    exact ⟨h1, by omega, h2⟩
theorem lM2 : (2147483647 : Int64) = lN 2147483647 := by decide
theorem done_of {st : Bool} {row : List Pr} (h : (!st && row.isEmpty) = true) : st = false ∧ row = [] := by
  cases st <;> cases row <;> simp at h ⊢
section DL
variable {M : Mm} {x s0 k t s : Nat} {rs : List Ru} {fo : Option (Nat × Nat × Nat)} {Q : Option Value → Mm → Prop}
theorem Cor.e1 {row : List Pr} {st : Bool} (hC : Cor M x s0 rs k row t s st fo) : sh M (x + 1034) = some (.inl 1) := by
  obtain ⟨f, kn, cr, tk, c1, c2, c3, c4, -⟩ := hC
  obtain ⟨W, I, Qa, P, wl, ql, eS0, -⟩ := c4
  exact eS0.1
theorem Cor.wf {row : List Pr} {st : Bool} (hC : Cor M x s0 rs k row t s st fo) : RWf rs k ∧ x + 1094 ≤ nxt M := by
  obtain ⟨f, kn, cr, tk, c1, -⟩ := hC
  exact ⟨c1.1.lo.2.1, c1.1.lo.1⟩
theorem d_ofLength {n : Nat} (hC : Cor M x s0 rs k [] t s false fo) (hn : n ≤ 80) (hQ : ∀ M', Cor M' x s0 rs k [] t s false fo → Ufr M M' x (fun _ => False) → Q (some (.long (lN (cp (wy rs k n []))))) M') : wp F_Elements_ofLength 0 [.ref (x + 1034), .int (nI n)] [] M Q := by
  obtain ⟨f, kn, cr, tk, c1, c2, c3, c4, c5, c6⟩ := hC
  refine k_ofLength c1 c4 hn ?_
  intro M' cr' d1 d2 d3 d4 d5
  exact hQ M' (Cor.ex c1.1.lo.1 c2 c3 c6 d1 d2 d5) d5.u
theorem d_total (hC : Cor M x s0 rs k [] t s false fo) (hac : AC rs) (hQ : ∀ M', Cor M' x s0 rs k [] t s false fo → Ufr M M' x (fun _ => False) → Q (some (.long (totJ rs k))) M') : wp F_Elements_total 0 [.ref (x + 1034)] [] M Q := by
  obtain ⟨f, kn, cr, tk, c1, c2, c3, c4, c5, c6⟩ := hC
  refine k_total c1 c4 hac ?_
  intro M' d1 d2 d3 d5
  exact hQ M' (Cor.ex c1.1.lo.1 c2 c3 c6 d1 d2 d5) d5.u
theorem d_spell {u : Nat} {v : Int32} (hC : Cor M x s0 rs k [] t s false fo) (hac : AC rs) (su : WS M u 120) (hu : x + 1041 ≤ u ∧ u + 1 < x + 1048)
    (hQ0 : ∀ o, eltI rs k v = o → (o = none ∨ o = some none) → ∀ M', Cor M' x s0 rs k [] t s false fo → Ufr M M' x (fun _ => False) → Q (some (.int (if o = none then -2 else -4))) M')
    (hQ1 : ∀ w, eltI rs k v = some (some w) → w.length ≤ 80 → (∀ c ∈ w, c < k) → ∀ M', Cor M' x s0 rs k [] t s false fo → Ufr M M' x (wS u) → WV M' u w → Q (some (.int (nI w.length))) M') : wp F_Elements_spell 0 [.ref (x + 1034), .int v, .ref u, jk, jk, jk, jk, jk] [] M Q := by
  by_cases hv : v < 0
  · have h0 : ¬ 0 ≤ v := Int32.not_le.mpr hv
    simp only [B_Elements_spell_0, h0, if_false]
    have := hQ0 none (by unfold eltI; rw [if_pos hv]) (Or.inl rfl) M hC Ufr.rfl
    simpa using this
  · obtain ⟨i, hi, rfl⟩ := nI_of hv
    have e : eltI rs k (nI i) = elt rs k i := by unfold eltI; rw [if_neg hv, cl_nI hi]
    rw [e] at hQ0 hQ1
    obtain ⟨f, kn, cr, tk, c1, c2, c3, c4, c5, c6⟩ := hC
    have hx := c1.1.lo.1
    refine k_spell' c1 c4 hac hi su (by omega) (by omega) ⟨by omega, by omega⟩ ?_ ?_
    · intro o ho hoo M' cr' tk' d1 d2 d3
      exact hQ0 o ho hoo M' (Cor.ex hx c2 c3 c6 d1 d2 d3) d3.u
    · intro w hw hl hk M1 M' cr' tk' d1 d2 d3 d4 d5 d6
      have C1 := Cor.ex hx c2 c3 c6 d1 d2 d4
      exact hQ1 w hw hl hk M' (C1.own d5.z (fun b q => Or.inr (by rcases q with q | q <;> exact ⟨by omega, by omega⟩))) (d4.u.trans d5.z.u) d6
theorem d_formNumber {v rv : Nat} {l : List Nat} (hS : MrS M x) (hC : Cor M x s0 rs k [] t s false fo) (sv : WS M v rv) (vv : WV M v l) (hl : l.length ≤ 80) (hlv : l.length ≤ rv) (hlk : ∀ c ∈ l, c < k) (b1 : rv < 2147483648) (hv : v + 1 < x + 1094)
    (hQ : ∀ M', Cor M' x s0 rs k [] t s false fo → Ufr M M' x (wS (x + 1045)) → (∀ n f, nbW rs k l = some (n, f) → WV M' (x + 1045) f ∧ f.length ≤ 80 ∧ ∀ c ∈ f, c < k) → Q (some (.int (nbI (nbW rs k l)))) M') : wp F_Mr_formNumber 0 [.ref x, .ref v, jk, jk] [] M Q := by
  obtain ⟨⟨m0, f0, f3, f4, f5, f6, f7, f8, f9, f10, f11, f12, f13, f14, f16, f17, f18, f19⟩, -, ⟨w41, w43, w45⟩, -, -, hx⟩ := id hS
  simp only [B_Mr_formNumber_0, SS, m0, f9, f18, hC.rd.1, true_and]
  refine k_Tf hC sv w45 vv (by omega) hlv hlk b1 (by omega) (by omega) hv ⟨by omega, by omega⟩ ?_ ?_
  · intro hn M1 C1 U1
    simp only [SS, List.cons_append, List.nil_append, B_Mr_formNumber_0, if_true]
    have e : nbW rs k l = none := by unfold nbW; rw [hn]
    have := hQ M1 C1 (U1.weaken (fun _ q => q.elim)) (fun n f q => by rw [e] at q; cases q)
    rw [e] at this
    exact this
  · intro f tr hf hfl hfk M1 C1 U1 v1 _ _
    have S1 := hS.fx U1 (fun _ q => q)
    obtain ⟨⟨m0', -, -, -, -, -, -, -, -, -, -, f12', -, -, -, -, f18', -⟩, -, ⟨-, -, w45'⟩, -, -, hx'⟩ := S1
    simp only [SS, List.cons_append, List.nil_append, B_Mr_formNumber_0, i10, if_false, B_Mr_formNumber_18, m0', f12', f18', C1.e1, true_and]
    have hk8 : k ≤ 8 := C1.wf.1.2.1
    obtain ⟨ff, kn, cr, tk, c1, c2, c3, c4, c5, c6⟩ := C1
    refine k_rank c1 c4 w45' v1 (by omega) (by omega) (by omega) hfk ⟨by omega, by omega⟩ ?_
    intro M2 cr' d1 d2 d3
    have C2 := Cor.ex hx' c2 c3 c6 d1 d2 d3
    have nz : ∀ b, x + 1041 ≤ b → b < x + 1094 → ¬ yS x b := fun b h1 h2 q => by rcases q with q | q | q | q <;> omega
    have v2 := v1.frx d3.1 (by omega) (nz _ (by omega) (by omega)) (nz _ (by omega) (by omega))
    have lt := rkT_lt (rs := rs) (k := k) (fun c hc => by have := hfk c hc; omega) (show f.length ≤ 80 by omega)
    simp only [SS, List.cons_append, List.nil_append, B_Mr_formNumber_18, lM2, lcLe lt (show 2147483647 < 9223372036854775808 by omega)]
    have UU : Ufr M M2 x (wS (x + 1045)) := U1.trans (d3.u.weaken (fun b q => q))
    rcases nbW_cases (rs := rs) (k := k) (f := f) with ⟨a, b⟩ | ⟨a, b⟩
    · have e : nbW rs k l = some (((rkT rs k f).map cp).sum, f) := by unfold nbW; rw [hf]; dsimp only; rw [b]
      rw [if_pos a]
      have := hQ M2 C2 UU (fun n g q => by rw [e] at q; cases q; exact ⟨v2, by omega, hfk⟩)
      rw [e] at this
      simp only [B_Mr_formNumber_43, B_Mr_formNumber_45, lN_i]
      exact this
    · have e : nbW rs k l = none := by unfold nbW; rw [hf]; dsimp only; rw [b]
      rw [if_neg a]
      have := hQ M2 C2 UU (fun n g q => by rw [e] at q; cases q)
      rw [e] at this
      simp only [B_Mr_formNumber_18, B_Mr_formNumber_45]
      exact this
theorem d_multiply {u1 u2 : Nat} {a b : List Nat} (hS : MrS M x) (hC : Cor M x s0 rs k [] t s false fo) (s1 : WS M u1 120) (s2 : WS M u2 120) (v1 : WV M u1 a) (v2 : WV M u2 b) (l1 : a.length ≤ 80) (l2 : b.length ≤ 80) (k1 : ∀ c ∈ a, c < k) (k2 : ∀ c ∈ b, c < k) (h1 : x + 1041 ≤ u1 ∧ u1 + 1 < x + 1045) (h2 : x + 1041 ≤ u2 ∧ u2 + 1 < x + 1045)
    (hQ : ∀ M', Cor M' x s0 rs k [] t s false fo → Ufr M M' x (wS (x + 1045)) → (∀ n f, mulW rs k a b = some (n, f) → WV M' (x + 1045) f ∧ f.length ≤ 80 ∧ ∀ c ∈ f, c < k) → Q (some (.int (nbI (mulW rs k a b)))) M') : wp F_Mr_multiply 0 [.ref x, .ref u1, .ref u2] [] M Q := by
  obtain ⟨⟨m0, f0, f3, f4, f5, f6, f7, f8, f9, f10, f11, f12, f13, f14, f16, f17, f18, f19⟩, -, ⟨w41, w43, w45⟩, -, -, hx⟩ := id hS
  have c80 : (80 : Int32) = nI 80 := rfl
  simp only [B_Mr_multiply_0, s1.1, s2.1, v1.1, v2.1, true_and, nI_add, c80, nI_leI (show a.length + b.length < 2 ^ 31 by omega) (show 80 < 2 ^ 31 by omega)]
  by_cases q : a.length + b.length ≤ 80
  · have e : mulW rs k a b = nbW rs k (a ++ b) := by unfold mulW; rw [if_neg (by omega)]
    rw [e] at hQ
    rw [if_pos q]
    simp only [B_Mr_multiply_17, SS, m0, f18, w45.1, true_and]
    refine k_Word_become w45 s1 v1 (by omega) (by omega) (by omega) (by omega) (by omega) ?_
    intro M1 F1 r1
    have S1 := hS.fx F1.x (fun _ q => q.elim)
    obtain ⟨⟨m0', -, -, -, -, -, -, -, -, -, -, f12', -, -, -, -, f18', -⟩, -, ⟨-, -, w45'⟩, -, -, hx'⟩ := id S1
    have s2' := s2.fr F1
    have v2' := v2.fr F1 (fun z => by rcases z with z | z <;> omega) (fun z => by rcases z with z | z <;> omega)
    have z0 : (0 : Int32) = nI 0 := rfl
    simp only [SS, Option.toList_none, List.nil_append, B_Mr_multiply_17, m0', f18', w45'.1, s2'.1, v2'.1, true_and, z0]
    refine k_Word_append w45' s2' r1 v2' (by omega) (Nat.zero_le _) (Nat.le_refl _) (by omega) (by omega) (by omega) (by omega) ?_
    intro M2 F2 r2
    rw [Nat.sub_zero, List.drop_zero, List.take_length] at r2
    have F12 := F1.trans F2
    have S2 := hS.fx F12.x (fun _ q => q.elim)
    have C2 := hC.own F12.z (fun b q => Or.inr (by rcases q with q | q <;> exact ⟨by omega, by omega⟩))
    obtain ⟨⟨m0'', -, -, -, -, -, -, -, -, -, -, -, -, -, -, -, f18'', -⟩, -, ⟨-, -, w45''⟩, -, -, hx''⟩ := id S2
    simp only [SS, Option.toList_none, List.nil_append, B_Mr_multiply_17, m0'', f18'', true_and]
    refine d_formNumber S2 C2 w45'' r2 (by simp; omega) (by simp; omega) (fun c hc => ?_) (by omega) (by omega) ?_
    · rcases List.mem_append.mp hc with z | z
      · exact k1 c z
      · exact k2 c z
    · intro M3 C3 U3 h3
      simp only [SS, List.cons_append, List.nil_append, B_Mr_multiply_17]
      exact hQ M3 C3 (F12.z.u.trans U3) h3
  · have e : mulW rs k a b = none := by unfold mulW; rw [if_pos (by omega)]
    rw [if_neg q]
    have := hQ M hC Ufr.rfl (fun n f z => by rw [e] at z; cases z)
    rw [e] at this
    exact this
end DL
section CL
variable {M : Mm} {x s0 : Nat} {σ : Sg} {Q : Option Value → Mm → Prop}
theorem c_many {v : Int32} (h : ClV M x s0 σ) (hQ : ∀ M', ClV M' x s0 σ → Xfr M M' x → Q (some (.long (mnG σ v))) M') : wp F_Mr_many 0 [.ref x, .int v, jk, jk] [] M Q := by
  obtain ⟨⟨tp, lf, nm⟩, ⟨k, rs, row⟩, ⟨t, s, st, fo⟩, sl, td⟩ := σ
  obtain ⟨hB, hC⟩ := h
  have hB : Bas M x tp lf nm sl td := hB
  have hC : Cor M x s0 rs k row t s st fo := hC
  obtain ⟨⟨m0, f0, f3, f4, f5, f6, f7, f8, f9, f10, f11, f12, -⟩, -⟩ := id hB.1
  rcases oix_cases (n := 81) (by omega) v with ⟨j, hj, rfl, e⟩ | ⟨e, hv⟩
  · have w1 : ¬ nI j < 0 := nI_pos (by omega)
    have w2 : nI j ≤ (80 : Int32) := nI_le (b := 80) (by omega) (by omega)
    simp only [mnG, e] at hQ
    simp only [B_Mr_many_0, w1, w2, if_true, if_false, B_Mr_many_14, SS, m0, f10, (c_isDone (Q := Q) hC).1, true_and]
    rw [(c_isDone hC).2]
    simp only [SS, List.cons_append, List.nil_append, B_Mr_many_14]
    cases hd : (!st && row.isEmpty) with
    | true =>
      obtain ⟨rfl, rfl⟩ := done_of hd
      rw [if_pos (show sDn ((tp, lf, nm), (k, rs, []), (t, s, false, fo), sl, td) = true from hd)] at hQ
      simp only [bI, if_true, i10, if_false, B_Mr_many_28, SS, m0, f12, hC.e1, true_and]
      refine d_ofLength hC (by omega) ?_
      intro M1 C1 U1
      have hle := cp_le (wy rs k j [])
      have hlt : cp (wy rs k j []) < 9223372036854775808 := by unfold CAP at hle; omega
      simp only [SS, List.cons_append, List.nil_append, B_Mr_many_28, lM0, lcLe hlt (show 1000000000000000 < 9223372036854775808 by omega)]
      have hQ := hQ M1 ⟨hB.u U1 (fun _ q => q.elim), C1⟩ (U1.xf (fun _ q => q.elim))
      by_cases q : cp (wy rs k j []) ≤ 1000000000000000
      · rw [if_neg (show ¬ 1000000000000000 < cp (wy rs k j []) by omega)] at hQ
        rw [if_pos q]
        simp only [B_Mr_many_51, B_Mr_many_52]
        exact hQ
      · rw [if_pos (show 1000000000000000 < cp (wy rs k j []) by omega)] at hQ
        rw [if_neg q]
        simp only [B_Mr_many_28, B_Mr_many_52]
        exact hQ
    | false =>
      rw [if_neg (show ¬ sDn ((tp, lf, nm), (k, rs, row), (t, s, st, fo), sl, td) = true from fun q => by rw [show sDn ((tp, lf, nm), (k, rs, row), (t, s, st, fo), sl, td) = false from hd] at q; cases q)] at hQ
      simp only [bI, Bool.false_eq_true, if_true, if_false, B_Mr_many_14]
      exact hQ M ⟨hB, hC⟩ Xfr.rfl
  · simp only [mnG, e] at hQ
    rcases hv with hv | ⟨hv, hv2⟩
    · simp only [B_Mr_many_0, B_Mr_many_10, hv, if_true]
      exact hQ M ⟨hB, hC⟩ Xfr.rfl
    · have w2 : ¬ v ≤ (80 : Int32) := nle_big (a := 80) hv2 (by omega) (by omega)
      simp only [B_Mr_many_0, B_Mr_many_10, hv, w2, if_false]
      exact hQ M ⟨hB, hC⟩ Xfr.rfl
theorem c_size (h : ClV M x s0 σ) (hI : SgI σ) (hQ : ∀ M', ClV M' x s0 σ → Xfr M M' x → Q (some (.long (szG σ))) M') : wp F_Mr_size 0 [.ref x] [] M Q := by
  obtain ⟨⟨tp, lf, nm⟩, ⟨k, rs, row⟩, ⟨t, s, st, fo⟩, sl, td⟩ := σ
  obtain ⟨hB, hC⟩ := h
  have hB : Bas M x tp lf nm sl td := hB
  have hC : Cor M x s0 rs k row t s st fo := hC
  have hA : st = false → AC rs := hI.2.2.2.2.2.1
  obtain ⟨⟨m0, f0, f3, f4, f5, f6, f7, f8, f9, f10, f11, f12, -⟩, -⟩ := id hB.1
  simp only [szG] at hQ
  simp only [B_Mr_size_0, SS, m0, f10, (c_isDone (Q := Q) hC).1, true_and]
  rw [(c_isDone hC).2]
  simp only [SS, List.cons_append, List.nil_append, B_Mr_size_0]
  cases hd : (!st && row.isEmpty) with
  | true =>
    obtain ⟨rfl, rfl⟩ := done_of hd
    rw [if_pos (show sDn ((tp, lf, nm), (k, rs, []), (t, s, false, fo), sl, td) = true from hd)] at hQ
    simp only [bI, if_true, i10, if_false, B_Mr_size_0, SS, m0, f12, hC.e1, true_and]
    refine d_total hC (hA rfl) ?_
    intro M1 C1 U1
    simp only [SS, List.cons_append, List.nil_append, B_Mr_size_0, B_Mr_size_23]
    exact hQ M1 ⟨hB.u U1 (fun _ q => q.elim), C1⟩ (U1.xf (fun _ q => q.elim))
  | false =>
    rw [if_neg (show ¬ sDn ((tp, lf, nm), (k, rs, row), (t, s, st, fo), sl, td) = true from fun q => by rw [show sDn ((tp, lf, nm), (k, rs, row), (t, s, st, fo), sl, td) = false from hd] at q; cases q)] at hQ
    simp only [bI, Bool.false_eq_true, if_true, if_false, B_Mr_size_20, B_Mr_size_23]
    exact hQ M ⟨hB, hC⟩ Xfr.rfl
theorem c_number {v : Int32} (h : ClV M x s0 σ) (hI : SgI σ) (hQ : ∀ M', ClV M' x s0 σ → Xfr M M' x → Q (some (.int (nuG σ v))) M') : wp F_Mr_number 0 [.ref x, .int v] [] M Q := by
  obtain ⟨⟨tp, lf, nm⟩, ⟨k, rs, row⟩, ⟨t, s, st, fo⟩, sl, td⟩ := σ
  obtain ⟨hB, hC⟩ := h
  have hB : Bas M x tp lf nm sl td := hB
  have hC : Cor M x s0 rs k row t s st fo := hC
  have hslI : ∀ i, i < 8 → (sl i).length ≤ 80 ∧ ∀ c ∈ sl i, c < k := hI.2.1
  have hsl := hB.2.2.2.2.1
  obtain ⟨⟨m0, f0, f3, f4, f5, f6, f7, f8, f9, f10, f11, f12, -⟩, ⟨b2, b8, -⟩, -, hslS, -⟩ := id hB.1
  simp only [B_Mr_number_0]
  rw [k_isSlot]
  rcases oix_cases (n := 8) (by omega) v with ⟨j, hj, rfl, e⟩ | ⟨e, -⟩
  · simp only [nuG, e] at hQ
    obtain ⟨s1, s2⟩ := hslS j hj
    have e1 : ixR M (x + 8) (nI j) := ixR_of b8 (by omega) hj (by omega)
    simp only [SS, List.cons_append, List.nil_append, e, Option.isSome_some, bI, if_true, i10, if_false, B_Mr_number_0, B_Mr_number_10, m0, f10, (c_isDone (Q := Q) hC).1, true_and]
    rw [(c_isDone hC).2]
    simp only [SS, List.cons_append, List.nil_append, B_Mr_number_10]
    cases hd : (!st && row.isEmpty) with
    | true =>
      obtain ⟨rfl, rfl⟩ := done_of hd
      rw [if_pos (show sDn ((tp, lf, nm), (k, rs, []), (t, s, false, fo), sl, td) = true from hd)] at hQ
      simp only [bI, if_true, i10, if_false, B_Mr_number_23, SS, m0, f5, e1, cl_nI (show j < 2147483648 by omega), s1, true_and]
      refine d_formNumber hB.1 hC s2 (hsl j hj).1 (hslI j hj).1 (hslI j hj).1 (hslI j hj).2 (by omega) (by omega) ?_
      intro M1 C1 U1 _
      simp only [SS, List.cons_append, List.nil_append, B_Mr_number_23]
      exact hQ M1 ⟨hB.u U1 (fun b q => by rcases q with q | q <;> exact ⟨by omega, by omega⟩), C1⟩ (U1.xf (fun b q => by rcases q with q | q <;> exact ⟨by omega, by omega⟩))
    | false =>
      rw [if_neg (show ¬ sDn ((tp, lf, nm), (k, rs, row), (t, s, st, fo), sl, td) = true from fun q => by rw [show sDn ((tp, lf, nm), (k, rs, row), (t, s, st, fo), sl, td) = false from hd] at q; cases q)] at hQ
      simp only [bI, Bool.false_eq_true, if_true, if_false, B_Mr_number_10]
      exact hQ M ⟨hB, hC⟩ Xfr.rfl
  · simp only [nuG, e] at hQ
    simp only [SS, List.cons_append, List.nil_append, e, Option.isSome_none, bI, Bool.false_eq_true, if_false, if_true, B_Mr_number_0]
    exact hQ M ⟨hB, hC⟩ Xfr.rfl
end CL
