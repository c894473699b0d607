/-! treat -/
theorem RWS.fr {M M1 : Mm} {S : Nat → Prop} {z lo : Nat} (h : RWS M z lo) (hf : FrS S M M1) : RWS M1 z lo := by
  obtain ⟨c1, c2, c3, c4, c5, c6⟩ := h
  refine ⟨(hf.sh _).trans c1, (hf.gR _ _).trans c2, (hf.sh _).trans c3, by rw [hf.nxt]; exact c4, fun i q hi hq => ?_, fun i j q q' hi hj hne hq hq' => c6 i j q q' hi hj hne ((hf.gR _ _).symm.trans hq) ((hf.gR _ _).symm.trans hq')⟩
  obtain ⟨y1, y2, y3⟩ := c5 i q hi ((hf.gR _ _).symm.trans hq)
  exact ⟨y1.frx hf.x y3 (fun _ _ _ q => q), y2, by rw [hf.nxt]; exact y3⟩
theorem rgN_fr {M M1 : Mm} {S : Nat → Prop} {z : Nat} (hf : FrS S M M1) : rgN M1 z = rgN M z := by
  unfold rgN
  exact List.countP_congr (fun i _ => by rw [hf.gR])
theorem Cmp.stk {M : Mm} {x : Nat} {rs : List Ru} {k f t s : Nat} {row : List Pr} {st : Bool} (h : Cmp M x rs k f row) (hn : CNV M x t s st) (b : Bool) : Cmp (sI M (x + 1024) 7 (bI b)) x rs k f row ∧ CNV (sI M (x + 1024) 7 (bI b)) x t s b ∧ Cfr M (sI M (x + 1024) 7 (bI b)) x := by
  have f5 : FrS (fun b => x + 1024 ≤ b ∧ b < x + 1029) M (sI M (x + 1024) 7 (bI b)) := FrS.sI ⟨by omega, by omega⟩
  obtain ⟨d1, d2⟩ := h.own (f5.weaken (fun b q => ⟨q.1, by omega⟩))
  refine ⟨d1, ⟨?_, ?_, ?_⟩, f5.cfr d2⟩
  · rw [gI_sI, if_neg (by omega)]; exact hn.1
  · rw [gI_sI, if_neg (by omega)]; exact hn.2.1
  · rw [gI_sI, if_pos ⟨rfl, rfl⟩]
theorem k_tail {M : Mm} {x : Nat} {rs : List Ru} {k f t s : Nat} {row : List Pr} {l r : List Nat} {l1 l2 l3 : Value} {Q : Option Value → Mm → Prop} (h : Cmp M x (rs ++ [(l, r, true)]) k f row) (hn : CNV M x t s false) (hl2 : clr l2 = l2)
    (hQ : ∀ R : Cst, R = (if (drp rs.length rs.length 0 (rs ++ [(l, r, true)]) row).2.2 = true then trt2 (drp rs.length rs.length 0 (rs ++ [(l, r, true)]) row).1 rs.length (drp rs.length rs.length 0 (rs ++ [(l, r, true)]) row).2.1 t s
  else ((drp rs.length rs.length 0 (rs ++ [(l, r, true)]) row).1, (drp rs.length rs.length 0 (rs ++ [(l, r, true)]) row).2.1, t, s, true)) → ∀ M', Cmp M' x R.1 k f R.2.1 → CNV M' x R.2.2.1 R.2.2.2.1 R.2.2.2.2 → Cfr M M' x → Q none M') : wp F_Completion_treat 113 [.ref (x + 1024), l1, l2, l3] [.int (nI rs.length)] M Q := by
  have hlen := h.1.lo.2.1.2.2
  simp only [List.length_append, List.length_cons, List.length_nil] at hlen
  have e1 : ¬ nI rs.length < 0 := nI_pos (by omega)
  have hb1 : (1 : Int32) = bI true := rfl
  simp only [B_Completion_treat_113, SS, hl2, e1, if_false, h.2.2.2.1, true_and]
  refine k_dropOlder h (by simp) ?_
  intro M1 c1 c2 c3
  have hK1 : CNV M1 x t s false := ⟨(c3 _ _ (by omega) (by omega)).trans hn.1, (c3 _ _ (by omega) (by omega)).trans hn.2.1, (c3 _ _ (by omega) (by omega)).trans hn.2.2⟩
  have hdl := drp_len rs.length rs.length 0 (rs ++ [(l, r, true)]) row
  simp only [List.length_append, List.length_cons, List.length_nil] at hdl
  generalize drp rs.length rs.length 0 (rs ++ [(l, r, true)]) row = D at *
  simp only [SS, List.cons_append, List.nil_append, B_Completion_treat_113, bI_ne]
  cases hb : D.2.2 with
  | false =>
    obtain ⟨d1, d2, d3⟩ := c1.stk hK1 true
    simp only [if_true, B_Completion_treat_143, B_Completion_treat_148, c1.2.2.2.1, or_true, true_and]
    refine hQ (D.1, D.2.1, t, s, true) ?_ _ d1 d2 (c2.trans d3)
    rw [if_neg (by rw [hb]; simp)]
  | true =>
    simp only [hb, if_true] at hQ
    simp only [Bool.true_eq_false, if_false, c1.2.2.2.1, true_and]
    refine k_renewRights c1 (by omega) hK1.2.1 ?_
    intro M2 c4 c5 c6 c7 c8
    have hK2 : CNV M2 x t (rnw rs.length 0 D.1 s).2.1 false := ⟨c6.1.trans hK1.1, c7, c6.2.trans hK1.2.2⟩
    generalize hR : rnw rs.length 0 D.1 s = R at *
    simp only [SS, List.cons_append, List.nil_append, B_Completion_treat_113, bI_ne]
    cases hb2 : R.2.2 with
    | false =>
      obtain ⟨d1, d2, d3⟩ := c4.stk hK2 true
      simp only [if_true, B_Completion_treat_143, B_Completion_treat_148, c4.2.2.2.1, or_true, true_and]
      refine hQ (R.1, D.2.1, t, R.2.1, true) ?_ _ d1 d2 ((c2.trans c5).trans d3)
      rw [trt2, hR, if_neg (by rw [hb2]; simp)]
    | true =>
      simp only [Bool.true_eq_false, if_false, c4.2.2.2.1, true_and]
      refine k_pairAll c4 (by omega) ?_
      intro M3 c9 c10 c11
      have hK3 : CNV M3 x t R.2.1 false := ⟨(c11 _ _ (by omega) (by omega)).trans hK2.1, (c11 _ _ (by omega) (by omega)).trans hK2.2.1, (c11 _ _ (by omega) (by omega)).trans hK2.2.2⟩
      simp only [SS, List.cons_append, List.nil_append, B_Completion_treat_113, bI_ne]
      have ht2 : trt2 D.1 rs.length D.2.1 t s = trt3 R.1 rs.length D.2.1 t R.2.1 := by rw [trt2, hR, if_pos hb2]
      cases hb3 : (prs R.1 rs.length rs.length 0 D.2.1).2 with
      | false =>
        obtain ⟨d1, d2, d3⟩ := c9.stk hK3 true
        simp only [if_true, B_Completion_treat_143, B_Completion_treat_148, c9.2.2.2.1, or_true, true_and]
        refine hQ _ rfl _ ?_ ?_ (((c2.trans c5).trans c10).trans d3)
        · rw [ht2]; exact d1
        · rw [ht2]; simp only [trt3, hb3]; exact d2
      | true =>
        obtain ⟨d1, d2, d3⟩ := c9.stk hK3 false
        simp only [Bool.true_eq_false, if_false, B_Completion_treat_147, B_Completion_treat_148, c9.2.2.2.1, true_or, true_and]
        refine hQ _ rfl _ ?_ ?_ (((c2.trans c5).trans c10).trans d3)
        · rw [ht2]; exact d1
        · rw [ht2]; simp only [trt3, hb3]; exact d2
theorem cmpW_len {a b : List Nat} (h : 0 < cmpW a b) : b.length ≤ a.length := by
  unfold cmpW at h
  split at h
  · omega
  · split at h
    · omega
    · exact absurd h (by decide)
theorem cmpW_len' {a b : List Nat} (h : cmpW a b = -1) : a.length ≤ b.length := by
  unfold cmpW at h
  split at h
  · omega
  · split at h
    · exact absurd h (by decide)
    · omega
theorem lexc_nil_l {b : List Nat} : lexc [] b = 0 := by cases b <;> rfl
theorem cmpW_ne {a b : List Nat} (h : 0 < cmpW a b) : a ≠ [] := by
  rintro rfl
  unfold cmpW at h
  split at h
  · rw [lexc_nil_l] at h; exact absurd h (by decide)
  · rw [if_neg (by simp)] at h; exact absurd h (by decide)
theorem lexc_nil_r {b : List Nat} : lexc b [] = 0 := by cases b <;> rfl
theorem cmpW_ne' {a b : List Nat} (h : cmpW a b = -1) : b ≠ [] := by
  rintro rfl
  unfold cmpW at h
  split at h
  · rw [lexc_nil_r] at h; exact absurd h (by decide)
  · rename_i q
    rw [if_pos (by cases a; · simp at q
                   · simp)] at h; exact absurd h (by decide)
theorem RWf.make {rs : List Ru} {k : Nat} (h : RWf rs k) {l r : List Nat} (h1 : rs.length < 200) (h2 : l.length ≤ 60) (h3 : l ≠ []) (h4 : r.length ≤ l.length) (h5 : ∀ c ∈ l, c < k) (h6 : ∀ c ∈ r, c < k) : RWf (rs ++ [(l, r, true)]) k := by
  refine ⟨fun u hu => ?_, h.2.1, by simp; omega⟩
  rcases List.mem_append.mp hu with hu | hu
  · exact h.1 u hu
  · rw [List.mem_singleton.mp hu]
    exact ⟨h3, h2, h4, h5, h6⟩
theorem k_treat {M : Mm} {x : Nat} {rs : List Ru} {k f t s : Nat} {u : Pr} {row : List Pr} {Q : Option Value → Mm → Prop} (h : Cmp M x rs k f (u :: row)) (hn : CNV M x t s false) (hu1 : ∀ c ∈ u.1, c < k) (hu2 : ∀ c ∈ u.2, c < k)
    (hQ : ∀ M', Cmp M' x (trt rs u row t s).1 k ((f + 1) % 1000) (trt rs u row t s).2.1 → CNV M' x (trt rs u row t s).2.2.1 (trt rs u row t s).2.2.2.1 (trt rs u row t s).2.2.2.2 → Cfr M M' x → Q none M') : wp F_Completion_treat 0 [.ref (x + 1024), jk, jk, jk] [] M Q := by
  have hlo := h.1.lo.1
  simp only [B_Completion_treat_0, SS, h.2.2.2.1, h.2.2.2.2.1, h.2.1.1, true_and]
  refine k_takeFirst h.2.1 h.2.2.1 ?_
  intro p hp pv M1 f1 rv1
  obtain ⟨ps, plo, phi1⟩ := h.2.1.2.2.2.2.1 f p h.2.2.1.2.1 hp
  have hC1 : Cmp M1 x rs k ((f + 1) % 1000) row := ⟨h.1.fr f1 (fun b hb q => by omega) (fun q => by omega) (fun b n hb hn q => by subst q; rw [h.2.1.1] at hn; cases hn), h.2.1.fr f1, rv1, h.2.2.2.frx f1.x hlo (fun _ _ _ q => q)⟩
  have hF1 : Cfr M M1 x := ⟨f1.x.weaken (fun b _ q => Or.inl ⟨by omega, by omega⟩) (fun _ _ q => q.elim), by
    have hc : capM M1 (x + 1013) = capM M (x + 1013) := by unfold capM; rw [f1.gI (fun q => by omega)]
    exact Pt.same f1.nxt f1.slo hc (rgN_fr f1) (fun j => f1.gR _ j)⟩
  have hn1 : CNV M1 x t s false := ⟨(f1.gI (fun q => by omega) _).trans hn.1, (f1.gI (fun q => by omega) _).trans hn.2.1, (f1.gI (fun q => by omega) _).trans hn.2.2⟩
  have ps1 : PS M1 p := ps.frx f1.x phi1 (fun _ _ _ q => q)
  have pv1 : PV M1 p u := ⟨pv.1.fr f1 (fun q => by omega) (fun q => by omega), pv.2.1.fr f1 (fun q => by omega) (fun q => by omega), pv.2.2⟩
  have nx1 := f1.nxt
  simp only [SS, List.cons_append, List.nil_append, B_Completion_treat_0, B_Completion_treat_13, hC1.2.2.2.1, hn1.1, nI_i1, true_and]
  -- treated is counted
  have f2 : FrS (fun b => x + 1024 ≤ b ∧ b < x + 1029) M1 (sI M1 (x + 1024) 5 (nI (t + 1))) := FrS.sI ⟨by omega, by omega⟩
  obtain ⟨hC2, hP2⟩ := hC1.own (f2.weaken (fun b q => ⟨q.1, by omega⟩))
  have hF2 := hF1.trans (f2.cfr hP2)
  have hn2 : CNV (sI M1 (x + 1024) 5 (nI (t + 1))) x (t + 1) s false := ⟨by rw [gI_sI, if_pos ⟨rfl, rfl⟩], by rw [gI_sI, if_neg (by omega)]; exact hn1.2.1, by rw [gI_sI, if_neg (by omega)]; exact hn1.2.2⟩
  have ps2 : PS (sI M1 (x + 1024) 5 (nI (t + 1))) p := ps1.frx f2.x (by rw [nx1]; exact phi1) (fun _ _ _ q => q)
  have pv2 : PV (sI M1 (x + 1024) 5 (nI (t + 1))) p u := ⟨pv1.1.fr f2 (fun q => by omega) (fun q => by omega), pv1.2.1.fr f2 (fun q => by omega) (fun q => by omega), pv1.2.2⟩
  have nx2 : nxt (sI M1 (x + 1024) 5 (nI (t + 1))) = nxt M := nx1
  simp only [B_Completion_treat_13, ps1.1, ps1.2.1, hC1.2.2.2.2.1, hC1.2.2.2.1, SS, true_and]
  generalize sI M1 (x + 1024) 5 (nI (t + 1)) = M2 at *
  refine k_takeForm hC2 ps2.2.2.2.1 hC2.2.2.2.2.2.1 pv2.1 pv2.2.2.1 pv2.2.2.1 hu1 (by omega) (by omega) pv2.2.2.1 (by omega) (by omega) ?_ ?_
  · intro hnone M3 T
    obtain ⟨c1, c2, c3⟩ := hC2.tfN T
    have hn3 : CNV M3 x (t + 1) s false := ⟨(c3 _ _ (by omega) (by omega)).trans hn2.1, (c3 _ _ (by omega) (by omega)).trans hn2.2.1, (c3 _ _ (by omega) (by omega)).trans hn2.2.2⟩
    obtain ⟨d1, d2, d3⟩ := c1.stk hn3 true
    simp only [SS, List.cons_append, List.nil_append, B_Completion_treat_13, B_Completion_treat_53, if_true, c1.2.2.2.1, or_true, true_and]
    have hR : trt rs u row t s = (rs, row, t + 1, s, true) := by rw [trt, hnone]
    rw [hR] at hQ
    exact hQ _ d1 d2 ((hF2.trans c2).trans d3)
  intro a tr1 hs1 ha1 ha2 M3 T
  have hX := T.frx
  obtain ⟨c1, c2, c3, c4⟩ := hC2.tfY T hC2.2.2.2.2.2.1 ⟨by omega, by omega⟩
  have F3 : Cfr M M3 x := hF2.trans ⟨c2.weaken (fun b _ q => by
    rcases q with q | q | q
    · exact q
    · exact Or.inl ⟨by omega, by omega⟩
    · exact Or.inl ⟨by omega, by omega⟩) (fun _ _ q => q), c3⟩
  have ap := word_apart hC2.1 ps2.2.2.2.2
  have ap1 : ¬ (eS M2 (x + 1018) (x + 9) (x + 1013) (x + 1094) (p + 3) ∨ wS (x + 1025) (p + 3)) := by
    rintro (q | q | q)
    · exact ap.1 q
    · omega
    · omega
  have ap2 : ¬ (eS M2 (x + 1018) (x + 9) (x + 1013) (x + 1094) (p + 3 + 1) ∨ wS (x + 1025) (p + 3 + 1)) := by
    rintro (q | q | q)
    · exact ap.2 q
    · omega
    · omega
  have wv3 : WV M3 (p + 3) u.2 := pv2.2.1.frx hX (by omega) ap1 ap2
  have ps3 : PS M3 p := ps2.frx hX (by omega) (fun b _ _ q => by omega)
  have wa3 : WV M3 (x + 1025) a := T.2.1
  have nx3 := c2.1
  have hn3 : CNV M3 x (t + 1) s false := ⟨(c4 _ _ (by omega) (by omega) (fun q => by rcases q with q | q <;> omega)).trans hn2.1, (c4 _ _ (by omega) (by omega) (fun q => by rcases q with q | q <;> omega)).trans hn2.2.1, (c4 _ _ (by omega) (by omega) (fun q => by rcases q with q | q <;> omega)).trans hn2.2.2⟩
  -- its STEPS are counted
  have e4 : gI M3 (x + 1024) 6 + nI tr1.length = nI (s + tr1.length) := by rw [hn3.2.1, nI_add]
  have f4 : FrS (fun b => x + 1024 = b) M3 (sI M3 (x + 1024) 6 (nI (s + tr1.length))) := FrS.sI rfl
  obtain ⟨hC4, hP4⟩ := c1.own (f4.weaken (fun b q => ⟨by omega, by omega⟩))
  have F4 := F3.trans ((f4.weaken (fun b q => ⟨by omega, by omega⟩)).cfr hP4)
  have hn4 : CNV (sI M3 (x + 1024) 6 (nI (s + tr1.length))) x (t + 1) (s + tr1.length) false := ⟨by rw [gI_sI, if_neg (by omega)]; exact hn3.1, by rw [gI_sI, if_pos ⟨rfl, rfl⟩], by rw [gI_sI, if_neg (by omega)]; exact hn3.2.2⟩
  have ps4 : PS (sI M3 (x + 1024) 6 (nI (s + tr1.length))) p := ps3.frx f4.x (by omega) (fun _ _ _ q => q)
  have wv4 := wv3.fr f4 (fun q => by omega) (fun q => by omega)
  have wa4 := wa3.fr f4 (fun q => by omega) (fun q => by omega)
  have nx4 : nxt (sI M3 (x + 1024) 6 (nI (s + tr1.length))) = nxt M3 := rfl
  simp only [SS, List.cons_append, List.nil_append, e4, B_Completion_treat_13, i10, if_false, c1.2.2.2.1, c1.2.2.2.2.1, ps3.1, ps3.2.2.1, true_and]
  generalize sI M3 (x + 1024) 6 (nI (s + tr1.length)) = M4 at *
  refine k_takeForm hC4 ps4.2.2.2.2 hC4.2.2.2.2.2.2 wv4 pv2.2.2.2 pv2.2.2.2 hu2 (by omega) (by omega) pv2.2.2.2 (by omega) (by omega) ?_ ?_
  · intro hnone M5 T2
    obtain ⟨c1, c2, c3⟩ := hC4.tfN T2
    have hn5 : CNV M5 x (t + 1) (s + tr1.length) false := ⟨(c3 _ _ (by omega) (by omega)).trans hn4.1, (c3 _ _ (by omega) (by omega)).trans hn4.2.1, (c3 _ _ (by omega) (by omega)).trans hn4.2.2⟩
    obtain ⟨d1, d2, d3⟩ := c1.stk hn5 true
    simp only [SS, List.cons_append, List.nil_append, B_Completion_treat_13, B_Completion_treat_53, if_true, c1.2.2.2.1, or_true, true_and]
    have hR : trt rs u row t s = (rs, row, t + 1, s + tr1.length, true) := by rw [trt, hs1]; simp only [hnone]
    rw [hR] at hQ
    exact hQ _ d1 d2 ((F4.trans c2).trans d3)
  intro b tr2 hs2 hb1 hb2 M5 T2
  have hX2 := T2.frx
  obtain ⟨c5, c6, c7, c8⟩ := hC4.tfY T2 hC4.2.2.2.2.2.2 ⟨by omega, by omega⟩
  have F5 : Cfr M M5 x := F4.trans ⟨c6.weaken (fun b _ q => by
    rcases q with q | q | q
    · exact q
    · exact Or.inl ⟨by omega, by omega⟩
    · exact Or.inl ⟨by omega, by omega⟩) (fun _ _ q => q), c7⟩
  have k5 : ∀ b j, x + 1024 ≤ b → b < x + 1027 → gI M5 b j = gI M4 b j := fun b j q1 q2 => c8 b j (by omega) (by omega) (fun q => by rcases q with q | q <;> omega)
  have wa5 : WV M5 (x + 1025) a := ⟨(k5 _ _ (by omega) (by omega)).trans wa4.1, fun j hj => (k5 _ _ (by omega) (by omega)).trans (wa4.2.1 j hj), wa4.2.2⟩
  have wb5 : WV M5 (x + 1027) b := T2.2.1
  have hn5 : CNV M5 x (t + 1) (s + tr1.length) false := ⟨(k5 _ _ (by omega) (by omega)).trans hn4.1, (k5 _ _ (by omega) (by omega)).trans hn4.2.1, (k5 _ _ (by omega) (by omega)).trans hn4.2.2⟩
  have e6 : gI M5 (x + 1024) 6 + nI tr2.length = nI (s + tr1.length + tr2.length) := by rw [hn5.2.1, nI_add]
  have f6 : FrS (fun b => x + 1024 = b) M5 (sI M5 (x + 1024) 6 (nI (s + tr1.length + tr2.length))) := FrS.sI rfl
  obtain ⟨hC6, hP6⟩ := c5.own (f6.weaken (fun b q => ⟨by omega, by omega⟩))
  have F6 := F5.trans ((f6.weaken (fun b q => ⟨by omega, by omega⟩)).cfr hP6)
  have hn6 : CNV (sI M5 (x + 1024) 6 (nI (s + tr1.length + tr2.length))) x (t + 1) (s + tr1.length + tr2.length) false := ⟨by rw [gI_sI, if_neg (by omega)]; exact hn5.1, by rw [gI_sI, if_pos ⟨rfl, rfl⟩], by rw [gI_sI, if_neg (by omega)]; exact hn5.2.2⟩
  have wa6 := wa5.fr f6 (fun q => by omega) (fun q => by omega)
  have wb6 := wb5.fr f6 (fun q => by omega) (fun q => by omega)
  have la : a.length ≤ 120 := Nat.le_trans ha1 pv2.2.2.1
  have lb : b.length ≤ 120 := Nat.le_trans hb1 pv2.2.2.2
  simp only [SS, List.cons_append, List.nil_append, e6, B_Completion_treat_13, B_Completion_treat_59, i10, if_false, c5.2.2.2.1, c5.2.2.2.2.1, c5.2.2.2.2.2.1.1, true_and]
  generalize sI M5 (x + 1024) 6 (nI (s + tr1.length + tr2.length)) = M6 at *
  rw [k_Word_against hC6.2.2.2.2.2.1 hC6.2.2.2.2.2.2 wa6 wb6 la lb (by omega) (by omega)]
  have hR0 : trt rs u row t s = if cmpW a b = 0 then (rs, row, t + 1, s + tr1.length + tr2.length, false) else if 0 < cmpW a b then trt1 rs a b row (t + 1) (s + tr1.length + tr2.length) else trt1 rs b a row (t + 1) (s + tr1.length + tr2.length) := by
    rw [trt, hs1]
    simp only [hs2]
  obtain ⟨hlo6, hwf, hRU, hRV⟩ := hC6.1.lo
  have h7 : gI M6 (x + 9) 2 = nI k := by
    obtain ⟨A, B, C, D, cap, a1, a2, a3, a4, a5, a6, a7, -⟩ := hC6.1
    exact a7
  rcases cmpW_cases a b with hc | hc | hc
  · simp only [SS, List.cons_append, List.nil_append, B_Completion_treat_59, hc, if_true]
    rw [if_pos hc] at hR0
    rw [hR0] at hQ
    exact hQ M6 hC6 hn6 F6
  · have e7 : ¬ (1 : Int32) ≤ 0 := by decide
    have hpos : 0 < cmpW a b := by rw [hc]; decide
    rw [if_neg (by rw [hc]; exact i10), if_pos hpos] at hR0
    simp only [SS, List.cons_append, List.nil_append, B_Completion_treat_59, B_Completion_treat_76, hc, i10, e7, if_false, hC6.2.2.2.1, hC6.2.2.2.2.1, hRU.1, true_and]
    refine k_make hRU hRV hC6.2.2.2.2.2.1 hC6.2.2.2.2.2.2 wa6 wb6 la lb (by omega) (by omega) (cmpW_len hpos) (fun q => by omega) (fun q => by omega) (fun q => by omega) (fun q => by omega) ?_ ?_
    · intro hbad
      obtain ⟨d1, d2, d3⟩ := hC6.stk hn6 true
      have e8 : (-1 : Int32) < 0 := by decide
      simp only [SS, List.cons_append, List.nil_append, B_Completion_treat_76, B_Completion_treat_113, B_Completion_treat_143, B_Completion_treat_148, e8, if_true, hC6.2.2.2.1, or_true, true_and]
      rw [trt1, if_pos hbad] at hR0
      rw [hR0] at hQ
      exact hQ _ d1 d2 (F6.trans d3)
    · intro g1 g2 M7 f7 w7 y2 y3
      obtain ⟨d1, d2⟩ := hC6.ruleW f7 w7 (y2.trans h7) y3 (hwf.make g1 g2 (cmpW_ne hpos) (cmpW_len hpos) ha2 hb2)
      have hn7 : CNV M7 x (t + 1) (s + tr1.length + tr2.length) false := ⟨(f7.gI (fun q => by omega) _).trans hn6.1, (f7.gI (fun q => by omega) _).trans hn6.2.1, (f7.gI (fun q => by omega) _).trans hn6.2.2⟩
      simp only [SS, List.cons_append, List.nil_append, B_Completion_treat_76]
      refine k_tail d1 hn7 rfl ?_
      intro R hR M8 q1 q2 q3
      rw [trt1, if_neg (by omega), ← hR] at hR0
      rw [hR0] at hQ
      exact hQ M8 q1 q2 ((F6.trans d2).trans q3)
  · have e7 : (-1 : Int32) ≤ 0 := by decide
    have e9 : ¬ (-1 : Int32) = 0 := by decide
    have hneg : ¬ 0 < cmpW a b := by rw [hc]; decide
    rw [if_neg (by rw [hc]; exact e9), if_neg hneg] at hR0
    simp only [SS, List.cons_append, List.nil_append, B_Completion_treat_59, B_Completion_treat_76, B_Completion_treat_98, hc, e9, e7, if_true, if_false, hC6.2.2.2.1, hC6.2.2.2.2.1, hRU.1, true_and]
    refine k_make hRU hRV hC6.2.2.2.2.2.2 hC6.2.2.2.2.2.1 wb6 wa6 lb la (by omega) (by omega) (cmpW_len' hc) (fun q => by omega) (fun q => by omega) (fun q => by omega) (fun q => by omega) ?_ ?_
    · intro hbad
      obtain ⟨d1, d2, d3⟩ := hC6.stk hn6 true
      have e8 : (-1 : Int32) < 0 := by decide
      simp only [SS, List.cons_append, List.nil_append, B_Completion_treat_98, B_Completion_treat_113, B_Completion_treat_143, B_Completion_treat_148, e8, if_true, hC6.2.2.2.1, or_true, true_and]
      rw [trt1, if_pos hbad] at hR0
      rw [hR0] at hQ
      exact hQ _ d1 d2 (F6.trans d3)
    · intro g1 g2 M7 f7 w7 y2 y3
      obtain ⟨d1, d2⟩ := hC6.ruleW f7 w7 (y2.trans h7) y3 (hwf.make g1 g2 (cmpW_ne' hc) (cmpW_len' hc) hb2 ha2)
      have hn7 : CNV M7 x (t + 1) (s + tr1.length + tr2.length) false := ⟨(f7.gI (fun q => by omega) _).trans hn6.1, (f7.gI (fun q => by omega) _).trans hn6.2.1, (f7.gI (fun q => by omega) _).trans hn6.2.2⟩
      simp only [SS, List.cons_append, List.nil_append, B_Completion_treat_98]
      refine k_tail d1 hn7 rfl ?_
      intro R hR M8 q1 q2 q3
      rw [trt1, if_neg (by omega), ← hR] at hR0
      rw [hR0] at hQ
      exact hQ M8 q1 q2 ((F6.trans d2).trans q3)
/-! the small ones -/
theorem bN (n : Nat) (h : n < 2147483648) : (nI n = 0) = (n = 0) := by
  have := nI_eq (a := n) (b := 0) (by omega) (by omega)
  rw [nI_0] at this
  exact propext this
theorem k_isDone {M : Mm} {x : Nat} {rs : List Ru} {k f t s : Nat} {row : List Pr} {st : Bool} {Q : Option Value → Mm → Prop} (h : Cmp M x rs k f row) (hn : CNV M x t s st) : wp F_Completion_isDone 0 [.ref (x + 1024)] [] M Q = Q (some (.int (bI (!st && row.isEmpty)))) M := by
  have hl := h.2.2.1.2.2.2.1
  simp only [B_Completion_isDone_0, h.2.2.2.1, hn.2.2, bI_ne, SS, h.2.2.2.2.1, h.2.1.1, h.2.2.1.2.2.1, bN row.length (by omega), true_and]
  cases st <;> cases row <;> simp [B_Completion_isDone_0, B_Completion_isDone_21, B_Completion_isDone_22, bI]
theorem k_canTreat {M : Mm} {x : Nat} {rs : List Ru} {k f t s : Nat} {row : List Pr} {st : Bool} {Q : Option Value → Mm → Prop} (h : Cmp M x rs k f row) (hn : CNV M x t s st) : wp F_Completion_canTreat 0 [.ref (x + 1024)] [] M Q = Q (some (.int (bI (!st && !row.isEmpty)))) M := by
  have hl := h.2.2.1.2.2.2.1
  have e : (nI row.length ≤ 0) = (row.length = 0) := by
    have := nI_leI (a := row.length) (b := 0) (by omega) (by omega)
    rw [nI_0] at this
    exact propext (this.trans (by omega))
  simp only [B_Completion_canTreat_0, h.2.2.2.1, hn.2.2, bI_ne, SS, h.2.2.2.2.1, h.2.1.1, h.2.2.1.2.2.1, e, true_and]
  cases st <;> cases row <;> simp [B_Completion_canTreat_0, B_Completion_canTreat_21, B_Completion_canTreat_22, bI]
theorem k_Cbegin {M : Mm} {x : Nat} {rs : List Ru} {k f : Nat} {row : List Pr} {Q : Option Value → Mm → Prop} (h : Cmp M x rs k f row) (hQ : ∀ M', Cmp M' x rs k f row → CNV M' x 0 0 false → FrS (fun b => b = x + 1024) M M' → Pt M M' x → Q none M') : wp F_Completion_begin 0 [.ref (x + 1024)] [] M Q := by
  simp only [B_Completion_begin_0, h.2.2.2.1, SS, true_or, true_and]
  have ff : FrS (fun b => b = x + 1024) M (sI (sI (sI M (x + 1024) 5 0) (x + 1024) 6 0) (x + 1024) 7 0) := ((FrS.sI (S := fun b => b = x + 1024) rfl).trans (FrS.sI rfl)).trans (FrS.sI rfl)
  obtain ⟨d1, d2⟩ := h.own (ff.weaken (fun b q => ⟨by omega, by omega⟩))
  refine hQ _ d1 ⟨?_, ?_, ?_⟩ ff d2
  · rw [gI_sI, if_neg (by omega), gI_sI, if_neg (by omega), gI_sI, if_pos ⟨rfl, rfl⟩]; rfl
  · rw [gI_sI, if_neg (by omega), gI_sI, if_pos ⟨rfl, rfl⟩]; rfl
  · rw [gI_sI, if_pos ⟨rfl, rfl⟩]; rfl
