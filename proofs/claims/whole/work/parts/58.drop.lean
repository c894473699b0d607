/-! what toForm and the RULES' changes leave of all this -/
theorem eS_zS {M : Mm} {x b : Nat} (h : eS M (x + 1018) (x + 9) (x + 1013) (x + 1094) b) : zS M x b := by
  rcases h with h | h | ⟨h, n, hn⟩ | h
  · exact Or.inl ⟨by omega, by omega⟩
  · exact Or.inl ⟨by omega, by omega⟩
  · rcases h with h | h
    · exact Or.inl ⟨by omega, by omega⟩
    · exact Or.inr ⟨h, fun m => by rw [hn]; simp⟩
  · exact Or.inl ⟨by omega, by omega⟩
theorem eS_out {M : Mm} {x b : Nat} (h : eS M (x + 1018) (x + 9) (x + 1013) (x + 1094) b) : b = x + 9 ∨ (x + 1013 ≤ b ∧ b < x + 1024) ∨ x + 1094 ≤ b := by
  rcases h with h | h | ⟨h, n, hn⟩ | h
  · exact Or.inl h
  · exact Or.inr (Or.inl ⟨by omega, by omega⟩)
  · rcases h with h | h
    · exact Or.inr (Or.inl ⟨by omega, by omega⟩)
    · exact Or.inr (Or.inr h)
  · exact Or.inr (Or.inl ⟨by omega, by omega⟩)
theorem Pot.pt {M M' : Mm} {x : Nat} (h : Pot M M' (x + 1013)) (hr : rgN M' (x + 1011) = rgN M (x + 1011)) (hw : NewA M M' (x + 1013)) : Pt M M' x := by
  obtain ⟨h1, h2, -, -⟩ := h
  refine ⟨?_, ?_, hw⟩
  · rw [hr]; omega
  · rw [hr]; omega
theorem TfY.new {M M' : Mm} {rd z mc lo u : Nat} {rs : List Ru} {k : Nat} {w : List Nat} {tr : List (Nat × Nat)} (h : TfY M M' rd z mc lo u rs k w tr) : NewA M M' mc := by
  obtain ⟨⟨M4, ⟨h1, h2, h3, h5, h6⟩, h4⟩, -⟩ := h
  exact fun j a q1 q2 q3 => h5 j a q1 q2 (by rw [← h4.gR]; exact q3)
theorem Cmp.tfN {M M' : Mm} {x : Nat} {rs : List Ru} {k f : Nat} {row : List Pr} (h : Cmp M x rs k f row) (t : TfN M M' (x + 1018) (x + 9) (x + 1013) (x + 1094) rs k) : Cmp M' x rs k f row ∧ Cfr M M' x ∧ ∀ b j, x + 1024 ≤ b → b < x + 1094 → gI M' b j = gI M b j := by
  obtain ⟨t1, t2, t3⟩ := t
  have hlo := h.1.lo.1
  obtain ⟨r1, r2, r3⟩ := Row.frx h.2.1 h.2.2.1 t2 ⟨fun q => by have := eS_out q; omega, fun q => by omega, fun q => by omega⟩ (fun v rv _ hw => word_apart h.1 hw) (fun b hb q => by omega)
  refine ⟨⟨t1, r1, r2, h.2.2.2.frx t2 hlo (fun b _ _ q => by omega)⟩, ⟨t2.weaken (fun b _ q => eS_zS q) (fun b _ q => Or.inr q), t3.1.pt r3 t3.2.1⟩, fun b j q1 q2 => (t2.2.2.2.1 b (by omega) (fun q => by have := eS_out q; omega)).1 j⟩
/-- the FORM came into a word that is no RULE's and no PAIR's -/
theorem Cmp.tfY {M M' : Mm} {x u ru : Nat} {rs : List Ru} {k f : Nat} {row : List Pr} {w : List Nat} {tr : List (Nat × Nat)} (h : Cmp M x rs k f row) (t : TfY M M' (x + 1018) (x + 9) (x + 1013) (x + 1094) u rs k w tr) (su : WS M u ru) (hu : x + 1025 ≤ u ∧ u + 1 < x + 1094) : Cmp M' x rs k f row ∧ FrX (fun b => zS M x b ∨ wS u b) (zT x) M M' ∧ Pt M M' x ∧ ∀ b j, x + 1024 ≤ b → b < x + 1094 → ¬ wS u b → gI M' b j = gI M b j := by
  have hlo := h.1.lo.1
  have e1 := t.eng su (by omega) h.1 (fun q => by omega) (fun q => by omega)
  have e2 := t.pot su (by omega) h.1
  have e3 := t.frx
  obtain ⟨r1, r2, r3⟩ := Row.frx h.2.1 h.2.2.1 e3 ⟨fun q => by rcases q with q | q | q; · have := eS_out q; omega
                                                               · omega
                                                               · omega, fun q => by omega, fun q => by omega⟩ (fun v rv hv hw => ⟨fun q => by
    rcases q with q | q | q
    · exact (word_apart h.1 hw).1 q
    · omega
    · omega, fun q => by
    rcases q with q | q | q
    · exact (word_apart h.1 hw).2 q
    · omega
    · omega⟩) (fun b hb q => by omega)
  refine ⟨⟨e1, r1, r2, h.2.2.2.frx e3 hlo (fun b _ _ q => by omega)⟩, e3.weaken (fun b _ q => q.imp eS_zS id) (fun b _ q => Or.inr q), e2.pt r3 t.new, fun b j q1 q2 q3 => (e3.2.2.2.1 b (by omega) (fun q => ?_)).1 j⟩
  rcases q with q | q
  · have := eS_out q; omega
  · exact q3 q
theorem Cmp.tfR {M M' : Mm} {x i : Nat} {rs : List Ru} {k f : Nat} {row : List Pr} {w : List Nat} {tr : List (Nat × Nat)} (h : Cmp M x rs k f row) (hi : i < rs.length) (t : TfY M M' (x + 1018) (x + 9) (x + 1013) (x + 1094) (x + 9 + 2 + 5 * i + 3) rs k w tr) (hw1 : w.length ≤ (rs.getD i dR).2.1.length) (hw2 : ∀ c ∈ w, c < k) : Cmp M' x (rs.set i ((rs.getD i dR).1, w, (rs.getD i dR).2.2)) k f row ∧ Cfr M M' x ∧ ∀ b j, x + 1024 ≤ b → b < x + 1094 → gI M' b j = gI M b j := by
  have hlo := h.1.lo.1
  obtain ⟨s1, -, -, i200⟩ := h.ru hi
  have e1 := t.engR hi h.1 hw1 hw2
  have e2 := t.pot s1.2.2.2.2 (by omega) h.1
  have e3 := t.frx
  have out : ∀ b, wS (x + 9 + 2 + 5 * i + 3) b → x + 9 < b ∧ b < x + 1011 := fun b q => by rcases q with q | q <;> omega
  obtain ⟨r1, r2, r3⟩ := Row.frx h.2.1 h.2.2.1 e3 ⟨fun q => by rcases q with q | q; · have := eS_out q; omega
                                                               · have := out _ q; omega, fun q => by omega, fun q => by omega⟩ (fun v rv hv hw => ⟨fun q => by
    rcases q with q | q
    · exact (word_apart h.1 hw).1 q
    · have := out _ q; omega, fun q => by
    rcases q with q | q
    · exact (word_apart h.1 hw).2 q
    · have := out _ q; omega⟩) (fun b hb q => by omega)
  refine ⟨⟨e1, r1, r2, h.2.2.2.frx e3 hlo (fun b _ _ q => by omega)⟩, ⟨e3.weaken (fun b _ q => by
    rcases q with q | q
    · exact eS_zS q
    · have := out _ q; exact Or.inl ⟨by omega, by omega⟩) (fun b _ q => Or.inr q), e2.pt r3 t.new⟩, fun b j q1 q2 => (e3.2.2.2.1 b (by omega) (fun q => ?_)).1 j⟩
  rcases q with q | q
  · have := eS_out q; omega
  · have := out _ q; omega
/-- RULES have come or gone -/
theorem Cmp.ruleW {M M' : Mm} {x : Nat} {rs rs' : List Ru} {k k' f : Nat} {row : List Pr} (h : Cmp M x rs k f row) (hf : FrS (ruS (x + 9)) M M') (hv : RUV M' (x + 9) rs') (h2 : gI M' (x + 9) 2 = nI k') (h3 : gI M' (x + 9) 3 = 1) (hw : RWf rs' k') : Cmp M' x rs' k' f row ∧ Cfr M M' x := by
  have hlo := h.1.lo.1
  have hmc := h.1.mcS
  obtain ⟨r1, r2, r3⟩ := Row.frx h.2.1 h.2.2.1 hf.x ⟨fun q => by omega, fun q => q, fun q => q⟩ (fun v rv hv hw => ⟨fun q => by omega, fun q => by omega⟩) (fun b hb q => q)
  have hc : capM M' (x + 1013) = capM M (x + 1013) := by unfold capM; rw [hf.gI (fun q => by omega)]
  obtain ⟨⟨A, B, C, D, cap, a1, a2, a3, a4, a5, a6, a7, a8, a9, a10, a11, a12⟩, -, -, hC⟩ := h
  refine ⟨⟨⟨A, B, C, D, cap, a1.fr hf (hf.gI (fun q => by omega) 0), a2, a3.fr hf, a4.fr hf, hv, hw, h2, Or.inr h3, a9, a10, a11, by rw [hf.nxt]; exact a12⟩, r1, r2, hC.frx hf.x hlo (fun _ _ _ q => q)⟩, hf.x.weaken (fun b _ q => Or.inl ⟨by omega, by omega⟩) (fun _ _ q => q.elim), ?_⟩
  exact Pt.same hf.nxt hf.slo hc r3 (fun j => hf.gR _ j)
/-- the Completion's own numbers and words -/
theorem Cmp.own {M M' : Mm} {x : Nat} {rs : List Ru} {k f : Nat} {row : List Pr} (h : Cmp M x rs k f row) (hf : FrS (fun b => x + 1024 ≤ b ∧ b < x + 1094) M M') : Cmp M' x rs k f row ∧ Pt M M' x := by
  have hlo := h.1.lo.1
  obtain ⟨r1, r2, r3⟩ := Row.frx h.2.1 h.2.2.1 hf.x ⟨fun q => by omega, fun q => q, fun q => q⟩ (fun v rv hv hw => ⟨fun q => by omega, fun q => by omega⟩) (fun b hb q => q)
  have hc : capM M' (x + 1013) = capM M (x + 1013) := by unfold capM; rw [hf.gI (fun q => by omega)]
  refine ⟨⟨h.1.fr hf (fun b hb q => by omega) (fun q => by omega) (fun b n hb hn q => ?_), r1, r2, h.2.2.2.frx hf.x hlo (fun _ _ _ q => q)⟩, ?_⟩
  · rcases hb with hb | hb <;> omega
  · exact Pt.same hf.nxt hf.slo hc r3 (fun j => hf.gR _ j)
theorem FrS.cfr {M M' : Mm} {x : Nat} (hf : FrS (fun b => x + 1024 ≤ b ∧ b < x + 1029) M M') (hp : Pt M M' x) : Cfr M M' x := ⟨hf.x.weaken (fun b _ q => Or.inl ⟨by omega, by omega⟩) (fun _ _ q => q.elim), hp⟩
/-! (a) -/
def drp (fr : Nat) : Nat → Nat → List Ru → List Pr → List Ru × List Pr × Bool
  | 0, _, rs, row => (rs, row, true)
  | m + 1, i, rs, row => if (rs.getD i dR).2.2 = true ∧ hol (rs.getD i dR).1 (rs.getD fr dR).1 = true then
      (if row.length = 1000 then (rs.set i ((rs.getD i dR).1, (rs.getD i dR).2.1, false), row, false) else drp fr m (i + 1) (rs.set i ((rs.getD i dR).1, (rs.getD i dR).2.1, false)) (row ++ [((rs.getD i dR).1, (rs.getD i dR).2.1)]))
    else drp fr m (i + 1) rs row
theorem RWf.drop {rs : List Ru} {k i : Nat} (h : RWf rs k) (hi : i < rs.length) : RWf (rs.set i ((rs.getD i dR).1, (rs.getD i dR).2.1, false)) k := by
  refine ⟨fun u hu => ?_, h.2.1, by rw [List.length_set]; exact h.2.2⟩
  rcases List.mem_or_eq_of_mem_set hu with hu | rfl
  · exact h.1 u hu
  · have := h.1 _ (getD_mem hi)
    exact this
theorem k_dropOlder {M : Mm} {x : Nat} {rs : List Ru} {k f fr : Nat} {row : List Pr} {Q : Option Value → Mm → Prop} (h : Cmp M x rs k f row) (hfr : fr < rs.length)
    (hQ : ∀ M', Cmp M' x (drp fr fr 0 rs row).1 k f (drp fr fr 0 rs row).2.1 → Cfr M M' x → Kp M M' x → Q (some (.int (bI (drp fr fr 0 rs row).2.2))) M') : wp F_Completion_dropOlder 0 [.ref (x + 1024), .int (nI fr), jk, jk, jk] [] M Q := by
  have loop : ∀ m i rs' row' M' l3 l4, i + m = fr → fr < rs'.length → Cmp M' x rs' k f row' → Cfr M M' x → Kp M M' x → drp fr fr 0 rs row = drp fr m i rs' row' → wp F_Completion_dropOlder 2 [.ref (x + 1024), .int (nI fr), .int (nI i), l3, l4] [] M' Q := by
    intro m
    induction m with
    | zero =>
      intro i rs' row' M' l3 l4 hi hfr hC hF hK he
      have hl := hC.1.lo.2.1.2.2
      have e1 : nI fr ≤ nI i := nI_le (by omega) (by omega)
      simp only [B_Completion_dropOlder_2, B_Completion_dropOlder_103, e1, if_true, or_true, true_and]
      have q := hQ M' (by rw [he]; exact hC) hF hK
      rw [he] at q
      exact q
    | succ m ih =>
      intro i rs' row' M' l3 l4 hi hfr hC hF hK he
      have hl := hC.1.lo.2.1.2.2
      have e1 : ¬ nI fr ≤ nI i := nI_ge (by omega) (by omega)
      have hi2 : i < rs'.length := by omega
      obtain ⟨r1, v1, g1, -⟩ := hC.ru hi2
      obtain ⟨r2, v2, g2, -⟩ := hC.ru hfr
      obtain ⟨hlo, hwf, h3, h4⟩ := hC.1.lo
      have e2 : ixR M' (x + 9 + 1) (nI i) := ixR_of h3.2.2.1 (by omega) (by omega) (by omega)
      have e3 : cl (nI i) = i := cl_nI (by omega)
      have e4 : ixR M' (x + 9 + 1) (nI fr) := ixR_of h3.2.2.1 (by omega) (by omega) (by omega)
      have e5 : cl (nI fr) = fr := cl_nI (by omega)
      simp only [B_Completion_dropOlder_2, e1, if_false, hC.2.2.2.1, hC.2.2.2.2.1, h3.1, h3.2.1, e2, e3, g1, SS, r1.1, v1.2.2.1, bI_ne, true_and]
      cases hlv : (rs'.getD i dR).2.2 with
      | false =>
        simp only [if_true, B_Completion_dropOlder_97, SS, nI_i1]
        rw [G_Completion_dropOlder_100]
        refine ih (i + 1) rs' row' M' _ _ (by omega) hfr hC hF hK ?_
        rw [he, drp, hlv, if_neg (fun q => by simp at q)]
      | true =>
        simp only [Bool.true_eq_false, if_false, B_Completion_dropOlder_2, hC.2.2.2.1, hC.2.2.2.2.1, h3.1, h3.2.1, e4, e5, g2, SS, r1.2.1, r2.1, r2.2.1, r1.2.2.2.1.1, true_and]
        rw [k_Word_holds r1.2.2.2.1 r2.2.2.2.1 v1.1 v2.1 v1.2.2.2.1 v2.2.2.2.1 (by omega) (by omega)]
        simp only [SS, List.cons_append, List.nil_append, B_Completion_dropOlder_2, bI_ne]
        cases hh : hol (rs'.getD i dR).1 (rs'.getD fr dR).1 with
        | false =>
          simp only [if_true, B_Completion_dropOlder_97, SS, nI_i1]
          rw [G_Completion_dropOlder_100]
          refine ih (i + 1) rs' row' M' _ _ (by omega) hfr hC hF hK ?_
          rw [he, drp, hh, if_neg (fun q => by simp at q)]
        | true =>
          have hd : drp fr fr 0 rs row = _ := he.trans (by rw [drp, hlv, hh, if_pos ⟨rfl, rfl⟩])
          simp only [Bool.true_eq_false, if_false, B_Completion_dropOlder_49, hC.2.2.2.1, hC.2.2.2.2.1, SS, h3.1, true_and]
          refine k_drop h3 h4 hi2 ?_
          intro M1 f1 w1 y2 y3
          have h7 : gI M' (x + 9) 2 = nI k := by
            obtain ⟨A, B, C, D, cap, a1, a2, a3, a4, a5, a6, a7, -⟩ := hC.1
            exact a7
          have f1' : FrS (ruS (x + 9)) M' M1 := f1.weaken (fun b q => by rcases q with q | q <;> exact ⟨by omega, by omega⟩)
          obtain ⟨hC1, hF1⟩ := hC.ruleW f1' w1 (y2.trans h7) y3 (hwf.drop hi2)
          have K1 : Kp M M1 x := fun b j q1 q2 => (f1'.gI (fun q => by omega) j).trans (hK b j q1 q2)
          generalize hrs1 : rs'.set i ((rs'.getD i dR).1, (rs'.getD i dR).2.1, false) = rs1 at *
          have hlen : rs1.length = rs'.length := by rw [← hrs1, List.length_set]
          have hget : rs1.getD i dR = ((rs'.getD i dR).1, (rs'.getD i dR).2.1, false) := by rw [← hrs1, getD_set hi2, if_pos rfl]
          obtain ⟨r11, v11, -, -⟩ := hC1.ru (i := i) (by omega)
          rw [hget] at v11
          simp only [Option.toList_none, List.nil_append, B_Completion_dropOlder_49, hC1.2.2.2.1, hC1.2.2.2.2.1, hC1.2.1.1, SS, true_and]
          refine k_behind hC1.2.1 hC1.2.2.1 hC1.1.lo.1 ?_ ?_
          · intro hfull
            rw [if_pos hfull] at hd
            simp only [SS, List.cons_append, List.nil_append, B_Completion_dropOlder_49, true_or, true_and]
            have q := hQ M1 (by rw [hd]; exact hC1) (hF.trans hF1) K1
            rw [hd] at q
            exact q
          · intro hlt p d M2 hB
            rw [if_neg (by omega)] at hd
            have hB0 := hB
            obtain ⟨b1, b2, b3, b4, b5, b6, b7, b8, b9, b10, b11, b12, b13⟩ := hB
            have hlo1 := hC1.1.lo.1
            have r12 : RS M2 (x + 9 + 2 + 5 * i) := r11.frx b6 (by omega) (fun c _ _ q => by omega)
            have v12 := v11.frx b6 (by omega) (fun c _ _ q => by omega)
            simp only [SS, List.cons_append, List.nil_append, B_Completion_dropOlder_49, B_Completion_dropOlder_73, b11.1, b11.2.1, b11.2.2.2.1.1, r12.1, r12.2.1, true_and]
            refine k_Word_become b11.2.2.2.1 r12.2.2.2.1 v12.1 (by omega) (by have := v12.2.2.2.1; omega) v12.2.2.2.1 (by omega) (by omega) ?_
            intro M3 f3 w3
            have r13 := r12.fr f3
            have v13 := v12.fr f3 (fun c q1 q2 q => by rcases q with q | q <;> omega)
            have ps3 : PS M3 p := b11.frx f3.x b13 (fun _ _ _ q => q)
            simp only [SS, Option.toList_none, List.nil_append, B_Completion_dropOlder_73, ps3.1, ps3.2.2.1, ps3.2.2.2.2.1, r13.1, r13.2.2.1, true_and]
            refine k_Word_become ps3.2.2.2.2 r13.2.2.2.2 v13.2.1 (by omega) (by have := v13.2.2.2.2; omega) v13.2.2.2.2 (by omega) (by omega) ?_
            intro M4 f4 w4
            obtain ⟨c1, c2, c3⟩ := push_row (u := ((rs'.getD i dR).1, (rs'.getD i dR).2.1)) hC1 hB0 hlt ((f3.weaken (fun b q => Or.inl q)).trans (f4.weaken (fun b q => Or.inr q))) (w3.fr f4 (fun q => by rcases q with q | q <;> omega) (fun q => by rcases q with q | q <;> omega)) w4 (by have := v1.2.2.2.1; show (rs'.getD i dR).1.length ≤ 120; omega) (by have := v1.2.2.2.2; show (rs'.getD i dR).2.1.length ≤ 120; omega)
            simp only [Option.toList_none, List.nil_append, B_Completion_dropOlder_73, B_Completion_dropOlder_97, SS, nI_i1]
            rw [G_Completion_dropOlder_100]
            exact ih (i + 1) rs1 _ M4 _ _ (by omega) (by omega) c1 ((hF.trans hF1).trans c2) (fun b j q1 q2 => (c3 b j q1 q2).trans (K1 b j q1 q2)) hd
  have e0 : (0 : Int32) = nI 0 := rfl
  simp only [B_Completion_dropOlder_0, SS]
  rw [e0]
  exact loop fr 0 rs row M jk jk (by omega) hfr h Cfr.rfl (fun _ _ _ _ => rfl) rfl
