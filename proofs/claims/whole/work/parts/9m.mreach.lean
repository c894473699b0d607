/-! the reference counts all: the nodes that are reached -/
abbrev caZ (m b : Nat) : Prop := b = m + 23 ∨ b = m + 24 ∨ b = m + 26 ∨ b = m + 28
def RcV (M : Mm) (m N : Nat) (R : Nat → Prop) (to : Nat → Nat → Nat) (w : List Nat) (e : List (Nat × Nat)) : Prop := (∀ j, j < w.length → gI M (m + 24) j = nI (w.getD j 0)) ∧ (∀ n, n < N → gJ M (m + 28) n = if n ∈ w then 0 else -1) ∧ ∀ t, R t → gI M (m + 26) t = nI (e.countP (fun p => to p.1 p.2 == t))
theorem getD_app0 {w : List Nat} {t j : Nat} (h : j < w.length) : (w ++ [t]).getD j 0 = w.getD j 0 := by
  rw [getD_app (by omega), if_pos h]
section MC
variable {M : Mm} {m : Nat} {Q : Option Value → Mm → Prop} {rs : List Ru} {k N : Nat} {str : Nat → List Nat}
set_option maxHeartbeats 2000000 in
theorem k_mReach (hS : MdS M m) (hT : TreeV M m rs k N str) (hw : RWf rs k) (h11 : gI M m 11 = nI k) {w0 : List Nat} (hw0 : w0 = [0]) (hV : RcV M m N (RnM N rs str) (toM M (m + 22)) w0 []) {l3 l4 l5 l6 l7 l8 l9 : Value}
    (hQ : ∀ (w : List Nat) (M' : Mm) (l3 l4 : Value), w.Nodup → (∀ t ∈ w, RnM N rs str t) → 0 ∈ w → (∀ u l, u ∈ w → l < k → okM rs str (toM M (m + 22) u l) = true → toM M (m + 22) u l ∈ w) → RcV M' m N (RnM N rs str) (toM M (m + 22)) w (edg k w) → FrZ (caZ m) M M' → wp F_Md_countAll 156 [.ref m, .int (nI w.length), .int (nI w.length), l3, l4, l5, l6, l7, l8, l9] [] M' Q) : wp F_Md_countAll 43 [.ref m, .int (nI 1), .int (nI 0), l3, l4, l5, l6, l7, l8, l9] [] M Q := by
  obtain ⟨⟨hN1, hN2, hs0, h51⟩, -, -, hE⟩ := id hT
  have hk8 := hw.2.1
  have c8 : (8 : Int32) = nI 8 := rfl
  have lt12 : ∀ w : List Nat, w.Nodup → (∀ t ∈ w, RnM N rs str t) → w.length ≤ N := fun w h1 h2 => by
    have := nodup_le h1 (m := List.range N) (fun t ht => List.mem_range.mpr (h2 t ht).1)
    rwa [List.length_range] at this
  have ok0 : RnM N rs str 0 := ⟨hN1, okM_iff.mpr (by rw [hs0]; exact endAt_nil (fun u hu _ => (hw.1 u hu).1))⟩
  have inner : ∀ (d c : Nat) (w : List Nat) (h n : Nat) (M' : Mm) (l4 : Value), c + d = k → h < w.length → w.getD h 0 = n → RnM N rs str n → w.Nodup → (∀ t ∈ w, RnM N rs str t) → 0 ∈ w → (∀ p, p ∈ edg k (w.take h) ++ (List.range c).map (fun l => (n, l)) → okM rs str (toM M (m + 22) p.1 p.2) = true → toM M (m + 22) p.1 p.2 ∈ w) → RcV M' m N (RnM N rs str) (toM M (m + 22)) w (edg k (w.take h) ++ (List.range c).map (fun l => (n, l))) → FrZ (caZ m) M M' →
      (∀ (w : List Nat) (M' : Mm) (l4 : Value), h < w.length → w.getD h 0 = n → w.Nodup → (∀ t ∈ w, RnM N rs str t) → 0 ∈ w → (∀ p, p ∈ edg k (w.take h) ++ (List.range k).map (fun l => (n, l)) → okM rs str (toM M (m + 22) p.1 p.2) = true → toM M (m + 22) p.1 p.2 ∈ w) → RcV M' m N (RnM N rs str) (toM M (m + 22)) w (edg k (w.take h) ++ (List.range k).map (fun l => (n, l))) → FrZ (caZ m) M M' → wp F_Md_countAll 150 [.ref m, .int (nI w.length), .int (nI h), .int (nI k), l4, l5, l6, l7, l8, l9] [] M' Q) →
      wp F_Md_countAll 50 [.ref m, .int (nI w.length), .int (nI h), .int (nI c), l4, l5, l6, l7, l8, l9] [] M' Q := by
    intro d
    induction d with
    | zero =>
      intro c w h n M' l4 hc hh hn hRn nd hR h0 cl' V' F' next
      have S' := hS.z F'
      have e1 : nI k ≤ nI c := nI_le (by omega) (by omega)
      have g11 : gI M' m 11 = nI k := ((F'.2.2.2.2 m (by unfold caZ; omega)).1 _).trans h11
      have hck : c = k := by omega
      subst hck
      simp only [B_Md_countAll_50, S'.1, g11, e1, if_true, true_and]
      exact next w M' _ hh hn nd hR h0 cl' V' F'
    | succ d ih =>
      intro c w h n M' l4 hc hh hn hRn nd hR h0 cl' V' F' next
      have S' := hS.z F'
      have hck : c < k := by omega
      have e1 : ¬ nI k ≤ nI c := nI_ge (by omega) (by omega)
      have g11 : gI M' m 11 = nI k := ((F'.2.2.2.2 m (by unfold caZ; omega)).1 _).trans h11
      have hlN := lt12 w nd hR
      obtain ⟨t1, t2, t3⟩ := hT.to hRn.1 hck
      have t2' : gI M' (m + 22) (8 * n + c) = nI (toM M (m + 22) n c) := ((F'.2.2.2.2 _ (by unfold caZ; omega)).1 _).trans t2
      have gE : gI M' (m + 25) (toM M (m + 22) n c) = bI (endAt rs (str (toM M (m + 22) n c))).isSome := ((F'.2.2.2.2 _ (by unfold caZ; omega)).1 _).trans (hE _ t1)
      have gr : gI M' (m + 24) h = nI n := by rw [V'.1 h hh, hn]
      have hnN := hRn.1
      generalize hto : toM M (m + 22) n c = t at *
      have x1 : ixI M' (m + 24) (nI h) := ixI_of S'.row.2 (by omega) (by omega)
      have x2 : ixI M' (m + 22) (nI (8 * n + c)) := ixI_of S'.go.2 (by omega) (by omega)
      have x3 : ixB M' (m + 25) (nI t) := ixZ_of S'.isEnd.2 (by omega) (by omega)
      have x4 : ixJ M' (m + 28) (nI t) := ixJ_of S'.all.2 (by omega) (by omega)
      have ct := cl_nI (show t < 2147483648 by omega)
      have ch := cl_nI (show h < 2147483648 by omega)
      have cx := cl_nI (show 8 * n + c < 2147483648 by omega)
      have cnt : ∀ u, (edg k (w.take h) ++ (List.range (c + 1)).map (fun l => (n, l))).countP (fun p => toM M (m + 22) p.1 p.2 == u) = (edg k (w.take h) ++ (List.range c).map (fun l => (n, l))).countP (fun p => toM M (m + 22) p.1 p.2 == u) + (if u = t then 1 else 0) := by
        intro u
        rw [List.range_succ, List.map_append, ← List.append_assoc, List.countP_append]
        congr 1
        simp only [List.map_cons, List.map_nil, List.countP_cons, List.countP_nil, Nat.zero_add]
        rw [hto]
        by_cases z : u = t
        · subst z; simp
        · rw [if_neg z, if_neg (by simp; exact fun q => z q.symm)]
      have mem1 : ∀ p, p ∈ edg k (w.take h) ++ (List.range (c + 1)).map (fun l => (n, l)) → p ∈ edg k (w.take h) ++ (List.range c).map (fun l => (n, l)) ∨ p = (n, c) := by
        intro p hp
        rw [List.range_succ, List.map_append, ← List.append_assoc] at hp
        rcases List.mem_append.mp hp with q | q
        · exact Or.inl q
        · exact Or.inr (by simpa using q)
      -- counting one
      have tally : ∀ (w2 : List Nat) (M2 : Mm), w2.length ≤ N → w.length ≤ w2.length → (∀ j, j < w.length → w2.getD j 0 = w.getD j 0) → w2.take h = w.take h → w2.Nodup → (∀ u ∈ w2, RnM N rs str u) → 0 ∈ w2 → (∀ u ∈ w, u ∈ w2) → (okM rs str t = true → t ∈ w2) → (∀ j, j < w2.length → gI M2 (m + 24) j = nI (w2.getD j 0)) → (∀ q, q < N → gJ M2 (m + 28) q = if q ∈ w2 then 0 else -1) → (∀ j, gI M2 (m + 26) j = gI M' (m + 26) j) → FrZ (caZ m) M M2 → wp F_Md_countAll 119 [.ref m, .int (nI w2.length), .int (nI h), .int (nI c), .int (nI t), l5, l6, l7, l8, l9] [] M2 Q := by
        intro w2 M2 hl2 hll hgd htk nd2 hR2 h02 hsub hin V1 V2 V3 F2
        have S2 := hS.z F2
        have x5 : ixI M2 (m + 26) (nI t) := ixI_of S2.come.2 (by omega) (by omega)
        have x6 : ixW M2 (m + 26) (nI t) := ixW_of S2.come.2 (by omega) (by omega)
        have x7 : ixB M2 (m + 25) (nI t) := ixZ_of S2.isEnd.2 (by omega) (by omega)
        have gE2 : gI M2 (m + 25) t = bI (endAt rs (str t)).isSome := ((F2.2.2.2.2 _ (by unfold caZ; omega)).1 _).trans (hE _ t1)
        have cl2 : ∀ p, p ∈ edg k (w2.take h) ++ (List.range (c + 1)).map (fun l => (n, l)) → okM rs str (toM M (m + 22) p.1 p.2) = true → toM M (m + 22) p.1 p.2 ∈ w2 := by
          intro p hp hok
          rw [htk] at hp
          rcases mem1 p hp with q | q
          · exact hsub _ (cl' p q hok)
          · rw [q] at hok ⊢
            simp only [hto] at hok ⊢
            exact hin hok
        have fin : ∀ v, (∀ u, RnM N rs str u → u = t → v = nI ((edg k (w.take h) ++ (List.range (c + 1)).map (fun l => (n, l))).countP (fun p => toM M (m + 22) p.1 p.2 == u))) → wp F_Md_countAll 50 [.ref m, .int (nI w2.length), .int (nI h), .int (nI (c + 1)), .int (nI t), l5, l6, l7, l8, l9] [] (sI M2 (m + 26) t v) Q := by
          intro v hv
          have F3 : FrZ (caZ m) M2 (sI M2 (m + 26) t v) := FrZ.sI (Or.inr (Or.inr (Or.inl rfl)))
          refine ih (c + 1) w2 h n _ _ (by omega) (by omega) (by rw [hgd h hh]; exact hn) hRn nd2 hR2 h02 cl2 ⟨fun j hj => ?_, fun q hq => ?_, fun u hu => ?_⟩ (F2.trans F3) next
          · rw [gI_sI, if_neg (by omega)]; exact V1 j hj
          · rw [gJ_sI]; exact V2 q hq
          · rw [htk, gI_sI]
            by_cases z : u = t
            · rw [if_pos ⟨rfl, z⟩]; exact hv u hu z
            · rw [if_neg (fun y => z y.2), V3, V'.2.2 u hu, cnt u, if_neg z]; rfl
        cases hb : (endAt rs (str t)).isSome with
        | true =>
          rw [hb] at gE2
          simp only [B_Md_countAll_119, B_Md_countAll_142, SS, S2.1, S2.come.1, S2.isEnd.1, x5, x6, x7, ct, gE2, bI_t, i10, if_false, true_and, nI_i1]
          rw [G_Md_countAll_147]
          refine fin _ (fun u hu z => ?_)
          rw [z] at hu
          have := okM_iff.mp hu.2
          rw [this] at hb
          cases hb
        | false =>
          rw [hb] at gE2
          simp only [B_Md_countAll_119, B_Md_countAll_141, B_Md_countAll_142, SS, S2.1, S2.come.1, S2.isEnd.1, x5, x6, x7, ct, gE2, bI_f, if_true, true_and, nI_i1]
          rw [G_Md_countAll_147]
          refine fin _ (fun u hu z => ?_)
          rw [cnt u, if_pos z, V3, ← z, V'.2.2 u hu, nI_i1]
      simp only [B_Md_countAll_50, SS, S'.1, S'.go.1, S'.row.1, S'.isEnd.1, g11, e1, if_false, true_and, x1, ch, gr, c8, pk_mul, nI_add, x2, cx, t2', x3, ct, gE]
      cases hb : (endAt rs (str t)).isSome with
      | true =>
        simp only [bI_t, i10, not_false_eq_true, ne_eq, if_true, if_false]
        refine tally w M' hlN (by omega) (fun _ _ => rfl) rfl nd hR h0 (fun _ hu => hu) (fun hok => ?_) V'.1 V'.2.1 (fun _ => rfl) F'
        have := okM_iff.mp hok
        rw [this] at hb
        cases hb
      | false =>
        have hok : okM rs str t = true := okM_iff.mpr (by cases hx : endAt rs (str t) with | none => rfl | some r => rw [hx] at hb; cases hb)
        have ga := V'.2.1 t t1
        simp only [bI_f, not_true_eq_false, ne_eq, if_true, if_false, B_Md_countAll_50, S'.1, S'.all.1, SS, x4, ct, ga, true_and]
        by_cases hin : t ∈ w
        · have z1 : ¬ lg_cmp 0 (-1) = 0 := by decide
          rw [if_pos hin]
          simp only [z1, not_false_eq_true, ne_eq, if_true, if_false]
          exact tally w M' hlN (by omega) (fun _ _ => rfl) rfl nd hR h0 (fun _ hu => hu) (fun _ => hin) V'.1 V'.2.1 (fun _ => rfl) F'
        · have z1 : lg_cmp (-1) (-1) = 0 := by decide
          rw [if_neg hin]
          have nd2 : (w ++ [t]).Nodup := by
            rw [List.nodup_append]
            exact ⟨nd, by simp, fun a ha b hb => by simp at hb; rw [hb]; exact fun q => hin (q ▸ ha)⟩
          have hR2 : ∀ u ∈ w ++ [t], RnM N rs str u := fun u hu => by
            rcases List.mem_append.mp hu with q | q
            · exact hR u q
            · rw [List.mem_singleton.mp q]; exact ⟨t1, hok⟩
          have hl2 := lt12 _ nd2 hR2
          have hln : (w ++ [t]).length = w.length + 1 := by simp
          have x8 : ixW (sJ M' (m + 28) t 0) (m + 24) (nI w.length) := ixW_of S'.row.2 (by omega) (by omega)
          simp only [z1, not_true_eq_false, ne_eq, if_true, if_false, B_Md_countAll_50, SS, S'.1, S'.all.1, S'.row.1, x4, x8, ct, cl_nI (show w.length < 2147483648 by omega), true_and, nI_i1]
          rw [← hln]
          have F2 : FrZ (caZ m) M' (sI (sJ M' (m + 28) t 0) (m + 24) w.length (nI t)) := (FrZ.sJ (Or.inr (Or.inr (Or.inr rfl)))).trans (FrZ.sI (Or.inr (Or.inl rfl)))
          refine tally (w ++ [t]) _ hl2 (by omega) (fun j hj => getD_app0 hj) (by rw [List.take_append_of_le_length (by omega)]) nd2 hR2 (List.mem_append_left _ h0) (fun u hu => List.mem_append_left _ hu) (fun _ => by simp) (fun j hj => ?_) (fun q hq => ?_) (fun j => ?_) (F'.trans F2)
          · rw [gI_sI]
            by_cases z : j = w.length
            · rw [if_pos ⟨rfl, z⟩, getD_app (by omega), if_neg (by omega)]
            · rw [if_neg (fun y => z y.2), gI_sJ, getD_app0 (by omega)]; exact V'.1 j (by omega)
          · rw [gJ_sI, gJ_sJ]
            by_cases z : q = t
            · rw [if_pos ⟨rfl, z⟩, if_pos (by rw [z]; simp)]
            · rw [if_neg (fun y => z y.2), V'.2.1 q hq]
              by_cases y : q ∈ w
              · rw [if_pos y, if_pos (List.mem_append_left _ y)]
              · rw [if_neg y, if_neg (fun v => by rcases List.mem_append.mp v with v | v; exact y v; exact z (List.mem_singleton.mp v))]
          · rw [gI_sI, if_neg (by omega), gI_sJ]
  have outer : ∀ (d h : Nat) (w : List Nat) (M' : Mm) (l3 l4 : Value), h + d = N → h ≤ w.length → w.Nodup → (∀ t ∈ w, RnM N rs str t) → 0 ∈ w → (∀ p, p ∈ edg k (w.take h) → okM rs str (toM M (m + 22) p.1 p.2) = true → toM M (m + 22) p.1 p.2 ∈ w) → RcV M' m N (RnM N rs str) (toM M (m + 22)) w (edg k (w.take h)) → FrZ (caZ m) M M' → wp F_Md_countAll 43 [.ref m, .int (nI w.length), .int (nI h), l3, l4, l5, l6, l7, l8, l9] [] M' Q := by
    intro d
    have fin : ∀ (h : Nat) (w : List Nat) (M' : Mm) (l3 l4 : Value), h = w.length → w.Nodup → (∀ t ∈ w, RnM N rs str t) → 0 ∈ w → (∀ p, p ∈ edg k (w.take h) → okM rs str (toM M (m + 22) p.1 p.2) = true → toM M (m + 22) p.1 p.2 ∈ w) → RcV M' m N (RnM N rs str) (toM M (m + 22)) w (edg k (w.take h)) → FrZ (caZ m) M M' → wp F_Md_countAll 43 [.ref m, .int (nI w.length), .int (nI h), l3, l4, l5, l6, l7, l8, l9] [] M' Q := by
      intro h w M' l3 l4 hh nd hR h0 cl' V' F'
      have hlN := lt12 w nd hR
      have e1 : nI w.length ≤ nI h := nI_le (by omega) (by omega)
      simp only [B_Md_countAll_43, e1, if_true]
      subst hh
      rw [List.take_length] at cl' V'
      refine hQ w M' _ _ nd hR h0 (fun u l hu hl hok => cl' (u, l) ?_ hok) V' F'
      unfold edg
      rw [List.mem_flatMap]
      exact ⟨u, hu, List.mem_map.mpr ⟨l, List.mem_range.mpr hl, rfl⟩⟩
    induction d with
    | zero =>
      intro h w M' l3 l4 hh hhw nd hR h0 cl' V' F'
      have hlN := lt12 w nd hR
      exact fin h w M' _ _ (by omega) nd hR h0 cl' V' F'
    | succ d ih =>
      intro h w M' l3 l4 hh hhw nd hR h0 cl' V' F'
      have hlN := lt12 w nd hR
      by_cases z : h = w.length
      · exact fin h w M' _ _ z nd hR h0 cl' V' F'
      have e1 : ¬ nI w.length ≤ nI h := nI_ge (by omega) (by omega)
      have hmem : w.getD h 0 ∈ w := by
        rw [List.getD_eq_getElem?_getD, List.getElem?_eq_getElem (show h < w.length by omega)]
        exact List.getElem_mem _
      simp only [B_Md_countAll_43, SS, e1, if_false, ← nI_0]
      refine inner k 0 w h (w.getD h 0) M' _ (by omega) (by omega) rfl (hR _ hmem) nd hR h0 (by simpa using cl') (by simpa using V') F' ?_
      intro w2 M2 l4' hh2 hn2 nd2 hR2 h02 cl2 V2 F2
      simp only [B_Md_countAll_150, SS, nI_i1]
      rw [G_Md_countAll_153]
      have he : edg k (w2.take h) ++ (List.range k).map (fun l => (w.getD h 0, l)) = edg k (w2.take (h + 1)) := by
        rw [take_succ_getD 0 hh2, edg_app, hn2]
        simp [edg]
      rw [he] at cl2 V2
      exact ih (h + 1) w2 M2 _ _ (by omega) (by omega) nd2 hR2 h02 cl2 V2 F2
  subst hw0
  have := outer N 0 [0] M l3 l4 (by omega) (by simp) (by simp) (fun t ht => by rw [List.mem_singleton.mp ht]; exact ok0) (by simp) (fun p hp => by simp [edg] at hp) hV FrZ.rfl
  exact this
end MC
