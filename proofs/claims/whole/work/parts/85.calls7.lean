/-! the class's calls: inverses, what commutes -/
section CL
variable {M : Mm} {x s0 : Nat} {σ : Sg} {Q : Option Value → Mm → Prop}
set_option maxHeartbeats 4000000 in
theorem c_inverse {i : Int32} (h : ClV M x s0 σ) (hI : SgI σ) (hQ : ∀ M', ClV M' x s0 σ → Xfr M M' x → Q (some (.int (ivG σ i))) M') : wp F_Mr_inverse 0 [.ref x, .int i, jk, jk, jk, jk] [] M Q := by
  obtain ⟨⟨tp, lf, nm⟩, ⟨k, rs, row⟩, ⟨t, s, st, fo⟩, sl, td⟩ := σ
  obtain ⟨hB, hC⟩ := h
  have hB : Bas M x tp lf nm sl td := hB
  have hC : Cor M x s0 rs k row t s st fo := hC
  have hA : st = false → AC rs := hI.2.2.2.2.2.1
  obtain ⟨⟨m0, f0, f3, f4, f5, f6, f7, f8, f9, f10, f11, f12, f13, f14, f16, f17, -⟩, ⟨b2, b8, -⟩, ⟨w41, w43, -⟩, hslS, -, hx⟩ := id hB.1
  simp only [ivG] at hQ
  simp only [B_Mr_inverse_0, SS, m0, f10, (c_isDone (Q := Q) hC).1, true_and]
  rw [(c_isDone hC).2]
  simp only [SS, List.cons_append, List.nil_append, B_Mr_inverse_0]
  cases hd : (!st && row.isEmpty) with
  | false =>
    rw [if_neg (not_dn (σ := ((tp, lf, nm), (k, rs, row), (t, s, st, fo), sl, td)) hd rfl rfl)] at hQ
    simp only [bI, Bool.false_eq_true, if_true, if_false, B_Mr_inverse_0]
    exact hQ M ⟨hB, hC⟩ Xfr.rfl
  | true =>
    obtain ⟨rfl, rfl⟩ := done_of hd
    rw [if_pos (show sDn ((tp, lf, nm), (k, rs, []), (t, s, false, fo), sl, td) = true from hd)] at hQ
    have hQ : ∀ M', Cor M' x s0 rs k [] t s false fo → Ufr M M' x (tW x) → Q (some (.int (match eltI rs k i with
      | none => -2
      | some none => -4
      | some (some a) => ivS rs k a 400 0))) M' := fun M' C' U' => hQ M' ⟨hB.u U' (fun b q => q), C'⟩ (U'.xf (fun b q => ⟨by omega, by omega⟩))
    simp only [bI, if_true, i10, if_false, B_Mr_inverse_13, SS, m0, f12, f16, hC.e1, true_and]
    have n2 : ¬ (0 : Int32) ≤ -2 := by decide
    have n4 : ¬ (0 : Int32) ≤ -4 := by decide
    have nn : ¬ (-4 : Int32) = -2 := by decide
    refine d_spell hC (hA rfl) w41 ⟨by omega, by omega⟩ ?_ ?_
    · intro o ho hoo M1 C1 U1
      have hQ := hQ M1 C1 (U1.weaken (fun _ q => q.elim))
      rw [ho] at hQ
      rcases hoo with rfl | rfl
      · simp only [SS, List.cons_append, List.nil_append, if_true, B_Mr_inverse_13, n2, if_false]
        exact hQ
      · simp only [SS, List.cons_append, List.nil_append, reduceCtorEq, if_false, B_Mr_inverse_13, n4]
        exact hQ
    · intro a ha hal hak M1 C1 U1 v1
      rw [ha] at hQ
      dsimp only at hQ
      have U1' : Ufr M M1 x (tW x) := U1.weaken (fun b q => by rcases q with q | q <;> exact ⟨by omega, by omega⟩)
      have na : (0 : Int32) ≤ nI a.length := nI_pos' (by omega)
      simp only [SS, List.cons_append, List.nil_append, B_Mr_inverse_13, na, if_true, B_Mr_inverse_32]
      have loop : ∀ m j (M3 : Mm) (l4 l5 : Value), clr l4 = l4 → j + m = 400 → Cor M3 x s0 rs k [] t s false fo → Ufr M M3 x (tW x) → WV M3 (x + 1041) a → ivS rs k a 400 0 = ivS rs k a m j → wp F_Mr_inverse 34 [.ref x, .int i, .int (nI a.length), .int (nI j), l4, l5] [] M3 Q := by
        intro m
        induction m with
        | zero =>
          intro j M3 l4 l5 hl4 hj C3 U3 va hiv
          have hQ := hQ M3 C3 U3
          rw [hiv] at hQ
          have g : (400 : Int32) ≤ nI j := nI_le (a := 400) (by omega) (by omega)
          simp only [B_Mr_inverse_34, B_Mr_inverse_128, g, if_true]
          exact hQ
        | succ m ih =>
          intro j M3 l4 l5 hl4 hj C3 U3 va hiv
          have S3 := hB.1.fx U3 (fun _ q => q)
          obtain ⟨⟨m3, -, -, -, -, -, -, -, -, -, -, g12, -, -, g16, g17, g18, g19⟩, -, ⟨u41, u43, u45⟩, -, -, hx3⟩ := id S3
          have g : ¬ (400 : Int32) ≤ nI j := nI_ge (b := 400) (by omega) (by omega)
          have ej : eltI rs k (nI j) = elt rs k j := by unfold eltI; rw [if_neg (nI_pos (by omega)), cl_nI (by omega)]
          simp only [B_Mr_inverse_34, g, if_false, SS, m3, g12, g17, C3.e1, true_and]
          refine d_spell C3 (hA rfl) u43 ⟨by omega, by omega⟩ ?_ ?_
          · intro o ho hoo M4 C4 U4
            have hQ := hQ M4 C4 (U3.trans (U4.weaken (fun _ q => q.elim)))
            rw [hiv, ivS, ← ej, ho] at hQ
            rcases hoo with rfl | rfl
            · simp only [SS, List.cons_append, List.nil_append, if_true, B_Mr_inverse_34, n2, if_false, B_Mr_inverse_73]
              exact hQ
            · simp only [SS, List.cons_append, List.nil_append, reduceCtorEq, if_false, B_Mr_inverse_34, n4, nn, B_Mr_inverse_71, B_Mr_inverse_73]
              exact hQ
          · intro b hb hbl hbk M4 C4 U4 vb
            have U4' : Ufr M M4 x (tW x) := U3.trans (U4.weaken (fun b q => by rcases q with q | q <;> exact ⟨by omega, by omega⟩))
            have S4 := hB.1.fx U4' (fun _ q => q)
            obtain ⟨⟨m4, -, -, -, -, -, -, -, -, -, -, j12, -, -, j16, j17, j18, j19⟩, -, ⟨t41, t43, t45⟩, -, -, hx4⟩ := id S4
            have nz3 : ∀ b, x + 1041 ≤ b → b < x + 1043 → ¬ (tS x b ∨ wS (x + 1043) b) := fun b h1 h2 q => by rcases q with (q | q) | q | q <;> omega
            have va4 := va.frx U4 (by omega) (nz3 _ (by omega) (by omega)) (nz3 _ (by omega) (by omega))
            have nb : (0 : Int32) ≤ nI b.length := nI_pos' (by omega)
            have nz4 : ∀ b, x + 1041 ≤ b → b < x + 1045 → ¬ (tS x b ∨ wS (x + 1045) b) := fun b h1 h2 q => by rcases q with (q | q) | q | q <;> omega
            rw [ej] at hb
            simp only [SS, List.cons_append, List.nil_append, B_Mr_inverse_34, nb, if_true, B_Mr_inverse_74, m4, j16, j17, true_and]
            refine d_multiply S4 C4 t41 t43 va4 vb hal hbl hak hbk ⟨by omega, by omega⟩ ⟨by omega, by omega⟩ ?_
            intro M5 C5 U5 _
            have U5' : Ufr M M5 x (tW x) := U4'.trans (U5.weaken (fun b q => by rcases q with q | q <;> exact ⟨by omega, by omega⟩))
            have va5 := va4.frx U5 (by omega) (nz4 _ (by omega) (by omega)) (nz4 _ (by omega) (by omega))
            have vb5 := vb.frx U5 (by omega) (nz4 _ (by omega) (by omega)) (nz4 _ (by omega) (by omega))
            simp only [SS, List.cons_append, List.nil_append, B_Mr_inverse_74]
            have z4 : ¬ (-4 : Int32) = 0 := by decide
            cases hm1 : mulW rs k a b with
            | none =>
              have hQ := hQ M5 C5 U5'
              rw [hiv, ivS, hb] at hQ
              dsimp only at hQ
              rw [hm1] at hQ
              simp only [nbI, z4, if_false, B_Mr_inverse_107, n4]
              exact hQ
            | some q1 =>
              obtain ⟨n, f⟩ := q1
              have hn31 : n < 2147483648 := by have := (mulW_lt hm1).1; omega
              simp only [nbI, bN n hn31]
              by_cases zn : n = 0
              · rw [if_pos zn]
                have S5 := hB.1.fx U5' (fun _ q => q)
                obtain ⟨⟨m5, -, -, -, -, -, -, -, -, -, -, -, -, -, k16, k17, -, -⟩, -, ⟨r41, r43, r45⟩, -, -, hx5⟩ := id S5
                simp only [B_Mr_inverse_74, SS, m5, k16, k17, true_and]
                refine d_multiply S5 C5 r43 r41 vb5 va5 hbl hal hbk hak ⟨by omega, by omega⟩ ⟨by omega, by omega⟩ ?_
                intro M6 C6 U6 _
                have U6' : Ufr M M6 x (tW x) := U5'.trans (U6.weaken (fun b q => by rcases q with q | q <;> exact ⟨by omega, by omega⟩))
                have va6 := va5.frx U6 (by omega) (nz4 _ (by omega) (by omega)) (nz4 _ (by omega) (by omega))
                simp only [SS, List.cons_append, List.nil_append, B_Mr_inverse_74]
                cases hm2 : mulW rs k b a with
                | none =>
                  have hQ := hQ M6 C6 U6'
                  rw [hiv, ivS, hb] at hQ
                  dsimp only at hQ
                  rw [hm1] at hQ
                  dsimp only at hQ
                  rw [if_pos zn, hm2] at hQ
                  simp only [nbI, B_Mr_inverse_107, n4, if_false]
                  exact hQ
                | some q2 =>
                  obtain ⟨n', f'⟩ := q2
                  have hn31' : n' < 2147483648 := by have := (mulW_lt hm2).1; omega
                  have ge : (0 : Int32) ≤ nI n' := nI_pos' (by omega)
                  simp only [nbI, B_Mr_inverse_107, ge, if_true, B_Mr_inverse_115, bN n' hn31']
                  by_cases zn' : n' = 0
                  · have hQ := hQ M6 C6 U6'
                    rw [hiv, ivS, hb] at hQ
                    dsimp only at hQ
                    rw [hm1] at hQ
                    dsimp only at hQ
                    rw [if_pos zn, hm2] at hQ
                    dsimp only at hQ
                    rw [if_pos zn'] at hQ
                    rw [if_pos zn']
                    exact hQ
                  · rw [if_neg zn']
                    simp only [B_Mr_inverse_122, nI_i1]
                    rw [G_Mr_inverse_125]
                    refine ih (j + 1) M6 _ _ rfl (by omega) C6 U6' va6 ?_
                    rw [hiv, ivS, hb]
                    dsimp only
                    rw [hm1]
                    dsimp only
                    rw [if_pos zn, hm2]
                    dsimp only
                    rw [if_neg zn']
              · rw [if_neg zn]
                have ge : (0 : Int32) ≤ nI n := nI_pos' (by omega)
                simp only [B_Mr_inverse_107, ge, if_true, B_Mr_inverse_115, bN n hn31]
                rw [if_neg zn]
                simp only [B_Mr_inverse_122, nI_i1]
                rw [G_Mr_inverse_125]
                refine ih (j + 1) M5 _ _ rfl (by omega) C5 U5' va5 ?_
                rw [hiv, ivS, hb]
                dsimp only
                rw [hm1]
                dsimp only
                rw [if_neg zn]
      exact loop 400 0 M1 jk jk rfl rfl C1 U1' v1 rfl
end CL
section DL
variable {M : Mm} {x s0 k t s : Nat} {rs : List Ru} {fo : Option (Nat × Nat × Nat)} {Q : Option Value → Mm → Prop}
theorem d_two {u a b : Nat} (hS : MrS M x) (su : WS M u 120) (hu : x + 1041 ≤ u ∧ u + 1 < x + 1048) (ha : a < 8) (hb : b < 8) (K : ∀ M', FrS (wS u) M M' → WV M' u [a, b] → Q none M') :
    wp F_Word_clear 0 [.ref u] [] M (fun _ M1 => wp F_Word_add 0 [.ref u, .int (nI a)] [] M1 (fun _ M2 => wp F_Word_add 0 [.ref u, .int (nI b)] [] M2 Q)) := by
  refine k_Word_clear su ?_
  intro M1 F1 v1
  refine k_Word_add (su.fr F1) v1 (by omega) (by omega) (by simp) ?_
  intro M2 F2 v2
  refine k_Word_add (su.fr (F1.trans F2)) v2 (by omega) (by omega) (by simp) ?_
  intro M3 F3 v3
  exact K M3 ((F1.trans F2).trans F3) v3
theorem d_commute {a b : Nat} (hS : MrS M x) (hC : Cor M x s0 rs k [] t s false fo) (ha : a < k) (hb : b < k)
    (hQ : ∀ M', Cor M' x s0 rs k [] t s false fo → Ufr M M' x (tW x) → Q (some (.int (bI (cm2 rs a b)))) M') : wp F_Mr_lettersCommute 0 [.ref x, .int (nI a), .int (nI b)] [] M Q := by
  obtain ⟨⟨m0, f0, f3, f4, f5, f6, f7, f8, f9, f10, f11, f12, f13, f14, f16, f17, -⟩, -, ⟨w41, w43, -⟩, -, -, hx⟩ := id hS
  have hk8 := hC.wf.1.2.1
  have o41 : ∀ b, wS (x + 1041) b → oS x b := fun b q => Or.inr (by rcases q with q | q <;> exact ⟨by omega, by omega⟩)
  have o43 : ∀ b, wS (x + 1043) b → oS x b := fun b q => Or.inr (by rcases q with q | q <;> exact ⟨by omega, by omega⟩)
  have t41 : ∀ b, wS (x + 1041) b → tW x b := fun b q => by rcases q with q | q <;> exact ⟨by omega, by omega⟩
  have t43 : ∀ b, wS (x + 1043) b → tW x b := fun b q => by rcases q with q | q <;> exact ⟨by omega, by omega⟩
  simp only [B_Mr_lettersCommute_0, SS, m0, f16, w41.1, true_and]
  refine k_Word_clear w41 ?_
  intro M1 F1 v1
  have S1 := hS.fx F1.x (fun _ q => q.elim)
  obtain ⟨⟨m1, -, -, -, -, -, -, -, g9, -, -, -, -, -, g16, g17, -⟩, -, ⟨r41, r43, -⟩, -⟩ := id S1
  simp only [SS, Option.toList_none, List.nil_append, B_Mr_lettersCommute_0, m1, g16, r41.1, true_and]
  refine k_Word_add r41 v1 (by omega) (by omega) (by simp) ?_
  intro M2 F2 v2
  have F12 := F1.trans F2
  have S2 := hS.fx F12.x (fun _ q => q.elim)
  obtain ⟨⟨m1, -, -, -, -, -, -, -, g9, -, -, -, -, -, g16, g17, -⟩, -, ⟨r41, r43, -⟩, -⟩ := id S2
  simp only [SS, Option.toList_none, List.nil_append, B_Mr_lettersCommute_0, m1, g16, r41.1, true_and]
  refine k_Word_add r41 v2 (by omega) (by omega) (by simp) ?_
  intro M3 F3 v3
  have F13 := F12.trans F3
  have S3 := hS.fx F13.x (fun _ q => q.elim)
  obtain ⟨⟨m1, -, -, -, -, -, -, -, g9, -, -, -, -, -, g16, g17, -⟩, -, ⟨r41, r43, -⟩, -⟩ := id S3
  simp only [SS, Option.toList_none, List.nil_append, B_Mr_lettersCommute_0, m1, g17, r43.1, true_and]
  refine k_Word_clear r43 ?_
  intro M4 F4 v4
  have S4 := S3.fx F4.x (fun _ q => q.elim)
  obtain ⟨⟨m1, -, -, -, -, -, -, -, g9, -, -, -, -, -, g16, g17, -⟩, -, ⟨r41, r43, -⟩, -⟩ := id S4
  simp only [SS, Option.toList_none, List.nil_append, B_Mr_lettersCommute_0, B_Mr_lettersCommute_0_1, m1, g17, r43.1, true_and]
  refine k_Word_add r43 v4 (by omega) (by omega) (by simp) ?_
  intro M5 F5 v5
  have F45 := F4.trans F5
  have S5 := S3.fx F45.x (fun _ q => q.elim)
  obtain ⟨⟨m1, -, -, -, -, -, -, -, g9, -, -, -, -, -, g16, g17, -⟩, -, ⟨r41, r43, -⟩, -⟩ := id S5
  simp only [SS, Option.toList_none, List.nil_append, B_Mr_lettersCommute_0, B_Mr_lettersCommute_0_1, m1, g17, r43.1, true_and]
  refine k_Word_add r43 v5 (by omega) (by omega) (by simp) ?_
  intro M6 F6 v6
  have F46 := F45.trans F6
  have S6 := S3.fx F46.x (fun _ q => q.elim)
  have C6 := (hC.own F13.z o41).own F46.z o43
  have U6 : Ufr M M6 x (tW x) := (F13.z.u.weaken t41).trans (F46.z.u.weaken t43)
  have v36 : WV M6 (x + 1041) [a, b] := v3.fr F46 (fun z => by rcases z with z | z <;> omega) (fun z => by rcases z with z | z <;> omega)
  have v66 : WV M6 (x + 1043) [b, a] := v6
  obtain ⟨⟨m1, -, -, -, -, -, -, -, g9, -, -, -, -, -, g16, g17, -⟩, -, ⟨r41, r43, -⟩, -, -, hx6⟩ := id S6
  simp only [SS, Option.toList_none, List.nil_append, B_Mr_lettersCommute_0, B_Mr_lettersCommute_0_1, m1, g9, g16, C6.rd.1, true_and]
  have lab : ∀ c ∈ [a, b], c < k := fun c hc => by
    rcases List.mem_cons.mp hc with z | z
    · rw [z]; exact ha
    · rw [List.mem_singleton.mp z]; exact hb
  have lba : ∀ c ∈ [b, a], c < k := fun c hc => by
    rcases List.mem_cons.mp hc with z | z
    · rw [z]; exact hb
    · rw [List.mem_singleton.mp z]; exact ha
  refine k_Tf C6 r41 r41 v36 (by simp) (by simp) lab (by omega) (by omega) (by simp) (by omega) ⟨by omega, by omega⟩ ?_ ?_
  · intro hn M7 C7 U7
    have := hQ M7 C7 (U6.trans (U7.weaken (fun _ q => q.elim)))
    rw [show cm2 rs a b = false by unfold cm2; rw [hn]] at this
    simp only [SS, List.cons_append, List.nil_append, B_Mr_lettersCommute_0, B_Mr_lettersCommute_0_1, if_true, B_Mr_lettersCommute_100, B_Mr_lettersCommute_101, true_or, true_and]
    exact this
  · intro wa ta hsa hla hka M7 C7 U7 v7 _ _
    have U7' : Ufr M M7 x (tW x) := U6.trans (U7.weaken t41)
    have S7 := hS.fx U7' (fun _ q => q)
    obtain ⟨⟨m7, -, -, -, -, -, -, -, j9, -, -, -, -, -, j16, j17, -⟩, -, ⟨p41, p43, -⟩, -, -, hx7⟩ := id S7
    have nz : ∀ b, x + 1043 ≤ b → b < x + 1045 → ¬ (tS x b ∨ wS (x + 1041) b) := fun b h1 h2 q => by rcases q with (q | q) | q | q <;> omega
    have v67 := v66.frx U7 (by omega) (nz _ (by omega) (by omega)) (nz _ (by omega) (by omega))
    simp only [SS, List.cons_append, List.nil_append, B_Mr_lettersCommute_0, B_Mr_lettersCommute_0_1, i10, if_false, m7, j9, j17, C7.rd.1, true_and]
    refine k_Tf C7 p43 p43 v67 (by simp) (by simp) lba (by omega) (by omega) (by simp) (by omega) ⟨by omega, by omega⟩ ?_ ?_
    · intro hn M8 C8 U8
      have := hQ M8 C8 (U7'.trans (U8.weaken (fun _ q => q.elim)))
      rw [show cm2 rs a b = false by unfold cm2; rw [hsa, hn]] at this
      simp only [SS, List.cons_append, List.nil_append, B_Mr_lettersCommute_0, B_Mr_lettersCommute_0_1, if_true, B_Mr_lettersCommute_100, B_Mr_lettersCommute_101, true_or, true_and]
      exact this
    · intro wb tb hsb hlb hkb M8 C8 U8 v8 _ _
      have U8' : Ufr M M8 x (tW x) := U7'.trans (U8.weaken t43)
      have S8 := hS.fx U8' (fun _ q => q)
      obtain ⟨⟨m8, -, -, -, -, -, -, -, l9, -, -, -, -, -, l16, l17, -⟩, -, ⟨q41, q43, -⟩, -, -, hx8⟩ := id S8
      have nz2 : ∀ b, x + 1041 ≤ b → b < x + 1043 → ¬ (tS x b ∨ wS (x + 1043) b) := fun b h1 h2 q => by rcases q with (q | q) | q | q <;> omega
      have v78 := v7.frx U8 (by omega) (nz2 _ (by omega) (by omega)) (nz2 _ (by omega) (by omega))
      simp only [List.length_cons, List.length_nil] at hla hlb
      simp only [SS, List.cons_append, List.nil_append, B_Mr_lettersCommute_0, B_Mr_lettersCommute_0_1, i10, if_false, m8, l16, l17, q41.1, true_and]
      rw [k_Word_against q41 q43 v78 v8 (by omega) (by omega) (by omega) (by omega)]
      have := hQ M8 C8 U8'
      rw [show cm2 rs a b = decide (cmpW wa wb = 0) by unfold cm2; rw [hsa, hsb]] at this
      simp only [SS, List.cons_append, List.nil_append, B_Mr_lettersCommute_0, B_Mr_lettersCommute_0_1]
      by_cases z : cmpW wa wb = 0
      · rw [decide_eq_true z] at this
        rw [if_pos z]
        simp only [B_Mr_lettersCommute_0, B_Mr_lettersCommute_0_1, B_Mr_lettersCommute_101, or_true, true_and]
        exact this
      · rw [decide_eq_false z] at this
        rw [if_neg z]
        simp only [B_Mr_lettersCommute_100, B_Mr_lettersCommute_101, true_or, true_and]
        exact this
end DL
section CL
variable {M : Mm} {x s0 : Nat} {σ : Sg} {Q : Option Value → Mm → Prop}
theorem c_commutes (h : ClV M x s0 σ) (hQ : ∀ M', ClV M' x s0 σ → Xfr M M' x → Q (some (.int (coG σ))) M') : wp F_Mr_commutes 0 [.ref x, jk, jk] [] M Q := by
  obtain ⟨⟨tp, lf, nm⟩, ⟨k, rs, row⟩, ⟨t, s, st, fo⟩, sl, td⟩ := σ
  obtain ⟨hB, hC⟩ := h
  have hB : Bas M x tp lf nm sl td := hB
  have hC : Cor M x s0 rs k row t s st fo := hC
  obtain ⟨⟨m0, f0, f3, f4, f5, f6, f7, f8, f9, f10, f11, f12, f13, f14, f16, f17, -⟩, -⟩ := id hB.1
  have hk8 := hC.wf.1.2.1
  simp only [coG] at hQ
  simp only [B_Mr_commutes_0, SS, m0, f10, (c_isDone (Q := Q) hC).1, true_and]
  rw [(c_isDone hC).2]
  simp only [SS, List.cons_append, List.nil_append, B_Mr_commutes_0]
  cases hd : (!st && row.isEmpty) with
  | false =>
    rw [if_neg (not_dn (σ := ((tp, lf, nm), (k, rs, row), (t, s, st, fo), sl, td)) hd rfl rfl)] at hQ
    simp only [bI, Bool.false_eq_true, if_true, if_false, B_Mr_commutes_0]
    exact hQ M ⟨hB, hC⟩ Xfr.rfl
  | true =>
    obtain ⟨rfl, rfl⟩ := done_of hd
    rw [if_pos (show sDn ((tp, lf, nm), (k, rs, []), (t, s, false, fo), sl, td) = true from hd)] at hQ
    have hQ : ∀ M', Cor M' x s0 rs k [] t s false fo → Ufr M M' x (tW x) → Q (some (.int (bI (cmA rs k k 0)))) M' := fun M' C' U' => hQ M' ⟨hB.u U' (fun b q => q), C'⟩ (U'.xf (fun b q => ⟨by omega, by omega⟩))
    have letN : ∀ N, Cor N x s0 rs k [] t s false fo → sh N (x + 9) = some (.inl 9) ∧ gI N (x + 9) 2 = nI k := fun N C => by
      obtain ⟨f, kn, cr, tk, c1, -⟩ := C
      obtain ⟨A, B, C, D, cap, -, -, -, hR, -, -, h2, -⟩ := c1.1
      exact ⟨hR.1, h2⟩
    simp only [bI, if_true, i10, if_false, B_Mr_commutes_13]
    have outer : ∀ m a (M1 : Mm) (l2 : Value), a + m = k → Cor M1 x s0 rs k [] t s false fo → Ufr M M1 x (tW x) → cmA rs k k 0 = cmA rs k m a → wp F_Mr_commutes 15 [.ref x, .int (nI a), l2] [] M1 Q := by
      intro m
      induction m with
      | zero =>
        intro a M1 l2 ha C1 U1 hc
        have S1 := hB.1.fx U1 (fun _ q => q)
        have g : nI k ≤ nI a := nI_le (by omega) (by omega)
        have hQ := hQ M1 C1 U1
        rw [hc] at hQ
        obtain ⟨q1, q2⟩ := letN M1 C1
        simp only [B_Mr_commutes_15, B_Mr_commutes_64, SS, S1.1.1, S1.1.2.2.2.2.2.1, q1, q2, g, if_true, true_and]
        exact hQ
      | succ m ih =>
        intro a M1 l2 ha C1 U1 hc
        have S1 := hB.1.fx U1 (fun _ q => q)
        have g : ¬ nI k ≤ nI a := nI_ge (by omega) (by omega)
        obtain ⟨q1, q2⟩ := letN M1 C1
        simp only [B_Mr_commutes_15, SS, S1.1.1, S1.1.2.2.2.2.2.1, q1, q2, g, if_false, true_and, nI_i1]
        have inner : ∀ d b (M2 : Mm), b + d = k → Cor M2 x s0 rs k [] t s false fo → Ufr M M2 x (tW x) → cmB rs a (k - (a + 1)) (a + 1) = cmB rs a d b → wp F_Mr_commutes 30 [.ref x, .int (nI a), .int (nI b)] [] M2 Q := by
          intro d
          induction d with
          | zero =>
            intro b M2 hb C2 U2 hcb
            have S2 := hB.1.fx U2 (fun _ q => q)
            have g : nI k ≤ nI b := nI_le (by omega) (by omega)
            obtain ⟨q1, q2⟩ := letN M2 C2
            simp only [B_Mr_commutes_30, B_Mr_commutes_58, SS, S2.1.1, S2.1.2.2.2.2.2.1, q1, q2, g, if_true, true_and, nI_i1]
            rw [G_Mr_commutes_61]
            refine ih (a + 1) M2 _ (by omega) C2 U2 ?_
            rw [hc, cmA, hcb]
            rfl
          | succ d ihd =>
            intro b M2 hb C2 U2 hcb
            have S2 := hB.1.fx U2 (fun _ q => q)
            have g : ¬ nI k ≤ nI b := nI_ge (by omega) (by omega)
            obtain ⟨q1, q2⟩ := letN M2 C2
            simp only [B_Mr_commutes_30, SS, S2.1.1, S2.1.2.2.2.2.2.1, q1, q2, g, if_false, true_and]
            refine d_commute S2 C2 (by omega) (by omega) ?_
            intro M3 C3 U3
            have U3' := U2.trans U3
            simp only [SS, List.cons_append, List.nil_append, B_Mr_commutes_30]
            cases hcm : cm2 rs a b with
            | false =>
              have hQ := hQ M3 C3 U3'
              rw [hc, cmA, hcb, cmB, hcm] at hQ
              simp only [bI, Bool.false_eq_true, if_false, if_true] at hQ ⊢
              exact hQ
            | true =>
              simp only [bI, i10, if_false, if_true, B_Mr_commutes_52, nI_i1]
              rw [G_Mr_commutes_55]
              refine ihd (b + 1) M3 (by omega) C3 U3' ?_
              rw [hcb, cmB, hcm]
              rfl
        exact inner (k - (a + 1)) (a + 1) M1 (by omega) C1 U1 rfl
    exact outer k 0 M jk (by omega) hC Ufr.rfl rfl
end CL
