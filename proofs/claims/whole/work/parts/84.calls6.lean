/-! the class's calls: powers, inverses, what commutes -/
def PwV (M : Mm) (a : Nat) (ps : List Nat) : Prop := ∀ j, j < ps.length → gI M a j = nI (ps.getD j 0)
theorem find_some {ps : List Nat} {n i : Nat} (hi : i < ps.length) (h : ps.getD i 0 = n) (hno : ∀ j, j < i → ps.getD j 0 ≠ n) : ps.findIdx? (fun q => q == n) = some i := by
  rw [List.findIdx?_eq_some_iff_getElem]
  have e : ∀ j (hj : j < ps.length), ps[j] = ps.getD j 0 := fun j hj => by rw [List.getD_eq_getElem?_getD, List.getElem?_eq_getElem hj]; rfl
  refine ⟨hi, by rw [e]; simpa using h, fun j hj => ?_⟩
  rw [e]
  simpa using hno j hj
theorem find_none {ps : List Nat} {n : Nat} (hno : ∀ j, j < ps.length → ps.getD j 0 ≠ n) : ps.findIdx? (fun q => q == n) = none := by
  rw [List.findIdx?_eq_none_iff]
  intro q hq
  obtain ⟨j, hj, rfl⟩ := List.getElem_of_mem hq
  have := hno j hj
  rw [List.getD_eq_getElem?_getD, List.getElem?_eq_getElem hj] at this
  simpa using this
theorem d_earlier {M : Mm} {x n : Nat} {ps : List Nat} {Q : Option Value → Mm → Prop} (hS : MrS M x) (hl : ps.length ≤ 200) (hP : PwV M (x + 1047) (ps ++ [n])) (h31 : ∀ q ∈ ps, q < 2147483648) (hn : n < 2147483648) : wp F_Mr_earlierPower 0 [.ref x, .int (nI ps.length), jk] [] M Q = Q (some (.int (oI (ps.findIdx? (fun q => q == n))))) M := by
  obtain ⟨⟨m0, f0, f3, f4, f5, f6, f7, f8, f9, f10, f11, f12, f13, f14, f16, f17, f18, f19⟩, ⟨-, -, -, -, b47⟩, -⟩ := hS
  have gp : ∀ j, j < ps.length → gI M (x + 1047) j = nI (ps.getD j 0) := fun j hj => by
    rw [hP j (by simp; omega)]
    rw [getD_app (by omega), if_pos hj]
  have gn : gI M (x + 1047) ps.length = nI n := by
    rw [hP ps.length (by simp), getD_app (by omega), if_neg (by omega)]
  have lt : ∀ j, j < ps.length → ps.getD j 0 < 2147483648 := fun j hj => by
    rw [List.getD_eq_getElem?_getD, List.getElem?_eq_getElem hj]
    exact h31 _ (List.getElem_mem hj)
  have ix : ∀ j, j ≤ ps.length → ixI M (x + 1047) (nI j) := fun j hj => ixI_of b47 (by omega) (by omega)
  have loop : ∀ d i, i + d = ps.length → (∀ j, j < i → ps.getD j 0 ≠ n) → wp F_Mr_earlierPower 2 [.ref x, .int (nI ps.length), .int (nI i)] [] M Q = Q (some (.int (oI (ps.findIdx? (fun q => q == n))))) M := by
    intro d
    induction d with
    | zero =>
      intro i hi hno
      have e1 : nI ps.length ≤ nI i := nI_le (by omega) (by omega)
      rw [find_none (fun j hj => hno j (by omega))]
      simp only [B_Mr_earlierPower_2, B_Mr_earlierPower_30, e1, if_true, oI]
    | succ d ih =>
      intro i hi hno
      have e1 : ¬ nI ps.length ≤ nI i := nI_ge (by omega) (by omega)
      have li := lt i (by omega)
      simp only [B_Mr_earlierPower_2, e1, if_false, SS, m0, f19, ix i (by omega), ix ps.length (by omega), cl_nI (show i < 2147483648 by omega), cl_nI (show ps.length < 2147483648 by omega), gp i (by omega), gn, true_and, nI_eq (show ps.getD i 0 < 2 ^ 31 by omega) (show n < 2 ^ 31 by omega)]
      by_cases q : ps.getD i 0 = n
      · rw [if_pos q, find_some (by omega) q hno]
        simp only [oI]
      · rw [if_neg q]
        simp only [B_Mr_earlierPower_24, nI_i1, SS]
        rw [G_Mr_earlierPower_27]
        exact ih (i + 1) (by omega) (fun j hj => by
          by_cases z : j = i
          · rw [z]; exact q
          · exact hno j (by omega))
  simp only [B_Mr_earlierPower_0, SS]
  exact loop ps.length 0 (by omega) (fun j hj => by omega)
theorem nb_neg (o : Option (Nat × List Nat)) (h : ∀ q, o = some q → q.1 < 2147483648) : (nbI o < 0) = (o = none) := by
  cases o with
  | none => simp [nbI]
  | some q => simp only [nbI, reduceCtorEq, eq_iff_iff, iff_false]; exact nI_pos (h q rfl)
section CL
variable {M : Mm} {x s0 : Nat} {σ : Sg} {Q : Option Value → Mm → Prop}
set_option maxHeartbeats 4000000 in
theorem c_power {i w : Int32} (h : ClV M x s0 σ) (hI : SgI σ) (hQ : ∀ M', ClV M' x s0 σ → Xfr M M' x → Q (some (.int (poG σ i w))) M') : wp F_Mr_power 0 [.ref x, .int i, .int w, jk, jk, jk] [] M Q := by
  obtain ⟨⟨tp, lf, nm⟩, ⟨k, rs, row⟩, ⟨t, s, st, fo⟩, sl, td⟩ := σ
  obtain ⟨hB, hC⟩ := h
  have hB : Bas M x tp lf nm sl td := hB
  have hC : Cor M x s0 rs k row t s st fo := hC
  have hA : st = false → AC rs := hI.2.2.2.2.2.1
  have hwf : RWf rs k := hI.2.2.1
  obtain ⟨⟨m0, f0, f3, f4, f5, f6, f7, f8, f9, f10, f11, f12, f13, f14, f16, f17, -⟩, ⟨b2, b8, -⟩, ⟨w41, w43, -⟩, hslS, -, hx⟩ := id hB.1
  simp only [poG] at hQ
  simp only [B_Mr_power_0, SS, m0, f10, (c_isDone (Q := Q) hC).1, true_and]
  rw [(c_isDone hC).2]
  simp only [SS, List.cons_append, List.nil_append, B_Mr_power_0]
  cases hd : (!st && row.isEmpty) with
  | false =>
    rw [if_neg (not_dn (σ := ((tp, lf, nm), (k, rs, row), (t, s, st, fo), sl, td)) hd rfl rfl)] at hQ
    simp only [bI, Bool.false_eq_true, if_true, if_false, B_Mr_power_0]
    exact hQ M ⟨hB, hC⟩ Xfr.rfl
  | true =>
    obtain ⟨rfl, rfl⟩ := done_of hd
    rw [if_pos (show sDn ((tp, lf, nm), (k, rs, []), (t, s, false, fo), sl, td) = true from hd)] at hQ
    have hQ : ∀ M', Cor M' x s0 rs k [] t s false fo → Ufr M M' x (tW x) → Q (some (.int (match eltI rs k i with
      | none => -2
      | some o => match oix 2 w with
        | none => -2
        | some e => match o with
          | none => -4
          | some b => match pwS rs k b 200 [0] [] with
            | none => -4
            | some none => -1
            | some (some q) => if e = 0 then nI q.1 else nI q.2))) M' := fun M' C' U' => hQ M' ⟨hB.u U' (fun b q => q), C'⟩ (U'.xf (fun b q => ⟨by omega, by omega⟩))
    simp only [bI, if_true, i10, if_false, B_Mr_power_13, SS, m0, f12, f17, hC.e1, true_and]
    have nn : ¬ (-4 : Int32) = -2 := by decide
    have wcase : (oix 2 w = none ∧ (w < 0 ∨ (¬ w < 0 ∧ ¬ w ≤ (1 : Int32)))) ∨ ∃ e, e < 2 ∧ w = nI e ∧ oix 2 w = some e ∧ ¬ w < 0 ∧ w ≤ (1 : Int32) := by
      rcases oix_cases (n := 2) (by omega) w with ⟨e, he, rfl, h1⟩ | ⟨h1, h2 | ⟨h2, h3⟩⟩
      · exact Or.inr ⟨e, he, rfl, h1, nI_pos (by omega), nI_le (b := 1) (by omega) (by omega)⟩
      · exact Or.inl ⟨h1, Or.inl h2⟩
      · exact Or.inl ⟨h1, Or.inr ⟨h2, nle_big (a := 1) h3 (by omega) (by omega)⟩⟩
    refine d_spell hC (hA rfl) w43 ⟨by omega, by omega⟩ ?_ ?_
    · intro o ho hoo M1 C1 U1
      have hQ := hQ M1 C1 (U1.weaken (fun _ q => q.elim))
      rw [ho] at hQ
      rcases hoo with rfl | rfl
      · simp only [SS, List.cons_append, List.nil_append, if_true, B_Mr_power_13, B_Mr_power_41]
        exact hQ
      · simp only [SS, List.cons_append, List.nil_append, reduceCtorEq, if_false, nn, B_Mr_power_13]
        rcases wcase with ⟨h1, h2 | ⟨h2, h3⟩⟩ | ⟨e, he, rfl, h1, h2, h3⟩
        · rw [h1] at hQ
          simp only [h2, if_true, B_Mr_power_41]; exact hQ
        · rw [h1] at hQ
          simp only [h2, h3, if_false, B_Mr_power_41]; exact hQ
        · rw [h1] at hQ
          simp only [h2, h3, if_false, if_true, B_Mr_power_44]; exact hQ
    · intro b hb hbl hbk M1 C1 U1 v1
      have U1' : Ufr M M1 x (tW x) := U1.weaken (fun b q => by rcases q with q | q <;> exact ⟨by omega, by omega⟩)
      simp only [SS, List.cons_append, List.nil_append, B_Mr_power_13, (nI_m2 hbl).1, if_false]
      rcases wcase with ⟨h1, h2 | ⟨h2, h3⟩⟩ | ⟨e, he, rfl, h1, h2, h3⟩
      · have hQ := hQ M1 C1 U1'
        rw [hb, h1] at hQ
        simp only [h2, if_true, B_Mr_power_41]; exact hQ
      · have hQ := hQ M1 C1 U1'
        rw [hb, h1] at hQ
        simp only [h2, h3, if_false, B_Mr_power_41]; exact hQ
      · rw [hb, h1] at hQ
        dsimp only at hQ
        have S1 := hB.1.fx U1' (fun _ q => q)
        obtain ⟨⟨m0', -, -, -, f5', -, -, -, -, -, -, f12', -, -, f16', f17', f18', f19'⟩, ⟨-, -, -, -, b47'⟩, ⟨w41', w43', -⟩, -, -, hx'⟩ := id S1
        simp only [h2, h3, if_false, if_true, B_Mr_power_44, (nI_m2 hbl).2.1, B_Mr_power_53, SS, m0', f16', w41'.1, true_and]
        refine k_Word_clear w41' ?_
        intro M2 F2 v2
        have S2 := S1.fx F2.x (fun _ q => q.elim)
        have C2 := C1.own F2.z (fun b q => Or.inr (by rcases q with q | q <;> exact ⟨by omega, by omega⟩))
        obtain ⟨⟨m0'', -, -, -, -, -, -, -, -, -, -, -, -, -, f16'', f17'', f18'', f19''⟩, ⟨-, -, -, -, b47''⟩, ⟨w41'', w43'', -⟩, -, -, hx''⟩ := id S2
        have z0 : ixW M2 (x + 1047) 0 := ixW_of (j := 0) b47'' (by omega) (by omega)
        have c0 : cl (0 : Int32) = 0 := rfl
        simp only [SS, Option.toList_none, List.nil_append, B_Mr_power_53, m0'', f19'', z0, c0, true_and]
        -- the loop
        have loop : ∀ m (ps : List Nat) (a : List Nat) (M3 : Mm) (l5 : Value), ps.length + m = 201 → 1 ≤ ps.length → Cor M3 x s0 rs k [] t s false fo → Ufr M M3 x (tW x) → WV M3 (x + 1041) a → WV M3 (x + 1043) b → a.length ≤ 80 → (∀ c ∈ a, c < k) → PwV M3 (x + 1047) ps → (∀ q ∈ ps, q < 2147483648) → pwS rs k b 200 [0] [] = pwS rs k b m ps a → wp F_Mr_power 70 [.ref x, .int i, .int (nI e), .int (nI b.length), .int (nI ps.length), l5] [] M3 Q := by
          intro m
          induction m with
          | zero =>
            intro ps a M3 l5 hlen h1l C3 U3 va vb hal hak hP h31 hpw
            have hQ := hQ M3 C3 U3
            rw [hpw] at hQ
            have g : nI 200 < nI ps.length := nI_lt (by omega) (by omega)
            have g : (200 : Int32) < nI ps.length := g
            simp only [B_Mr_power_70, B_Mr_power_160, g, if_true]
            exact hQ
          | succ m ih =>
            intro ps a M3 l5 hlen h1l C3 U3 va vb hal hak hP h31 hpw
            have S3 := hB.1.fx U3 (fun _ q => q)
            obtain ⟨⟨m3, -, -, -, -, -, -, -, -, -, -, -, -, -, g16, g17, g18, g19⟩, ⟨-, -, -, -, b473⟩, ⟨u41, u43, u45⟩, -, -, hx3⟩ := id S3
            have g : ¬ (200 : Int32) < nI ps.length := nI_nlt (a := 200) (by omega) (by omega)
            have ix : ∀ N, sh N (x + 1047) = some (.inr (0, 201)) → ixW N (x + 1047) (nI ps.length) := fun N hN => ixW_of hN (by omega) (by omega)
            have ixi : ∀ N, sh N (x + 1047) = some (.inr (0, 201)) → ixI N (x + 1047) (nI ps.length) := fun N hN => ixI_of hN (by omega) (by omega)
            have clp := cl_nI (show ps.length < 2147483648 by omega)
            simp only [B_Mr_power_70, g, if_false, SS, m3, g16, g17, g19, true_and]
            refine d_multiply S3 C3 u41 u43 va vb hal hbl hak hbk ⟨by omega, by omega⟩ ⟨by omega, by omega⟩ ?_
            intro M4 C4 U4 h4
            have U4' : Ufr M M4 x (tW x) := U3.trans (U4.weaken (fun b q => by rcases q with q | q <;> exact ⟨by omega, by omega⟩))
            have S4 := hB.1.fx U4' (fun _ q => q)
            obtain ⟨⟨m4, -, -, -, -, -, -, -, -, -, -, -, -, -, j16, j17, j18, j19⟩, ⟨-, -, -, -, b474⟩, ⟨t41, t43, t45⟩, -, -, hx4⟩ := id S4
            have hnb : ∀ q, mulW rs k a b = some q → q.1 < 2147483648 := fun q hq => by have := (mulW_lt (n := q.1) (f := q.2) hq).1; omega
            have F5 : FrS (fun b => b = x + 1047) M4 (sI M4 (x + 1047) ps.length (nbI (mulW rs k a b))) := FrS.sI rfl
            simp only [SS, List.cons_append, List.nil_append, B_Mr_power_70, m4, j19, ix M4 b474, ixi (sI M4 (x + 1047) ps.length (nbI (mulW rs k a b))) b474, clp, true_and, and_self, if_true]
            have C5 := C4.own F5.z (fun b q => Or.inr ⟨by omega, by omega⟩)
            have U5 : Ufr M (sI M4 (x + 1047) ps.length (nbI (mulW rs k a b))) x (tW x) := U4'.trans (F5.z.u.weaken (fun b q => ⟨by omega, by omega⟩))
            have S5 := hB.1.fx U5 (fun _ q => q)
            have nz4 : ∀ b, x + 1041 ≤ b → b < x + 1045 → ¬ (tS x b ∨ wS (x + 1045) b) := fun b h1 h2 q => by rcases q with (q | q) | q | q <;> omega
            have nz47 : ¬ (tS x (x + 1047) ∨ wS (x + 1045) (x + 1047)) := fun q => by rcases q with (q | q) | q | q <;> omega
            have vb4 := vb.frx U4 (by omega) (nz4 _ (by omega) (by omega)) (nz4 _ (by omega) (by omega))
            have vb5 := vb4.fr F5 (by omega) (by omega)
            cases hmul : mulW rs k a b with
            | none =>
              rw [if_neg (show ¬ (0 : Int32) ≤ nbI none by decide)]
              rw [hmul] at C5 U5
              have hQ := hQ _ C5 U5
              rw [hpw, pwS, hmul] at hQ
              exact hQ
            | some q =>
              obtain ⟨n, f⟩ := q
              obtain ⟨vf, hfl, hfk⟩ := h4 n f hmul
              have hn31 : n < 2147483648 := hnb (n, f) hmul
              rw [hmul] at C5 U5 S5 F5 vb5
              have hP5 : PwV (sI M4 (x + 1047) ps.length (nbI (some (n, f)))) (x + 1047) (ps ++ [n]) := fun j hj => by
                simp only [List.length_append, List.length_cons, List.length_nil] at hj
                rw [getD_app hj]
                simp only [SS, true_and]
                by_cases q : j < ps.length
                · rw [if_neg (by omega), if_pos q]
                  exact ((U4.2.2.2.1 (x + 1047) (by omega) nz47).1 j).trans (hP j q)
                · rw [if_pos (by omega), if_neg q]; rfl
              rw [if_pos (show (0 : Int32) ≤ nbI (some (n, f)) from Int32.not_lt.mp (nI_pos hn31))]
              simp only [B_Mr_power_115, SS, m4, true_and]
              rw [d_earlier S5 (by omega) hP5 h31 hn31]
              simp only [SS, List.cons_append, List.nil_append, B_Mr_power_115]
              rw [hpw, pwS, hmul] at hQ
              dsimp only at hQ
              cases hfi : ps.findIdx? (fun q => q == n) with
              | some ee =>
                rw [hfi] at hQ
                have hQ := hQ _ C5 U5
                dsimp only at hQ
                have hee : ee < ps.length := by
                  obtain ⟨h, -⟩ := List.findIdx?_eq_some_iff_getElem.mp hfi
                  exact h
                have e1 : ¬ nI ee < 0 := nI_pos (by omega)
                simp only [oI, e1, if_false, B_Mr_power_115, bN e (by omega)]
                by_cases ze : e = 0
                · rw [if_pos ze] at hQ
                  rw [if_pos ze]
                  simp only [B_Mr_power_115, B_Mr_power_142]
                  exact hQ
                · rw [if_neg ze] at hQ
                  rw [if_neg ze]
                  simp only [B_Mr_power_137, B_Mr_power_142, pk_sub (show ee ≤ ps.length by omega)]
                  exact hQ
              | none =>
                rw [hfi] at hQ
                dsimp only at hQ
                have e1 : (-1 : Int32) < 0 := by decide
                obtain ⟨⟨m5, -, -, -, -, -, -, -, -, -, -, -, -, -, k16, k17, k18, k19⟩, ⟨-, -, -, -, b475⟩, ⟨r41, r43, r45⟩, -, -, hx5⟩ := id S5
                have vf5 := vf.fr F5 (by omega) (by omega)
                simp only [oI, e1, if_true, B_Mr_power_143, SS, m5, k16, k18, r41.1, true_and]
                refine k_Word_become r41 r45 vf5 (by omega) (by omega) (by omega) (by omega) (by omega) ?_
                intro M6 F6 v6
                simp only [SS, Option.toList_none, List.nil_append, B_Mr_power_143, nI_i1]
                rw [G_Mr_power_157]
                have C6 := C5.own F6.z (fun b q => Or.inr (by rcases q with q | q <;> exact ⟨by omega, by omega⟩))
                have U6 : Ufr M M6 x (tW x) := U5.trans (F6.z.u.weaken (fun b q => by rcases q with q | q <;> exact ⟨by omega, by omega⟩))
                have := ih (ps ++ [n]) f M6 (.int (-1)) (by simp; omega) (by simp) C6 U6 v6 (vb5.fr F6 (fun z => by rcases z with z | z <;> omega) (fun z => by rcases z with z | z <;> omega)) hfl hfk (fun j hj => (F6.gI (fun z => by rcases z with z | z <;> omega) j).trans (hP5 j hj)) (fun q hq => by
                  rcases List.mem_append.mp hq with z | z
                  · exact h31 q z
                  · rw [List.mem_singleton.mp z]; exact hn31) (by rw [hpw, pwS, hmul]; dsimp only; rw [hfi])
                rw [List.length_append] at this
                exact this
        have F3 : FrS (fun b => b = x + 1047) M2 (sI M2 (x + 1047) 0 0) := FrS.sI rfl
        have U3 : Ufr M (sI M2 (x + 1047) 0 0) x (tW x) := (U1'.trans (F2.z.u.weaken (fun b q => by rcases q with q | q <;> exact ⟨by omega, by omega⟩))).trans (F3.z.u.weaken (fun b q => ⟨by omega, by omega⟩))
        have := loop 200 [0] [] (sI M2 (x + 1047) 0 0) jk rfl (by simp) (C2.own F3.z (fun b q => Or.inr ⟨by omega, by omega⟩)) U3 (v2.fr F3 (by omega) (by omega)) ((v1.fr F2 (fun z => by rcases z with z | z <;> omega) (fun z => by rcases z with z | z <;> omega)).fr F3 (by omega) (by omega)) (by simp) (fun c hc => by simp at hc) (fun j hj => by
          have : j = 0 := by simp at hj; exact hj
          subst this
          simp [SS, nI_0]) (fun q hq => by simp at hq; omega) rfl
        exact this
end CL
