/-! the class's calls: the tape, the finding, words -/
theorem lt_neg {v : Int32} {a : Nat} (h : v < 0) (ha : a < 2147483648) : v < nI a := by
  have h1 := Int32.lt_iff_toInt_lt.mp h
  have e : (0 : Int32).toInt = 0 := rfl
  exact Int32.lt_iff_toInt_lt.mpr (by rw [nI_toInt (show a < 2 ^ 31 by omega)]; omega)
theorem nle_big {v : Int32} {a b : Nat} (h : nI b ≤ v) (hab : a < b) (hb : b < 2147483648) : ¬ v ≤ nI a := by
  intro q
  have h1 := Int32.le_iff_toInt_le.mp h
  have h2 := Int32.le_iff_toInt_le.mp q
  rw [nI_toInt (show b < 2 ^ 31 by omega)] at h1
  rw [nI_toInt (show a < 2 ^ 31 by omega)] at h2
  omega
theorem nlt_big {v : Int32} {a b : Nat} (h : nI b ≤ v) (hab : a ≤ b) (hb : b < 2147483648) : ¬ v < nI a := by
  intro q
  have h1 := Int32.le_iff_toInt_le.mp h
  have h2 := Int32.lt_iff_toInt_lt.mp q
  rw [nI_toInt (show b < 2 ^ 31 by omega)] at h1
  rw [nI_toInt (show a < 2 ^ 31 by omega)] at h2
  omega
/-! bytes of a long one -/
theorem byt_c {w : Int64} {m : Nat} (hm : m < 8) : (w.toUInt64 >>> ((nI (8 * m)).toInt64.toUInt64 &&& Int64.toUInt64 63)).toInt64.toInt32.toInt8.toInt32 = bC (byt w m) := by
  have key : ∀ m, m < 8 → ((nI (8 * m)).toInt64.toUInt64 &&& Int64.toUInt64 63).toNat = 8 * m := by decide
  have hU : (w.toUInt64 >>> ((nI (8 * m)).toInt64.toUInt64 &&& Int64.toUInt64 63)).toNat = w.toBitVec.toNat / 2 ^ (8 * m) := by
    rw [UInt64.toNat_shiftRight, key m hm, Nat.mod_eq_of_lt (by omega), Nat.shiftRight_eq_div_pow]
    rfl
  generalize w.toUInt64 >>> ((nI (8 * m)).toInt64.toUInt64 &&& Int64.toUInt64 63) = U at hU
  unfold bC byt
  rw [← hU]
  have e : U.toInt64.toInt32.toInt8 = (nI (U.toNat % 256)).toInt8 := by
    apply Int8.toInt_inj.mp
    rw [Int32.toInt_toInt8, Int32.toInt_toInt8, Int64.toInt_toInt32, nI_toInt (show U.toNat % 256 < 2 ^ 31 by omega)]
    have h1 : U.toInt64.toInt = (U.toNat : Int).bmod (2 ^ 64) := by
      show U.toInt64.toBitVec.toInt = _
      rw [BitVec.toInt_eq_toNat_bmod]
      rfl
    rw [h1, Int.bmod_bmod_of_dvd (by decide), Int.bmod_bmod_of_dvd (by decide)]
    rw [show ((U.toNat % 256 : Nat) : Int) = (U.toNat : Int) % (256 : Nat) from rfl]
    exact (Int.emod_bmod (n := 256) (x := (U.toNat : Int))).symm
  rw [e]
theorem byt_m {w : Int64} {m : Nat} (hm : m < 8) : ((w >>> ((nI (8 * m)).toInt64 &&& 63)) &&& 255).toInt32 = nI (byt w m) := by
  have key : ∀ m, m < 8 → (((nI (8 * m)).toInt64 &&& 63).toBitVec.smod 64).toNat = 8 * m := by decide
  have h1 : (w >>> ((nI (8 * m)).toInt64 &&& 63)).toInt = w.toInt / 2 ^ (8 * m) := by
    show (w >>> ((nI (8 * m)).toInt64 &&& 63)).toBitVec.toInt = _
    rw [Int64.toBitVec_shiftRight, BitVec.sshiftRight', key m hm, BitVec.toInt_sshiftRight, Int.shiftRight_eq_div_pow]
    rfl
  generalize w >>> ((nI (8 * m)).toInt64 &&& 63) = V at h1
  have h2 : (V &&& 255).toBitVec.toNat = V.toBitVec.toNat % 256 := by
    rw [Int64.toBitVec_and, BitVec.toNat_and]
    exact Nat.and_two_pow_sub_one_eq_mod V.toBitVec.toNat 8
  have h3 : V.toBitVec.toNat % 256 = byt w m := by
    unfold byt
    have a1 : V.toInt = _ := BitVec.toInt_eq_toNat_cond V.toBitVec
    have a2 : w.toInt = _ := BitVec.toInt_eq_toNat_cond w.toBitVec
    have b1 := V.toBitVec.isLt
    have b2 := w.toBitVec.isLt
    rw [a1, a2] at h1
    generalize V.toBitVec.toNat = p at *
    generalize w.toBitVec.toNat = q at *
    rcases (show m = 0 ∨ m = 1 ∨ m = 2 ∨ m = 3 ∨ m = 4 ∨ m = 5 ∨ m = 6 ∨ m = 7 by omega) with rfl | rfl | rfl | rfl | rfl | rfl | rfl | rfl <;> simp only [Nat.reduceMul, Nat.reducePow, Int.reducePow] at * <;> split at h1 <;> split at h1 <;> omega
  have h4 : V &&& 255 = lN (byt w m) := by
    apply Int64.toBitVec_inj.mp
    apply BitVec.eq_of_toNat_eq
    rw [h2, h3]
    have : byt w m < 256 := Nat.mod_lt _ (by omega)
    show _ = (byt w m) % 2 ^ 64
    omega
  rw [h4, lN_i]
theorem Bas.tape {M : Mm} {x lf c : Nat} {tp : List Nat} {nm : Nm} {sl : Nat → List Nat} {td : List (Nat × Nat)} (h : Bas M x tp lf nm sl td) (hc : c < 256) (hl : tp.length < 600) : Bas (sI (sI M (x + 1) tp.length (bC c)) x 1 (nI (tp.length + 1))) x (tp ++ [c]) lf nm sl td := by
  have hf : FrS (fun b => b = x ∨ b = x + 1) M (sI (sI M (x + 1) tp.length (bC c)) x 1 (nI (tp.length + 1))) := (FrS.sI (Or.inr rfl)).trans (FrS.sI (Or.inl rfl))
  obtain ⟨a1, ⟨t1, t2, t3, t4⟩, ⟨a3, a4⟩, a5, a6, a7, a8, a9⟩ := h
  refine ⟨a1.fx hf.x (fun _ q => q.elim), ⟨t1, fun j hj => ?_, fun d hd => ?_, by simp; omega⟩, ⟨by simp [SS], by simp [SS, a4]⟩, fun j hj => (hf.gI (by omega) j).trans (a5 j hj), fun i hi => ⟨(a6 i hi).1.fr hf (by omega) (by omega), (a6 i hi).2⟩, by simp [SS, a7], a8, a9.fr hf (by omega) (by omega)⟩
  · simp only [List.length_append, List.length_cons, List.length_nil] at hj
    rw [getD_app hj]
    have n1 : ¬ x + 1 = x := by omega
    simp only [SS, n1, false_and, if_false, true_and]
    by_cases q : j < tp.length
    · rw [if_neg (by omega), if_pos q]; exact t2 j q
    · rw [if_pos (by omega), if_neg q]
  · rcases List.mem_append.mp hd with q | q
    · exact t3 d q
    · rw [List.mem_singleton.mp q]; exact hc
section CL
variable {M : Mm} {x s0 : Nat} {σ : Sg} {Q : Option Value → Mm → Prop}
theorem c_feed {w : Int64} {n : Int32} (h : ClV M x s0 σ) (hQ : ∀ M', ClV M' x s0 (fdG σ w n).2 → Xfr M M' x → Q (some (.int (fdG σ w n).1)) M') : wp F_Mr_feed 0 [.ref x, .long w, jk, .int n, jk] [] M Q := by
  obtain ⟨⟨tp, lf, nm⟩, ⟨k, rs, row⟩, ⟨t, s, st, fo⟩, sl, td⟩ := σ
  obtain ⟨hB, hC⟩ := h
  have hB : Bas M x tp lf nm sl td := hB
  have hC : Cor M x s0 rs k row t s st fo := hC
  rcases oix_cases (n := 9) (by omega) n with ⟨j, hj, rfl, e⟩ | ⟨e, hn⟩
  · cases j with
    | zero =>
      have q : nI 0 < (1 : Int32) := by decide
      simp only [fdG, e] at hQ
      simp only [B_Mr_feed_0, B_Mr_feed_11, q, if_true]
      exact hQ M ⟨hB, hC⟩ Xfr.rfl
    | succ m =>
      have q1 : ¬ nI (m + 1) < (1 : Int32) := nI_nlt (b := 1) (by omega) (by omega)
      have q2 : nI (m + 1) ≤ (8 : Int32) := nI_le (b := 8) (by omega) (by omega)
      have hl := hB.2.1.2.2.2
      simp only [fdG, e, sTp] at hQ
      have c600 : (600 : Int32) = nI 600 := rfl
      simp only [B_Mr_feed_0, B_Mr_feed_14, q1, q2, if_true, if_false, hB.1.1.1, hB.2.2.1.1, true_and, nI_add, c600, nI_leI (show tp.length + (m + 1) < 2 ^ 31 by omega) (show 600 < 2 ^ 31 by omega)]
      by_cases q3 : tp.length + (m + 1) ≤ 600
      · rw [if_neg (by omega)] at hQ
        rw [if_pos q3]
        have loop : ∀ i tp' M', Bas M' x tp' lf nm sl td → FrS (fun b => b = x ∨ b = x + 1) M M' → tp'.length + i ≤ 600 → i ≤ 8 → tp' ++ byts w i = tp ++ byts w (m + 1) → wp F_Mr_feed 34 [.ref x, .long w, jk, .int (nI (m + 1)), .int (nI i - 1)] [] M' Q := by
          intro i
          induction i with
          | zero =>
            intro tp' M' hB' hF hlen hi ht
            have z : nI 0 - 1 < (0 : Int32) := by decide
            simp only [B_Mr_feed_34, B_Mr_feed_73, z, if_true, hB'.1.1.1, hB'.2.2.1.1, true_and]
            have e2 : tp' = tp ++ byts w (m + 1) := by rw [← ht]; simp [byts]
            have := hQ M' ⟨by rw [← e2]; exact hB', hC.own hF.z (fun b q => Or.inl (by omega))⟩ (hF.z.xf (fun b q => by omega))
            rw [e2]
            simp only [List.length_append, byts_len]
            exact this
          | succ i ih =>
            intro tp' M' hB' hF hlen hi ht
            have z : ¬ nI i < (0 : Int32) := nI_pos (by omega)
            have z2 : bC (byt w i) = vp_nar .byte (bC (byt w i)) := (pk_vb _).symm
            have c8 : (8 : Int32) = nI 8 := rfl
            have bs : ∀ v K, bsW M' (x + 1) (nI tp'.length) v K = K (sI M' (x + 1) tp'.length (vp_nar .byte v)) := fun v K => bsW_b hB'.2.1.1 (by omega) (by omega)
            have n1 : ¬ x = x + 1 := by omega
            rw [nI_pred]
            simp only [B_Mr_feed_34, z, if_false, SS, hB'.1.1.1, hB'.1.1.2.1, hB'.2.2.1.1, true_and, c8, pk_mul, byt_c (show i < 8 by omega), bs, ← z2, n1, false_and, nI_i1, sub1]
            rw [G_Mr_feed_70]
            refine ih (tp' ++ [byt w i]) _ (hB'.tape (Nat.mod_lt _ (by omega)) (by omega)) (hF.trans ((FrS.sI (Or.inr rfl)).trans (FrS.sI (Or.inl rfl)))) (by simp; omega) (by omega) ?_
            rw [← ht]
            simp [byts]
        simp only [B_Mr_feed_29, SS]
        exact loop (m + 1) tp M hB FrS.rfl q3 (by omega) rfl
      · rw [if_pos (by omega)] at hQ
        rw [if_neg q3]
        exact hQ M ⟨hB, hC⟩ Xfr.rfl
  · simp only [fdG, e] at hQ
    rcases hn with hn | ⟨hn, hn2⟩
    · have q : n < (1 : Int32) := lt_neg (a := 1) hn (by omega)
      simp only [B_Mr_feed_0, B_Mr_feed_11, q, if_true]
      exact hQ M ⟨hB, hC⟩ Xfr.rfl
    · have q1 : ¬ n < (1 : Int32) := nlt_big (a := 1) hn2 (by omega) (by omega)
      have q2 : ¬ n ≤ (8 : Int32) := nle_big (a := 8) hn2 (by omega) (by omega)
      simp only [B_Mr_feed_0, B_Mr_feed_11, q1, q2, if_false]
      exact hQ M ⟨hB, hC⟩ Xfr.rfl
theorem c_open (h : ClV M x s0 σ) (hQ : ∀ M', ClV M' x s0 (opG σ).2 → Xfr M M' x → Q (some (.int (opG σ).1)) M') : wp F_Mr_open 0 [.ref x] [] M Q := by
  obtain ⟨⟨tp, lf, nm⟩, ⟨k, rs, row⟩, ⟨t, s, st, fo⟩, sl, td⟩ := σ
  obtain ⟨hB, f, kn, cr, tk, c1, c2, c3, c4, c5, c6⟩ := h
  have hB : Bas M x tp lf nm sl td := hB
  have hlo := c1.1.lo.1
  obtain ⟨⟨m0, f0, f3, f4, f5, f6, f7, f8, f9, f10, f11, -⟩, -⟩ := hB.1
  simp only [B_Mr_open_0, SS, m0, f11, c3.1.1, true_and]
  refine k_find c1 c3 ?_
  intro M' d1 d2 d3
  simp only [SS, List.cons_append, List.nil_append, B_Mr_open_0]
  have fz : ∀ b, fnZ x b → tS x b := fun b q => Or.inl ⟨by have := q.1; omega, by have := q.2; omega⟩
  have hU : Ufr M M' x (fun _ => False) := d3.1.weaken (fun b _ q => Or.inl (q.elim zS_tS (fz b))) (fun b _ q => zT_tS q)
  refine hQ M' ⟨hB.fx hU (fun b q => Or.inl (q.elim id False.elim)) (fun b q => q), Cor.gx (P := fnZ x) c1 c4 c5 c6 d1 ⟨(d3.2.2.2 _).trans c2.1, (d3.2.2.2 _).trans c2.2.1, (d3.2.2.2 _).trans c2.2.2⟩ d2 d3.1 d3.2.1 d3.2.2.1 (fun b q => Or.inr q)⟩ (hU.xf (fun b q => q.elim))
theorem c_join {v a b : Int32} (h : ClV M x s0 σ) (hQ : ∀ M', ClV M' x s0 (jnG σ v a b).2 → Xfr M M' x → Q (some (.int (jnG σ v a b).1)) M') : wp F_Mr_join 0 [.ref x, .int v, .int a, .int b] [] M Q := by
  obtain ⟨⟨tp, lf, nm⟩, ⟨k, rs, row⟩, ⟨t, s, st, fo⟩, sl, td⟩ := σ
  obtain ⟨hB, hC⟩ := h
  have hB : Bas M x tp lf nm sl td := hB
  have hC : Cor M x s0 rs k row t s st fo := hC
  have hsl := hB.2.2.2.2.1
  obtain ⟨⟨m0, f0, f3, f4, f5, f6, f7, f8, f9, f10, f11, f12, f13, f14, f16, f17, f18, f19⟩, ⟨b2, b8, -⟩, ⟨w41, w43, w45⟩, hslS, -, hx⟩ := hB.1
  simp only [B_Mr_join_0]
  rw [k_isSlot]
  rcases oix_cases (n := 8) (by omega) v with ⟨j, hj, rfl, e⟩ | ⟨e, -⟩
  · simp only [SS, List.cons_append, List.nil_append, e, Option.isSome_some, bI, if_true, i10, if_false, B_Mr_join_0]
    rw [k_isSlot]
    rcases oix_cases (n := 8) (by omega) a with ⟨p, hp, rfl, ep⟩ | ⟨ep, -⟩
    · simp only [SS, List.cons_append, List.nil_append, ep, Option.isSome_some, bI, if_true, i10, if_false, B_Mr_join_0]
      rw [k_isSlot]
      rcases oix_cases (n := 8) (by omega) b with ⟨q, hq, rfl, eq⟩ | ⟨eq, -⟩
      · simp only [jnG, e, ep, eq, sSl] at hQ
        obtain ⟨sp1, sp2⟩ := hslS p hp
        obtain ⟨sq1, sq2⟩ := hslS q hq
        obtain ⟨vp1, vp2⟩ := hsl p hp
        obtain ⟨vq1, vq2⟩ := hsl q hq
        have ixp : ∀ N, sh N (x + 8) = some (.inr (10, 8)) → ∀ i, i < 8 → ixR N (x + 8) (nI i) := fun N hN i hi => ixR_of hN (by omega) hi (by omega)
        have clp := cl_nI (show p < 2147483648 by omega)
        have clq := cl_nI (show q < 2147483648 by omega)
        have clj := cl_nI (show j < 2147483648 by omega)
        have c80 : (80 : Int32) = nI 80 := rfl
        simp only [SS, List.cons_append, List.nil_append, eq, Option.isSome_some, bI, if_true, i10, if_false, B_Mr_join_0, B_Mr_join_24, m0, f5, ixp M b8 p hp, ixp M b8 q hq, clp, clq, sp1, sq1, sp2.1, sq2.1, vp1.1, vq1.1, true_and, nI_add, c80, nI_leI (show (sl p).length + (sl q).length < 2 ^ 31 by omega) (show 80 < 2 ^ 31 by omega)]
        by_cases hle : (sl p).length + (sl q).length ≤ 80
        · rw [if_neg (by omega)] at hQ
          rw [if_pos hle]
          simp only [B_Mr_join_51, SS, m0, f18, f5, ixp M b8 p hp, clp, sp1, w45.1, true_and]
          refine k_Word_become w45 sp2 vp1 (by omega) (by omega) vp2 (by omega) (by omega) ?_
          intro M1 F1 v1
          have g1 := hB.1.fx F1.x (fun _ q => q.elim)
          obtain ⟨⟨m0', -, -, -, f5', -, -, -, -, -, -, -, -, -, -, -, f18', -⟩, ⟨-, b8', -⟩, ⟨-, -, w45'⟩, hslS', -⟩ := g1
          obtain ⟨sq1', sq2'⟩ := hslS' q hq
          have vq1' := vq1.fr F1 (fun z => by rcases z with z | z <;> omega) (fun z => by rcases z with z | z <;> omega)
          have z0 : (0 : Int32) = nI 0 := rfl
          simp only [SS, Option.toList_none, List.nil_append, B_Mr_join_51, m0', f18', f5', ixp M1 b8' q hq, clq, sq1', sq2'.1, vq1'.1, w45'.1, true_and, z0]
          refine k_Word_append w45' sq2' v1 vq1' (by omega) (Nat.zero_le _) (Nat.le_refl _) vq2 (by omega) (by omega) (by omega) ?_
          intro M2 F2 v2
          have F12 := F1.trans F2
          have g2 := hB.1.fx F12.x (fun _ q => q.elim)
          obtain ⟨⟨m0', -, -, -, f5', -, -, -, -, -, -, -, -, -, -, -, f18', -⟩, ⟨-, b8', -⟩, ⟨-, -, w45'⟩, hslS', -⟩ := g2
          obtain ⟨sj1', sj2'⟩ := hslS' j hj
          rw [Nat.sub_zero, List.drop_zero, List.take_length] at v2
          simp only [SS, Option.toList_none, List.nil_append, B_Mr_join_51, m0', f18', f5', ixp M2 b8' j hj, clj, sj1', sj2'.1, true_and]
          refine k_Word_become sj2' w45' v2 (by omega) (by simp; omega) (by simp; omega) (by omega) (by omega) ?_
          intro M3 F3 v3
          have F13 : FrS (fun b => wS (x + 1045) b ∨ wS (x + 1048 + 2 * j) b) M M3 := (F12.weaken (fun _ q => Or.inl q)).trans (F3.weaken (fun _ q => Or.inr q))
          have g3 := hB.1.fx F13.x (fun _ q => q.elim)
          obtain ⟨⟨m0', -, -, -, f5', -, -, -, -, -, -, -, -, -, -, -, f18', -⟩, ⟨-, b8', -⟩, ⟨-, -, w45'⟩, hslS', -⟩ := g3
          have v23 := v2.fr F3 (fun z => by rcases z with z | z <;> omega) (fun z => by rcases z with z | z <;> omega)
          simp only [SS, Option.toList_none, List.nil_append, B_Mr_join_51, m0', f18', w45'.1, v23.1, true_and]
          rw [List.length_append]
          refine hQ M3 ⟨hB.slot F13.x hj (fun b z => ?_) (fun _ q => q.elim) v3 (by simp; omega), hC.own F13.z (fun b z => ?_)⟩ (F13.z.xf (fun b z => ?_))
          · rcases z with (z | z) | z
            · exact Or.inr (Or.inl ⟨by omega, by omega⟩)
            · exact Or.inr (Or.inl ⟨by omega, by omega⟩)
            · exact Or.inr (Or.inr z)
          · exact Or.inr (by rcases z with (z | z) | z | z <;> exact ⟨by omega, by omega⟩)
          · rcases z with (z | z) | z | z <;> exact ⟨by omega, by omega⟩
        · rw [if_pos (by omega)] at hQ
          rw [if_neg hle]
          exact hQ M ⟨hB, hC⟩ Xfr.rfl
      · simp only [jnG, e, ep, eq] at hQ
        simp only [SS, List.cons_append, List.nil_append, eq, Option.isSome_none, bI, Bool.false_eq_true, if_false, if_true, B_Mr_join_0, B_Mr_join_21]
        exact hQ M ⟨hB, hC⟩ Xfr.rfl
    · simp only [jnG, e, ep] at hQ
      simp only [SS, List.cons_append, List.nil_append, ep, Option.isSome_none, bI, Bool.false_eq_true, if_false, if_true, B_Mr_join_0, B_Mr_join_21]
      exact hQ M ⟨hB, hC⟩ Xfr.rfl
  · simp only [jnG, e] at hQ
    simp only [SS, List.cons_append, List.nil_append, e, Option.isSome_none, bI, Bool.false_eq_true, if_false, if_true, B_Mr_join_0, B_Mr_join_21]
    exact hQ M ⟨hB, hC⟩ Xfr.rfl
end CL
