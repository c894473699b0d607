/-! the reference's completing: (a), (b), (c) -/
def tC (m b : Nat) : Prop := b = m ∨ (m + 7 ≤ b ∧ b ≤ m + 15) ∨ b = m + 18 ∨ b = m + 19
def tF (j : Nat) : Prop := j = 0 ∨ j = 21 ∨ (24 ≤ j ∧ j ≤ 28) ∨ j = 31 ∨ j = 37 ∨ j = 38
def Tfr (M M' : Mm) (m : Nat) : Prop := FrS (tC m) M M' ∧ ∀ j, ¬ tF j → gI M' m j = gI M m j
theorem Tfr.rfl {M : Mm} {m : Nat} : Tfr M M m := ⟨FrS.rfl, fun _ _ => Eq.refl _⟩
theorem Tfr.trans {M M1 M2 : Mm} {m : Nat} (h : Tfr M M1 m) (h2 : Tfr M1 M2 m) : Tfr M M2 m := ⟨h.1.trans h2.1, fun j hj => (h2.2 j hj).trans (h.2 j hj)⟩
theorem tfr_of {M M1 : Mm} {m : Nat} {S : Nat → Prop} (h : FrS S M M1) (hs : ∀ b, S b → tC m b) (hf : ∀ j, ¬ tF j → gI M1 m j = gI M m j) : Tfr M M1 m := ⟨h.weaken hs, hf⟩
theorem OvN.t {M M1 : Mm} {m : Nat} (h : OvN M M1 m) : Tfr M M1 m := tfr_of h.1 (fun b q => by unfold tC; omega) (fun j hj => h.2 j (fun e => hj (by unfold tF; omega)) (fun e => hj (by unfold tF; omega)))
theorem ShN.t {M M1 : Mm} {m a : Nat} (h : ShN M M1 m a) (ha : a = m + 14 ∨ a = m + 15) : Tfr M M1 m := tfr_of h.1 (fun b q => by unfold tC; omega) (fun j hj => h.2 j (fun e => hj (by unfold tF; omega)))
def MmV (M : Mm) (m f : Nat) (rs : List Ru) (row : List Pr) (t s : Nat) (st : Bool) : Prop := MdS M m ∧ RuM M m rs ∧ RoM M m f row ∧ NuM M m s t st
theorem MmV.ov {M M1 : Mm} {m f t s : Nat} {rs : List Ru} {row : List Pr} {st : Bool} (h : MmV M m f rs row t s st) (o : OvN M M1 m) : MmV M1 m f rs row t s st := ⟨h.1.fr o.1, h.2.1.ov o, h.2.2.1.eq (o.2 _ (by omega) (by omega)) (o.2 _ (by omega) (by omega)) (fun j => o.1.gI (by omega) j) (fun j => o.1.gI (by omega) j), h.2.2.2.eq (o.2 _ (by omega) (by omega)) (o.2 _ (by omega) (by omega)) (o.2 _ (by omega) (by omega))⟩
theorem MmV.shn {M M1 : Mm} {m f t s a : Nat} {rs : List Ru} {row : List Pr} {st : Bool} (h : MmV M m f rs row t s st) (o : ShN M M1 m a) (ha : a = m + 14 ∨ a = m + 15) : MmV M1 m f rs row t s st := ⟨h.1.fr o.1, h.2.1.sh o ha, h.2.2.1.eq (o.2 _ (by omega)) (o.2 _ (by omega)) (fun j => o.1.gI (by omega) j) (fun j => o.1.gI (by omega) j), h.2.2.2.eq (o.2 _ (by omega)) (o.2 _ (by omega)) (o.2 _ (by omega))⟩
theorem MmV.w {M M1 : Mm} {m f t s : Nat} {rs : List Ru} {row : List Pr} {st : Bool} (h : MmV M m f rs row t s st) (o : FrS (fun b => b = m + 14 ∨ b = m + 15) M M1) : MmV M1 m f rs row t s st := h.ov ⟨o.weaken (fun b q => Or.inr q), fun j _ _ => o.gI (by omega) j⟩
section MC
variable {M : Mm} {m : Nat} {Q : Option Value → Mm → Prop}
theorem k_standsIn {rs : List Ru} {k r o : Nat} (hS : MdS M m) (hR : RuM M m rs) (hw : RWf rs k) (hr : r < rs.length) (ho : o < rs.length) (hQ : Q (some (.int (bI (hol (rs.getD o dR).1 (rs.getD r dR).1)))) M) : wp F_Md_standsIn 0 [.ref m, .int (nI r), .int (nI o), jk, jk, jk] [] M Q := by
  have h200 := hR.2.1
  have hk8 := hw.2.1
  obtain ⟨ua1, -, ua3, -⟩ := hw.ruk r
  obtain ⟨ub1, -, ub3, -⟩ := hw.ruk o
  obtain ⟨gA1, gA2, -⟩ := hR.2.2 r hr
  obtain ⟨gB1, gB2, -⟩ := hR.2.2 o ho
  have clr := cl_nI (show r < 2147483648 by omega)
  have clo := cl_nI (show o < 2147483648 by omega)
  have c60 : (60 : Int32) = nI 60 := rfl
  generalize (rs.getD r dR).1 = u at *
  generalize (rs.getD o dR).1 = v at *
  have xr : ixI M (m + 8) (nI r) := ixI_of hS.leftSize.2 (by omega) (by omega)
  have xo : ixI M (m + 8) (nI o) := ixI_of hS.leftSize.2 (by omega) (by omega)
  have inner : ∀ d i kk, i + d = u.length → kk + u.length ≤ v.length → (v.drop kk).take i = u.take i → (∀ l5 : Value, wp F_Md_standsIn 89 [.ref m, .int (nI r), .int (nI o), .int (bI (mat v kk u u.length)), .int (nI kk), l5] [] M Q) → wp F_Md_standsIn 32 [.ref m, .int (nI r), .int (nI o), .int 1, .int (nI kk), .int (nI i)] [] M Q := by
    intro d
    induction d with
    | zero =>
      intro i kk hi hkk ht K
      have e1 : nI u.length ≤ nI i := nI_le (by omega) (by omega)
      have hm : mat v kk u u.length = true := by
        unfold mat
        rw [show i = u.length by omega] at ht
        exact decide_eq_true ht
      rw [hm] at K
      simp only [B_Md_standsIn_32, SS, hS.1, hS.leftSize.1, xr, clr, gA1, e1, if_true, true_and]
      exact K _
    | succ d ih =>
      intro i kk hi hkk ht K
      have e1 : ¬ nI u.length ≤ nI i := nI_ge (by omega) (by omega)
      have x1 : ixI M (m + 7) (nI (60 * r + i)) := ixI_of hS.left.2 (by omega) (by omega)
      have x2 : ixI M (m + 7) (nI (60 * o + kk + i)) := ixI_of hS.left.2 (by omega) (by omega)
      have y1 := gA2 i (by omega)
      have y2 := gB2 (kk + i) (by omega)
      rw [← Nat.add_assoc] at y2
      have l1 := getD_lt (fun c hc => by have := ua3 c hc; omega) (show i < u.length by omega)
      have l2 := getD_lt (fun c hc => by have := ub3 c hc; omega) (show kk + i < v.length by omega)
      have tk : (v.drop kk).take (i + 1) = u.take (i + 1) ↔ u.getD i 0 = v.getD (kk + i) 0 := by
        rw [take_succ_getD 0 (show i < (v.drop kk).length by simp; omega), take_succ_getD 0 (show i < u.length by omega), ht, List.append_cancel_left_eq]
        have : (v.drop kk).getD i 0 = v.getD (kk + i) 0 := by
          rw [List.getD_eq_getElem?_getD, List.getElem?_drop, ← List.getD_eq_getElem?_getD]
        rw [this]
        constructor
        · intro z; exact (List.cons.inj z).1.symm
        · intro z; rw [z]
      simp only [B_Md_standsIn_32, SS, hS.1, hS.leftSize.1, hS.left.1, xr, clr, gA1, e1, if_false, i10, true_and, c60, pk_mul, nI_add, x1, x2, cl_nI (show 60 * r + i < 2147483648 by omega), cl_nI (show 60 * o + kk + i < 2147483648 by omega), y1, y2, nI_eq (show u.getD i 0 < 2 ^ 31 by omega) (show v.getD (kk + i) 0 < 2 ^ 31 by omega)]
      by_cases q : u.getD i 0 = v.getD (kk + i) 0
      · rw [if_pos q]
        simp only [B_Md_standsIn_32, B_Md_standsIn_82, SS, nI_i1]
        rw [G_Md_standsIn_86]
        exact ih (i + 1) kk (by omega) hkk (tk.mpr q) K
      · rw [if_neg q]
        have hm : mat v kk u u.length = false := by
          unfold mat
          refine decide_eq_false (fun z => q (tk.mp ?_))
          have := congrArg (List.take (i + 1)) z
          rw [List.take_take, List.take_take, Nat.min_eq_left (by omega)] at this
          exact this
        rw [hm] at K
        simp only [B_Md_standsIn_81, B_Md_standsIn_82, SS, nI_i1]
        rw [G_Md_standsIn_86]
        simp only [B_Md_standsIn_32, SS, hS.1, hS.leftSize.1, xr, clr, gA1, true_and, if_true]
        split
        · exact K _
        · exact K _
  have outer : ∀ d kk (l5 : Value), kk + d = v.length + 1 - u.length → (∀ j, j < kk → mat v j u u.length = false) → wp F_Md_standsIn 5 [.ref m, .int (nI r), .int (nI o), .int 0, .int (nI kk), l5] [] M Q := by
    intro d
    induction d with
    | zero =>
      intro kk l5 hk hno
      have e : hol v u = false := by
        unfold hol
        rw [any_from (i := kk) (by omega) hno, show v.length + 1 - u.length - kk = 0 by omega]
        rfl
      rw [e] at hQ
      have e1 : nI v.length < nI (kk + u.length) := nI_lt (by omega) (by omega)
      simp only [B_Md_standsIn_5, B_Md_standsIn_95, SS, hS.1, hS.leftSize.1, xr, xo, clr, clo, gA1, gB1, nI_add, e1, if_true, true_and, true_or]
      exact hQ
    | succ d ih =>
      intro kk l5 hk hno
      have e1 : ¬ nI v.length < nI (kk + u.length) := nI_nlt (by omega) (by omega)
      simp only [B_Md_standsIn_5, SS, hS.1, hS.leftSize.1, xr, xo, clr, clo, gA1, gB1, nI_add, e1, if_false, if_true, true_and]
      refine inner u.length 0 kk (by omega) (by omega) (by simp) ?_
      intro l5'
      simp only [B_Md_standsIn_89, SS, nI_i1]
      rw [G_Md_standsIn_92]
      cases hm : mat v kk u u.length with
      | false =>
        exact ih (kk + 1) _ (by omega) (fun j hj => by
          by_cases z : j = kk
          · rw [z]; exact hm
          · exact hno j (by omega))
      | true =>
        have e : hol v u = true := by
          unfold hol
          rw [List.any_eq_true]
          exact ⟨kk, List.mem_range.mpr (by omega), hm⟩
        rw [e] at hQ
        simp only [bI, if_true, B_Md_standsIn_5, SS, hS.1, hS.leftSize.1, xr, xo, clr, clo, gA1, gB1, nI_add, i10, if_false, true_and, B_Md_standsIn_95, or_true, ite_self]
        exact hQ
  simp only [B_Md_standsIn_0, SS]
  by_cases z : u.length ≤ v.length
  · exact outer (v.length + 1 - u.length) 0 jk (by omega) (fun j hj => by omega)
  · exact outer 0 0 jk (by omega) (fun j hj => by omega)
theorem RuM.kill {M M1 : Mm} {rs : List Ru} {i : Nat} (h : RuM M m rs) (hi : i < rs.length) (hf : FrS (fun b => b = m + 11) M M1) (h1 : gI M1 (m + 11) i = bI false) (h2 : ∀ j, j ≠ i → gI M1 (m + 11) j = gI M (m + 11) j) : RuM M1 m (rs.set i ((rs.getD i dR).1, (rs.getD i dR).2.1, false)) := by
  refine ⟨by rw [List.length_set]; exact (hf.gI (by omega) _).trans h.1, by rw [List.length_set]; exact h.2.1, fun j hj => ?_⟩
  rw [List.length_set] at hj
  obtain ⟨g1, g2, g3, g4, g5⟩ := h.2.2 j hj
  have e7 : ∀ b, m + 7 ≤ b → b ≤ m + 10 → ∀ q, gI M1 b q = gI M b q := fun b h1 h2 q => hf.gI (by omega) q
  rw [getD_set hi]
  by_cases e : j = i
  · subst e
    rw [if_pos rfl]
    exact ⟨(e7 _ (by omega) (by omega) _).trans g1, g2.eq (e7 _ (by omega) (by omega)), (e7 _ (by omega) (by omega) _).trans g3, g4.eq (e7 _ (by omega) (by omega)), h1⟩
  · rw [if_neg e]
    exact ⟨(e7 _ (by omega) (by omega) _).trans g1, g2.eq (e7 _ (by omega) (by omega)), (e7 _ (by omega) (by omega) _).trans g3, g4.eq (e7 _ (by omega) (by omega)), (h2 j e).trans g5⟩
theorem k_mDrop {f t s k fr : Nat} {rs : List Ru} {row : List Pr} (h : MmV M m f rs row t s false) (hw : RWf rs k) (hr : RowK row k) (hfr : fr < rs.length)
    (hQ : ∀ M', MmV M' m f (drp fr fr 0 rs row).1 (drp fr fr 0 rs row).2.1 t s (!(drp fr fr 0 rs row).2.2) → Tfr M M' m → Q none M') : wp F_Md_dropOlder 0 [.ref m, .int (nI fr), jk, jk] [] M Q := by
  have h200 := hw.2.2
  have c60 : (60 : Int32) = nI 60 := rfl
  have loop : ∀ d i rs' row' st' M' (l3 : Value), i + d = fr → rs'.length = rs.length → RWf rs' k → RowK row' k → MmV M' m f rs' row' t s st' → Tfr M M' m → (st' = false → drp fr fr 0 rs row = drp fr d i rs' row') → (st' = true → drp fr fr 0 rs row = (rs', row', false)) → wp F_Md_dropOlder 2 [.ref m, .int (nI fr), .int (nI i), l3] [] M' Q := by
    intro d
    induction d with
    | zero =>
      intro i rs' row' st' M' l3 hi hlen hw' hr' V' F' h0 h1
      have e1 : nI fr ≤ nI i := nI_le (by omega) (by omega)
      simp only [B_Md_dropOlder_2, B_Md_dropOlder_131, e1, if_true]
      cases st' with
      | false => rw [h0 rfl] at hQ; exact hQ M' V' F'
      | true => rw [h1 rfl] at hQ; exact hQ M' V' F'
    | succ d ih =>
      intro i rs' row' st' M' l3 hi hlen hw' hr' V' F' h0 h1
      have e1 : ¬ nI fr ≤ nI i := nI_ge (by omega) (by omega)
      obtain ⟨S', R', Ro', N'⟩ := V'
      simp only [B_Md_dropOlder_2, e1, if_false, S'.1, N'.2.2, true_and]
      cases st' with
      | true =>
        simp only [bI, if_true, i10, if_false, B_Md_dropOlder_131]
        rw [h1 rfl] at hQ; exact hQ M' ⟨S', R', Ro', N'⟩ F'
      | false =>
        have h0 := h0 rfl
        obtain ⟨g1, g2, g3, g4, g5⟩ := R'.2.2 i (by omega)
        obtain ⟨u1, u2, u3, u4⟩ := hw'.ruk i
        have xb : ixB M' (m + 11) (nI i) := ixZ_of S'.isLive.2 (by omega) (by omega)
        have cli := cl_nI (show i < 2147483648 by omega)
        simp only [bI, Bool.false_eq_true, if_false, if_true, B_Md_dropOlder_2, SS, S'.1, S'.isLive.1, xb, cli, g5, true_and]
        have skip : ((rs'.getD i dR).2.2 = true ∧ hol (rs'.getD i dR).1 (rs'.getD fr dR).1 = true → False) → ∀ l3 : Value, wp F_Md_dropOlder 125 [.ref m, .int (nI fr), .int (nI i), l3] [] M' Q := by
          intro hno l3
          simp only [B_Md_dropOlder_125, SS, nI_i1]
          rw [G_Md_dropOlder_128]
          refine ih (i + 1) rs' row' false M' l3 (by omega) hlen hw' hr' ⟨S', R', Ro', N'⟩ F' (fun _ => ?_) (fun q => by cases q)
          rw [h0, drp, if_neg hno]
        cases hlv : (rs'.getD i dR).2.2 with
        | false =>
          simp only [Bool.false_eq_true, if_false, if_true]
          exact skip (fun q => by rw [hlv] at q; cases q.1) _
        | true =>
          simp only [if_true, i10, if_false, S'.1, true_and, B_Md_dropOlder_2]
          refine k_standsIn S' R' hw' (by omega) (by omega) ?_
          simp only [SS, List.cons_append, List.nil_append, B_Md_dropOlder_2]
          cases hh : hol (rs'.getD i dR).1 (rs'.getD fr dR).1 with
          | false =>
            simp only [bI, Bool.false_eq_true, if_false, if_true]
            exact skip (fun q => by rw [hh] at q; cases q.2) _
          | true =>
            have bs : ∀ v K, bsW M' (m + 11) (nI i) v K = K (sI M' (m + 11) i (vp_nar .boolean v)) := fun v K => bsW_z S'.isLive.2 (by omega) (by omega)
            have z0 : vp_nar .boolean 0 = 0 := by decide
            simp only [bI, if_true, i10, if_false, B_Md_dropOlder_2, SS, S'.1, S'.isLive.1, bs, z0, true_and]
            have F0 : FrS (fun b => b = m + 11) M' (sI M' (m + 11) i 0) := FrS.sI rfl
            have R0 := R'.kill (show i < rs'.length by omega) F0 (by simp [SS, bI]) (fun j hj => by rw [gI_sI, if_neg (fun z => hj z.2)])
            have V0 : MmV (sI M' (m + 11) i 0) m f (rs'.set i ((rs'.getD i dR).1, (rs'.getD i dR).2.1, false)) row' t s false := ⟨S'.fr F0, R0, Ro'.eq (F0.gI (by omega) _) (F0.gI (by omega) _) (fun j => F0.gI (by omega) j) (fun j => F0.gI (by omega) j), N'.eq (F0.gI (by omega) _) (F0.gI (by omega) _) (F0.gI (by omega) _)⟩
            have T0 : Tfr M (sI M' (m + 11) i 0) m := F'.trans (tfr_of F0 (fun b q => by unfold tC; omega) (fun j _ => F0.gI (by omega) j))
            have gg : gI (sI M' (m + 11) i 0) (m + 8) i = nI (rs'.getD i dR).1.length ∧ AR (sI M' (m + 11) i 0) (m + 7) (60 * i) (rs'.getD i dR).1 ∧ gI (sI M' (m + 11) i 0) (m + 10) i = nI (rs'.getD i dR).2.1.length ∧ AR (sI M' (m + 11) i 0) (m + 9) (60 * i) (rs'.getD i dR).2.1 := ⟨(F0.gI (by omega) _).trans g1, g2.fr F0 (by omega), (F0.gI (by omega) _).trans g3, g4.fr F0 (by omega)⟩
            have hw0 := hw'.drop (show i < rs'.length by omega)
            generalize sI M' (m + 11) i 0 = M0 at V0 T0 gg
            obtain ⟨k1, k2, k3, k4⟩ := gg
            -- the LEFT
            have la : ∀ n q M1, q + n = (rs'.getD i dR).1.length → FrS (fun b => b = m + 14) M0 M1 → AR M1 (m + 14) 0 ((rs'.getD i dR).1.take q) → (∀ M2 (l3 : Value), FrS (fun b => b = m + 14) M0 M2 → AR M2 (m + 14) 0 (rs'.getD i dR).1 → wp F_Md_dropOlder 74 [.ref m, .int (nI fr), .int (nI i), l3] [] M2 Q) → wp F_Md_dropOlder 41 [.ref m, .int (nI fr), .int (nI i), .int (nI q)] [] M1 Q := by
              intro n
              induction n with
              | zero =>
                intro q M1 hq F A K
                have S1 := V0.1.fr F
                have x1 : ixI M1 (m + 8) (nI i) := ixI_of S1.leftSize.2 (by omega) (by omega)
                have e1 : nI (rs'.getD i dR).1.length ≤ nI q := nI_le (by omega) (by omega)
                simp only [B_Md_dropOlder_41, SS, S1.1, S1.leftSize.1, x1, cli, (F.gI (show ¬ m + 8 = m + 14 by omega) _).trans k1, e1, if_true, true_and]
                rw [List.take_of_length_le (by omega)] at A
                exact K M1 _ F A
              | succ n ihn =>
                intro q M1 hq F A K
                have S1 := V0.1.fr F
                have x1 : ixI M1 (m + 8) (nI i) := ixI_of S1.leftSize.2 (by omega) (by omega)
                have x2 : ixI M1 (m + 7) (nI (60 * i + q)) := ixI_of S1.left.2 (by omega) (by omega)
                have x3 : ixW M1 (m + 14) (nI q) := ixW_of S1.one.2 (by omega) (by omega)
                have e1 : ¬ nI (rs'.getD i dR).1.length ≤ nI q := nI_ge (by omega) (by omega)
                simp only [B_Md_dropOlder_41, SS, S1.1, S1.leftSize.1, S1.left.1, S1.one.1, x1, x2, x3, cli, (F.gI (show ¬ m + 8 = m + 14 by omega) _).trans k1, e1, if_false, true_and, c60, pk_mul, nI_add, cl_nI (show 60 * i + q < 2147483648 by omega), cl_nI (show q < 2147483648 by omega), (F.gI (show ¬ m + 7 = m + 14 by omega) _).trans (k2 q (by omega)), nI_i1]
                rw [G_Md_dropOlder_71]
                refine ihn (q + 1) _ (by omega) (F.trans (FrS.sI rfl)) ?_ K
                rw [take_succ_getD 0 (by omega)]
                have hln : ((rs'.getD i dR).1.take q).length = q := by rw [List.length_take]; omega
                refine AR.app (fun q hq => ?_) ?_
                · rw [gI_sI, if_neg (fun z => by omega)]; exact A q hq
                · rw [gI_sI, if_pos ⟨rfl, by omega⟩]
            refine la (rs'.getD i dR).1.length 0 M0 (by omega) FrS.rfl AR.nil ?_
            intro M2 l3' F2 A2
            simp only [B_Md_dropOlder_74, SS]
            have V2 : MmV M2 m f (rs'.set i ((rs'.getD i dR).1, (rs'.getD i dR).2.1, false)) row' t s false := V0.w (F2.weaken (fun _ q => Or.inl q))
            have T2 : Tfr M M2 m := T0.trans (tfr_of F2 (fun b q => by unfold tC; omega) (fun j _ => F2.gI (by omega) j))
            have k32 : gI M2 (m + 10) i = nI (rs'.getD i dR).2.1.length := (F2.gI (by omega) _).trans k3
            have k42 : AR M2 (m + 9) (60 * i) (rs'.getD i dR).2.1 := k4.fr F2 (by omega)
            have k12 : gI M2 (m + 8) i = nI (rs'.getD i dR).1.length := (F2.gI (by omega) _).trans k1
            -- the RIGHT
            have lb : ∀ n q M1, q + n = (rs'.getD i dR).2.1.length → FrS (fun b => b = m + 15) M2 M1 → AR M1 (m + 15) 0 ((rs'.getD i dR).2.1.take q) → (∀ M3 (l3 : Value), FrS (fun b => b = m + 15) M2 M3 → AR M3 (m + 15) 0 (rs'.getD i dR).2.1 → wp F_Md_dropOlder 109 [.ref m, .int (nI fr), .int (nI i), l3] [] M3 Q) → wp F_Md_dropOlder 76 [.ref m, .int (nI fr), .int (nI i), .int (nI q)] [] M1 Q := by
              intro n
              induction n with
              | zero =>
                intro q M1 hq F A K
                have S1 := V2.1.fr F
                have x1 : ixI M1 (m + 10) (nI i) := ixI_of S1.rightSize.2 (by omega) (by omega)
                have e1 : nI (rs'.getD i dR).2.1.length ≤ nI q := nI_le (by omega) (by omega)
                simp only [B_Md_dropOlder_76, SS, S1.1, S1.rightSize.1, x1, cli, (F.gI (show ¬ m + 10 = m + 15 by omega) _).trans k32, e1, if_true, true_and]
                rw [List.take_of_length_le (by omega)] at A
                exact K M1 _ F A
              | succ n ihn =>
                intro q M1 hq F A K
                have S1 := V2.1.fr F
                have x1 : ixI M1 (m + 10) (nI i) := ixI_of S1.rightSize.2 (by omega) (by omega)
                have x2 : ixI M1 (m + 9) (nI (60 * i + q)) := ixI_of S1.right.2 (by omega) (by omega)
                have x3 : ixW M1 (m + 15) (nI q) := ixW_of S1.other.2 (by omega) (by omega)
                have e1 : ¬ nI (rs'.getD i dR).2.1.length ≤ nI q := nI_ge (by omega) (by omega)
                simp only [B_Md_dropOlder_76, SS, S1.1, S1.rightSize.1, S1.right.1, S1.other.1, x1, x2, x3, cli, (F.gI (show ¬ m + 10 = m + 15 by omega) _).trans k32, e1, if_false, true_and, c60, pk_mul, nI_add, cl_nI (show 60 * i + q < 2147483648 by omega), cl_nI (show q < 2147483648 by omega), (F.gI (show ¬ m + 9 = m + 15 by omega) _).trans (k42 q (by omega)), nI_i1]
                rw [G_Md_dropOlder_106]
                refine ihn (q + 1) _ (by omega) (F.trans (FrS.sI rfl)) ?_ K
                rw [take_succ_getD 0 (by omega)]
                have hln : ((rs'.getD i dR).2.1.take q).length = q := by rw [List.length_take]; omega
                refine AR.app (fun q hq => ?_) ?_
                · rw [gI_sI, if_neg (fun z => by omega)]; exact A q hq
                · rw [gI_sI, if_pos ⟨rfl, by omega⟩]
            refine lb (rs'.getD i dR).2.1.length 0 M2 (by omega) FrS.rfl AR.nil ?_
            intro M3 l3'' F3 A3
            have V3 : MmV M3 m f (rs'.set i ((rs'.getD i dR).1, (rs'.getD i dR).2.1, false)) row' t s false := V2.w (F3.weaken (fun _ q => Or.inr q))
            have T3 : Tfr M M3 m := T2.trans (tfr_of F3 (fun b q => by unfold tC; omega) (fun j _ => F3.gI (by omega) j))
            have A23 : AR M3 (m + 14) 0 (rs'.getD i dR).1 := A2.fr F3 (by omega)
            obtain ⟨S3, R3, Ro3, N3⟩ := V3
            have x1 : ixI M3 (m + 8) (nI i) := ixI_of S3.leftSize.2 (by omega) (by omega)
            have x2 : ixI M3 (m + 10) (nI i) := ixI_of S3.rightSize.2 (by omega) (by omega)
            simp only [B_Md_dropOlder_109, SS, S3.1, S3.leftSize.1, S3.rightSize.1, x1, x2, cli, (F3.gI (show ¬ m + 8 = m + 15 by omega) _).trans k12, (F3.gI (show ¬ m + 10 = m + 15 by omega) _).trans k32, true_and]
            refine k_waits S3 Ro3 A23 A3 (by omega) (by omega) (fun p hp => ⟨(hr'.2 p hp).1, (hr'.2 p hp).2.1⟩) ?_ ?_
            · intro hfull
              simp only [SS, Option.toList_none, List.nil_append, B_Md_dropOlder_109, B_Md_dropOlder_125, nI_i1]
              rw [G_Md_dropOlder_128]
              have F4 : FrS (fun b => b = m) M3 (sI M3 m 28 1) := FrS.sI rfl
              have gm : ∀ j, j ≠ 28 → gI (sI M3 m 28 1) m j = gI M3 m j := fun j hj => by rw [gI_sI, if_neg (fun z => hj z.2)]
              refine ih (i + 1) (rs'.set i ((rs'.getD i dR).1, (rs'.getD i dR).2.1, false)) row' true (sI M3 m 28 1) _ (by omega) (by rw [List.length_set]; exact hlen) hw0 hr' ⟨S3.fr F4, R3.eq (gm _ (by omega)) (fun b h1 h2 j => F4.gI (by omega) j), Ro3.eq (gm _ (by omega)) (gm _ (by omega)) (fun j => F4.gI (by omega) j) (fun j => F4.gI (by omega) j), ⟨(gm _ (by omega)).trans N3.1, (gm _ (by omega)).trans N3.2.1, by simp [SS, bI]⟩⟩ (T3.trans (tfr_of F4 (fun b q => Or.inl q) (fun j hj => gm j (fun e => hj (by unfold tF; omega))))) (fun q => by cases q) (fun _ => ?_)
              rw [h0, drp, if_pos ⟨hlv, hh⟩, if_pos hfull]
            · intro hlt M4 F4 gm Ro4
              simp only [SS, Option.toList_none, List.nil_append, B_Md_dropOlder_109, B_Md_dropOlder_125, nI_i1]
              rw [G_Md_dropOlder_128]
              refine ih (i + 1) (rs'.set i ((rs'.getD i dR).1, (rs'.getD i dR).2.1, false)) (row' ++ [((rs'.getD i dR).1, (rs'.getD i dR).2.1)]) false M4 _ (by omega) (by rw [List.length_set]; exact hlen) hw0 (hr'.push (by omega) ⟨by show (rs'.getD i dR).1.length ≤ 120; omega, by show (rs'.getD i dR).2.1.length ≤ 120; omega, u3, u4⟩) ⟨S3.fr F4, R3.eq (gm _ (by omega)) (fun b h1 h2 j => F4.gI (by omega) j), Ro4, N3.eq (gm _ (by omega)) (gm _ (by omega)) (gm _ (by omega))⟩ (T3.trans (tfr_of F4 (fun b q => by unfold tC; omega) (fun j hj => gm j (fun e => hj (by unfold tF; omega))))) (fun _ => ?_) (fun q => by cases q)
              rw [h0, drp, if_pos ⟨hlv, hh⟩, if_neg (by omega)]
  simp only [B_Md_dropOlder_0, SS]
  exact loop fr 0 rs row false M jk (by omega) rfl hw hr h Tfr.rfl (fun _ => rfl) (fun q => by cases q)
end MC
