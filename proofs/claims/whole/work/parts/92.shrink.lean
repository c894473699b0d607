/-! the reference's REDUCING -/
theorem suf_drop {u e : List Nat} : u.isSuffixOf e = decide (u.length ≤ e.length ∧ e.drop (e.length - u.length) = u) := by
  rw [Bool.eq_iff_iff, List.isSuffixOf_iff_suffix, decide_eq_true_eq]
  constructor
  · intro h
    exact ⟨h.length_le, (List.suffix_iff_eq_drop.mp h).symm⟩
  · rintro ⟨h1, h2⟩
    exact List.suffix_iff_eq_drop.mpr h2.symm
section MD
variable {M : Mm} {m : Nat} {Q : Option Value → Mm → Prop}
theorem k_mEnds {rs : List Ru} {r a na : Nat} {e : List Nat} (hS : MdS M m) (hR : RuM M m rs) (hr : r < rs.length) (h60 : (rs.getD r dR).1.length ≤ 60) (hk : ∀ c ∈ (rs.getD r dR).1, c < 128) (ha : sh M a = some (.inr (0, na))) (hv : AR M a 0 e) (hl : e.length ≤ na) (he : ∀ c ∈ e, c < 128) (bn : na < 1073741824) :
    wp F_Md_ends 0 [.ref m, .int (nI r), .ref a, .int (nI e.length), jk, jk] [] M Q = Q (some (.int (bI ((rs.getD r dR).2.2 && (rs.getD r dR).1.isSuffixOf e)))) M := by
  obtain ⟨g1, g2, g3, g4, g5⟩ := hR.2.2 r hr
  have h200 := hR.2.1
  have ixl : ixI M (m + 8) (nI r) := ixI_of hS.leftSize.2 (by omega) (by omega)
  have ixv : ixB M (m + 11) (nI r) := ixZ_of hS.isLive.2 (by omega) (by omega)
  have clr := cl_nI (show r < 2147483648 by omega)
  generalize hu : rs.getD r dR = u at g1 g2 g3 g4 g5 h60 hk
  have loop : ∀ d i, i + d = u.1.length → u.1.length ≤ e.length → u.1.take i = (e.drop (e.length - u.1.length)).take i → wp F_Md_ends 29 [.ref m, .int (nI r), .ref a, .int (nI e.length), .int 1, .int (nI i)] [] M Q = Q (some (.int (bI (decide (e.drop (e.length - u.1.length) = u.1))))) M := by
    intro d
    induction d with
    | zero =>
      intro i hi hle ht
      have e1 : nI u.1.length ≤ nI i := nI_le (by omega) (by omega)
      have : e.drop (e.length - u.1.length) = u.1 := by
        rw [List.take_of_length_le (by omega), List.take_of_length_le (by simp; omega)] at ht
        exact ht.symm
      simp only [B_Md_ends_29, B_Md_ends_86, SS, hS.1, hS.leftSize.1, ixl, clr, g1, e1, if_true, true_and, decide_eq_true this, bI, or_true]
    | succ d ih =>
      intro i hi hle ht
      have e1 : ¬ nI u.1.length ≤ nI i := nI_ge (by omega) (by omega)
      have c60 : (60 : Int32) = nI 60 := rfl
      have ix1 : ixI M (m + 7) (nI (60 * r + i)) := ixI_of hS.left.2 (by omega) (by omega)
      have ix2 : ixI M a (nI (e.length - u.1.length + i)) := ixI_of ha (by omega) (by omega)
      have y1 := g2 i (by omega)
      have y2 := hv (e.length - u.1.length + i) (by omega)
      rw [Nat.zero_add] at y2
      have l1 := getD_lt hk (show i < u.1.length by omega)
      have l2 := getD_lt he (show e.length - u.1.length + i < e.length by omega)
      have tk : u.1.take (i + 1) = (e.drop (e.length - u.1.length)).take (i + 1) ↔ u.1.getD i 0 = e.getD (e.length - u.1.length + i) 0 := by
        rw [take_succ_getD 0 (by omega), take_succ_getD 0 (show i < (e.drop (e.length - u.1.length)).length by simp; omega), ht]
        rw [List.append_cancel_left_eq]
        have : (e.drop (e.length - u.1.length)).getD i 0 = e.getD (e.length - u.1.length + i) 0 := by
          rw [List.getD_eq_getElem?_getD, List.getElem?_drop, ← List.getD_eq_getElem?_getD]
        rw [this]
        simp
      simp only [B_Md_ends_29, SS, hS.1, hS.leftSize.1, hS.left.1, ixl, clr, g1, e1, if_false, i10, true_and, c60, pk_mul, nI_add, pk_sub hle, ix1, ix2, cl_nI (show 60 * r + i < 2147483648 by omega), cl_nI (show e.length - u.1.length + i < 2147483648 by omega), y1, y2, nI_eq (show u.1.getD i 0 < 2 ^ 31 by omega) (show e.getD (e.length - u.1.length + i) 0 < 2 ^ 31 by omega)]
      by_cases q : u.1.getD i 0 = e.getD (e.length - u.1.length + i) 0
      · rw [if_pos q]
        simp only [B_Md_ends_29, B_Md_ends_78, SS, nI_i1]
        rw [G_Md_ends_83]
        exact ih (i + 1) (by omega) hle (tk.mpr q)
      · rw [if_neg q]
        simp only [B_Md_ends_77, B_Md_ends_78, SS, nI_i1]
        rw [G_Md_ends_83]
        have ne : ¬ e.drop (e.length - u.1.length) = u.1 := fun z => q (tk.mp (by rw [z]))
        simp only [B_Md_ends_29, B_Md_ends_86, SS, hS.1, hS.leftSize.1, ixl, clr, g1, true_and, if_true, decide_eq_false ne, bI, Bool.false_eq_true, if_false, true_or, ite_self]
  have fail : wp F_Md_ends 24 [.ref m, .int (nI r), .ref a, .int (nI e.length), jk, jk] [.int 0] M Q = Q (some (.int 0)) M := by
    simp only [B_Md_ends_24, B_Md_ends_29, B_Md_ends_86, SS, hS.1, hS.leftSize.1, ixl, clr, g1, true_and, if_true, true_or, ite_self]
  rw [suf_drop]
  simp only [B_Md_ends_0, SS, hS.1, hS.isLive.1, hS.leftSize.1, ixl, ixv, clr, g1, g5, true_and, bI_ne]
  cases hb : u.2.2 with
  | false =>
    simp only [Bool.false_and, if_true, B_Md_ends_23]
    exact fail
  | true =>
    simp only [Bool.true_and, Bool.true_eq_false, if_false, nI_ltI (show e.length < 2 ^ 31 by omega) (show u.1.length < 2 ^ 31 by omega)]
    by_cases q : e.length < u.1.length
    · rw [if_pos q]
      simp only [B_Md_ends_23]
      rw [decide_eq_false (fun z => by omega)]
      exact fail
    · rw [if_neg q]
      simp only [B_Md_ends_0, B_Md_ends_24, SS]
      have := loop u.1.length 0 (by omega) (by omega) (by simp)
      rw [nI_0] at this
      rw [this]
      have e9 : (decide (u.1.length ≤ e.length ∧ e.drop (e.length - u.1.length) = u.1)) = decide (e.drop (e.length - u.1.length) = u.1) := decide_eq_decide.mpr ⟨fun z => z.2, fun z => ⟨by omega, z⟩⟩
      rw [e9]
theorem k_mEndsAt {rs : List Ru} {k a na : Nat} {e : List Nat} (hS : MdS M m) (hR : RuM M m rs) (hw : RWf rs k) (ha : sh M a = some (.inr (0, na))) (hv : AR M a 0 e) (hl : e.length ≤ na) (he : ∀ c ∈ e, c < 128) (bn : na < 1073741824) :
    wp F_Md_endsAt 0 [.ref m, .ref a, .int (nI e.length), jk] [] M Q = Q (some (.int (oI (endAt rs e)))) M := by
  have h200 := hR.2.1
  have hk8 := hw.2.1
  have loop : ∀ d i, i + d = rs.length → (∀ j, j < i → ((rs.getD j dR).2.2 && (rs.getD j dR).1.isSuffixOf e) = false) → wp F_Md_endsAt 2 [.ref m, .ref a, .int (nI e.length), .int (nI i)] [] M Q = Q (some (.int (oI (endAt rs e)))) M := by
    intro d
    induction d with
    | zero =>
      intro i hi hno
      have e1 : nI rs.length ≤ nI i := nI_le (by omega) (by omega)
      have en : endAt rs e = none := by
        unfold endAt
        rw [List.findIdx?_eq_none_iff]
        intro u hu
        obtain ⟨j, hj, rfl⟩ := List.getElem_of_mem hu
        have := hno j (by omega)
        rw [List.getD_eq_getElem?_getD, List.getElem?_eq_getElem hj] at this
        exact this
      simp only [B_Md_endsAt_2, B_Md_endsAt_28, hS.1, hR.1, e1, if_true, true_and, en, oI]
    | succ d ih =>
      intro i hi hno
      have e1 : ¬ nI rs.length ≤ nI i := nI_ge (by omega) (by omega)
      have hu := hw.1 _ (getD_mem (show i < rs.length by omega))
      simp only [B_Md_endsAt_2, hS.1, hR.1, e1, if_false, true_and]
      rw [k_mEnds hS hR (by omega) hu.2.1 (fun c hc => by have := hu.2.2.2.1 c hc; omega) ha hv hl he bn]
      simp only [SS, List.cons_append, List.nil_append, B_Md_endsAt_2, bI_ne]
      cases hb : ((rs.getD i dR).2.2 && (rs.getD i dR).1.isSuffixOf e) with
      | true =>
        have es : endAt rs e = some i := by
          unfold endAt
          rw [List.findIdx?_eq_some_iff_getElem]
          have ge : ∀ j (hj : j < rs.length), rs[j] = rs.getD j dR := fun j hj => by rw [List.getD_eq_getElem?_getD, List.getElem?_eq_getElem hj]; rfl
          refine ⟨by omega, by rw [ge]; exact hb, fun j hj => ?_⟩
          rw [ge, hno j hj]
          simp
        simp only [Bool.true_eq_false, if_false, es, oI]
      | false =>
        simp only [if_true, B_Md_endsAt_22, nI_i1, SS]
        rw [G_Md_endsAt_25]
        exact ih (i + 1) (by omega) (fun j hj => by
          by_cases z : j = i
          · rw [z]; exact hb
          · exact hno j (by omega))
  simp only [B_Md_endsAt_0, SS]
  exact loop rs.length 0 (by omega) (fun j hj => by omega)
/-- what a REDUCING of the reference writes -/
abbrev skS (m a b : Nat) : Prop := b = m ∨ b = a ∨ b = m + 18 ∨ b = m + 19
theorem RuM.eq {M M1 : Mm} {rs : List Ru} (h : RuM M m rs) (e0 : gI M1 m 21 = gI M m 21) (e : ∀ b, m + 7 ≤ b → b ≤ m + 11 → ∀ j, gI M1 b j = gI M b j) : RuM M1 m rs := ⟨e0.trans h.1, h.2.1, fun i hi => by
  obtain ⟨g1, g2, g3, g4, g5⟩ := h.2.2 i hi
  exact ⟨(e _ (by omega) (by omega) _).trans g1, g2.eq (e _ (by omega) (by omega)), (e _ (by omega) (by omega) _).trans g3, g4.eq (e _ (by omega) (by omega)), (e _ (by omega) (by omega) _).trans g5⟩⟩
def ShN (M M' : Mm) (m a : Nat) : Prop := FrS (skS m a) M M' ∧ ∀ j, j ≠ 31 → gI M' m j = gI M m j
theorem ShN.rfl {M : Mm} {m a : Nat} : ShN M M m a := ⟨FrS.rfl, fun _ _ => Eq.refl _⟩
theorem ShN.trans {M M1 M2 : Mm} {m a : Nat} (h : ShN M M1 m a) (h2 : ShN M1 M2 m a) : ShN M M2 m a := ⟨h.1.trans h2.1, fun j hj => (h2.2 j hj).trans (h.2 j hj)⟩
theorem RuM.sh {M M1 : Mm} {a : Nat} {rs : List Ru} (h : RuM M m rs) (s : ShN M M1 m a) (ha : a = m + 14 ∨ a = m + 15) : RuM M1 m rs := h.eq (s.2 _ (by omega)) (fun b h1 h2 j => s.1.gI (by omega) j)
theorem k_mShrink {rs : List Ru} {k a : Nat} {l : List Nat} (hS : MdS M m) (hR : RuM M m rs) (hw : RWf rs k) (ha : a = m + 14 ∨ a = m + 15) (hv : AR M a 0 l) (hl : l.length ≤ 120) (hlk : ∀ c ∈ l, c < k)
    (hQ0 : form rs l = none → ∀ M', ShN M M' m a → Q (some (.int (-1))) M') (hQ1 : ∀ w tr, form rs l = some (w, tr) → w.length ≤ l.length → (∀ c ∈ w, c < k) → ∀ M', ShN M M' m a → AR M' a 0 w → gI M' m 31 = nI tr.length → TRv M' (m + 18) (m + 19) tr → Q (some (.int (nI w.length))) M') : wp F_Md_shrink 0 [.ref m, .ref a, .int (nI l.length), jk, jk, jk, jk, jk, jk] [] M Q := by
  have h200 := hR.2.1
  have hk8 := hw.2.1
  have hfl : ∀ {w : List Nat} {tr : List (Nat × Nat)}, form rs l = some (w, tr) → w.length ≤ l.length := fun {w tr} q => form_len hw hl q
  have hred := form_red hw hl
  generalize form rs l = res at hQ0 hQ1 hred hfl
  have loop : ∀ (f : Nat) (d t : List Nat) (tr : List (Nat × Nat)) (M1 : Mm) (l5 l6 l7 l8 : Value), red rs f d t tr = some res → d.length + t.length ≤ 120 → (∀ c ∈ d, c < k) → (∀ c ∈ t, c < k) → tr.length ≤ 1000 → ShN M M1 m a → AR M1 a 0 (d ++ t) → gI M1 m 31 = nI tr.length → TRv M1 (m + 18) (m + 19) tr → wp F_Md_shrink 10 [.ref m, .ref a, .int (nI l.length), .int (nI (d.length + t.length)), .int (nI (d.length + 1)), l5, l6, l7, l8] [] M1 Q := by
    intro f
    induction f with
    | zero =>
      intro d t tr M1 l5 l6 l7 l8 hr hlen hd ht htr F hA g31 hT
      cases t with
      | cons c t => cases hr
      | nil =>
        have hr : res = some (d, tr) := by cases hr; rfl
        have e1 : nI d.length < nI (d.length + 1) := nI_lt (by omega) (by omega)
        simp only [List.length_nil, B_Md_shrink_10, e1, if_true, B_Md_shrink_202, Nat.add_zero]
        exact hQ1 d tr hr (hfl hr) hd M1 F (by simpa using hA) g31 hT
    | succ f ih =>
      intro d t tr M1 l5 l6 l7 l8 hr hlen hd ht htr F hA g31 hT
      cases t with
      | nil =>
        have hr : res = some (d, tr) := by cases hr; rfl
        have e1 : nI d.length < nI (d.length + 1) := nI_lt (by omega) (by omega)
        simp only [List.length_nil, B_Md_shrink_10, e1, if_true, B_Md_shrink_202, Nat.add_zero]
        exact hQ1 d tr hr (hfl hr) hd M1 F (by simpa using hA) g31 hT
      | cons c t =>
        simp only [List.length_cons] at hlen
        have hS1 := hS.fr F.1
        have hR1 := hR.sh F ha
        have sa : sh M1 a = some (.inr (0, 130)) := by
          rcases ha with e | e
          · rw [e]; exact hS1.one.2
          · rw [e]; exact hS1.other.2
        have hdc : ∀ x ∈ d ++ [c], x < k := fun x hx => by
          rcases List.mem_append.mp hx with q | q
          · exact hd x q
          · rw [List.mem_singleton.mp q]; exact ht c (by simp)
        have htt : ∀ x ∈ t, x < k := fun x hx => ht x (List.mem_cons_of_mem _ hx)
        have hA1 : AR M1 a 0 (d ++ [c]) := by
          have := hA.take (n := d.length + 1)
          rw [show (d ++ c :: t).take (d.length + 1) = d ++ [c] by rw [show d ++ c :: t = (d ++ [c]) ++ t by simp, List.take_append_of_le_length (by simp), List.take_of_length_le (by simp)]] at this
          exact this
        have e1 : ¬ nI (d.length + (t.length + 1)) < nI (d.length + 1) := nI_nlt (by omega) (by omega)
        have hdl : (d ++ [c]).length = d.length + 1 := by simp
        simp only [List.length_cons, B_Md_shrink_10, e1, if_false, hS1.1, true_and]
        have hk := k_mEndsAt (Q := fun r M2 => wp F_Md_shrink 23 [.ref m, .ref a, .int (nI l.length), .int (nI (d.length + (t.length + 1))), .int (nI (d.length + 1)), l5, l6, l7, l8] (r.toList ++ []) M2 Q) hS1 hR1 hw sa hA1 (by omega) (fun x hx => by have := hdc x hx; omega) (by omega)
        rw [hdl] at hk
        rw [hk]
        rw [red] at hr
        simp only [SS, List.cons_append, List.nil_append, B_Md_shrink_10]
        cases he : endAt rs (d ++ [c]) with
        | none =>
          rw [he] at hr
          simp only [oI, if_true, nI_i1, SS, B_Md_shrink_10]
          rw [G_Md_shrink_199]
          have := ih (d ++ [c]) t tr M1 (.int (-1)) l6 l7 l8 hr (by rw [hdl]; omega) hdc htt htr F (by simpa using hA) g31 hT
          rw [hdl] at this
          rw [show d.length + (t.length + 1) = d.length + 1 + t.length by omega]
          exact this
        | some r =>
          rw [he] at hr
          dsimp only at hr
          obtain ⟨hrl, hlive, hsuf⟩ := endAt_some he
          obtain ⟨u1, u2, u3, u4, u5⟩ := hw.1 _ (getD_mem hrl)
          obtain ⟨g1, g2, g3, g4, g5⟩ := hR1.2.2 r hrl
          have hsl := hsuf.length_le
          rw [hdl] at hsl
          have ne1 : ¬ nI r = -1 := by
            intro q
            have := congrArg Int32.toInt q
            rw [nI_toInt (show r < 2 ^ 31 by omega)] at this
            have z : (-1 : Int32).toInt = -1 := rfl
            omega
          have c1000 : (1000 : Int32) = nI 1000 := rfl
          simp only [oI, ne1, if_false, B_Md_shrink_37, hS1.1, g31, true_and, c1000, nI_eq (show tr.length < 2 ^ 31 by omega) (show 1000 < 2 ^ 31 by omega)]
          by_cases q1000 : tr.length = 1000
          · rw [if_pos q1000]
            rw [if_pos (by omega)] at hr
            have hr : res = none := by cases hr; rfl
            exact hQ0 hr M1 F
          · rw [if_neg q1000]
            rw [if_neg (by omega)] at hr
            have ixl : ∀ N, sh N (m + 8) = some (.inr (0, 200)) → ixI N (m + 8) (nI r) := fun N hN => ixI_of hN (by omega) (by omega)
            have ixr : ∀ N, sh N (m + 10) = some (.inr (0, 200)) → ixI N (m + 10) (nI r) := fun N hN => ixI_of hN (by omega) (by omega)
            have clr := cl_nI (show r < 2147483648 by omega)
            generalize hu : rs.getD r dR = u at g1 g2 g3 g4 g5 u1 u2 u3 u4 u5 hr hsuf hsl
            obtain ⟨p, hp⟩ := hsuf
            have hpl : p.length + u.1.length = d.length + 1 := by
              have := congrArg List.length hp
              simpa using this
            have hup : 0 < u.1.length := List.length_pos_iff.mpr u1
            have hbe : d.length + 1 - u.1.length = p.length := by omega
            have htk : (d ++ [c]).take p.length = p := by rw [← hp, List.take_append_of_le_length (by omega), List.take_of_length_le (by omega)]
            have c300 : (300 : Int32) = nI 300 := rfl
            simp only [B_Md_shrink_49, SS, hS1.1, hS1.leftSize.1, ixl M1 hS1.leftSize.2, clr, g1, g31, true_and, pk_sub hsl, hbe, c300, nI_leI (show 300 < 2 ^ 31 by omega) (show tr.length < 2 ^ 31 by omega)]
            rw [hbe, htk] at hr
            -- the note
            have push : ∀ M2, ShN M1 M2 m a → (∀ j, gI M2 a j = gI M1 a j) → gI M2 m 31 = nI (tr.length + 1) → TRv M2 (m + 18) (m + 19) (tr ++ [(r, p.length)]) → ∀ l8 : Value, wp F_Md_shrink 106 [.ref m, .ref a, .int (nI l.length), .int (nI (d.length + (t.length + 1))), .int (nI (d.length + 1)), .int (nI r), .int (nI p.length), .int (nI 0), l8] [] M2 Q := by
              intro M2 F2 ga2 g312 hT2 l8
              have hS2 := hS1.fr F2.1
              have hR2 := hR1.sh F2 ha
              obtain ⟨k1, k2, k3, k4, k5⟩ := hR2.2.2 r hrl
              rw [hu] at k1 k2 k3 k4 k5
              have hA2 : AR M2 a 0 (d ++ c :: t) := hA.eq ga2
              have sa2 : sh M2 a = some (.inr (0, 130)) := (F2.1.sh _).trans sa
              have c60 : (60 : Int32) = nI 60 := rfl
              have nea : ∀ b, m + 7 ≤ b → b ≤ m + 11 → b ≠ a := fun b h1 h2 => by omega
              -- the RIGHT is laid
              have lay : ∀ n i (M3 : Mm), i + n = u.2.1.length → FrS (fun b => b = a) M2 M3 → (∀ j, gI M3 a j = if p.length ≤ j ∧ j < p.length + i then nI (u.2.1.getD (j - p.length) 0) else gI M2 a j) → (∀ M4 (l7 : Value), FrS (fun b => b = a) M2 M4 → (∀ j, gI M4 a j = if p.length ≤ j ∧ j < p.length + u.2.1.length then nI (u.2.1.getD (j - p.length) 0) else gI M2 a j) → wp F_Md_shrink 144 [.ref m, .ref a, .int (nI l.length), .int (nI (d.length + (t.length + 1))), .int (nI (d.length + 1)), .int (nI r), .int (nI p.length), l7, l8] [] M4 Q) → wp F_Md_shrink 106 [.ref m, .ref a, .int (nI l.length), .int (nI (d.length + (t.length + 1))), .int (nI (d.length + 1)), .int (nI r), .int (nI p.length), .int (nI i), l8] [] M3 Q := by
                intro n
                induction n with
                | zero =>
                  intro i M3 hi F3 hg K
                  have hS3 := hS2.fr F3
                  have z1 : nI u.2.1.length ≤ nI i := nI_le (by omega) (by omega)
                  have gr := (F3.gI (show ¬ m + 10 = a by omega) r).trans k3
                  simp only [B_Md_shrink_106, SS, hS3.1, hS3.rightSize.1, ixr M3 hS3.rightSize.2, clr, gr, z1, if_true, true_and]
                  rw [show i = u.2.1.length by omega] at hg
                  exact K M3 _ F3 hg
                | succ n ihn =>
                  intro i M3 hi F3 hg K
                  have hS3 := hS2.fr F3
                  have z1 : ¬ nI u.2.1.length ≤ nI i := nI_ge (by omega) (by omega)
                  have gr := (F3.gI (show ¬ m + 10 = a by omega) r).trans k3
                  have gx : gI M3 (m + 9) (60 * r + i) = nI (u.2.1.getD i 0) := (F3.gI (show ¬ m + 9 = a by omega) _).trans (k4 i (by omega))
                  have x1 : ixI M3 (m + 9) (nI (60 * r + i)) := ixI_of hS3.right.2 (by omega) (by omega)
                  have x2 : ixW M3 a (nI (p.length + i)) := ixW_of ((F3.sh _).trans sa2) (by omega) (by omega)
                  simp only [B_Md_shrink_106, SS, hS3.1, hS3.rightSize.1, hS3.right.1, ixr M3 hS3.rightSize.2, clr, gr, z1, if_false, true_and, c60, pk_mul, nI_add, x1, x2, cl_nI (show 60 * r + i < 2147483648 by omega), cl_nI (show p.length + i < 2147483648 by omega), gx, nI_i1]
                  rw [G_Md_shrink_141]
                  refine ihn (i + 1) _ (by omega) (F3.trans (FrS.sI rfl)) (fun j => ?_) K
                  rw [gI_sI]
                  by_cases z : j = p.length + i
                  · rw [if_pos ⟨rfl, z⟩, if_pos ⟨by omega, by omega⟩, z, show p.length + i - p.length = i by omega]
                  · rw [if_neg (fun q => z q.2), hg j]
                    by_cases y : p.length ≤ j ∧ j < p.length + i
                    · rw [if_pos y, if_pos ⟨y.1, by omega⟩]
                    · rw [if_neg y, if_neg (fun q => y ⟨q.1, by omega⟩)]
              refine lay u.2.1.length 0 M2 (by omega) FrS.rfl (fun j => by rw [if_neg (fun q => by omega)]) ?_
              intro M4 l7 F4 hg4
              have hS4 := hS2.fr F4
              have gl4 := (F4.gI (show ¬ m + 8 = a by omega) r).trans k1
              have gr4 := (F4.gI (show ¬ m + 10 = a by omega) r).trans k3
              simp only [B_Md_shrink_144, SS, hS4.1, hS4.leftSize.1, hS4.rightSize.1, ixl M4 hS4.leftSize.2, ixr M4 hS4.rightSize.2, clr, gl4, gr4, true_and, pk_sub u3]
              -- the rest is moved
              have move : ∀ n i (M5 : Mm), i + n = t.length → FrS (fun b => b = a) M2 M5 → (∀ j, j < p.length + u.2.1.length → gI M5 a j = gI M4 a j) → (∀ j, j < i → gI M5 a (p.length + u.2.1.length + j) = nI (t.getD j 0)) → (∀ j, i ≤ j → j < t.length → gI M5 a (d.length + 1 + j) = nI (t.getD j 0)) → (∀ M6 (l8 : Value), FrS (fun b => b = a) M2 M6 → (∀ j, j < p.length + u.2.1.length → gI M6 a j = gI M4 a j) → (∀ j, j < t.length → gI M6 a (p.length + u.2.1.length + j) = nI (t.getD j 0)) → wp F_Md_shrink 188 [.ref m, .ref a, .int (nI l.length), .int (nI (d.length + (t.length + 1))), .int (nI (d.length + 1)), .int (nI r), .int (nI p.length), .int (nI (u.1.length - u.2.1.length)), l8] [] M6 Q) → wp F_Md_shrink 165 [.ref m, .ref a, .int (nI l.length), .int (nI (d.length + (t.length + 1))), .int (nI (d.length + 1)), .int (nI r), .int (nI p.length), .int (nI (u.1.length - u.2.1.length)), .int (nI (d.length + 1 + i))] [] M5 Q := by
                intro n
                induction n with
                | zero =>
                  intro i M5 hi F5 ha5 hb5 hc5 K
                  have z1 : nI (d.length + (t.length + 1)) ≤ nI (d.length + 1 + i) := nI_le (by omega) (by omega)
                  simp only [B_Md_shrink_165, z1, if_true]
                  exact K M5 _ F5 ha5 (fun j hj => hb5 j (by omega))
                | succ n ihn =>
                  intro i M5 hi F5 ha5 hb5 hc5 K
                  have z1 : ¬ nI (d.length + (t.length + 1)) ≤ nI (d.length + 1 + i) := nI_ge (by omega) (by omega)
                  have x1 : ixI M5 a (nI (d.length + 1 + i)) := ixI_of ((F5.sh _).trans sa2) (by omega) (by omega)
                  have e5 : d.length + 1 + i - (u.1.length - u.2.1.length) = p.length + u.2.1.length + i := by omega
                  have x2 : ixW M5 a (nI (p.length + u.2.1.length + i)) := ixW_of ((F5.sh _).trans sa2) (by omega) (by omega)
                  simp only [B_Md_shrink_165, z1, if_false, pk_sub (show u.1.length - u.2.1.length ≤ d.length + 1 + i by omega), e5, x1, x2, true_and, cl_nI (show d.length + 1 + i < 2147483648 by omega), cl_nI (show p.length + u.2.1.length + i < 2147483648 by omega), hc5 i (Nat.le_refl _) (by omega), nI_i1, SS]
                  rw [G_Md_shrink_185]
                  have hle : u.2.1.length ≤ u.1.length := u3
                  refine ihn (i + 1) _ (by omega) (F5.trans (FrS.sI rfl)) (fun j hj => ?_) (fun j hj => ?_) (fun j h1 h2 => ?_) K
                  · rw [gI_sI, if_neg (fun q => by omega)]; exact ha5 j hj
                  · rw [gI_sI]
                    by_cases z : j = i
                    · rw [if_pos ⟨rfl, by omega⟩, z]
                    · rw [if_neg (fun q => by omega)]; exact hb5 j (by omega)
                  · rw [gI_sI, if_neg (fun q => by omega)]; exact hc5 j (by omega) h2
              have dt : ∀ j, j < t.length → gI M2 a (d.length + 1 + j) = nI (t.getD j 0) := fun j hj => by
                have := hA2 (d.length + 1 + j) (by simp; omega)
                rw [Nat.zero_add] at this
                rw [this]
                congr 1
                rw [List.getD_eq_getElem?_getD, List.getElem?_append_right (by omega), show d.length + 1 + j - d.length = j + 1 by omega, List.getElem?_cons_succ, ← List.getD_eq_getElem?_getD]
              have mv := move t.length 0 M4 (by omega) F4 (fun j _ => rfl) (fun j hj => by omega) (fun j _ hj => by
                rw [hg4, if_neg (fun q => by omega)]; exact dt j hj)
              rw [Nat.add_zero] at mv
              refine mv ?_
              intro M6 l8' F6 ha6 hb6
              simp only [B_Md_shrink_188, pk_sub (show u.1.length - u.2.1.length ≤ d.length + (t.length + 1) by omega), nI_i1, SS]
              rw [G_Md_shrink_199]
              have F26 : ShN M2 M6 m a := ⟨F6.weaken (fun b q => Or.inr (Or.inl q)), fun j _ => F6.gI (by omega) j⟩
              have := ih p (u.2.1 ++ t) (tr ++ [(r, p.length)]) M6 (.int (nI r)) (.int (nI p.length)) (.int (nI (u.1.length - u.2.1.length))) l8' hr (by simp; omega) (fun x hx => hdc x (by rw [← hp]; exact List.mem_append_left _ hx)) (fun x hx => by
                rcases List.mem_append.mp hx with z | z
                · exact u5 x z
                · exact htt x z) (by simp; omega) ((F.trans F2).trans F26) (fun j hj => ?_) (by rw [F6.gI (by omega), g312]; simp) (hT2.fr F6 (by omega) (by omega))
              · rw [List.length_append] at this
                rw [show d.length + (t.length + 1) - (u.1.length - u.2.1.length) = p.length + (u.2.1.length + t.length) by omega]
                exact this
              · simp only [List.length_append] at hj
                rw [Nat.zero_add]
                by_cases y1 : j < p.length
                · rw [ha6 j (by omega), hg4, if_neg (fun q => by omega)]
                  have := hA2 j (by simp; omega)
                  rw [Nat.zero_add] at this
                  rw [this]
                  congr 1
                  rw [List.getD_eq_getElem?_getD, List.getD_eq_getElem?_getD, List.getElem?_append_left y1]
                  have : (d ++ c :: t)[j]? = (p ++ u.1 ++ t)[j]? := by rw [hp]; simp
                  rw [this, List.append_assoc, List.getElem?_append_left y1]
                · by_cases y2 : j < p.length + u.2.1.length
                  · rw [ha6 j y2, hg4, if_pos ⟨by omega, y2⟩]
                    congr 1
                    rw [List.getD_eq_getElem?_getD, List.getD_eq_getElem?_getD, List.getElem?_append_right (by omega), List.getElem?_append_left (by omega)]
                  · have := hb6 (j - (p.length + u.2.1.length)) (by omega)
                    rw [show p.length + u.2.1.length + (j - (p.length + u.2.1.length)) = j by omega] at this
                    rw [this]
                    congr 1
                    rw [List.getD_eq_getElem?_getD, List.getD_eq_getElem?_getD, List.getElem?_append_right (by omega), List.getElem?_append_right (by omega)]
                    congr 2
                    omega
            have n1 : ¬ m = m + 18 := by omega
            have n2 : ¬ m = m + 19 := by omega
            by_cases q300 : 300 ≤ tr.length
            · rw [if_pos q300]
              simp only [B_Md_shrink_93, SS, hS1.1, g31, true_and, nI_i1]
              refine push (sI M1 m 31 (nI (tr.length + 1))) ⟨FrS.sI (Or.inl rfl), fun j hj => by rw [gI_sI, if_neg (fun q => hj q.2)]⟩ (fun j => by rw [gI_sI, if_neg (fun q => by omega)]) (by simp [SS]) (fun j h1 h2 => ?_) _
              have := hT j (by omega) h2
              rw [gI_sI, if_neg (fun q => by omega), gI_sI, if_neg (fun q => by omega)]
              have e9 : (tr ++ [(r, p.length)]).getD j (0, 0) = tr.getD j (0, 0) := by rw [List.getD_eq_getElem?_getD, List.getElem?_append_left (by omega), ← List.getD_eq_getElem?_getD]
              rw [e9]; exact this
            · rw [if_neg q300]
              have x1 : ixW M1 (m + 18) (nI tr.length) := ixW_of hS1.newRule.2 (by omega) (by omega)
              have x2 : ∀ v, ixW (sI M1 (m + 18) tr.length v) (m + 19) (nI tr.length) := fun v => ixW_of hS1.newPlace.2 (by omega) (by omega)
              have clt := cl_nI (show tr.length < 2147483648 by omega)
              simp only [B_Md_shrink_49, B_Md_shrink_93, SS, hS1.1, hS1.newRule.1, hS1.newPlace.1, g31, x1, x2, clt, n1, n2, false_and, if_false, true_and, nI_i1]
              have F2 : FrS (skS m a) M1 (sI (sI (sI M1 (m + 18) tr.length (nI r)) (m + 19) tr.length (nI p.length)) m 31 (nI (tr.length + 1))) := ((FrS.sI (Or.inr (Or.inr (Or.inl rfl)))).trans (FrS.sI (Or.inr (Or.inr (Or.inr rfl))))).trans (FrS.sI (Or.inl rfl))
              have na1 : ¬ a = m := by omega
              have na2 : ¬ a = m + 18 := by omega
              have na3 : ¬ a = m + 19 := by omega
              have n3 : ¬ m + 18 = m := by omega
              have n4 : ¬ m + 19 = m := by omega
              have n5 : ¬ m + 18 = m + 19 := by omega
              have n6 : ¬ m + 19 = m + 18 := by omega
              refine push _ ⟨F2, fun j hj => by simp [SS, n1, n2, hj]⟩ (fun j => by simp [SS, na1, na2, na3]) (by simp [SS]) (fun j h1 h2 => ?_) _
              simp only [List.length_append, List.length_cons, List.length_nil] at h1
              by_cases z : j = tr.length
              · subst z
                have e9 : (tr ++ [(r, p.length)]).getD tr.length (0, 0) = (r, p.length) := by simp
                rw [e9]
                simp [SS, n3, n4, n5]
              · have e9 : (tr ++ [(r, p.length)]).getD j (0, 0) = tr.getD j (0, 0) := by rw [List.getD_eq_getElem?_getD, List.getElem?_append_left (by omega), ← List.getD_eq_getElem?_getD]
                rw [e9]
                have := hT j (by omega) h2
                simp [SS, n3, n4, n5, n6, z, this]
  simp only [B_Md_shrink_0, SS, hS.1, true_and]
  have F0 : ShN M (sI M m 31 0) m a := ⟨FrS.sI (Or.inl rfl), fun j hj => by rw [gI_sI, if_neg (fun q => hj q.2)]⟩
  have := loop 100000 [] l [] (sI M m 31 0) jk jk jk jk hred (by simpa using hl) (fun c hc => by simp at hc) hlk (by simp) F0 (hv.eq (fun j => by rw [gI_sI, if_neg (fun q => by omega)])) (by simp [SS, nI_0]) (fun j h1 => by simp at h1)
  rw [List.length_nil, Nat.zero_add] at this
  exact this
end MD
