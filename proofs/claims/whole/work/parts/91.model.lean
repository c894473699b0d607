/-! the reference: its cells, what they hold -/
def mdT : Nat → Nat × Nat × Nat
  | 0 => (1, 0, 600)
  | 1 => (8, 0, 26)
  | 2 => (9, 0, 26)
  | 3 => (12, 0, 1920)
  | 4 => (13, 0, 80)
  | 5 => (15, 0, 80)
  | 6 => (16, 0, 12000)
  | 7 => (17, 0, 200)
  | 8 => (18, 0, 12000)
  | 9 => (19, 0, 200)
  | 10 => (20, 3, 200)
  | 11 => (22, 0, 240000)
  | 12 => (23, 0, 2000)
  | 13 => (29, 0, 130)
  | 14 => (30, 0, 130)
  | 15 => (32, 0, 300)
  | 16 => (33, 0, 300)
  | 17 => (34, 0, 300)
  | 18 => (35, 0, 300)
  | 19 => (42, 0, 640)
  | 20 => (43, 0, 8)
  | 21 => (44, 0, 96008)
  | 22 => (45, 0, 12001)
  | 23 => (46, 0, 12001)
  | 24 => (47, 3, 12001)
  | 25 => (48, 0, 12001)
  | 26 => (49, 1, 972081)
  | 27 => (50, 1, 12001)
  | 28 => (55, 0, 201)
  | _ => (0, 0, 0)
def MdS (M : Mm) (m : Nat) : Prop := sh M m = some (.inl 12) ∧ ∀ i, i < 29 → gR M m (mdT i).1 = some (m + 1 + i) ∧ sh M (m + 1 + i) = some (.inr ((mdT i).2.1, (mdT i).2.2))
section MD
variable {M M1 : Mm} {m : Nat}
theorem MdS.z {S : Nat → Prop} (h : MdS M m) (hf : FrZ S M M1) : MdS M1 m := ⟨(hf.2.2.1 _).trans h.1, fun i hi => ⟨(hf.2.2.2.1 _ _).trans (h.2 i hi).1, (hf.2.2.1 _).trans (h.2 i hi).2⟩⟩
theorem MdS.fr {S : Nat → Prop} (h : MdS M m) (hf : FrS S M M1) : MdS M1 m := h.z hf.z
theorem MdS.tape (h : MdS M m) : gR M m 1 = some (m + 1) ∧ sh M (m + 1) = some (.inr (0, 600)) := h.2 0 (by omega)
theorem MdS.newNumber (h : MdS M m) : gR M m 8 = some (m + 2) ∧ sh M (m + 2) = some (.inr (0, 26)) := h.2 1 (by omega)
theorem MdS.number0 (h : MdS M m) : gR M m 9 = some (m + 3) ∧ sh M (m + 3) = some (.inr (0, 26)) := h.2 2 (by omega)
theorem MdS.equation (h : MdS M m) : gR M m 12 = some (m + 4) ∧ sh M (m + 4) = some (.inr (0, 1920)) := h.2 3 (by omega)
theorem MdS.equationSize (h : MdS M m) : gR M m 13 = some (m + 5) ∧ sh M (m + 5) = some (.inr (0, 80)) := h.2 4 (by omega)
theorem MdS.newWord (h : MdS M m) : gR M m 15 = some (m + 6) ∧ sh M (m + 6) = some (.inr (0, 80)) := h.2 5 (by omega)
theorem MdS.left (h : MdS M m) : gR M m 16 = some (m + 7) ∧ sh M (m + 7) = some (.inr (0, 12000)) := h.2 6 (by omega)
theorem MdS.leftSize (h : MdS M m) : gR M m 17 = some (m + 8) ∧ sh M (m + 8) = some (.inr (0, 200)) := h.2 7 (by omega)
theorem MdS.right (h : MdS M m) : gR M m 18 = some (m + 9) ∧ sh M (m + 9) = some (.inr (0, 12000)) := h.2 8 (by omega)
theorem MdS.rightSize (h : MdS M m) : gR M m 19 = some (m + 10) ∧ sh M (m + 10) = some (.inr (0, 200)) := h.2 9 (by omega)
theorem MdS.isLive (h : MdS M m) : gR M m 20 = some (m + 11) ∧ sh M (m + 11) = some (.inr (3, 200)) := h.2 10 (by omega)
theorem MdS.pair (h : MdS M m) : gR M m 22 = some (m + 12) ∧ sh M (m + 12) = some (.inr (0, 240000)) := h.2 11 (by omega)
theorem MdS.pairSize (h : MdS M m) : gR M m 23 = some (m + 13) ∧ sh M (m + 13) = some (.inr (0, 2000)) := h.2 12 (by omega)
theorem MdS.one (h : MdS M m) : gR M m 29 = some (m + 14) ∧ sh M (m + 14) = some (.inr (0, 130)) := h.2 13 (by omega)
theorem MdS.other (h : MdS M m) : gR M m 30 = some (m + 15) ∧ sh M (m + 15) = some (.inr (0, 130)) := h.2 14 (by omega)
theorem MdS.stepRule (h : MdS M m) : gR M m 32 = some (m + 16) ∧ sh M (m + 16) = some (.inr (0, 300)) := h.2 15 (by omega)
theorem MdS.stepPlace (h : MdS M m) : gR M m 33 = some (m + 17) ∧ sh M (m + 17) = some (.inr (0, 300)) := h.2 16 (by omega)
theorem MdS.newRule (h : MdS M m) : gR M m 34 = some (m + 18) ∧ sh M (m + 18) = some (.inr (0, 300)) := h.2 17 (by omega)
theorem MdS.newPlace (h : MdS M m) : gR M m 35 = some (m + 19) ∧ sh M (m + 19) = some (.inr (0, 300)) := h.2 18 (by omega)
theorem MdS.slots (h : MdS M m) : gR M m 42 = some (m + 20) ∧ sh M (m + 20) = some (.inr (0, 640)) := h.2 19 (by omega)
theorem MdS.slotSize (h : MdS M m) : gR M m 43 = some (m + 21) ∧ sh M (m + 21) = some (.inr (0, 8)) := h.2 20 (by omega)
theorem MdS.go (h : MdS M m) : gR M m 44 = some (m + 22) ∧ sh M (m + 22) = some (.inr (0, 96008)) := h.2 21 (by omega)
theorem MdS.back (h : MdS M m) : gR M m 45 = some (m + 23) ∧ sh M (m + 23) = some (.inr (0, 12001)) := h.2 22 (by omega)
theorem MdS.row (h : MdS M m) : gR M m 46 = some (m + 24) ∧ sh M (m + 24) = some (.inr (0, 12001)) := h.2 23 (by omega)
theorem MdS.isEnd (h : MdS M m) : gR M m 47 = some (m + 25) ∧ sh M (m + 25) = some (.inr (3, 12001)) := h.2 24 (by omega)
theorem MdS.come (h : MdS M m) : gR M m 48 = some (m + 26) ∧ sh M (m + 26) = some (.inr (0, 12001)) := h.2 25 (by omega)
theorem MdS.ways (h : MdS M m) : gR M m 49 = some (m + 27) ∧ sh M (m + 27) = some (.inr (1, 972081)) := h.2 26 (by omega)
theorem MdS.all (h : MdS M m) : gR M m 50 = some (m + 28) ∧ sh M (m + 28) = some (.inr (1, 12001)) := h.2 27 (by omega)
theorem MdS.powers (h : MdS M m) : gR M m 55 = some (m + 29) ∧ sh M (m + 29) = some (.inr (0, 201)) := h.2 28 (by omega)
end MD
/-- numbers in a row from a place on -/
def AR (M : Mm) (a off : Nat) (l : List Nat) : Prop := ∀ j, j < l.length → gI M a (off + j) = nI (l.getD j 0)
theorem AR.eq {M M1 : Mm} {a off : Nat} {l : List Nat} (h : AR M a off l) (e : ∀ j, gI M1 a j = gI M a j) : AR M1 a off l := fun j hj => (e _).trans (h j hj)
theorem AR.fr {M M1 : Mm} {S : Nat → Prop} {a off : Nat} {l : List Nat} (h : AR M a off l) (hf : FrS S M M1) (ha : ¬ S a) : AR M1 a off l := h.eq (fun j => hf.gI ha j)
theorem AR.app {M : Mm} {a off c : Nat} {l : List Nat} (h : AR M a off l) (hc : gI M a (off + l.length) = nI c) : AR M a off (l ++ [c]) := fun j hj => by
  simp only [List.length_append, List.length_cons, List.length_nil] at hj
  rw [getD_app hj]
  by_cases q : j < l.length
  · rw [if_pos q]; exact h j q
  · rw [if_neg q, show j = l.length by omega]; exact hc
theorem AR.take {M : Mm} {a off n : Nat} {l : List Nat} (h : AR M a off l) : AR M a off (l.take n) := fun j hj => by
  rw [List.length_take] at hj
  rw [getD_take (by omega)]
  exact h j (by omega)
theorem AR.nil {M : Mm} {a off : Nat} : AR M a off [] := fun j hj => by simp at hj
def RuM (M : Mm) (m : Nat) (rs : List Ru) : Prop := gI M m 21 = nI rs.length ∧ rs.length ≤ 200 ∧ ∀ i, i < rs.length → gI M (m + 8) i = nI (rs.getD i dR).1.length ∧ AR M (m + 7) (60 * i) (rs.getD i dR).1 ∧ gI M (m + 10) i = nI (rs.getD i dR).2.1.length ∧ AR M (m + 9) (60 * i) (rs.getD i dR).2.1 ∧ gI M (m + 11) i = bI (rs.getD i dR).2.2
def RoM (M : Mm) (m f : Nat) (row : List Pr) : Prop := gI M m 24 = nI f ∧ f < 1000 ∧ gI M m 25 = nI row.length ∧ row.length ≤ 1000 ∧ ∀ k, k < row.length → gI M (m + 13) (2 * ((f + k) % 1000)) = nI (row.getD k dP).1.length ∧ gI M (m + 13) (2 * ((f + k) % 1000) + 1) = nI (row.getD k dP).2.length ∧ AR M (m + 12) (240 * ((f + k) % 1000)) (row.getD k dP).1 ∧ AR M (m + 12) (240 * ((f + k) % 1000) + 120) (row.getD k dP).2
def SlM (M : Mm) (m : Nat) (sl : Nat → List Nat) : Prop := ∀ i, i < 8 → gI M (m + 21) i = nI (sl i).length ∧ AR M (m + 20) (80 * i) (sl i)
def TdM (M : Mm) (m : Nat) (td : List (Nat × Nat)) : Prop := gI M m 36 = nI td.length ∧ TRv M (m + 16) (m + 17) td
def OvM (M : Mm) (m : Nat) (fo : Option (Nat × Nat × Nat)) : Prop := match fo with
  | none => gI M m 39 = -1
  | some q => gI M m 39 = nI q.1 ∧ gI M m 40 = nI q.2.1 ∧ gI M m 41 = nI q.2.2
def TpM (M : Mm) (m : Nat) (tp : List Nat) : Prop := gI M m 2 = nI tp.length ∧ AR M (m + 1) 0 tp
def NuM (M : Mm) (m s t : Nat) (st : Bool) : Prop := gI M m 26 = nI t ∧ gI M m 27 = nI s ∧ gI M m 28 = bI st
section MD
variable {M : Mm} {Q : Option Value → Mm → Prop}
theorem k_in {v lo hi : Int64} {l1 l3 l5 : Value} : wp F_Md_in 0 [.long v, l1, .long lo, l3, .long hi, l5] [] M Q = Q (some (.int (bI (decide (lo ≤ v ∧ v ≤ hi))))) M := by
  simp only [B_Md_in_0, lg_cmp_lt, lg_cmp_gt]
  by_cases h1 : v < lo
  · have : ¬ (lo ≤ v ∧ v ≤ hi) := fun q => lg_le_not_lt q.1 h1
    simp only [if_pos h1, B_Md_in_17, B_Md_in_18, decide_eq_false this, bI, Bool.false_eq_true, if_false, true_or, true_and]
  · rw [if_neg h1]
    by_cases h2 : hi < v
    · have : ¬ (lo ≤ v ∧ v ≤ hi) := fun q => lg_le_not_lt q.2 h2
      simp only [if_pos h2, B_Md_in_17, B_Md_in_18, decide_eq_false this, bI, Bool.false_eq_true, if_false, true_or, true_and]
    · have : lo ≤ v ∧ v ≤ hi := ⟨Int64.not_lt.mp h1, Int64.not_lt.mp h2⟩
      simp only [if_neg h2, B_Md_in_0, B_Md_in_18, decide_eq_true this, bI, if_true, or_true, true_and]
/-- in(v, 0, n - 1) -/
theorem in_oix {v : Int32} {n : Nat} {h : Int64} (hn : n < 2147483648) (hh : h.toInt = (n : Int) - 1) : decide ((0 : Int64) ≤ v.toInt64 ∧ v.toInt64 ≤ h) = (oix n v).isSome := by
  have e0 : (0 : Int64).toInt = 0 := rfl
  have ev : v.toInt64.toInt = v.toInt := Int32.toInt_toInt64 v
  unfold oix
  by_cases q : 0 ≤ v.toInt ∧ v.toInt < n
  · rw [if_pos q, decide_eq_true]
    · rfl
    · exact ⟨Int64.le_iff_toInt_le.mpr (by omega), Int64.le_iff_toInt_le.mpr (by omega)⟩
  · rw [if_neg q, decide_eq_false]
    · rfl
    · intro z
      have z1 := Int64.le_iff_toInt_le.mp z.1
      have z2 := Int64.le_iff_toInt_le.mp z.2
      exact q ⟨by omega, by omega⟩
theorem pred_toInt {n : Nat} (hn : n < 1073741824) : (nI n - 1).toInt64.toInt = (n : Int) - 1 := by
  rw [Int32.toInt_toInt64]
  exact pk_sub_toInt (a := n) (b := 1) (by omega) (by omega)
theorem k_mSlot {v : Int32} : wp F_Md_isSlot 0 [.int v] [] M Q = Q (some (.int (bI (oix 8 v).isSome))) M := by
  simp only [B_Md_isSlot_0]
  rw [k_in]
  rw [in_oix (n := 8) (by omega) (by rfl)]
  simp only [SS, List.cons_append, List.nil_append, B_Md_isSlot_0, bI_01, true_and]
theorem k_mGreater {a b f g : Nat} {l r : List Nat} {na nb : Nat} (ha : sh M a = some (.inr (0, na))) (hb : sh M b = some (.inr (0, nb))) (vl : AR M a f l) (vr : AR M b g r) (h1 : f + l.length ≤ na) (h2 : g + r.length ≤ nb) (k1 : ∀ c ∈ l, c < 128) (k2 : ∀ c ∈ r, c < 128) (b1 : na < 1073741824) (b2 : nb < 1073741824) :
    wp F_Md_greater 0 [.ref a, .int (nI f), .int (nI l.length), .ref b, .int (nI g), .int (nI r.length), jk] [] M Q = Q (some (.int (cmpW l r))) M := by
  have loop : ∀ d i, i + d = l.length → l.length = r.length → wp F_Md_greater 21 [.ref a, .int (nI f), .int (nI l.length), .ref b, .int (nI g), .int (nI r.length), .int (nI i)] [] M Q = Q (some (.int (lexc (l.drop i) (r.drop i)))) M := by
    intro d
    induction d with
    | zero =>
      intro i hi e
      have e1 : nI l.length ≤ nI i := nI_le (by omega) (by omega)
      simp only [B_Md_greater_21, B_Md_greater_71, e1, if_true, List.drop_eq_nil_of_le (show l.length ≤ i by omega), lexc_nil_l]
    | succ d ih =>
      intro i hi e
      have e1 : ¬ nI l.length ≤ nI i := nI_ge (by omega) (by omega)
      have x1 : ixI M a (nI (f + i)) := ixI_of ha (by omega) (by omega)
      have x2 : ixI M b (nI (g + i)) := ixI_of hb (by omega) (by omega)
      have g1 := getD_lt k1 (show i < l.length by omega)
      have g2 := getD_lt k2 (show i < r.length by omega)
      have y1 := vl i (by omega)
      have y2 := vr i (by omega)
      rw [drop_getD (show i < l.length by omega), drop_getD (show i < r.length by omega)]
      simp only [B_Md_greater_21, e1, if_false, nI_add, x1, x2, cl_nI (show f + i < 2147483648 by omega), cl_nI (show g + i < 2147483648 by omega), y1, y2, true_and, lexc, nI_eq (show l.getD i 0 < 2 ^ 31 by omega) (show r.getD i 0 < 2 ^ 31 by omega), nI_leI (show l.getD i 0 < 2 ^ 31 by omega) (show r.getD i 0 < 2 ^ 31 by omega)]
      by_cases q : l.getD i 0 = r.getD i 0
      · rw [if_pos q, if_pos q]
        simp only [B_Md_greater_65, nI_i1, SS]
        rw [G_Md_greater_68]
        exact ih (i + 1) (by omega) e
      · rw [if_neg q, if_neg q]
        by_cases z : l.getD i 0 ≤ r.getD i 0
        · rw [if_pos z, if_neg (by omega)]
          simp only [B_Md_greater_63, B_Md_greater_64]
        · rw [if_neg z, if_pos (by omega)]
          simp only [B_Md_greater_21, B_Md_greater_64]
  have q1 := nI_eq (show l.length < 2 ^ 31 by omega) (show r.length < 2 ^ 31 by omega)
  have q2 := nI_leI (show l.length < 2 ^ 31 by omega) (show r.length < 2 ^ 31 by omega)
  simp only [B_Md_greater_0, q1, q2]
  unfold cmpW
  by_cases e : l.length = r.length
  · rw [if_pos e, if_pos e]
    simp only [B_Md_greater_18, SS]
    exact loop l.length 0 (by omega) e
  · rw [if_neg e, if_neg e]
    by_cases z : l.length ≤ r.length
    · rw [if_pos z, if_neg (by omega)]
      simp only [B_Md_greater_16, B_Md_greater_17]
    · rw [if_neg z, if_pos (by omega)]
      simp only [B_Md_greater_0, B_Md_greater_17]
end MD
