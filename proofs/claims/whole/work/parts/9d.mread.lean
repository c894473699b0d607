/-! the reference reads TEXTS -/
def TX (M : Mm) (m : Nat) (tp : List Nat) (i n p : Nat) : Prop := MdS M m ∧ AR M (m + 1) 0 tp ∧ gI M m 4 = nI tp.length ∧ gI M m 3 = nI i ∧ gI M m 5 = nI n ∧ gI M m 6 = nI p
/-- what reading may write: numbers, and the cells of S -/
def RdN (S : Nat → Prop) (M M1 : Mm) (m : Nat) : Prop := FrS (fun b => b = m ∨ S b) M M1 ∧ ∀ j, j ≠ 3 → j ≠ 5 → j ≠ 6 → gI M1 m j = gI M m j
theorem RdN.rfl {S : Nat → Prop} {M : Mm} {m : Nat} : RdN S M M m := ⟨FrS.rfl, fun _ _ _ _ => Eq.refl _⟩
theorem RdN.trans {S : Nat → Prop} {M M1 M2 : Mm} {m : Nat} (h : RdN S M M1 m) (h2 : RdN S M1 M2 m) : RdN S M M2 m := ⟨h.1.trans h2.1, fun j a b c => (h2.2 j a b c).trans (h.2 j a b c)⟩
theorem RdN.weaken {S T : Nat → Prop} {M M1 : Mm} {m : Nat} (h : RdN S M M1 m) (hs : ∀ b, S b → T b) : RdN T M M1 m := ⟨h.1.weaken (fun b q => q.imp id (hs b)), h.2⟩
def hvI (tp : List Nat) (i : Nat) : Int32 := if i < tp.length then nI (tp.getD i 0) else -1
theorem getD_lt256 {tp : List Nat} (h : ∀ c ∈ tp, c < 256) (i : Nat) : tp.getD i 0 < 256 := by
  by_cases q : i < tp.length
  · rw [List.getD_eq_getElem?_getD, List.getElem?_eq_getElem q]
    exact h _ (List.getElem_mem q)
  · rw [List.getD_eq_getElem?_getD, List.getElem?_eq_none (by omega)]
    decide
section MC
variable {M : Mm} {m : Nat} {σ : Sg} {Q : Option Value → Mm → Prop} {tp : List Nat} {S : Nat → Prop}
theorem TX.at_ {i n p j : Nat} (h : TX M m tp i n p) : TX (sI M m 3 (nI j)) m tp j n p ∧ RdN S M (sI M m 3 (nI j)) m := by
  have F : FrS (fun b => b = m) M (sI M m 3 (nI j)) := FrS.sI rfl
  have g : ∀ q, q ≠ 3 → gI (sI M m 3 (nI j)) m q = gI M m q := fun q hq => by rw [gI_sI, if_neg (fun z => hq z.2)]
  exact ⟨⟨h.1.fr F, h.2.1.fr F (by omega), (g _ (by omega)).trans h.2.2.1, by simp [SS], (g _ (by omega)).trans h.2.2.2.2.1, (g _ (by omega)).trans h.2.2.2.2.2⟩, ⟨F.weaken (fun b q => Or.inl q), fun q h1 _ _ => g q h1⟩⟩
theorem k_here0 {i n p : Nat} (h : TX M m tp i n p) (hl : tp.length ≤ 600) (hc : ∀ c ∈ tp, c < 256) (hi : i ≤ tp.length) (hs : i < tp.length → isSp (tp.getD i 0) = false) : wp F_Md_here 0 [.ref m] [] M Q = Q (some (.int (hvI tp i))) M := by
  obtain ⟨h1, h2, h3, h4, h5, h6⟩ := h
  unfold hvI
  by_cases q : i < tp.length
  · rw [if_pos q]
    have e1 : ¬ nI tp.length ≤ nI i := nI_ge (by omega) (by omega)
    have x1 : ixI M (m + 1) (nI i) := ixI_of h1.tape.2 (by omega) (by omega)
    have hh := h2 i q
    rw [Nat.zero_add] at hh
    have l1 := getD_lt256 hc i
    have hs := hs q
    have c32 : (32 : Int32) = nI 32 := rfl
    have c10 : (10 : Int32) = nI 10 := rfl
    unfold isSp at hs
    have n1 : ¬ tp.getD i 0 = 32 := fun z => by rw [z] at hs; cases hs
    have n2 : ¬ tp.getD i 0 = 10 := fun z => by rw [z] at hs; cases hs
    have m1 : ¬ nI (tp.getD i 0) = nI 32 := fun z => n1 ((nI_eq (by omega) (by omega)).mp z)
    have m2 : ¬ nI (tp.getD i 0) = nI 10 := fun z => n2 ((nI_eq (by omega) (by omega)).mp z)
    simp only [B_Md_here_0, B_Md_here_52, B_Md_here_76, SS, h1.1, h1.tape.1, h3, h4, x1, cl_nI (show i < 2147483648 by omega), hh, c32, c10, m1, m2, e1, if_false, true_and]
  · rw [if_neg q]
    have e1 : nI tp.length ≤ nI i := nI_le (by omega) (by omega)
    simp only [B_Md_here_0, B_Md_here_52, B_Md_here_75, B_Md_here_76, SS, h1.1, h3, h4, e1, if_true, true_and]
theorem k_here {ρ : Type} {Y : Nat → List Nat → ρ} (hY : ∀ i c t, isSp c = true → Y i (c :: t) = Y (i + 1) t) {n p : Nat} (hl : tp.length ≤ 600) (hc : ∀ c ∈ tp, c < 256) : ∀ d i M, i + d = tp.length → TX M m tp i n p →
    (∀ i' M', i ≤ i' → i' ≤ tp.length → (∀ j, i ≤ j → j < i' → isSp (tp.getD j 0) = true) → (i' < tp.length → isSp (tp.getD i' 0) = false) → Y i (tp.drop i) = Y i' (tp.drop i') → TX M' m tp i' n p → RdN S M M' m → Q (some (.int (hvI tp i'))) M') → wp F_Md_here 0 [.ref m] [] M Q := by
  intro d
  induction d with
  | zero =>
    intro i M hi h hQ
    rw [k_here0 h hl hc (by omega) (fun z => by omega)]
    exact hQ i M (by omega) (by omega) (fun j h1 h2 => by omega) (fun z => by omega) rfl h RdN.rfl
  | succ d ih =>
    intro i M hi h hQ
    cases hsp : isSp (tp.getD i 0) with
    | false =>
      rw [k_here0 h hl hc (by omega) (fun _ => hsp)]
      exact hQ i M (by omega) (by omega) (fun j h1 h2 => by omega) (fun _ => hsp) rfl h RdN.rfl
    | true =>
      obtain ⟨h1, h2, h3, h4, h5, h6⟩ := id h
      have e1 : ¬ nI tp.length ≤ nI i := nI_ge (by omega) (by omega)
      have x1 : ixI M (m + 1) (nI i) := ixI_of h1.tape.2 (by omega) (by omega)
      have hh := h2 i (by omega)
      rw [Nat.zero_add] at hh
      have l1 := getD_lt256 hc i
      have c32 : (32 : Int32) = nI 32 := rfl
      have c10 : (10 : Int32) = nI 10 := rfl
      have step : wp F_Md_here 39 [.ref m] [] M Q := by
        simp only [B_Md_here_39, SS, h1.1, h4, true_and, nI_i1]
        rw [G_Md_here_49]
        obtain ⟨t1, t2⟩ := h.at_ (S := S) (j := i + 1)
        refine ih (i + 1) _ (by omega) t1 ?_
        intro i' M' g1 g2 g3 g4 g5 g6 g7
        refine hQ i' M' (by omega) g2 (fun j y1 y2 => ?_) g4 ?_ g6 (t2.trans g7)
        · by_cases z : j = i
          · rw [z]; exact hsp
          · exact g3 j (by omega) y2
        · rw [drop_getD (show i < tp.length by omega), hY _ _ _ hsp]; exact g5
      have or : tp.getD i 0 = 32 ∨ tp.getD i 0 = 10 := by
        unfold isSp at hsp
        simpa using hsp
      by_cases z : tp.getD i 0 = 32
      · simp only [B_Md_here_0, SS, h1.1, h1.tape.1, h3, h4, x1, cl_nI (show i < 2147483648 by omega), hh, z, c32, e1, if_false, if_true, true_and]
        exact step
      · have z2 : tp.getD i 0 = 10 := or.resolve_left z
        have m1 : ¬ nI 10 = nI 32 := by decide
        simp only [B_Md_here_0, SS, h1.1, h1.tape.1, h3, h4, x1, cl_nI (show i < 2147483648 by omega), hh, z2, c32, c10, m1, e1, if_false, if_true, true_and]
        exact step
theorem k_bad {i p k : Nat} (h : TX M m tp i 0 p) (hQ : ∀ M', TX M' m tp i k i → RdN S M M' m → Q none M') : wp F_Md_bad 0 [.ref m, .int (nI k)] [] M Q := by
  obtain ⟨h1, h2, h3, h4, h5, h6⟩ := h
  simp only [B_Md_bad_0, B_Md_bad_20, SS, h1.1, h4, h5, show nI 0 = 0 from rfl, if_true, true_and, show ¬ (3 : Nat) = 5 by omega, and_false, if_false]
  have F : FrS (fun b => b = m) M (sI (sI M m 5 (nI k)) m 6 (nI i)) := (FrS.sI (S := fun b => b = m) rfl).trans (FrS.sI rfl)
  have g : ∀ q, q ≠ 5 → q ≠ 6 → gI (sI (sI M m 5 (nI k)) m 6 (nI i)) m q = gI M m q := fun q a b => by rw [gI_sI, if_neg (by omega), gI_sI, if_neg (by omega)]
  refine hQ _ ⟨h1.fr F, h2.fr F (by omega), (g _ (by omega) (by omega)).trans h3, (g _ (by omega) (by omega)).trans h4, by simp [SS], by simp [SS]⟩ ⟨F.weaken (fun b q => Or.inl q), fun q _ b c => g q b c⟩
theorem k_isLt {i : Nat} (hc : ∀ c ∈ tp, c < 256) : wp F_Md_isLetter 0 [.int (hvI tp i)] [] M Q = Q (some (.int (bI (decide (i < tp.length) && isLt (tp.getD i 0))))) M := by
  unfold hvI isLt
  have c97 : (97 : Int32) = nI 97 := rfl
  have c122 : (122 : Int32) = nI 122 := rfl
  by_cases q : i < tp.length
  · have l1 := getD_lt256 hc i
    rw [if_pos q, decide_eq_true q, Bool.true_and]
    have a1 : nI (tp.getD i 0) < nI 97 ↔ tp.getD i 0 < 97 := nI_ltI (by omega) (by omega)
    have a2 : nI 122 < nI (tp.getD i 0) ↔ 122 < tp.getD i 0 := nI_ltI (by omega) (by omega)
    by_cases z1 : tp.getD i 0 < 97
    · have : ¬ (97 ≤ tp.getD i 0 ∧ tp.getD i 0 ≤ 122) := by omega
      simp only [B_Md_isLetter_0, B_Md_isLetter_16, B_Md_isLetter_17, c97, c122, if_pos (a1.mpr z1), decide_eq_false this, bI, Bool.false_eq_true, if_false, true_or, true_and]
    · by_cases z2 : 122 < tp.getD i 0
      · have : ¬ (97 ≤ tp.getD i 0 ∧ tp.getD i 0 ≤ 122) := by omega
        simp only [B_Md_isLetter_0, B_Md_isLetter_16, B_Md_isLetter_17, c97, c122, if_neg (fun z => z1 (a1.mp z)), if_pos (a2.mpr z2), decide_eq_false this, bI, Bool.false_eq_true, if_false, true_or, true_and]
      · have : 97 ≤ tp.getD i 0 ∧ tp.getD i 0 ≤ 122 := by omega
        simp only [B_Md_isLetter_0, B_Md_isLetter_17, c97, c122, if_neg (fun z => z1 (a1.mp z)), if_neg (fun z => z2 (a2.mp z)), decide_eq_true this, bI, if_true, or_true, true_and]
  · rw [if_neg q, decide_eq_false q, Bool.false_and]
    have : (-1 : Int32) < 97 := by decide
    simp only [B_Md_isLetter_0, B_Md_isLetter_16, B_Md_isLetter_17, this, if_true, bI, Bool.false_eq_true, if_false, true_or, true_and]
theorem wlet_ok {o : Option Nat} {mx n : Nat} {cur : List Nat} (h : wlet o mx cur = .inl n) : (o = none ∧ n = 2) ∨ (o ≠ none ∧ mx ≤ cur.length ∧ n = 3) := by
  cases o with
  | none => exact Or.inl ⟨rfl, (Sum.inl.inj h).symm⟩
  | some a =>
    unfold wlet at h
    simp only at h
    split at h
    · rename_i q; exact Or.inr ⟨by simp, q, (Sum.inl.inj h).symm⟩
    · cases h
/-- a word is read from place i0 on; what follows is told by X -/
theorem k_readWord {ρ : Type} {X : List Nat → Nat → List Nat → ρ} {err : Nat × Nat → ρ} {nm : Nm} {num dst off mx nd i0 : Nat}
    (hX1 : ∀ cur i c t, isSp c = true → X cur i (c :: t) = X cur (i + 1) t)
    (hX2 : ∀ cur i c t, isSp c = false → isLt c = true → X cur i (c :: t) = match wlet (nm (c - 97)) mx cur with | .inl n => err (n, i) | .inr cur' => X cur' (i + 1) t)
    (hl : tp.length ≤ 600) (hc : ∀ c ∈ tp, c < 256) (h : TX M m tp i0 0 0) (hnm : NmV M num nm) (hsn : sh M num = some (.inr (0, 26))) (hsd : sh M dst = some (.inr (0, nd))) (hnd : off + mx ≤ nd) (bnd : nd < 1073741824) (hne : num ≠ dst) (hdm : dst ≠ m) (hnu : num ≠ m) (hdt : dst ≠ m + 1) (hi0 : i0 ≤ tp.length) (nmb : ∀ j a, nm j = some a → a < 256)
    (hQ0 : ∀ n p i' M' (v : Int32), X [] i0 (tp.drop i0) = err (n, p) → 1 ≤ n → n ≤ 3 → p ≤ 600 → i' ≤ 600 → TX M' m tp i' n p → RdN (fun b => b = dst) M M' m → (∀ j, j < off ∨ off + mx ≤ j → gI M' dst j = gI M dst j) → Q (some (.int v)) M')
    (hQ1 : ∀ cur i' M', X [] i0 (tp.drop i0) = X cur i' (tp.drop i') → cur.length ≤ mx → i0 ≤ i' → i' ≤ tp.length → (i' < tp.length → isSp (tp.getD i' 0) = false ∧ isLt (tp.getD i' 0) = false) → (cur = [] → ∀ j, i0 ≤ j → j < i' → isSp (tp.getD j 0) = true) → TX M' m tp i' 0 0 → RdN (fun b => b = dst) M M' m → AR M' dst off cur → (∀ j, j < off ∨ off + mx ≤ j → gI M' dst j = gI M dst j) → Q (some (.int (nI cur.length))) M') : wp F_Md_readWord 0 [.ref m, .ref num, .int (nI mx), .ref dst, .int (nI off), jk, jk] [] M Q := by
  have i2 : (2 : Int32) = nI 2 := rfl
  have i3 : (3 : Int32) = nI 3 := rfl
  have c97 : (97 : Int32) = nI 97 := rfl
  have loop : ∀ d i cur M' (l6 : Value), i + d = tp.length → i0 ≤ i → X [] i0 (tp.drop i0) = X cur i (tp.drop i) → cur.length ≤ mx → (cur = [] → ∀ j, i0 ≤ j → j < i → isSp (tp.getD j 0) = true) → TX M' m tp i 0 0 → RdN (fun b => b = dst) M M' m → AR M' dst off cur → (∀ j, j < off ∨ off + mx ≤ j → gI M' dst j = gI M dst j) → wp F_Md_readWord 3 [.ref m, .ref num, .int (nI mx), .ref dst, .int (nI off), .int (nI cur.length), l6] [] M' Q := by
    intro d
    induction d using Nat.strongRecOn with
    | ind d ih =>
      intro i cur M' l6 hi h0i he hcl hsp T' F' A' O'
      simp only [B_Md_readWord_3, T'.1.1, T'.2.2.2.2.1, show nI 0 = 0 from rfl, if_true, if_false, ne_eq, not_true_eq_false, true_and]
      refine k_here (Y := X cur) (S := fun _ => False) (fun i c t => hX1 cur i c t) hl hc d i M' hi T' ?_
      intro i' M2 g1 g2 g3 g4 g5 T2 F2
      simp only [SS, List.cons_append, List.nil_append, B_Md_readWord_3]
      rw [k_isLt hc]
      simp only [SS, List.cons_append, List.nil_append, B_Md_readWord_3, bI_ne]
      have he2 := he.trans g5
      have FF := F'.trans (F2.weaken (T := fun b => b = dst) (fun b q => q.elim))
      have d2 : ∀ b, b ≠ m → ∀ j, gI M2 b j = gI M' b j := fun b hb j => F2.1.gI (fun q => q.elim hb id) j
      have A2 : AR M2 dst off cur := A'.eq (d2 _ hdm)
      have O2 : ∀ j, j < off ∨ off + mx ≤ j → gI M2 dst j = gI M dst j := fun j hj => (d2 _ hdm j).trans (O' j hj)
      have hsp2 : cur = [] → ∀ j, i0 ≤ j → j < i' → isSp (tp.getD j 0) = true := fun e j h1 h2 => by
        by_cases z : j < i
        · exact hsp e j h1 z
        · exact g3 j (by omega) h2
      cases hlt : (decide (i' < tp.length) && isLt (tp.getD i' 0)) with
      | false =>
        simp only [if_true, B_Md_readWord_84]
        refine hQ1 cur i' M2 he2 hcl (by omega) g2 (fun z => ⟨g4 z, ?_⟩) hsp2 T2 FF A2 O2
        rw [decide_eq_true z, Bool.true_and] at hlt
        exact hlt
      | true =>
        have hlt2 : i' < tp.length ∧ isLt (tp.getD i' 0) = true := by simpa using hlt
        obtain ⟨y1, y2⟩ := hlt2
        have y3 := y2
        unfold isLt at y3
        have y3 := of_decide_eq_true y3
        have g4 := g4 y1
        simp only [Bool.true_eq_false, if_false, B_Md_readWord_3, T2.1.1, true_and]
        rw [k_here0 T2 hl hc g2 (fun _ => g4)]
        have hv : hvI tp i' = nI (tp.getD i' 0) := if_pos y1
        have xn : ixI M2 num (nI (tp.getD i' 0 - 97)) := ixI_of ((FF.1.sh _).trans hsn) (by omega) (by omega)
        have gn : gI M2 num (tp.getD i' 0 - 97) = oI (nm (tp.getD i' 0 - 97)) := (FF.1.gI (fun q => q.elim hnu hne) _).trans (hnm _ (by omega))
        simp only [SS, List.cons_append, List.nil_append, B_Md_readWord_3, hv, c97, pk_sub (show 97 ≤ tp.getD i' 0 by omega), xn, cl_nI (show tp.getD i' 0 - 97 < 2147483648 by omega), gn, true_and]
        rw [drop_getD y1, hX2 _ _ _ _ g4 y2] at he2
        have out : ∀ n M3 (l6 : Value), wlet (nm (tp.getD i' 0 - 97)) mx cur = .inl n → 1 ≤ n → n ≤ 3 → TX M3 m tp i' n i' → RdN (fun _ => False) M2 M3 m → wp F_Md_readWord 81 [.ref m, .ref num, .int (nI mx), .ref dst, .int (nI off), .int (nI cur.length), l6] [] M3 Q := by
          intro n M3 l6 hw n1 n3 T3 F3
          rw [hw] at he2
          rw [G_Md_readWord_81]
          have ne0 : ¬ nI n = 0 := fun z => by
            have := (nI_eq (show n < 2 ^ 31 by omega) (show 0 < 2 ^ 31 by omega)).mp z
            omega
          simp only [B_Md_readWord_3, B_Md_readWord_84, T3.1.1, T3.2.2.2.2.1, ne0, if_false, if_true, not_false_eq_true, ne_eq, true_and]
          exact hQ0 n i' i' M3 _ he2 n1 n3 (by omega) (by omega) T3 (FF.trans (F3.weaken (T := fun b => b = dst) (fun b q => q.elim))) (fun j hj => (F3.1.gI (fun q => q.elim hdm id) j).trans (O2 j hj))
        cases hno : nm (tp.getD i' 0 - 97) with
        | none =>
          simp only [oI, if_true, if_false, B_Md_readWord_3, T2.1.1, true_and, i2, ne_eq, not_true_eq_false]
          refine k_bad (S := fun _ => False) T2 ?_
          intro M3 T3 F3
          simp only [SS, Option.toList_none, List.nil_append, B_Md_readWord_3]
          exact out 2 M3 _ (by rw [hno]; rfl) (by omega) (by omega) T3 F3
        | some a =>
          have ab := nmb _ _ hno
          rw [hno] at he2
          simp only [oI, nI_ne1 (show a < 2147483648 by omega), not_false_eq_true, ne_eq, if_true, if_false, B_Md_readWord_45, nI_eq (show cur.length < 2 ^ 31 by omega) (show mx < 2 ^ 31 by omega)]
          by_cases z : cur.length = mx
          · simp only [z, if_true, if_false, B_Md_readWord_45, T2.1.1, true_and, i3, not_true_eq_false]
            refine k_bad (S := fun _ => False) T2 ?_
            intro M3 T3 F3
            simp only [SS, Option.toList_none, List.nil_append, B_Md_readWord_45]
            have o := out 3 M3 (.int (nI a)) (by rw [hno]; exact if_pos (by omega)) (by omega) (by omega) T3 F3
            rw [z] at o
            exact o
          · simp only [z, if_true, if_false, not_false_eq_true]
            have xd : ixW M2 dst (nI (off + cur.length)) := ixW_of ((FF.1.sh _).trans hsd) (by omega) (by omega)
            have m3 : ¬ m = dst := fun q => hdm q.symm
            simp only [B_Md_readWord_59, SS, nI_add, xd, cl_nI (show off + cur.length < 2147483648 by omega), T2.1.1, T2.2.2.2.1, m3, false_and, if_false, true_and, nI_i1]
            rw [G_Md_readWord_81]
            have F3 : FrS (fun b => b = dst) M2 (sI M2 dst (off + cur.length) (nI a)) := FrS.sI rfl
            have T3 : TX (sI M2 dst (off + cur.length) (nI a)) m tp i' 0 0 := ⟨T2.1.fr F3, T2.2.1.fr F3 (fun q => hdt q.symm), (F3.gI m3 _).trans T2.2.2.1, (F3.gI m3 _).trans T2.2.2.2.1, (F3.gI m3 _).trans T2.2.2.2.2.1, (F3.gI m3 _).trans T2.2.2.2.2.2⟩
            have A3 : AR (sI M2 dst (off + cur.length) (nI a)) dst off (cur ++ [a]) := by
              refine AR.app (fun q hq => ?_) ?_
              · rw [gI_sI, if_neg (fun z => by omega)]; exact A2 q hq
              · rw [gI_sI, if_pos ⟨rfl, rfl⟩]
            have O3 : ∀ j, j < off ∨ off + mx ≤ j → gI (sI M2 dst (off + cur.length) (nI a)) dst j = gI M dst j := fun j hj => by
              rw [gI_sI, if_neg (fun z => by omega)]; exact O2 j hj
            have R3 : RdN (fun b => b = dst) M (sI M2 dst (off + cur.length) (nI a)) m := FF.trans ⟨F3.weaken (fun b q => Or.inr q), fun j _ _ _ => F3.gI m3 j⟩
            generalize sI M2 dst (off + cur.length) (nI a) = M3 at T3 A3 O3 R3
            obtain ⟨T4, R4⟩ := T3.at_ (S := fun b => b = dst) (j := i' + 1)
            have e5 : nI (cur.length + 1) = nI (cur ++ [a]).length := by simp
            rw [e5]
            refine ih (tp.length - (i' + 1)) (by omega) (i' + 1) (cur ++ [a]) _ _ (by omega) (by omega) ?_ (by simp; omega) (fun q => by simp at q) T4 (R3.trans R4) (A3.fr (S := fun b => b = m) (FrS.sI rfl) hdm) (fun j hj => by rw [gI_sI, if_neg (fun z => hdm z.1)]; exact O3 j hj)
            rw [he2]
            show (match (if mx ≤ cur.length then .inl 3 else .inr (cur ++ [a]) : Nat ⊕ List Nat) with | .inl n => err (n, i') | .inr cur' => X cur' (i' + 1) (tp.drop (i' + 1))) = _
            rw [if_neg (by omega)]
  simp only [B_Md_readWord_0, SS]
  exact loop (tp.length - i0) i0 [] M jk (by omega) (by omega) rfl (by simp) (fun _ j h1 h2 => by omega) h RdN.rfl AR.nil (fun _ _ => rfl)
end MC
