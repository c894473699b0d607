/-! which LEFT ends where: beginnings of LIVE LEFTS, the longest of them that ends what was read -/
def pf (rs : List Ru) (s : List Nat) : Bool := s.isEmpty || rs.any (fun u => u.2.2 && s.isPrefixOf u.1)
def lsuf (rs : List Ru) : List Nat → List Nat
  | [] => []
  | a :: t => if pf rs (a :: t) then a :: t else lsuf rs t
def endAt (rs : List Ru) (d : List Nat) : Option Nat := rs.findIdx? (fun u => u.2.2 && u.1.isSuffixOf d)
def exAt (rs : List Ru) (s : List Nat) : Option Nat := rs.findIdx? (fun u => u.2.2 && u.1 == s)
def omin : Option Nat → Option Nat → Option Nat
  | none, b => b
  | some a, none => some a
  | some a, some b => some (min a b)
def oI : Option Nat → Int32
  | none => -1
  | some a => nI a
theorem pf_nil (rs : List Ru) : pf rs [] = true := rfl
theorem pf_iff {rs : List Ru} {s : List Nat} (hs : s ≠ []) : pf rs s = true ↔ ∃ u ∈ rs, u.2.2 = true ∧ s <+: u.1 := by
  unfold pf
  rw [Bool.or_eq_true, List.any_eq_true]
  simp only [List.isEmpty_iff, hs, false_or, Bool.and_eq_true, List.isPrefixOf_iff_prefix]
theorem pf_pre {rs : List Ru} {s t : List Nat} (h : pf rs (s ++ t) = true) : pf rs s = true := by
  by_cases hs : s = []
  · rw [hs]; rfl
  · have h2 : s ++ t ≠ [] := fun e => hs (List.append_eq_nil_iff.mp e).1
    obtain ⟨u, hu, hl, hp⟩ := (pf_iff h2).mp h
    exact (pf_iff hs).mpr ⟨u, hu, hl, (List.prefix_append s t).trans hp⟩
theorem lsuf_pf (rs : List Ru) : ∀ t, pf rs (lsuf rs t) = true
  | [] => rfl
  | a :: t => by
    unfold lsuf
    split
    · assumption
    · exact lsuf_pf rs t
theorem lsuf_suf (rs : List Ru) : ∀ t, lsuf rs t <:+ t
  | [] => List.suffix_refl _
  | a :: t => by
    unfold lsuf
    split
    · exact List.suffix_refl _
    · exact (lsuf_suf rs t).trans (List.suffix_cons a t)
theorem lsuf_max {rs : List Ru} {s : List Nat} (hs : pf rs s = true) : ∀ t, s <:+ t → s <:+ lsuf rs t
  | [], h => h
  | a :: t, h => by
    unfold lsuf
    split
    · exact h
    · rename_i hn
      rcases List.suffix_cons_iff.mp h with e | e
      · rw [e] at hs; exact absurd hs hn
      · exact lsuf_max hs t e
theorem lsuf_self {rs : List Ru} {t : List Nat} (h : pf rs t = true) : lsuf rs t = t := by
  cases t with
  | nil => rfl
  | cons a t => unfold lsuf; rw [if_pos h]
theorem suf_anti {s t : List Nat} (h1 : s <:+ t) (h2 : t <:+ s) : s = t := h1.eq_of_length (Nat.le_antisymm h1.length_le h2.length_le)
theorem suf_snoc {s t : List Nat} {c : Nat} (h : s <:+ t) : s ++ [c] <:+ t ++ [c] := by
  obtain ⟨p, rfl⟩ := h
  exact ⟨p, by rw [List.append_assoc]⟩
theorem suf_snoc' {s t : List Nat} {c : Nat} (h : s <:+ t ++ [c]) (hs : s ≠ []) : ∃ s', s = s' ++ [c] ∧ s' <:+ t := by
  obtain ⟨p, e⟩ := h
  rcases List.eq_nil_or_concat s with rfl | ⟨s', d, rfl⟩
  · exact absurd rfl hs
  · rw [List.concat_eq_append, ← List.append_assoc] at e
    obtain ⟨e1, e2⟩ := List.append_inj' e rfl
    cases e2
    exact ⟨s', by rw [List.concat_eq_append], ⟨p, e1⟩⟩
theorem lsuf_snoc (rs : List Ru) (t : List Nat) (c : Nat) : lsuf rs (t ++ [c]) = lsuf rs (lsuf rs t ++ [c]) := by
  refine suf_anti ?_ ?_
  · by_cases e : lsuf rs (t ++ [c]) = []
    · rw [e]; exact List.nil_suffix
    · obtain ⟨s', es, hs⟩ := suf_snoc' (lsuf_suf rs (t ++ [c])) e
      have hp : pf rs (s' ++ [c]) = true := by rw [← es]; exact lsuf_pf rs _
      rw [es]
      exact lsuf_max hp _ (suf_snoc (lsuf_max (pf_pre hp) t hs))
  · exact lsuf_max (lsuf_pf rs _) _ ((lsuf_suf rs _).trans (suf_snoc (lsuf_suf rs t)))
theorem findIdx_congr {rs : List Ru} {p q : Ru → Bool} (h : ∀ u ∈ rs, p u = q u) : rs.findIdx? p = rs.findIdx? q := by
  induction rs with
  | nil => rfl
  | cons a l ih =>
    rw [List.findIdx?_cons, List.findIdx?_cons, h a List.mem_cons_self, ih (fun u hu => h u (List.mem_cons_of_mem _ hu))]
theorem findIdx_or {rs : List Ru} {p q : Ru → Bool} : rs.findIdx? (fun u => p u || q u) = omin (rs.findIdx? p) (rs.findIdx? q) := by
  induction rs with
  | nil => rfl
  | cons a l ih =>
    rw [List.findIdx?_cons, List.findIdx?_cons, List.findIdx?_cons, ih]
    cases p a <;> cases q a <;> cases l.findIdx? p <;> cases l.findIdx? q <;> simp [omin] <;> omega
theorem endAt_lsuf (rs : List Ru) (d : List Nat) : endAt rs d = endAt rs (lsuf rs d) := by
  refine findIdx_congr (fun u hu => ?_)
  cases hl : u.2.2 with
  | false => rfl
  | true =>
    rw [Bool.true_and, Bool.true_and, Bool.eq_iff_iff, List.isSuffixOf_iff_suffix, List.isSuffixOf_iff_suffix]
    constructor
    · intro h
      have hp : pf rs u.1 = true := by
        by_cases e : u.1 = []
        · rw [e]; rfl
        · exact (pf_iff e).mpr ⟨u, hu, hl, List.prefix_refl _⟩
      exact lsuf_max hp d h
    · intro h
      exact h.trans (lsuf_suf rs d)
theorem endAt_cons (rs : List Ru) (a : Nat) (t : List Nat) : endAt rs (a :: t) = omin (exAt rs (a :: t)) (endAt rs (lsuf rs t)) := by
  rw [← endAt_lsuf]
  unfold endAt exAt
  rw [← findIdx_or]
  refine findIdx_congr (fun u _ => ?_)
  rw [← Bool.and_or_distrib_left]
  congr 1
  rw [Bool.eq_iff_iff, Bool.or_eq_true, List.isSuffixOf_iff_suffix, List.isSuffixOf_iff_suffix, List.suffix_cons_iff, beq_iff_eq]
theorem endAt_nil {rs : List Ru} (h : ∀ u ∈ rs, u.2.2 = true → u.1 ≠ []) : endAt rs [] = none := by
  unfold endAt
  rw [List.findIdx?_eq_none_iff]
  intro u hu
  cases hl : u.2.2 with
  | false => rfl
  | true =>
    rw [Bool.true_and]
    cases e : u.1 with
    | nil => exact absurd e (h u hu hl)
    | cons b l =>
      rw [← Bool.not_eq_true, List.isSuffixOf_iff_suffix, List.suffix_nil]
      simp
theorem endAt_some {rs : List Ru} {d : List Nat} {i : Nat} (h : endAt rs d = some i) : i < rs.length ∧ (rs.getD i dR).2.2 = true ∧ (rs.getD i dR).1 <:+ d := by
  obtain ⟨hi, hp, -⟩ := List.findIdx?_eq_some_iff_getElem.mp h
  rw [Bool.and_eq_true, List.isSuffixOf_iff_suffix] at hp
  rw [List.getD_eq_getElem?_getD, List.getElem?_eq_getElem hi]
  exact ⟨hi, hp⟩
theorem exAt_pf {rs : List Ru} {s : List Nat} {i : Nat} (h : exAt rs s = some i) : pf rs s = true := by
  obtain ⟨hi, hp, -⟩ := List.findIdx?_eq_some_iff_getElem.mp h
  rw [Bool.and_eq_true, beq_iff_eq] at hp
  by_cases e : s = []
  · rw [e]; rfl
  · exact (pf_iff e).mpr ⟨_, List.getElem_mem hi, hp.1, by rw [hp.2]; exact List.prefix_refl _⟩
