/-! ELEMENTS: how many, which, where -/
def CAP : Nat := 1000000000000001
def cp (a : Nat) : Nat := min a CAP
theorem cp_le (a : Nat) : cp a ≤ CAP := Nat.min_le_right _ _
theorem cp_add (a b : Nat) : cp (cp a + b) = cp (a + b) := by unfold cp; omega
theorem cp_add' (a b : Nat) : cp (a + cp b) = cp (a + b) := by unfold cp; omega
theorem cp_cp (a : Nat) : cp (cp a) = cp a := by unfold cp; omega
theorem cp_lt {a b : Nat} (h : a < CAP) : (a < cp b) ↔ a < b := by unfold cp; omega
theorem cp_sum : ∀ l : List Nat, cp ((l.map cp).sum) = cp l.sum := by
  intro l
  induction l with
  | nil => rfl
  | cons a l ih => rw [List.map_cons, List.sum_cons, List.sum_cons, cp_add, ← cp_add', ih, cp_add']
theorem cp_sum_le : ∀ (l : List Nat) (B : Nat), B < CAP → ((l.map cp).sum ≤ B ↔ l.sum ≤ B) ∧ (l.sum ≤ B → (l.map cp).sum = l.sum) := by
  intro l
  induction l with
  | nil => intro B _; simp
  | cons a l ih =>
    intro B hB
    rw [List.map_cons, List.sum_cons, List.sum_cons]
    obtain ⟨h1, h2⟩ := ih B hB
    have h3 : (l.map cp).sum ≤ l.sum := by
      clear ih h1 h2
      induction l with
      | nil => simp
      | cons a l ih => rw [List.map_cons, List.sum_cons, List.sum_cons]; have : cp a ≤ a := Nat.min_le_left _ _; omega
    have h4 : cp a ≤ a := Nat.min_le_left _ _
    have h5 : a < CAP → cp a = a := fun z => by unfold cp; omega
    have h6 : CAP ≤ a → cp a = CAP := fun z => by unfold cp; omega
    constructor
    · constructor
      · intro z
        have z1 := h1.mp (by omega)
        have z2 := h2 z1
        rcases Nat.lt_or_ge a CAP with y | y
        · rw [h5 y] at z; omega
        · rw [h6 y] at z; omega
      · intro z; omega
    · intro z
      rw [h2 (by omega), h5 (by omega)]
theorem sum_cp_le : ∀ l : List Nat, (l.map cp).sum ≤ CAP * l.length := by
  intro l
  induction l with
  | nil => simp
  | cons a l ih =>
    rw [List.map_cons, List.sum_cons, List.length_cons, Nat.mul_add]
    have := cp_le a
    omega
def wy (rs : List Ru) (k : Nat) : Nat → List Nat → Nat
  | 0, s => if (endAt rs s).isSome = true then 0 else 1
  | m + 1, s => if (endAt rs s).isSome = true then 0 else ((List.range k).map (fun c => wy rs k m (lsuf rs (s ++ [c])))).sum
section EL
variable {rs : List Ru} {k : Nat}
theorem wy_bad {m : Nat} {s : List Nat} (h : (endAt rs s).isSome = true) : wy rs k m s = 0 := by cases m <;> simp [wy, h]
theorem wy_mono0 : ∀ (m : Nat) (s : List Nat), wy rs k m s = 0 → wy rs k (m + 1) s = 0 := by
  intro m
  induction m with
  | zero =>
    intro s h
    cases hn : (endAt rs s).isSome with
    | true => exact wy_bad hn
    | false => simp [wy, hn] at h
  | succ m ih =>
    intro s h
    cases hn : (endAt rs s).isSome with
    | true => exact wy_bad hn
    | false =>
      rw [wy, if_neg (by rw [hn]; simp)] at h ⊢
      exact sum_zero' (fun a ha => ih _ (sum_zero h a ha))
theorem wy_zero_le {m m' : Nat} {s : List Nat} (h : wy rs k m s = 0) (hm : m ≤ m') : wy rs k m' s = 0 := by
  induction m' with
  | zero => rw [show m = 0 by omega] at h; exact h
  | succ m' ih =>
    by_cases e : m = m' + 1
    · rw [← e]; exact h
    · exact wy_mono0 _ _ (ih (by omega))
/-- how many there are up to a length -/
def lenS (rs : List Ru) (k n : Nat) : Nat := ((List.range n).map (fun m => wy rs k m [])).sum
theorem lenS_succ (n : Nat) : lenS rs k (n + 1) = lenS rs k n + wy rs k n [] := by
  unfold lenS
  rw [List.range_succ, List.map_append, List.sum_append]
  simp
theorem lenS_mono {m n : Nat} (h : m ≤ n) : lenS rs k m ≤ lenS rs k n := by
  induction n with
  | zero => rw [show m = 0 by omega]; exact Nat.le_refl _
  | succ n ih =>
    by_cases e : m = n + 1
    · rw [e]; exact Nat.le_refl _
    · rw [lenS_succ]; have := ih (by omega); omega
theorem lenS_stop {m n : Nat} (h : wy rs k m [] = 0) (hn : m ≤ n) : lenS rs k n = lenS rs k m := by
  induction n with
  | zero => rw [show m = 0 by omega]
  | succ n ih =>
    by_cases e : m = n + 1
    · rw [e]
    · rw [lenS_succ, ih (by omega), wy_zero_le h (show m ≤ n by omega)]; omega
noncomputable def tot (rs : List Ru) (k : Nat) : Option Nat := @dite (Option Nat) (∃ m, wy rs k m [] = 0) (Classical.propDecidable _) (fun h => some (lenS rs k (Classical.choose h))) (fun _ => none)
theorem tot_some {m : Nat} (h : wy rs k m [] = 0) : tot rs k = some (lenS rs k m) := by
  have hx : ∃ m, wy rs k m [] = 0 := ⟨m, h⟩
  unfold tot
  rw [dif_pos hx]
  have h2 := Classical.choose_spec hx
  generalize Classical.choose hx = m2 at h2
  congr 1
  rcases Nat.le_total m m2 with z | z
  · exact lenS_stop h z
  · exact (lenS_stop h2 z).symm
theorem tot_none (h : ∀ m, 0 < wy rs k m []) : tot rs k = none := by
  unfold tot
  rw [dif_neg (fun ⟨m, z⟩ => by have := h m; omega)]
theorem tot_cases : (∃ m, wy rs k m [] = 0 ∧ tot rs k = some (lenS rs k m)) ∨ ((∀ m, 0 < wy rs k m []) ∧ tot rs k = none) := by
  cases Classical.em (∃ m, wy rs k m [] = 0) with
  | inl h =>
    obtain ⟨m, hm⟩ := h
    exact Or.inl ⟨m, hm, tot_some hm⟩
  | inr h =>
    have h2 : ∀ m, 0 < wy rs k m [] := fun m => by
      rcases Nat.eq_zero_or_pos (wy rs k m []) with z | z
      · exact absurd ⟨m, z⟩ h
      · exact z
    exact Or.inr ⟨h2, tot_none h2⟩
/-- the next letter -/
def pickL (rs : List Ru) (k m : Nat) (s : List Nat) : Nat → Nat → Nat → Nat × Nat
  | 0, c, a => (c, a)
  | n + 1, c, a => if a < wy rs k m (lsuf rs (s ++ [c])) then (c, a) else pickL rs k m s n (c + 1) (a - wy rs k m (lsuf rs (s ++ [c])))
def spw (rs : List Ru) (k : Nat) : Nat → List Nat → Nat → List Nat
  | 0, _, _ => []
  | m + 1, s, a => (pickL rs k m s (k - 1) 0 a).1 :: spw rs k m (lsuf rs (s ++ [(pickL rs k m s (k - 1) 0 a).1])) (pickL rs k m s (k - 1) 0 a).2
def elS (rs : List Ru) (k : Nat) : Nat → Nat → Nat → Option (Option (List Nat))
  | 0, _, _ => some none
  | f + 1, n, a => if wy rs k n [] = 0 then none else if a < wy rs k n [] then some (some (spw rs k n [] a)) else elS rs k f (n + 1) (a - wy rs k n [])
/-- ELEMENT i: there is none; it is too long; it -/
noncomputable def elt (rs : List Ru) (k i : Nat) : Option (Option (List Nat)) := match elS rs k 81 0 i with
  | some none => (match tot rs k with
    | some v => if v ≤ i then none else some none
    | none => some none)
  | r => r
def rkL (rs : List Ru) (k : Nat) : List Nat → List Nat → List Nat
  | _, [] => []
  | s, c :: t => (List.range c).map (fun d => wy rs k t.length (lsuf rs (s ++ [d]))) ++ rkL rs k (lsuf rs (s ++ [c])) t
def rkT (rs : List Ru) (k : Nat) (w : List Nat) : List Nat := (List.range w.length).map (fun m => wy rs k m []) ++ rkL rs k [] w
/-- a word's number, if it is not too great -/
def nmb (rs : List Ru) (k : Nat) (w : List Nat) : Option Nat := if (rkT rs k w).sum ≤ 2147483647 then some (rkT rs k w).sum else none
def irr (rs : List Ru) (k : Nat) : List Nat → List Nat → Prop
  | s, [] => endAt rs s = none
  | s, c :: t => endAt rs s = none ∧ c < k ∧ irr rs k (lsuf rs (s ++ [c])) t
theorem sum_range_lt {f : Nat → Nat} {c k : Nat} (h : c < k) : ((List.range c).map f).sum + f c ≤ ((List.range k).map f).sum := by
  induction k with
  | zero => omega
  | succ k ih =>
    rw [List.range_succ, List.map_append, List.sum_append]
    by_cases e : c = k
    · subst e; simp
    · have := ih (by omega); simp; omega
theorem rk_lt : ∀ (w s : List Nat), irr rs k s w → (rkL rs k s w).sum < wy rs k w.length s := by
  intro w
  induction w with
  | nil => intro s h; have h : endAt rs s = none := h; simp [rkL, wy, h]
  | cons c t ih =>
    intro s ⟨h1, h2, h3⟩
    rw [rkL, List.sum_append, List.length_cons, wy, if_neg (by rw [h1]; simp)]
    have := ih _ h3
    have := sum_range_lt (f := fun d => wy rs k t.length (lsuf rs (s ++ [d]))) h2
    omega
theorem pick_ok {m : Nat} {s : List Nat} {c r : Nat} (hr : r < wy rs k m (lsuf rs (s ++ [c]))) : ∀ (d c0 n : Nat), c0 + d = c → d ≤ n → pickL rs k m s n c0 (((List.range' c0 d).map (fun e => wy rs k m (lsuf rs (s ++ [e])))).sum + r) = (c, r) ∨ (n = d ∧ pickL rs k m s n c0 (((List.range' c0 d).map (fun e => wy rs k m (lsuf rs (s ++ [e])))).sum + r) = (c, r)) := by
  intro d
  induction d with
  | zero =>
    intro c0 n h1 h2
    have e : c0 = c := by omega
    subst e
    left
    cases n with
    | zero => simp [pickL]
    | succ n => simp [pickL, hr]
  | succ d ih =>
    intro c0 n h1 h2
    cases n with
    | zero => omega
    | succ n =>
      left
      rw [List.range'_succ, List.map_cons, List.sum_cons, pickL, if_neg (by omega)]
      have e : wy rs k m (lsuf rs (s ++ [c0])) + ((List.range' (c0 + 1) d).map (fun e => wy rs k m (lsuf rs (s ++ [e])))).sum + r - wy rs k m (lsuf rs (s ++ [c0])) = ((List.range' (c0 + 1) d).map (fun e => wy rs k m (lsuf rs (s ++ [e])))).sum + r := by omega
      rw [e]
      rcases ih (c0 + 1) n (by omega) (by omega) with z | z
      · exact z
      · exact z.2
theorem pick_eq {m : Nat} {s : List Nat} {c r : Nat} (hr : r < wy rs k m (lsuf rs (s ++ [c]))) (hc : c < k) : pickL rs k m s (k - 1) 0 (((List.range c).map (fun e => wy rs k m (lsuf rs (s ++ [e])))).sum + r) = (c, r) := by
  rw [List.range_eq_range']
  rcases pick_ok hr c 0 (k - 1) (by omega) (by omega) with z | z
  · exact z
  · exact z.2
theorem spw_rk : ∀ (w s : List Nat), irr rs k s w → spw rs k w.length s (rkL rs k s w).sum = w := by
  intro w
  induction w with
  | nil => intro s _; rfl
  | cons c t ih =>
    intro s ⟨h1, h2, h3⟩
    rw [rkL, List.sum_append, List.length_cons, spw, pick_eq (rk_lt _ _ h3) h2]
    simp only
    rw [ih _ h3]
theorem elS_at {L r : Nat} (hr : r < wy rs k L []) : ∀ (d n f : Nat), n + d = L → d < f → elS rs k f n (((List.range' n d).map (fun m => wy rs k m [])).sum + r) = some (some (spw rs k L [] r)) := by
  intro d
  induction d with
  | zero =>
    intro n f h1 h2
    have e : n = L := by omega
    subst e
    cases f with
    | zero => omega
    | succ f => simp [elS, hr, show ¬ wy rs k n [] = 0 by omega]
  | succ d ih =>
    intro n f h1 h2
    cases f with
    | zero => omega
    | succ f =>
      have hn : ¬ wy rs k n [] = 0 := fun z => by have := wy_zero_le z (show n ≤ L by omega); omega
      rw [List.range'_succ, List.map_cons, List.sum_cons, elS, if_neg hn, if_neg (by omega)]
      have e : wy rs k n [] + ((List.range' (n + 1) d).map (fun m => wy rs k m [])).sum + r - wy rs k n [] = ((List.range' (n + 1) d).map (fun m => wy rs k m [])).sum + r := by omega
      rw [e]
      exact ih (n + 1) f (by omega) (by omega)
theorem elS_rk {w : List Nat} (h : irr rs k [] w) (hl : w.length ≤ 80) : elS rs k 81 0 (rkT rs k w).sum = some (some w) := by
  have := elS_at (rk_lt w [] h) w.length 0 81 (by omega) (by omega)
  rw [spw_rk w [] h, ← List.range_eq_range'] at this
  rw [rkT, List.sum_append]
  exact this
/-- scanning in short -/
theorem elS_cases (i : Nat) : ∀ (f n : Nat), lenS rs k n ≤ i → (elS rs k f n (i - lenS rs k n) = none ∧ ∃ v, tot rs k = some v ∧ v ≤ i) ∨ (∃ L, n ≤ L ∧ L < n + f ∧ lenS rs k L ≤ i ∧ i - lenS rs k L < wy rs k L [] ∧ elS rs k f n (i - lenS rs k n) = some (some (spw rs k L [] (i - lenS rs k L))) ∧ ∀ v, tot rs k = some v → i < v) ∨ (elS rs k f n (i - lenS rs k n) = some none ∧ lenS rs k (n + f) ≤ i) := by
  intro f
  induction f with
  | zero => intro n hn; right; right; exact ⟨rfl, hn⟩
  | succ f ih =>
    intro n hn
    by_cases z : wy rs k n [] = 0
    · left
      refine ⟨by rw [elS, if_pos z], _, tot_some z, hn⟩
    · by_cases y : i - lenS rs k n < wy rs k n []
      · right; left
        refine ⟨n, Nat.le_refl _, by omega, hn, y, by rw [elS, if_neg z, if_pos y], fun v hv => ?_⟩
        rcases tot_cases (rs := rs) (k := k) with ⟨m, h1, h2⟩ | ⟨h1, h2⟩
        · rw [h2] at hv
          cases hv
          have hm : n < m := by
            rcases Nat.lt_or_ge n m with u | u
            · exact u
            · exact absurd (wy_zero_le h1 u) z
          have := lenS_mono (rs := rs) (k := k) (show n + 1 ≤ m by omega)
          rw [lenS_succ] at this
          omega
        · rw [h2] at hv; cases hv
      · have hn2 : lenS rs k (n + 1) ≤ i := by rw [lenS_succ]; omega
        have e : elS rs k (f + 1) n (i - lenS rs k n) = elS rs k f (n + 1) (i - lenS rs k (n + 1)) := by
          rw [elS, if_neg z, if_neg y, lenS_succ]
          congr 1
          omega
        rw [e]
        rcases ih (n + 1) hn2 with u | ⟨L, h1, h2, h3⟩ | u
        · exact Or.inl u
        · exact Or.inr (Or.inl ⟨L, by omega, by omega, h3⟩)
        · refine Or.inr (Or.inr ⟨u.1, ?_⟩)
          rw [show n + (f + 1) = n + 1 + f by omega]
          exact u.2
theorem elt_none {i : Nat} : elt rs k i = none ↔ ∃ v, tot rs k = some v ∧ v ≤ i := by
  have h0 : lenS rs k 0 = 0 := rfl
  have := elS_cases (rs := rs) (k := k) i 81 0 (by omega)
  rw [h0, Nat.sub_zero] at this
  unfold elt
  rcases this with ⟨h1, h2⟩ | ⟨L, -, -, -, -, h1, h2⟩ | ⟨h1, -⟩
  · rw [h1]; simp only [true_iff]; exact h2
  · rw [h1]
    simp only [reduceCtorEq, false_iff]
    rintro ⟨v, hv, hv2⟩
    have := h2 v hv
    omega
  · rw [h1]
    simp only
    cases ht : tot rs k with
    | none => simp
    | some v =>
      simp only [Option.some.injEq, exists_eq_left']
      split <;> simp_all
/-- a word that went through its nodes -/
theorem irr_of {d : List Nat} : ∀ (w d : List Nat), (∀ j, j ≤ w.length → endAt rs (d ++ w.take j) = none) → (∀ c ∈ w, c < k) → irr rs k (lsuf rs d) w := by
  intro w
  induction w with
  | nil =>
    intro d h _
    have := h 0 (by simp)
    rw [List.take_nil, List.append_nil, endAt_lsuf] at this
    exact this
  | cons c t ih =>
    intro d h hk
    have h0 := h 0 (by simp)
    rw [List.take_zero, List.append_nil, endAt_lsuf] at h0
    refine ⟨h0, hk c List.mem_cons_self, ?_⟩
    rw [← lsuf_snoc]
    refine ih (d ++ [c]) (fun j hj => ?_) (fun e he => hk e (List.mem_cons_of_mem _ he))
    have := h (j + 1) (by simp; omega)
    rw [List.take_succ_cons] at this
    rw [List.append_assoc]
    exact this
theorem red_irr : ∀ (n : Nat) (d t : List Nat) (tr : List (Nat × Nat)) (w : List Nat) (tr' : List (Nat × Nat)), red rs n d t tr = some (some (w, tr')) → (∀ j, j ≤ d.length → endAt rs (d.take j) = none) → ∀ j, j ≤ w.length → endAt rs (w.take j) = none := by
  intro n
  induction n with
  | zero =>
    intro d t tr w tr' h hd
    cases t with
    | nil => cases h; exact hd
    | cons c t => cases h
  | succ n ih =>
    intro d t tr w tr' h hd
    cases t with
    | nil => cases h; exact hd
    | cons c t =>
      rw [red] at h
      cases he : endAt rs (d ++ [c]) with
      | none =>
        rw [he] at h
        refine ih _ _ _ _ _ h (fun j hj => ?_)
        simp only [List.length_append, List.length_cons, List.length_nil] at hj
        by_cases z : j ≤ d.length
        · rw [List.take_append_of_le_length z]; exact hd j z
        · rw [List.take_of_length_le (by simp; omega)]; exact he
      | some r =>
        rw [he] at h
        simp only at h
        split at h
        · cases h
        · obtain ⟨h1, h2, h3⟩ := endAt_some he
          have hne : (d ++ [c]).length - (rs.getD r dR).1.length ≤ d.length ∨ (rs.getD r dR).1 = [] := by
            cases hl : (rs.getD r dR).1 with
            | nil => exact Or.inr rfl
            | cons a b => left; simp
          refine ih _ _ _ _ _ h (fun j hj => ?_)
          rw [List.length_take] at hj
          rw [List.take_take]
          rcases hne with z | z
          · simp only [List.length_append, List.length_cons, List.length_nil] at z hj
            rw [List.take_append_of_le_length (by omega)]
            exact hd _ (by omega)
          · have := hd 0 (by omega)
            rw [List.take_zero] at this
            -- an empty LEFT would end the empty word
            exfalso
            have h5 : endAt rs [] ≠ none := by
              unfold endAt
              intro q
              have := List.findIdx?_eq_none_iff.mp q (rs.getD r dR) (getD_mem h1)
              rw [h2, z] at this
              simp at this
            exact h5 this
theorem form_irr {l w : List Nat} {tr : List (Nat × Nat)} (hw : RWf rs k) (hl : l.length ≤ 120) (h : form rs l = some (w, tr)) (hk : ∀ c ∈ w, c < k) : irr rs k [] w := by
  have h1 := form_red hw hl
  rw [h] at h1
  have h0 : endAt rs [] = none := endAt_nil (fun u hu _ => (hw.1 u hu).1)
  have := red_irr _ _ _ _ _ _ h1 (fun j _ => by rw [List.take_nil]; exact h0)
  have := irr_of (rs := rs) (k := k) (d := []) w [] (fun j hj => by rw [List.nil_append]; exact this j hj) hk
  exact this
end EL
