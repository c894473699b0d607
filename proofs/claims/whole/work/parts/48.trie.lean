/-! the trie of LIVE LEFTS: N nodes with their words, what goes on from each -/
def Trie (N : Nat) (str : Nat → List Nat) (nx : Nat → Nat → Option Nat) : Prop := 1 ≤ N ∧ str 0 = [] ∧ (∀ n c m, n < N → nx n c = some m → m < N ∧ str m = str n ++ [c]) ∧ (∀ n, n < N → n ≠ 0 → ∃ p c, p < N ∧ nx p c = some n) ∧ ∀ n m, n < N → m < N → str n = str m → n = m
theorem Trie.nx_of {N : Nat} {str : Nat → List Nat} {nx : Nat → Nat → Option Nat} (h : Trie N str nx) {n m c : Nat} (hn : n < N) (hm : m < N) (e : str m = str n ++ [c]) : nx n c = some m := by
  have hm0 : m ≠ 0 := fun q => by rw [q, h.2.1] at e; simp at e
  obtain ⟨p, c', hp, hpc⟩ := h.2.2.2.1 m hm hm0
  have e2 := (h.2.2.1 p c' m hp hpc).2
  rw [e] at e2
  obtain ⟨e3, e4⟩ := List.append_inj' e2 rfl
  cases e4
  rw [h.2.2.2.2 n p hn hp e3]
  exact hpc
def upd2 {α : Type} (f : Nat → Nat → α) (a b : Nat) (v : α) : Nat → Nat → α := fun x y => if x = a ∧ y = b then v else f x y
def upd1 {α : Type} (f : Nat → α) (a : Nat) (v : α) : Nat → α := fun x => if x = a then v else f x
/-- a new node for a letter that doesn't go on yet -/
theorem Trie.add {N : Nat} {str : Nat → List Nat} {nx : Nat → Nat → Option Nat} (h : Trie N str nx) {n c : Nat} (hn : n < N) (e : nx n c = none) (hN : ∀ c, nx N c = none) : Trie (N + 1) (upd1 str N (str n ++ [c])) (upd2 nx n c (some N)) := by
  have s1 : ∀ m, m < N → upd1 str N (str n ++ [c]) m = str m := fun m hm => by unfold upd1; rw [if_neg (by omega)]
  have s2 : upd1 str N (str n ++ [c]) N = str n ++ [c] := by unfold upd1; rw [if_pos rfl]
  refine ⟨by omega, ?_, fun a d m ha hm => ?_, fun a ha h0 => ?_, fun a b ha hb hab => ?_⟩
  · rw [s1 0 (by have := h.1; omega)]; exact h.2.1
  · unfold upd2 at hm
    by_cases q : a = n ∧ d = c
    · rw [if_pos q] at hm
      cases hm
      obtain ⟨rfl, rfl⟩ := q
      exact ⟨by omega, by rw [s2, s1 _ hn]⟩
    · rw [if_neg q] at hm
      by_cases q2 : a = N
      · rw [q2, hN] at hm; cases hm
      · obtain ⟨r1, r2⟩ := h.2.2.1 a d m (by omega) hm
        exact ⟨by omega, by rw [s1 _ r1, s1 _ (by omega)]; exact r2⟩
  · by_cases q : a = N
    · exact ⟨n, c, by omega, by unfold upd2; rw [if_pos ⟨rfl, rfl⟩, q]⟩
    · obtain ⟨p, d, hp, hpd⟩ := h.2.2.2.1 a (by omega) h0
      refine ⟨p, d, by omega, ?_⟩
      unfold upd2
      rw [if_neg (fun z => by rw [z.1, z.2, e] at hpd; cases hpd)]
      exact hpd
  · have key : ∀ a, a < N → str a ≠ str n ++ [c] := fun a ha q => by
      have := h.nx_of hn ha q
      rw [e] at this; cases this
    by_cases qa : a = N
    · by_cases qb : b = N
      · omega
      · rw [qa, s2, s1 b (by omega)] at hab
        exact absurd hab.symm (key b (by omega))
    · by_cases qb : b = N
      · rw [qb, s2, s1 a (by omega)] at hab
        exact absurd hab (key a (by omega))
      · rw [s1 a (by omega), s1 b (by omega)] at hab
        exact h.2.2.2.2 a b (by omega) (by omega) hab
/-- the rows in the store hold it: node n's letter c at 8 n + c -/
def TrM (M : Mm) (A N : Nat) (nx : Nat → Nat → Option Nat) (w : Nat) : Prop := (∀ n c, n < w → c < 8 → gI M A (8 * n + c) = oI (nx n c)) ∧ (∀ n c, N ≤ n → nx n c = none) ∧ ∀ n c, 8 ≤ c → nx n c = none
theorem oI_lt {o : Option Nat} (h : ∀ a, o = some a → a < 2147483648) : oI o < 0 ↔ o = none := by
  cases o with
  | none => exact ⟨fun _ => rfl, fun _ => by decide⟩
  | some a =>
    have := nI_pos (h a rfl)
    exact ⟨fun q => absurd q this, fun q => by cases q⟩
theorem oI_ge {o : Option Nat} (h : ∀ a, o = some a → a < 2147483648) : 0 ≤ oI o ↔ o ≠ none := by
  cases o with
  | none => exact ⟨fun q => absurd q (by decide), fun q => absurd rfl q⟩
  | some a => exact ⟨fun _ q => (by cases q), fun _ => nI_pos' (h a rfl)⟩
theorem k_leastRule {M : Mm} {a b : Option Nat} {Q : Option Value → Mm → Prop} (ha : ∀ i, a = some i → i < 2147483648) (hb : ∀ i, b = some i → i < 2147483648) : wp F_Machine_leastRule 0 [.int (oI a), .int (oI b)] [] M Q = Q (some (.int (oI (omin a b)))) M := by
  simp only [B_Machine_leastRule_0, B_Machine_leastRule_6, B_Machine_leastRule_15, B_Machine_leastRule_19, B_Machine_leastRule_20, oI_ge ha, oI_lt hb]
  cases a with
  | none => simp [omin]
  | some i =>
    cases b with
    | none => simp [omin]
    | some j =>
      have e := nI_leI (hb j rfl) (ha i rfl)
      simp only [ne_eq, reduceCtorEq, not_false_eq_true, if_true, if_false, oI, omin, e]
      by_cases q : j ≤ i
      · rw [if_pos q, Nat.min_eq_right q]
      · rw [if_neg q, Nat.min_eq_left (by omega)]
