set_option maxHeartbeats 4000000 in
set_option maxRecDepth 100000 in
theorem step_mono {f : Fn} {i : Instr} {pc pc' : Nat} {L st L' st' : List Value} {M M' : Mm} (h : step f i pc L st M = some (.inl (pc', L', st', M'))) : nxt M ≤ nxt M' ∧ slo M ≤ slo M' ∧ L'.length = L.length := by
  have fin : ∀ {q : Nat} {A B : List Value} {N : Mm}, nx q A B N = some (.inl (pc', L', st', M')) → (nxt M ≤ nxt N ∧ slo M ≤ slo N ∧ A.length = L.length) → nxt M ≤ nxt M' ∧ slo M ≤ slo M' ∧ L'.length = L.length := by
    intro q A B N h1 h2
    cases nx_some h1
    exact h2
  have l1 : ∀ i v, (ls1 L i v).length = L.length := fun i v => ls1_len L i v
  have l2 : ∀ i v, (ls2 L i v).length = L.length := fun i v => by simp only [ls2, List.length_set, ls1_len]
  have z : nxt M ≤ nxt M ∧ slo M ≤ slo M ∧ L.length = L.length := ⟨Nat.le_refl _, Nat.le_refl _, rfl⟩
  have zn : ∀ t n, nxt M ≤ nxt (nw M t n) ∧ slo M ≤ slo (nw M t n) ∧ L.length = L.length := fun t n => ⟨Nat.le_succ _, Nat.le_add_right _ _, rfl⟩
  cases i <;> simp only [step, s1i, s2i, s1l, s2l, sli, s1r, sri, srii, sril, gd, tg, ldI, ldJ, ldA, st1, stR, ar, ob, mk] at h
  all_goals (repeat' split at h)
  all_goals first
    | exact fin h z
    | exact fin h ⟨Nat.le_refl _, Nat.le_refl _, l1 _ _⟩
    | exact fin h ⟨Nat.le_refl _, Nat.le_refl _, l2 _ _⟩
    | exact fin h (zn _ _)
    | (rename_i e1; obtain ⟨-, z2, z3, -⟩ := pfv_some e1; exact fin h ⟨Nat.le_of_eq z2.symm, Nat.le_of_eq z3.symm, rfl⟩)
    | cases h
theorem exec_mono {n : Nat} : ∀ {f : Fn} {pc : Nat} {L st : List Value} {M : Mm} {r : Option Value} {M' : Mm}, exec n f pc L st M = some (r, M') → nxt M ≤ nxt M' ∧ slo M ≤ slo M' := by
  induction n with
  | zero => intro f pc L st M r M' h; cases h
  | succ n ih =>
    intro f pc L st M r M' h
    obtain ⟨n', i, len, e, hd, hl, hc⟩ := exec_cases h
    have e : n' = n := by omega
    subst e
    rcases hc with ⟨pc', L', st', M1, hs, h2⟩ | ⟨r', hs, e2⟩ | ⟨g, as, rest, r', M1, hs, h2, h3⟩
    · have a := step_mono hs
      have b := ih h2
      omega
    · cases e2
      exact ⟨Nat.le_refl _, Nat.le_refl _⟩
    · have a := ih h2
      have b := ih h3
      omega
