/-! TEXTS: the reading byte by byte -/
abbrev Nm : Type := Nat → Option Nat
/-- the letters' numbers, how many, the words that have ended, the word under way, the part -/
abbrev Pst : Type := Nm × Nat × List (List Nat) × List Nat × Nat
def isSp (c : Nat) : Bool := c == 32 || c == 10
def isLt (c : Nat) : Bool := decide (97 ≤ c ∧ c ≤ 122)
def wlet (o : Option Nat) (most : Nat) (cur : List Nat) : Nat ⊕ List Nat := match o with
  | none => .inl 2
  | some a => if most ≤ cur.length then .inl 3 else .inr (cur ++ [a])
def pstep : Pst → Nat → Nat ⊕ Pst
  | (nm, lc, ws, cur, 0), c => if c = 59 ∧ 0 < lc then .inr (nm, lc, ws, cur, 1) else if isLt c = false then .inl 1 else if (nm (c - 97)).isSome = true then .inl 2 else if 8 ≤ lc then .inl 3 else .inr (upd1 nm (c - 97) (some lc), lc + 1, ws, cur, 0)
  | (nm, lc, ws, cur, pt + 1), c => if isLt c = true then (match wlet (nm (c - 97)) 24 cur with
      | .inl n => .inl n
      | .inr cur' => .inr (nm, lc, ws, cur', pt + 1))
    else if pt = 0 ∧ c = 61 then (if 40 ≤ ws.length / 2 then .inl 3 else .inr (nm, lc, ws ++ [cur], [], 2))
    else if pt = 1 ∧ c = 59 then .inr (nm, lc, ws ++ [cur], [], 1)
    else .inl 1
def prun : Pst → Nat → List Nat → (Nat × Nat) ⊕ Pst
  | s, i, [] => if s.2.2.2.2 = 1 ∧ s.2.2.2.1 = [] then .inr s else .inl (1, i)
  | s, i, c :: t => if isSp c = true then prun s (i + 1) t else match pstep s c with
    | .inl n => .inl (n, i)
    | .inr s' => prun s' (i + 1) t
def wrun (nm : Nm) : List Nat → Nat → List Nat → (Nat × Nat) ⊕ List Nat
  | cur, _, [] => .inr cur
  | cur, i, c :: t => if isSp c = true then wrun nm cur (i + 1) t else if isLt c = true then (match wlet (nm (c - 97)) 80 cur with
      | .inl n => .inl (n, i)
      | .inr cur' => wrun nm cur' (i + 1) t)
    else .inl (1, i)
/-- what holds of a reading at place i -/
def PI (s : Pst) (i : Nat) : Prop := s.2.1 ≤ 8 ∧ (∀ j a, s.1 j = some a → a < s.2.1) ∧ (s.2.2.2.2 = 0 → s.2.2.1 = [] ∧ s.2.2.2.1 = []) ∧ (s.2.2.2.2 = 1 → s.2.2.1.length % 2 = 0 ∧ s.2.2.1.length ≤ 80) ∧ (s.2.2.2.2 = 2 → s.2.2.1.length % 2 = 1 ∧ s.2.2.1.length ≤ 79) ∧ s.2.2.2.2 ≤ 2 ∧ (s.2.2.1.flatten ++ s.2.2.2.1).length ≤ i ∧ (∀ w ∈ s.2.2.1, w.length ≤ 24 ∧ ∀ c ∈ w, c < s.2.1) ∧ s.2.2.2.1.length ≤ 24 ∧ ∀ c ∈ s.2.2.2.1, c < s.2.1
theorem wlet_some {o : Option Nat} {most : Nat} {cur cur' : List Nat} (h : wlet o most cur = .inr cur') : ∃ a, o = some a ∧ cur.length < most ∧ cur' = cur ++ [a] := by
  cases o with
  | none => cases h
  | some a =>
    simp only [wlet] at h
    split at h
    · cases h
    · cases h
      exact ⟨a, rfl, by omega, rfl⟩
theorem PI.step {s s' : Pst} {c i : Nat} (h : PI s i) (e : pstep s c = .inr s') : PI s' (i + 1) := by
  obtain ⟨nm, lc, ws, cur, pt⟩ := s
  obtain ⟨h1, h2, h3, h4, h5, h6, h7, h8, h9, h10⟩ := h
  simp only at h1 h2 h3 h4 h5 h6 h7 h8 h9 h10
  cases pt with
  | zero =>
    obtain ⟨rfl, rfl⟩ := h3 rfl
    rw [pstep] at e
    split at e
    · cases e
      exact ⟨h1, h2, fun q => (by cases q), fun _ => ⟨rfl, by simp⟩, fun q => (by cases q), by show 1 ≤ 2; omega, by simp, h8, by simp, h10⟩
    · split at e
      · cases e
      · split at e
        · cases e
        · split at e
          · cases e
          · cases e
            refine ⟨by show lc + 1 ≤ 8; omega, fun j a q => ?_, fun _ => ⟨rfl, rfl⟩, fun q => (by cases q), fun q => (by cases q), by show 0 ≤ 2; omega, by simp, fun w hw => by simp at hw, by simp, fun c hc => by simp at hc⟩
            simp only [upd1] at q
            split at q
            · cases q; exact Nat.lt_succ_self _
            · exact Nat.lt_succ_of_lt (h2 j a q)
  | succ pt =>
    rw [pstep] at e
    split at e
    · cases hw : wlet (nm (c - 97)) 24 cur with
      | inl n => rw [hw] at e; cases e
      | inr cur' =>
        rw [hw] at e
        cases e
        obtain ⟨a, e1, e2, rfl⟩ := wlet_some hw
        refine ⟨h1, h2, fun q => (by cases q), h4, h5, h6, ?_, h8, ?_, fun b hb => ?_⟩
        · show (ws.flatten ++ (cur ++ [a])).length ≤ i + 1
          simp only [List.length_append, List.length_cons, List.length_nil] at h7 ⊢
          omega
        · show (cur ++ [a]).length ≤ 24
          simp only [List.length_append, List.length_cons, List.length_nil]
          omega
        · rcases List.mem_append.mp hb with q | q
          · exact h10 b q
          · rw [List.mem_singleton.mp q]; exact h2 _ _ e1
    · split at e
      · split at e
        · cases e
        · cases e
          rename_i q1 q2 q3
          obtain ⟨rfl, -⟩ := q2
          have := h4 rfl
          refine ⟨h1, h2, fun q => (by cases q), fun q => (by cases q), fun _ => ?_, by show 2 ≤ 2; omega, ?_, fun w hw => ?_, by simp, fun c hc => by simp at hc⟩
          · show (ws ++ [cur]).length % 2 = 1 ∧ (ws ++ [cur]).length ≤ 79
            simp only [List.length_append, List.length_cons, List.length_nil]
            omega
          · show ((ws ++ [cur]).flatten ++ []).length ≤ i + 1
            simp only [List.flatten_append, List.flatten_cons, List.flatten_nil, List.append_nil]
            omega
          · rcases List.mem_append.mp hw with q | q
            · exact h8 w q
            · rw [List.mem_singleton.mp q]; exact ⟨h9, h10⟩
      · split at e
        · cases e
          rename_i q1 q2 q3
          obtain ⟨rfl, -⟩ := q3
          have := h5 rfl
          refine ⟨h1, h2, fun q => (by cases q), fun _ => ?_, fun q => (by cases q), by show 1 ≤ 2; omega, ?_, fun w hw => ?_, by simp, fun c hc => by simp at hc⟩
          · show (ws ++ [cur]).length % 2 = 0 ∧ (ws ++ [cur]).length ≤ 80
            simp only [List.length_append, List.length_cons, List.length_nil]
            omega
          · show ((ws ++ [cur]).flatten ++ []).length ≤ i + 1
            simp only [List.flatten_append, List.flatten_cons, List.flatten_nil, List.append_nil]
            omega
          · rcases List.mem_append.mp hw with q | q
            · exact h8 w q
            · rw [List.mem_singleton.mp q]; exact ⟨h9, h10⟩
        · cases e
theorem PI.succ {s : Pst} {i : Nat} (h : PI s i) : PI s (i + 1) := by
  obtain ⟨h1, h2, h3, h4, h5, h6, h7, h8⟩ := h
  exact ⟨h1, h2, h3, h4, h5, h6, Nat.le_succ_of_le h7, h8⟩
theorem prun_PI {s' : Pst} : ∀ (t : List Nat) (s : Pst) (i : Nat), PI s i → prun s i t = .inr s' → PI s' (i + t.length) ∧ s'.2.2.2.2 = 1 ∧ s'.2.2.2.1 = [] := by
  intro t
  induction t with
  | nil =>
    intro s i h e
    unfold prun at e
    split at e
    · cases e; rename_i q; exact ⟨h, q⟩
    · cases e
  | cons c t ih =>
    intro s i h e
    unfold prun at e
    have e2 : i + (c :: t).length = i + 1 + t.length := by simp; omega
    rw [e2]
    split at e
    · exact ih s (i + 1) h.succ e
    · cases hp : pstep s c with
      | inl n => rw [hp] at e; cases e
      | inr s2 => rw [hp] at e; exact ih s2 (i + 1) (h.step hp) e
theorem wrun_ok {nm : Nm} {k : Nat} (hk : ∀ j a, nm j = some a → a < k) {w : List Nat} : ∀ (t cur : List Nat) (i : Nat), cur.length ≤ 80 → (∀ c ∈ cur, c < k) → wrun nm cur i t = .inr w → w.length ≤ 80 ∧ ∀ c ∈ w, c < k := by
  intro t
  induction t with
  | nil => intro cur i h1 h2 e; cases e; exact ⟨h1, h2⟩
  | cons c t ih =>
    intro cur i h1 h2 e
    unfold wrun at e
    split at e
    · exact ih cur (i + 1) h1 h2 e
    · split at e
      · cases hw : wlet (nm (c - 97)) 80 cur with
        | inl n => rw [hw] at e; cases e
        | inr cur' =>
          rw [hw] at e
          obtain ⟨a, e1, e2, rfl⟩ := wlet_some hw
          refine ih _ (i + 1) (by simp; omega) (fun b hb => ?_) e
          rcases List.mem_append.mp hb with q | q
          · exact h2 b q
          · rw [List.mem_singleton.mp q]; exact hk _ _ e1
      · cases e
/-! the class's reader -/
def bC (c : Nat) : Int32 := (nI c).toInt8.toInt32
theorem bC_tab : ∀ c, c < 256 → ((bC c = 32) ↔ c = 32) ∧ ((bC c = 10) ↔ c = 10) ∧ ((bC c = 59) ↔ c = 59) ∧ ((bC c = 61) ↔ c = 61) ∧ ((bC c < 97 ∨ 122 < bC c) ↔ isLt c = false) ∧ (isLt c = true → bC c - 97 = nI (c - 97)) := by decide +kernel
theorem k_isPassedOver {M : Mm} {c : Nat} {Q : Option Value → Mm → Prop} (hc : c < 256) : wp F_Presentation_isPassedOver 0 [.int (bC c)] [] M Q = Q (some (.int (bI (isSp c)))) M := by
  obtain ⟨t1, t2, -⟩ := bC_tab c hc
  simp only [B_Presentation_isPassedOver_0, B_Presentation_isPassedOver_12, B_Presentation_isPassedOver_16, B_Presentation_isPassedOver_17, t1, t2]
  unfold isSp
  by_cases q1 : c = 32
  · simp [q1, bI]
  · by_cases q2 : c = 10
    · simp [q2, bI]
    · simp [q1, q2, bI]
theorem k_isLetter {M : Mm} {c : Nat} {Q : Option Value → Mm → Prop} (hc : c < 256) : wp F_Presentation_isLetter 0 [.int (bC c)] [] M Q = Q (some (.int (bI (isLt c)))) M := by
  obtain ⟨-, -, -, -, t5, -⟩ := bC_tab c hc
  simp only [B_Presentation_isLetter_0, B_Presentation_isLetter_16, B_Presentation_isLetter_17]
  cases hl : isLt c with
  | false =>
    rcases t5.mpr hl with q | q
    · simp [q, bI]
    · by_cases q2 : bC c < 97 <;> simp [q, q2, bI]
  | true =>
    have q1 : ¬ bC c < 97 := fun q => by have := t5.mp (Or.inl q); rw [hl] at this; cases this
    have q2 : ¬ 122 < bC c := fun q => by have := t5.mp (Or.inr q); rw [hl] at this; cases this
    simp [q1, q2, bI]
def PRS (M : Mm) (x : Nat) : Prop := sh M (x + 3) = some (.inl 5) ∧ (gR M (x + 3) 0 = some (x + 4) ∧ gR M (x + 3) 3 = some (x + 5) ∧ gR M (x + 3) 4 = some (x + 7)) ∧ sh M (x + 4) = some (.inr (0, 26)) ∧ WS M (x + 5) 600 ∧ sh M (x + 7) = some (.inr (0, 80))
theorem PRS.frx {M M1 : Mm} {S T : Nat → Prop} {x : Nat} (h : PRS M x) (hf : FrX S T M M1) (hx : x + 1094 ≤ nxt M) (ht : ∀ b, x + 3 ≤ b → b < x + 8 → ¬ T b) : PRS M1 x := by
  have t2 : ∀ j, gR M1 (x + 3) j = gR M (x + 3) j := fun j => hf.2.2.2.2 _ (by omega) (ht _ (by omega) (by omega)) j
  exact ⟨(hf.2.2.1 _ (by omega)).trans h.1, ⟨(t2 _).trans h.2.1.1, (t2 _).trans h.2.1.2.1, (t2 _).trans h.2.1.2.2⟩, (hf.2.2.1 _ (by omega)).trans h.2.2.1, h.2.2.2.1.frx hf (by omega) (ht _ (by omega) (by omega)), (hf.2.2.1 _ (by omega)).trans h.2.2.2.2⟩
theorem PRS.fr {M M1 : Mm} {S : Nat → Prop} {x : Nat} (h : PRS M x) (hf : FrS S M M1) : PRS M1 x := ⟨(hf.sh _).trans h.1, ⟨(hf.gR _ _).trans h.2.1.1, (hf.gR _ _).trans h.2.1.2.1, (hf.gR _ _).trans h.2.1.2.2⟩, (hf.sh _).trans h.2.2.1, h.2.2.2.1.fr hf, (hf.sh _).trans h.2.2.2.2⟩
def NmV (M : Mm) (a : Nat) (nm : Nm) : Prop := ∀ j, j < 26 → gI M a j = oI (nm j)
def PRV (M : Mm) (x : Nat) (s : Pst) : Prop := NmV M (x + 4) s.1 ∧ gI M (x + 3) 1 = nI s.2.1 ∧ gI M (x + 3) 2 = nI (s.2.2.1.length / 2) ∧ gI M (x + 3) 5 = nI s.2.2.1.length ∧ gI M (x + 3) 6 = nI s.2.2.2.1.length ∧ gI M (x + 3) 7 = nI s.2.2.2.2 ∧ WV M (x + 5) (s.2.2.1.flatten ++ s.2.2.2.1) ∧ ∀ j, j < s.2.2.1.length → gI M (x + 7) j = nI ((s.2.2.1.take (j + 1)).flatten.length)
abbrev prZ (x b : Nat) : Prop := x + 3 ≤ b ∧ b < x + 8
/-- fault and place stay -/
def FpE (M M' : Mm) (x : Nat) : Prop := gI M' (x + 3) 8 = gI M (x + 3) 8 ∧ gI M' (x + 3) 9 = gI M (x + 3) 9
/-- only the flow and how long the word is -/
theorem k_takeWordLetter {M : Mm} {x most : Nat} {o : Option Nat} {flow cur : List Nat} {Q : Option Value → Mm → Prop} (hS : PRS M x) (h6 : gI M (x + 3) 6 = nI cur.length) (hw : WV M (x + 5) flow) (hl : flow.length < 600) (hc : cur.length ≤ flow.length) (hm : most < 1000) (ho : ∀ a, o = some a → a < 128)
    (hQ0 : ∀ n, wlet o most cur = .inl n → Q (some (.int (nI n))) M) (hQ1 : ∀ a, o = some a → wlet o most cur = .inr (cur ++ [a]) → ∀ M', FrS (fun b => b = x + 3 ∨ b = x + 5 ∨ b = x + 6) M M' → WV M' (x + 5) (flow ++ [a]) → gI M' (x + 3) 6 = nI (cur.length + 1) → (∀ j, j ≠ 6 → gI M' (x + 3) j = gI M (x + 3) j) → Q (some (.int 0)) M') : wp F_Presentation_takeWordLetter 0 [.ref (x + 3), .int (oI o), .int (nI most)] [] M Q := by
  have c1 := oI_ge (o := o) (fun a ha => by have := ho a ha; omega)
  have c2 := nI_ltI (show cur.length < 2 ^ 31 by omega) (show most < 2 ^ 31 by omega)
  simp only [B_Presentation_takeWordLetter_0, c1]
  cases o with
  | none =>
    simp only [ne_eq, not_true_eq_false, if_false]
    exact hQ0 2 rfl
  | some a =>
    have ne : (some a : Option Nat) ≠ none := by simp
    simp only [ne, not_false_eq_true, if_true, B_Presentation_takeWordLetter_6, hS.1, h6, c2, true_and]
    by_cases hlt : cur.length < most
    · have hwl : wlet (some a) most cur = .inr (cur ++ [a]) := by simp only [wlet]; rw [if_neg (by omega)]
      have e : oI (some a) = nI a := rfl
      simp only [hlt, if_true, B_Presentation_takeWordLetter_16, hS.1, hS.2.1.2.1, SS, hS.2.2.2.1.1, e, true_and]
      refine k_Word_add hS.2.2.2.1 hw (ho a rfl) (by omega) hl ?_
      intro M1 f1 w1
      have hS1 := hS.fr f1
      have g : ∀ j, gI M1 (x + 3) j = gI M (x + 3) j := fun j => f1.gI (fun q => by rcases q with q | q <;> omega) j
      simp only [Option.toList_none, List.nil_append, B_Presentation_takeWordLetter_16, hS1.1, SS, g, h6, nI_i1, true_and]
      have f2 : FrS (fun b => b = x + 3 ∨ b = x + 5 ∨ b = x + 6) M M1 := f1.weaken (fun b q => by
        rcases q with q | q
        · exact Or.inr (Or.inl q)
        · exact Or.inr (Or.inr q))
      refine hQ1 a rfl hwl _ (f2.trans (FrS.sI (Or.inl rfl))) (w1.fr (FrS.sI (S := fun b => b = x + 3) rfl) (by omega) (by omega)) ?_ (fun j hj => ?_)
      · rw [gI_sI, if_pos ⟨rfl, rfl⟩]
      · rw [gI_sI, if_neg (fun q => hj q.2)]; exact g j
    · simp only [hlt, if_false]
      exact hQ0 3 (by simp only [wlet]; rw [if_pos (by omega)])
