/-! a word's place among all: STEPS make words less -/
def vl (w : List Nat) : Nat := w.foldl (fun a c => a * 9 + (c + 1)) 0
theorem vl_acc : ∀ (l : List Nat) (a : Nat), l.foldl (fun a c => a * 9 + (c + 1)) a = a * 9 ^ l.length + vl l := by
  intro l
  induction l with
  | nil => intro a; simp [vl]
  | cons c t ih =>
    intro a
    have e : vl (c :: t) = (c + 1) * 9 ^ t.length + vl t := by
      show List.foldl _ (0 * 9 + (c + 1)) t = _
      rw [ih]; simp
    rw [e, List.foldl_cons, ih, List.length_cons, Nat.pow_succ, Nat.add_mul]
    have : a * 9 * 9 ^ t.length = a * (9 ^ t.length * 9) := by rw [Nat.mul_assoc, Nat.mul_comm 9]
    omega
theorem vl_cons (c : Nat) (t : List Nat) : vl (c :: t) = (c + 1) * 9 ^ t.length + vl t := by
  show List.foldl _ (0 * 9 + (c + 1)) t = _
  rw [vl_acc]; simp
theorem vl_app (p l : List Nat) : vl (p ++ l) = vl p * 9 ^ l.length + vl l := by
  unfold vl
  rw [List.foldl_append, vl_acc]
  rfl
theorem vl_lt : ∀ w : List Nat, (∀ c ∈ w, c < 8) → vl w < 9 ^ w.length
  | [], _ => by simp [vl]
  | c :: t, h => by
    have h1 := h c (by simp)
    have h2 := vl_lt t (fun d hd => h d (List.mem_cons_of_mem _ hd))
    rw [vl_cons, List.length_cons, Nat.pow_succ]
    have : (c + 1) * 9 ^ t.length ≤ 8 * 9 ^ t.length := Nat.mul_le_mul_right _ (by omega)
    omega
theorem vl_ge : ∀ w : List Nat, 9 ^ w.length ≤ 8 * vl w + 1
  | [] => by simp [vl]
  | c :: t => by
    have h2 := vl_ge t
    rw [vl_cons, List.length_cons, Nat.pow_succ]
    have : 1 * 9 ^ t.length ≤ (c + 1) * 9 ^ t.length := Nat.mul_le_mul_right _ (by omega)
    omega
theorem vl_lex : ∀ a b : List Nat, (∀ c ∈ b, c < 8) → a.length = b.length → 0 < lexc a b → vl b < vl a
  | [], b, _, _, h => by rw [lexc_nil_l] at h; exact absurd h (by decide)
  | c :: s, [], _, h, _ => by simp at h
  | c :: s, d :: t, hb, hl, h => by
    simp only [List.length_cons, Nat.add_right_cancel_iff] at hl
    rw [vl_cons, vl_cons, hl]
    unfold lexc at h
    by_cases e : c = d
    · rw [if_pos e] at h
      have := vl_lex s t (fun x hx => hb x (List.mem_cons_of_mem _ hx)) hl h
      rw [e]; omega
    · rw [if_neg e] at h
      by_cases e2 : d < c
      · have h2 := vl_lt t (fun x hx => hb x (List.mem_cons_of_mem _ hx))
        have : (d + 1 + 1) * 9 ^ t.length ≤ (c + 1) * 9 ^ t.length := Nat.mul_le_mul_right _ (by omega)
        rw [Nat.add_mul (d + 1)] at this
        omega
      · rw [if_neg e2] at h; exact absurd h (by decide)
theorem vl_cmp {a b : List Nat} (hb : ∀ c ∈ b, c < 8) (h : 0 < cmpW a b) : vl b < vl a := by
  unfold cmpW at h
  by_cases e : a.length = b.length
  · rw [if_pos e] at h; exact vl_lex a b hb e h
  · rw [if_neg e] at h
    by_cases e2 : b.length < a.length
    · have h1 := vl_lt b hb
      have h2 := vl_ge a
      have h3 : 9 ^ (b.length + 1) ≤ 9 ^ a.length := Nat.pow_le_pow_right (by omega) (by omega)
      rw [Nat.pow_succ] at h3
      have := Nat.pow_pos (n := b.length) (show 0 < 9 by omega)
      omega
    · rw [if_neg e2] at h; exact absurd h (by decide)
theorem lexc_flip : ∀ a b : List Nat, lexc a b = -1 → lexc b a = 1
  | [], b, h => by rw [lexc_nil_l] at h; exact absurd h (by decide)
  | c :: s, [], h => by rw [lexc_nil_r] at h; exact absurd h (by decide)
  | c :: s, d :: t, h => by
    unfold lexc at h ⊢
    by_cases e : c = d
    · rw [if_pos e] at h; rw [if_pos e.symm]; exact lexc_flip s t h
    · rw [if_neg e] at h
      rw [if_neg (fun q => e q.symm)]
      by_cases e2 : d < c
      · rw [if_pos e2] at h; exact absurd h (by decide)
      · rw [if_pos (by omega)]
theorem cmpW_flip {a b : List Nat} (h : cmpW a b = -1) : 0 < cmpW b a := by
  unfold cmpW at h ⊢
  by_cases e : a.length = b.length
  · rw [if_pos e] at h; rw [if_pos e.symm, lexc_flip a b h]; decide
  · rw [if_neg e] at h; rw [if_neg (fun q => e q.symm)]
    by_cases e2 : b.length < a.length
    · rw [if_pos e2] at h; exact absurd h (by decide)
    · rw [if_pos (by omega)]; decide
theorem vl_sub {p l r s : List Nat} (hl : r.length ≤ l.length) (hv : vl r < vl l) : vl (p ++ (r ++ s)) < vl (p ++ (l ++ s)) := by
  rw [← List.append_assoc, ← List.append_assoc, vl_app, vl_app (p ++ l), vl_app p r, vl_app p l]
  have h1 : vl p * 9 ^ r.length ≤ vl p * 9 ^ l.length := Nat.mul_le_mul_left _ (Nat.pow_le_pow_right (by omega) hl)
  have h2 : (vl p * 9 ^ r.length + vl r) * 9 ^ s.length < (vl p * 9 ^ l.length + vl l) * 9 ^ s.length := Nat.mul_lt_mul_of_pos_right (by omega) (Nat.pow_pos (by omega))
  omega
/-- each RULE's RIGHT is less than its LEFT -/
def VL (rs : List Ru) : Prop := ∀ u ∈ rs, vl u.2.1 < vl u.1
theorem red_vl {rs : List Ru} {k : Nat} (hw : RWf rs k) (hv : VL rs) : ∀ (n : Nat) (d t : List Nat) (tr : List (Nat × Nat)) (x : Option (List Nat × List (Nat × Nat))), red rs n d t tr = some x → (x = none → 1000 ≤ tr.length + vl (d ++ t)) ∧ ∀ w tr', x = some (w, tr') → vl w ≤ vl (d ++ t) := by
  intro n
  induction n with
  | zero =>
    intro d t tr x h
    cases t with
    | nil => cases h; exact ⟨fun q => (by cases q), fun w tr' q => by cases q; simp⟩
    | cons c t => cases h
  | succ n ih =>
    intro d t tr x h
    cases t with
    | nil => cases h; exact ⟨fun q => (by cases q), fun w tr' q => by cases q; simp⟩
    | cons c t =>
      rw [red] at h
      cases he : endAt rs (d ++ [c]) with
      | none =>
        rw [he] at h
        have := ih _ _ _ _ h
        rw [List.append_assoc] at this
        exact this
      | some r =>
        rw [he] at h
        simp only at h
        split at h
        · rename_i hl
          cases h
          exact ⟨fun _ => by omega, fun w tr' q => by cases q⟩
        · obtain ⟨h1, h2, p, h3⟩ := endAt_some he
          have e1 : (d ++ [c]).take (d.length + 1 - (rs.getD r dR).1.length) = p := by
            have hlen := congrArg List.length h3
            simp only [List.length_append, List.length_cons, List.length_nil] at hlen
            rw [← h3, List.take_append_of_le_length (by omega), List.take_of_length_le (by omega)]
          rw [e1] at h
          have e2 : d ++ c :: t = p ++ ((rs.getD r dR).1 ++ t) := by rw [← List.append_assoc, h3]; simp
          have hm := getD_mem h1
          have lt := vl_sub (p := p) (s := t) (hw.1 _ hm).2.2.1 (hv _ hm)
          have := ih _ _ _ _ h
          rw [e2]
          refine ⟨fun q => ?_, fun w tr' q => ?_⟩
          · have := this.1 q
            simp only [List.length_append, List.length_cons, List.length_nil] at this
            omega
          · have := this.2 w tr' q
            omega
theorem form_vl {rs : List Ru} {k : Nat} (hw : RWf rs k) (hv : VL rs) {l w : List Nat} {tr : List (Nat × Nat)} (hl : l.length ≤ 120) (h : form rs l = some (w, tr)) : vl w ≤ vl l := by
  have := (red_vl hw hv _ _ _ _ _ (form_red hw hl)).2 w tr h
  simpa using this
/-- two letters are never TOO LONG -/
theorem form_two {rs : List Ru} {k a b : Nat} (hw : RWf rs k) (hv : VL rs) (ha : a < k) (hb : b < k) : form rs [a, b] ≠ none := by
  intro h
  have := (red_vl hw hv _ _ _ _ _ (form_red hw (show [a, b].length ≤ 120 by simp))).1 h
  have hk := hw.2.1
  simp [vl] at this
  omega
theorem red_k {rs : List Ru} {k : Nat} (hw : RWf rs k) : ∀ (n : Nat) (d t : List Nat) (tr : List (Nat × Nat)) (w : List Nat) (tr' : List (Nat × Nat)), red rs n d t tr = some (some (w, tr')) → (∀ c ∈ d, c < k) → (∀ c ∈ t, c < k) → ∀ c ∈ w, c < k := by
  intro n
  induction n with
  | zero =>
    intro d t tr w tr' h hd ht
    cases t with
    | nil => cases h; exact hd
    | cons c t => cases h
  | succ n ih =>
    intro d t tr w tr' h hd ht
    cases t with
    | nil => cases h; exact hd
    | cons c t =>
      have hdc : ∀ x ∈ d ++ [c], x < k := fun x hx => by
        rcases List.mem_append.mp hx with q | q
        · exact hd x q
        · rw [List.mem_singleton.mp q]; exact ht c (by simp)
      have htt : ∀ x ∈ t, x < k := fun x hx => ht x (List.mem_cons_of_mem _ hx)
      rw [red] at h
      cases he : endAt rs (d ++ [c]) with
      | none =>
        rw [he] at h
        exact ih _ _ _ _ _ h hdc htt
      | some r =>
        rw [he] at h
        simp only at h
        split at h
        · cases h
        · obtain ⟨h1, h2, h3⟩ := endAt_some he
          refine ih _ _ _ _ _ h (fun x hx => hdc x (List.mem_of_mem_take hx)) (fun x hx => ?_)
          rcases List.mem_append.mp hx with q | q
          · exact (hw.1 _ (getD_mem h1)).2.2.2.2 x q
          · exact htt x q
theorem form_k {rs : List Ru} {k : Nat} (hw : RWf rs k) {l w : List Nat} {tr : List (Nat × Nat)} (hl : l.length ≤ 120) (hk : ∀ c ∈ l, c < k) (h : form rs l = some (w, tr)) : ∀ c ∈ w, c < k :=
  red_k hw _ _ _ _ _ _ ((form_red hw hl).trans (congrArg some h)) (fun c hc => by simp at hc) hk
/-! RULES and PAIRS stay as they must be -/
def RuK (u : Ru) (k : Nat) : Prop := u.1.length ≤ 60 ∧ u.2.1.length ≤ 60 ∧ (∀ c ∈ u.1, c < k) ∧ ∀ c ∈ u.2.1, c < k
theorem RWf.ruk {rs : List Ru} {k : Nat} (h : RWf rs k) (i : Nat) : RuK (rs.getD i dR) k := by
  by_cases hi : i < rs.length
  · obtain ⟨h1, h2, h3, h4, h5⟩ := h.1 _ (getD_mem hi)
    exact ⟨h2, by omega, h4, h5⟩
  · have : rs.getD i dR = dR := by rw [List.getD_eq_getElem?_getD, List.getElem?_eq_none (by omega)]; rfl
    rw [this]
    exact ⟨by simp, by simp, fun c hc => by simp at hc, fun c hc => by simp at hc⟩
def PrK (p : Pr) (k : Nat) : Prop := p.1.length ≤ 120 ∧ p.2.length ≤ 120 ∧ (∀ c ∈ p.1, c < k) ∧ ∀ c ∈ p.2, c < k
def RowK (row : List Pr) (k : Nat) : Prop := row.length ≤ 1000 ∧ ∀ p ∈ row, PrK p k
theorem RowK.push {row : List Pr} {k : Nat} {p : Pr} (h : RowK row k) (hl : ¬ row.length = 1000) (hp : PrK p k) : RowK (row ++ [p]) k := by
  refine ⟨by have := h.1; simp; omega, fun q hq => ?_⟩
  rcases List.mem_append.mp hq with hq | hq
  · exact h.2 q hq
  · rw [List.mem_singleton.mp hq]; exact hp
theorem spl_k {u v : Ru} {k n : Nat} (hu : RuK u k) (hv : RuK v k) : PrK (spl u v n) k := by
  obtain ⟨a1, a2, a3, a4⟩ := hu
  obtain ⟨b1, b2, b3, b4⟩ := hv
  refine ⟨by simp [spl]; omega, by simp [spl]; omega, fun c hc => ?_, fun c hc => ?_⟩
  · rcases List.mem_append.mp hc with q | q
    · exact a4 c q
    · exact b3 c (List.mem_of_mem_drop q)
  · rcases List.mem_append.mp hc with q | q
    · exact a3 c (List.mem_of_mem_take q)
    · exact b4 c q
theorem ovl_k {u v : Ru} {k : Nat} (hu : RuK u k) (hv : RuK v k) : ∀ m n row, RowK row k → RowK (ovl u v m n row).1 k := by
  intro m
  induction m with
  | zero => intro n row h; exact h
  | succ m ih =>
    intro n row h
    unfold ovl
    split
    · split
      · exact h
      · rename_i q; exact ih _ _ (h.push q (spl_k hu hv))
    · exact ih _ _ h
theorem ovs_k {u v : Ru} {k : Nat} (hu : RuK u k) (hv : RuK v k) {row : List Pr} (h : RowK row k) : RowK (ovs u v row).1 k := ovl_k hu hv _ _ _ h
theorem prs_k {rs : List Ru} {k fr : Nat} (hw : RWf rs k) : ∀ m i row, RowK row k → RowK (prs rs fr m i row).1 k := by
  intro m
  induction m with
  | zero => intro i row h; exact ovs_k (hw.ruk _) (hw.ruk _) h
  | succ m ih =>
    intro i row h
    unfold prs
    have h1 := ovs_k (hw.ruk fr) (hw.ruk i) h
    have h2 := ovs_k (hw.ruk i) (hw.ruk fr) h1
    split
    · split
      · split
        · exact ih _ _ h2
        · exact h2
      · exact h1
    · exact ih _ _ h
theorem VL.set {rs : List Ru} {i : Nat} {u : Ru} (h : VL rs) (hu : vl u.2.1 < vl u.1) : VL (rs.set i u) := fun v hv => by
  rcases List.mem_or_eq_of_mem_set hv with q | q
  · exact h v q
  · rw [q]; exact hu
/-- no LIVE LEFT stands in another, but for the one of fr in those from b on -/
def ACb (rs : List Ru) (fr b : Nat) : Prop := ∀ i j, i < rs.length → j < rs.length → i ≠ j → (rs.getD i dR).2.2 = true → (rs.getD j dR).2.2 = true → ¬ (j = fr ∧ b ≤ i) → hol (rs.getD i dR).1 (rs.getD j dR).1 = false
theorem drp_ok {k fr : Nat} : ∀ m i rs row, i + m = fr → rs.length = fr + 1 → RWf rs k → VL rs → RowK row k → ACb rs fr i → RWf (drp fr m i rs row).1 k ∧ VL (drp fr m i rs row).1 ∧ RowK (drp fr m i rs row).2.1 k ∧ (drp fr m i rs row).1.length = fr + 1 ∧ ((drp fr m i rs row).2.2 = true → AC (drp fr m i rs row).1) := by
  intro m
  induction m with
  | zero =>
    intro i rs row hi hl hw hv hr hA
    exact ⟨hw, hv, hr, hl, fun _ a b ha hb hab la lb => hA a b ha hb hab la lb (fun q => by have h1 : a < rs.length := ha; omega)⟩
  | succ m ih =>
    intro i rs row hi hl hw hv hr hA
    have hm := getD_mem (show i < rs.length by omega)
    have hw' := hw.drop (show i < rs.length by omega)
    have hv' : VL (rs.set i ((rs.getD i dR).1, (rs.getD i dR).2.1, false)) := hv.set (show vl (rs.getD i dR).2.1 < vl (rs.getD i dR).1 from hv _ hm)
    unfold drp
    split
    · split
      · exact ⟨hw', hv', hr, by simp [hl], fun q => by cases q⟩
      · rename_i q1 q2
        refine ih (i + 1) _ _ (by omega) (by simp [hl]) hw' hv' (hr.push q2 ⟨?_, ?_, ?_, ?_⟩) ?_
        · have := (hw.ruk i).1; show (rs.getD i dR).1.length ≤ 120; omega
        · have := (hw.ruk i).2.1; show (rs.getD i dR).2.1.length ≤ 120; omega
        · exact (hw.ruk i).2.2.1
        · exact (hw.ruk i).2.2.2
        · intro a b ha hb hab la lb hn
          rw [List.length_set] at ha hb
          rw [getD_set (by omega)] at la lb ⊢
          rw [getD_set (by omega)]
          by_cases e1 : a = i
          · rw [if_pos e1] at la; cases la
          · by_cases e2 : b = i
            · rw [if_pos e2] at lb; cases lb
            · rw [if_neg e1] at la ⊢
              rw [if_neg e2] at lb ⊢
              exact hA a b ha hb hab la lb (fun q => hn ⟨q.1, by omega⟩)
    · rename_i q1
      refine ih (i + 1) _ _ (by omega) hl hw hv hr (fun a b ha hb hab la lb hn => ?_)
      by_cases e : b = fr ∧ i ≤ a
      · have ea : a = i := by
          by_cases z : a = i
          · exact z
          · exact absurd ⟨e.1, by omega⟩ hn
        subst ea
        rw [e.1]
        cases hh : hol (rs.getD a dR).1 (rs.getD fr dR).1 with
        | false => rfl
        | true => exact absurd ⟨la, hh⟩ q1
      · exact hA a b ha hb hab la lb e
theorem rnw_ok {k : Nat} : ∀ m i rs s, i + m ≤ rs.length → RWf rs k → VL rs → AC rs → RWf (rnw m i rs s).1 k ∧ VL (rnw m i rs s).1 ∧ AC (rnw m i rs s).1 ∧ (rnw m i rs s).1.length = rs.length := by
  intro m
  induction m with
  | zero => intro i rs s _ hw hv ha; exact ⟨hw, hv, ha, rfl⟩
  | succ m ih =>
    intro i rs s hi hw hv hA
    have hm := getD_mem (show i < rs.length by omega)
    unfold rnw
    split
    · cases hf : form rs (rs.getD i dR).2.1 with
      | none => exact ⟨hw, hv, hA, rfl⟩
      | some q =>
        obtain ⟨w, tr⟩ := q
        have h60 := (hw.ruk i).2.1
        have l1 := form_len hw (show (rs.getD i dR).2.1.length ≤ 120 by omega) hf
        have l2 := form_k hw (show (rs.getD i dR).2.1.length ≤ 120 by omega) (hw.ruk i).2.2.2 hf
        have l3 := form_vl hw hv (show (rs.getD i dR).2.1.length ≤ 120 by omega) hf
        have l4 := hv _ hm
        have hw' : RWf (rs.set i ((rs.getD i dR).1, w, (rs.getD i dR).2.2)) k := by
          refine ⟨fun u hu => ?_, hw.2.1, by rw [List.length_set]; exact hw.2.2⟩
          rcases List.mem_or_eq_of_mem_set hu with hu | hu
          · exact hw.1 u hu
          · obtain ⟨g1, g2, g3, g4, g5⟩ := hw.1 _ hm
            rw [hu]
            exact ⟨g1, g2, by show w.length ≤ (rs.getD i dR).1.length; omega, g4, l2⟩
        have hA' : AC (rs.set i ((rs.getD i dR).1, w, (rs.getD i dR).2.2)) := by
          intro a b ha hb hab la lb
          rw [List.length_set] at ha hb
          have e : ∀ j, ((rs.set i ((rs.getD i dR).1, w, (rs.getD i dR).2.2)).getD j dR).1 = (rs.getD j dR).1 ∧ ((rs.set i ((rs.getD i dR).1, w, (rs.getD i dR).2.2)).getD j dR).2.2 = (rs.getD j dR).2.2 := fun j => by
            rw [getD_set (by omega)]
            by_cases z : j = i
            · rw [if_pos z, z]; exact ⟨rfl, rfl⟩
            · rw [if_neg z]; exact ⟨rfl, rfl⟩
          rw [(e a).2] at la; rw [(e b).2] at lb
          rw [(e a).1, (e b).1]
          exact hA a b ha hb hab la lb
        have := ih (i + 1) _ (s + tr.length) (by rw [List.length_set]; omega) hw' (hv.set (by show vl w < vl (rs.getD i dR).1; omega)) hA'
        rw [List.length_set] at this
        exact this
    · exact ih _ _ _ (by omega) hw hv hA
theorem hol_form {rs : List Ru} {k : Nat} (hw : RWf rs k) {l w : List Nat} {tr : List (Nat × Nat)} (hl : l.length ≤ 120) (h : form rs l = some (w, tr)) {u : Ru} (hu : u ∈ rs) (hv : u.2.2 = true) : hol w u.1 = false := by
  have h0 : endAt rs [] = none := endAt_nil (fun u hu _ => (hw.1 u hu).1)
  have hi := red_irr _ _ _ _ _ _ ((form_red hw hl).trans (congrArg some h)) (fun j hj => by simp; exact h0)
  cases hh : hol w u.1 with
  | false => rfl
  | true =>
    unfold hol at hh
    obtain ⟨j, hj, hm⟩ := List.any_eq_true.mp hh
    rw [List.mem_range] at hj
    have hm : (w.drop j).take u.1.length = u.1.take u.1.length := of_decide_eq_true hm
    rw [List.take_length] at hm
    have hne := (hw.1 u hu).1
    have hpos : 0 < u.1.length := List.length_pos_iff.mpr hne
    have hs : u.1 <:+ w.take (j + u.1.length) := ⟨w.take j, by
      rw [List.take_add]
      rw [hm]⟩
    have := hi (j + u.1.length) (by omega)
    unfold endAt at this
    rw [List.findIdx?_eq_none_iff] at this
    have := this u hu
    rw [hv, List.isSuffixOf_iff_suffix.mpr hs] at this
    cases this
def TrK (R : Cst) (k : Nat) : Prop := RWf R.1 k ∧ VL R.1 ∧ RowK R.2.1 k ∧ (R.2.2.2.2 = false → AC R.1)
theorem trt2_ok {rs : List Ru} {k fr t s : Nat} {row : List Pr} (hw : RWf rs k) (hv : VL rs) (hr : RowK row k) (hA : AC rs) (hl : fr ≤ rs.length) : TrK (trt2 rs fr row t s) k := by
  obtain ⟨a1, a2, a3, a4⟩ := rnw_ok fr 0 rs s (by omega) hw hv hA
  unfold trt2
  split
  · exact ⟨a1, a2, prs_k a1 _ _ _ hr, fun _ => a3⟩
  · exact ⟨a1, a2, hr, fun _ => a3⟩
theorem trt1_ok {rs : List Ru} {k t s : Nat} {row : List Pr} {l r : List Nat} (hw : RWf rs k) (hv : VL rs) (hr : RowK row k) (hA : AC rs) (h3 : l ≠ []) (h4 : r.length ≤ l.length) (h5 : ∀ c ∈ l, c < k) (h6 : ∀ c ∈ r, c < k) (h7 : vl r < vl l) (h8 : ∀ u ∈ rs, u.2.2 = true → hol l u.1 = false) : TrK (trt1 rs l r row t s) k := by
  unfold trt1
  split
  · exact ⟨hw, hv, hr, fun _ => hA⟩
  · rename_i q
    have hw' := hw.make (l := l) (r := r) (by omega) (by omega) h3 h4 h5 h6
    have hv' : VL (rs ++ [(l, r, true)]) := fun u hu => by
      rcases List.mem_append.mp hu with hu | hu
      · exact hv u hu
      · rw [List.mem_singleton.mp hu]; exact h7
    have e1 : ∀ j, j < rs.length → (rs ++ [(l, r, true)]).getD j dR = rs.getD j dR := fun j hj => by
      rw [List.getD_eq_getElem?_getD, List.getElem?_append_left hj, ← List.getD_eq_getElem?_getD]
    have e2 : (rs ++ [(l, r, true)]).getD rs.length dR = (l, r, true) := by simp
    have hAb : ACb (rs ++ [(l, r, true)]) rs.length 0 := by
      intro a b ha hb hab la lb hn
      simp only [List.length_append, List.length_cons, List.length_nil] at ha hb
      by_cases z : b = rs.length
      · exact absurd ⟨z, Nat.zero_le _⟩ hn
      · rw [e1 b (by omega)] at lb ⊢
        by_cases y : a = rs.length
        · rw [y, e2]
          exact h8 _ (getD_mem (by omega)) lb
        · rw [e1 a (by omega)] at la ⊢
          exact hA a b (by omega) (by omega) hab la lb
    obtain ⟨d1, d2, d3, d4, d5⟩ := drp_ok (k := k) rs.length 0 (rs ++ [(l, r, true)]) row (by omega) (by simp) hw' hv' hr hAb
    split
    · rename_i q2
      exact trt2_ok d1 d2 d3 (d5 q2) (by omega)
    · exact ⟨d1, d2, d3, fun q => by cases q⟩
theorem trt_ok {rs : List Ru} {k t s : Nat} {u : Pr} {row : List Pr} (hw : RWf rs k) (hv : VL rs) (hr : RowK (u :: row) k) (hA : AC rs) : TrK (trt rs u row t s) k := by
  obtain ⟨p1, p2, p3, p4⟩ := hr.2 u (by simp)
  have hr' : RowK row k := ⟨by have := hr.1; simp at this; omega, fun p hp => hr.2 p (List.mem_cons_of_mem _ hp)⟩
  have k8 := hw.2.1
  unfold trt
  cases h1 : form rs u.1 with
  | none => exact ⟨hw, hv, hr', fun q => by cases q⟩
  | some q1 =>
    obtain ⟨a, t1⟩ := q1
    dsimp only
    cases h2 : form rs u.2 with
    | none => exact ⟨hw, hv, hr', fun q => by cases q⟩
    | some q2 =>
      obtain ⟨b, t2⟩ := q2
      dsimp only
      have ka := form_k hw p1 p3 h1
      have kb := form_k hw p2 p4 h2
      split
      · exact ⟨hw, hv, hr', fun _ => hA⟩
      · rename_i hne
        split
        · rename_i hpos
          exact trt1_ok hw hv hr' hA (cmpW_ne hpos) (cmpW_len hpos) ka kb (vl_cmp (fun c hc => by have := kb c hc; omega) hpos) (fun v hv' hl => hol_form hw p1 h1 hv' hl)
        · rename_i hpos
          have hm : cmpW a b = -1 := by
            rcases cmpW_cases a b with z | z | z
            · exact absurd z hne
            · rw [z] at hpos; exact absurd (by decide) hpos
            · exact z
          exact trt1_ok hw hv hr' hA (cmpW_ne' hm) (cmpW_len' hm) kb ka (vl_cmp (fun c hc => by have := ka c hc; omega) (cmpW_flip hm)) (fun v hv' hl => hol_form hw p2 h2 hv' hl)
theorem cpl_ok {k : Nat} : ∀ n rs row t s st, TrK (rs, row, t, s, st) k → TrK (cpl n rs row t s st) k := by
  intro n
  induction n with
  | zero => intro rs row t s st h; exact h
  | succ n ih =>
    intro rs row t s st h
    unfold cpl
    split
    · exact h
    · rename_i hs
      cases row with
      | nil => exact h
      | cons u r =>
        obtain ⟨a1, a2, a3, a4⟩ := h
        exact ih _ _ _ _ _ (trt_ok a1 a2 a3 (a4 (by simpa using hs)))
/-! what holds of the state -/
def SgI (σ : Sg) : Prop := (∀ j a, sNm σ j = some a → a < sK σ) ∧ (∀ i, i < 8 → (sSl σ i).length ≤ 80 ∧ ∀ c ∈ sSl σ i, c < sK σ) ∧ RWf (sRs σ) (sK σ) ∧ VL (sRs σ) ∧ RowK (sRow σ) (sK σ) ∧ (sSt σ = false → AC (sRs σ)) ∧ (∀ q, sFo σ = some q → q.1 < 200) ∧ (sTp σ).length ≤ 600 ∧ (∀ c ∈ sTp σ, c < 256) ∧ (sTd σ).length ≤ 300
theorem SgI.of {tp : List Nat} {lf : Nat} {nm : Nm} {k : Nat} {rs : List Ru} {row : List Pr} {t s : Nat} {st : Bool} {fo : Option (Nat × Nat × Nat)} {sl : Nat → List Nat} {td : List (Nat × Nat)} (a1 : ∀ j a, nm j = some a → a < k) (a2 : ∀ i, i < 8 → (sl i).length ≤ 80 ∧ ∀ c ∈ sl i, c < k) (a3 : RWf rs k) (a4 : VL rs) (a5 : RowK row k) (a6 : st = false → AC rs) (a7 : ∀ q, fo = some q → q.1 < 200) (a8 : tp.length ≤ 600) (a9 : ∀ c ∈ tp, c < 256) (a10 : td.length ≤ 300) : SgI ((tp, lf, nm), (k, rs, row), (t, s, st, fo), (sl, td)) := ⟨a1, a2, a3, a4, a5, a6, a7, a8, a9, a10⟩
theorem fdG_ok {σ : Sg} {w : Int64} {n : Int32} (h : SgI σ) : SgI (fdG σ w n).2 := by
  unfold fdG
  split
  · split
    · exact h
    · rename_i m _ q
      obtain ⟨a1, a2, a3, a4, a5, a6, a7, a8, a9, a10⟩ := h
      refine SgI.of a1 a2 a3 a4 a5 a6 a7 ?_ ?_ a10
      · simp only [List.length_append, byts_len]; omega
      · intro c hc
        rcases List.mem_append.mp hc with z | z
        · exact a9 c z
        · exact byts_lt w _ c z
  · exact h
theorem AC_nil : AC [] := fun i j hi => by simp at hi
theorem rdG_ok {σ : Sg} (h : SgI σ) : SgI (rdG σ).2 := by
  obtain ⟨a1, a2, a3, a4, a5, a6, a7, a8, a9, a10⟩ := h
  unfold rdG
  split
  · exact SgI.of a1 a2 a3 a4 a5 a6 a7 (by simp) (fun c hc => by simp at hc) a10
  · rename_i s hs
    obtain ⟨hp, -, -⟩ := prun_PI _ _ _ (show PI pst0 0 from ⟨by simp [pst0], fun j a q => by simp [pst0] at q, fun _ => ⟨rfl, rfl⟩, fun q => by simp [pst0] at q, fun q => by simp [pst0] at q, by simp [pst0], by simp [pst0], fun w hw => by simp [pst0] at hw, by simp [pst0], fun c hc => by simp [pst0] at hc⟩) hs
    obtain ⟨b1, b2, b3, b4, b5, b6, b7, b8, b9, b10⟩ := hp
    have hlen : s.2.2.1.length ≤ 80 := by
      rcases (show s.2.2.2.2 = 0 ∨ s.2.2.2.2 = 1 ∨ s.2.2.2.2 = 2 by omega) with z | z | z
      · rw [(b3 z).1]; simp
      · exact (b4 z).2
      · have := (b5 z).2; omega
    have hg : ∀ i, (s.2.2.1.getD i []).length ≤ 24 ∧ ∀ c ∈ s.2.2.1.getD i [], c < s.2.1 := fun i => by
      by_cases hi : i < s.2.2.1.length
      · have e : s.2.2.1.getD i [] = s.2.2.1[i] := by rw [List.getD_eq_getElem?_getD, List.getElem?_eq_getElem hi]; rfl
        rw [e]; exact b8 _ (List.getElem_mem hi)
      · have e : s.2.2.1.getD i [] = [] := by rw [List.getD_eq_getElem?_getD, List.getElem?_eq_none (by omega)]; rfl
        rw [e]; exact ⟨by simp, fun c hc => by simp at hc⟩
    refine SgI.of b2 (fun i _ => ⟨by simp, fun c hc => by simp at hc⟩) ⟨fun u hu => by simp at hu, b1, by simp⟩ (fun u hu => by simp at hu) ⟨by simp [prw]; omega, fun p hp => ?_⟩ (fun _ => AC_nil) (fun q hq => by cases hq) (by simp) (fun c hc => by simp at hc) (by simp)
    obtain ⟨i, hi, rfl⟩ := List.mem_map.mp hp
    have g1 := hg (2 * i); have g2 := hg (2 * i + 1)
    exact ⟨by show (s.2.2.1.getD (2 * i) []).length ≤ 120; omega, by show (s.2.2.1.getD (2 * i + 1) []).length ≤ 120; omega, g1.2, g2.2⟩
theorem SgI.slot {σ : Sg} (h : SgI σ) {j : Nat} {w : List Nat} (hw : w.length ≤ 80) (hk : ∀ c ∈ w, c < sK σ) : ∀ i, i < 8 → (upd1 (sSl σ) j w i).length ≤ 80 ∧ ∀ c ∈ upd1 (sSl σ) j w i, c < sK σ := fun i hi => by
  by_cases e : i = j
  · simp only [upd1, if_pos e]; exact ⟨hw, hk⟩
  · simp only [upd1, if_neg e]; exact h.2.1 i hi
theorem SgI.set {σ : Sg} (h : SgI σ) {j : Nat} {w : List Nat} (hw : w.length ≤ 80) (hk : ∀ c ∈ w, c < sK σ) : SgI (sSet σ j w) := by
  have s := h.slot (j := j) hw hk
  obtain ⟨a1, a2, a3, a4, a5, a6, a7, a8, a9, a10⟩ := h
  exact ⟨a1, s, a3, a4, a5, a6, a7, a8, a9, a10⟩
theorem wdG_ok {σ : Sg} {v : Int32} (h : SgI σ) : SgI (wdG σ v).2 := by
  unfold wdG
  split
  · exact h
  · split
    · obtain ⟨a1, a2, a3, a4, a5, a6, a7, a8, a9, a10⟩ := h
      exact SgI.of a1 a2 a3 a4 a5 a6 a7 (by simp) (fun c hc => by simp at hc) a10
    · rename_i w hw
      obtain ⟨w1, w2⟩ := wrun_ok h.1 _ _ _ (by simp) (fun c hc => by simp at hc) hw
      have s := h.slot (j := ‹Nat›) w1 w2
      obtain ⟨a1, a2, a3, a4, a5, a6, a7, a8, a9, a10⟩ := h
      exact SgI.of a1 s a3 a4 a5 a6 a7 (by simp) (fun c hc => by simp at hc) a10
theorem cpG_ok {σ : Sg} {v : Int32} (h : SgI σ) : SgI (cpG σ v).2 := by
  unfold cpG
  split
  · obtain ⟨a1, a2, a3, a4, a5, a6, a7, a8, a9, a10⟩ := h
    obtain ⟨b1, b2, b3, b4⟩ := cpl_ok (k := sK σ) _ _ _ (sT σ) (sS σ) _ (show TrK (sRs σ, sRow σ, sT σ, sS σ, sSt σ) (sK σ) from ⟨a3, a4, a5, a6⟩)
    exact ⟨a1, a2, b1, b2, b3, b4, a7, a8, a9, a10⟩
  · exact h
theorem tryJ_lt {rs : List Ru} {i : Nat} : ∀ m j q, tryJ rs i m j = some (some q) → q.1 = i := by
  intro m
  induction m with
  | zero => intro j q h; cases h
  | succ m ih =>
    intro j q h
    unfold tryJ at h
    split at h
    · exact ih _ _ h
    · cases h
    · cases h; rfl
theorem tryI_lt {rs : List Ru} : ∀ m i q, tryI rs m i = some (some q) → q.1 < i + m := by
  intro m
  induction m with
  | zero => intro i q h; cases h
  | succ m ih =>
    intro i q h
    unfold tryI at h
    split at h
    · have := ih _ _ h; omega
    · rename_i r hr
      have e : r = some q := Option.some.inj h
      rw [e] at hr
      have := tryJ_lt _ _ _ hr
      omega
theorem opG_ok {σ : Sg} (h : SgI σ) : SgI (opG σ).2 := by
  obtain ⟨a1, a2, a3, a4, a5, a6, a7, a8, a9, a10⟩ := h
  refine ⟨a1, a2, a3, a4, a5, a6, fun q hq => ?_, a8, a9, a10⟩
  have hq : fdN (opn (sRs σ)) (sFo σ) = some q := hq
  unfold fdN at hq
  split at hq
  · rename_i q' hq'
    cases hq
    have := tryI_lt _ _ _ hq'
    have := a3.2.2
    omega
  · exact a7 q hq
theorem jnG_ok {σ : Sg} {v a b : Int32} (h : SgI σ) : SgI (jnG σ v a b).2 := by
  unfold jnG
  split
  · exact h
  · split
    · exact h
    · rename_i p hp
      split
      · exact h
      · rename_i q hq
        split
        · exact h
        · rename_i hl
          have lt : ∀ {n v j}, oix n v = some j → j < n := fun {n v j} e => by
            unfold oix at e
            split at e
            · rename_i z
              cases e
              show v.toInt.toNat < n
              omega
            · cases e
          refine h.set (by simp; omega) (fun c hc => ?_)
          rcases List.mem_append.mp hc with z | z
          · exact (h.2.1 p (lt hp)).2 c z
          · exact (h.2.1 q (lt hq)).2 c z
theorem oix_lt {n j : Nat} {v : Int32} (e : oix n v = some j) : j < n := by
  unfold oix at e
  split at e
  · rename_i z
    cases e
    show v.toInt.toNat < n
    omega
  · cases e
theorem rcG_ok {σ : Sg} {v : Int32} (h : SgI σ) : SgI (rcG σ v).2 := by
  unfold rcG
  split
  · exact h
  · rename_i j hj
    split
    · exact h
    · rename_i w tr hf
      have h80 := h.2.1 j (oix_lt hj)
      have w1 := form_len h.2.2.1 (show (sSl σ j).length ≤ 120 by omega) hf
      have w2 := form_k h.2.2.1 (show (sSl σ j).length ≤ 120 by omega) h80.2 hf
      have s := h.slot (j := j) (show w.length ≤ 80 by omega) w2
      obtain ⟨a1, a2, a3, a4, a5, a6, a7, a8, a9, a10⟩ := h
      exact SgI.of a1 s a3 a4 a5 a6 a7 a8 a9 (by simp; omega)
