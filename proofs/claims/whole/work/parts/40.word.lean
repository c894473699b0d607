/-! the store's rows in one name; numbers -/
theorem SS : (∀ (M : Mm) (a b j : Nat) (x : Int32), sh (sI M a j x) b = sh M b) ∧ (∀ (M : Mm) (a b j : Nat) (x : Int64), sh (sJ M a j x) b = sh M b) ∧ (∀ (M : Mm) (a b j : Nat) (x : Option Nat), sh (sR M a j x) b = sh M b) ∧ (∀ (M : Mm) (b : Nat) F, sh (wI M F) b = sh M b) ∧ (∀ (M : Mm) (b : Nat) F, sh (wJ M F) b = sh M b) ∧
  (∀ (M : Mm) (a b j k : Nat) (x : Int32), gI (sI M a j x) b k = if b = a ∧ k = j then x else gI M b k) ∧ (∀ (M : Mm) (a b j k : Nat) (x : Int64), gI (sJ M a j x) b k = gI M b k) ∧ (∀ (M : Mm) (a b j k : Nat) (x : Option Nat), gI (sR M a j x) b k = gI M b k) ∧ (∀ (M : Mm) (b k : Nat) F, gI (wI M F) b k = F b k) ∧ (∀ (M : Mm) (b k : Nat) F, gI (wJ M F) b k = gI M b k) ∧
  (∀ (M : Mm) (a b j k : Nat) (x : Int32), gJ (sI M a j x) b k = gJ M b k) ∧ (∀ (M : Mm) (a b j k : Nat) (x : Int64), gJ (sJ M a j x) b k = if b = a ∧ k = j then x else gJ M b k) ∧ (∀ (M : Mm) (a b j k : Nat) (x : Option Nat), gJ (sR M a j x) b k = gJ M b k) ∧ (∀ (M : Mm) (b k : Nat) F, gJ (wI M F) b k = gJ M b k) ∧ (∀ (M : Mm) (b k : Nat) F, gJ (wJ M F) b k = F b k) ∧
  (∀ (M : Mm) (a b j k : Nat) (x : Int32), gR (sI M a j x) b k = gR M b k) ∧ (∀ (M : Mm) (a b j k : Nat) (x : Int64), gR (sJ M a j x) b k = gR M b k) ∧ (∀ (M : Mm) (a b j k : Nat) (x : Option Nat), gR (sR M a j x) b k = if b = a ∧ k = j then x else gR M b k) ∧ (∀ (M : Mm) (b k : Nat) F, gR (wI M F) b k = gR M b k) ∧ (∀ (M : Mm) (b k : Nat) F, gR (wJ M F) b k = gR M b k) ∧
  (∀ (M : Mm) (a j : Nat) (x : Int32), nxt (sI M a j x) = nxt M) ∧ (∀ (M : Mm) (a j : Nat) (x : Int64), nxt (sJ M a j x) = nxt M) ∧ (∀ (M : Mm) (a j : Nat) (x : Option Nat), nxt (sR M a j x) = nxt M) ∧ (∀ (M : Mm) F, nxt (wI M F) = nxt M) ∧ (∀ (M : Mm) F, nxt (wJ M F) = nxt M) ∧
  (∀ (a : Nat), va_rf (some a) = .ref a) ∧ (va_rf none = .null) ∧ (∀ (v : Value), (some v).toList = [v]) ∧ (∀ n : Nat, Int32.ofNat n = nI n) ∧ (∀ x : Int32, clr (.int x) = .int x) ∧ (∀ x : Nat, clr (.ref x) = .ref x) ∧ (clr .null = .null) ∧ (clr jk = jk) ∧ (∀ x : Int64, clr (.long x) = jk) :=
  ⟨fun _ _ _ _ _ => rfl, fun _ _ _ _ _ => rfl, fun _ _ _ _ _ => rfl, fun _ _ _ => rfl, fun _ _ _ => rfl, fun _ _ _ _ _ _ => rfl, fun _ _ _ _ _ _ => rfl, fun _ _ _ _ _ _ => rfl, fun _ _ _ _ => rfl, fun _ _ _ _ => rfl, fun _ _ _ _ _ _ => rfl, fun _ _ _ _ _ _ => rfl, fun _ _ _ _ _ _ => rfl, fun _ _ _ _ => rfl, fun _ _ _ _ => rfl, fun _ _ _ _ _ _ => rfl, fun _ _ _ _ _ _ => rfl, fun _ _ _ _ _ _ => rfl, fun _ _ _ _ => rfl, fun _ _ _ _ => rfl, fun _ _ _ _ => rfl, fun _ _ _ _ => rfl, fun _ _ _ _ => rfl, fun _ _ => rfl, fun _ _ => rfl, fun _ => rfl, rfl, fun _ => rfl, fun _ => rfl, fun _ => rfl, fun _ => rfl, rfl, rfl, fun _ => rfl⟩
theorem cl_nI {n : Nat} (h : n < 2147483648) : cl (nI n) = n := nI_clamp h
theorem inb_nI {j n : Nat} (h : j < n) (hn : n < 2147483648) : inb (nI j) n = true := by
  have h1 : ¬ nI j < 0 := nI_pos (by omega)
  have h2 : (nI j).toNatClampNeg = j := nI_clamp (by omega)
  simp [inb, h1, h2, h]
theorem ixI_of {M : Mm} {a j n : Nat} (h : sh M a = some (.inr (0, n))) (hj : j < n) (hn : n < 2147483648) : ixI M a (nI j) := ⟨0, n, h, Or.inl rfl, inb_nI hj hn⟩
theorem ixW_of {M : Mm} {a j n : Nat} (h : sh M a = some (.inr (0, n))) (hj : j < n) (hn : n < 2147483648) : ixW M a (nI j) := ⟨n, h, inb_nI hj hn⟩
theorem ixB_of {M : Mm} {a j n : Nat} (h : sh M a = some (.inr (2, n))) (hj : j < n) (hn : n < 2147483648) : ixB M a (nI j) := ⟨2, n, h, Or.inl rfl, inb_nI hj hn⟩
theorem ixZ_of {M : Mm} {a j n : Nat} (h : sh M a = some (.inr (3, n))) (hj : j < n) (hn : n < 2147483648) : ixB M a (nI j) := ⟨3, n, h, Or.inr rfl, inb_nI hj hn⟩
theorem ixJ_of {M : Mm} {a j n : Nat} (h : sh M a = some (.inr (1, n))) (hj : j < n) (hn : n < 2147483648) : ixJ M a (nI j) := ⟨n, h, inb_nI hj hn⟩
theorem ixR_of {M : Mm} {a j n kd : Nat} (h : sh M a = some (.inr (kd, n))) (hk : 10 ≤ kd) (hj : j < n) (hn : n < 2147483648) : ixR M a (nI j) := ⟨kd, n, h, hk, inb_nI hj hn⟩
theorem bsW_b {M : Mm} {a j n : Nat} {x : Int32} {K : Mm → Prop} (h : sh M a = some (.inr (2, n))) (hj : j < n) (hn : n < 2147483648) : bsW M a (nI j) x K = K (sI M a j (vp_nar .byte x)) := by
  simp only [bsW, h, inb_nI hj hn, cl_nI (show j < 2147483648 by omega), true_and]
theorem bsW_z {M : Mm} {a j n : Nat} {x : Int32} {K : Mm → Prop} (h : sh M a = some (.inr (3, n))) (hj : j < n) (hn : n < 2147483648) : bsW M a (nI j) x K = K (sI M a j (vp_nar .boolean x)) := by
  simp only [bsW, h, inb_nI hj hn, cl_nI (show j < 2147483648 by omega), true_and]
theorem nI_i1 (n : Nat) : nI n + 1 = nI (n + 1) := nI_1 n
/-- a small number as a byte -/
theorem byte_nI {c : Nat} (h : c < 128) : vp_nar .byte (nI c) = nI c ∧ (nI c).toInt8.toInt32 = nI c := by
  have key : ∀ c, c < 128 → (nI c).toInt8.toInt32 = nI c := by decide
  exact ⟨key c h, key c h⟩
/-- a WORD of the class: a cell of class 10 with its row beside it -/
def WS (M : Mm) (w room : Nat) : Prop := sh M w = some (.inl 10) ∧ gR M w 0 = some (w + 1) ∧ sh M (w + 1) = some (.inr (2, room))
theorem c_Word_clear {M : Mm} {w room : Nat} {Q : Option Value → Mm → Prop} (h : WS M w room) : wp F_Word_clear 0 [.ref w] [] M Q = Q none (sI M w 1 0) := by
  simp only [B_Word_clear_0, h.1, true_and]
/-- what else a method may have written: whole numbers of the cells S alone -/
def FrS (S : Nat → Prop) (M M' : Mm) : Prop := ∃ F, M' = wI M F ∧ ∀ b k, ¬ S b → F b k = gI M b k
theorem FrS.rfl {S : Nat → Prop} {M : Mm} : FrS S M M := ⟨gI M, Eq.refl _, fun _ _ _ => Eq.refl _⟩
theorem FrS.trans {S : Nat → Prop} {M M1 M2 : Mm} (h : FrS S M M1) (h2 : FrS S M1 M2) : FrS S M M2 := by
  obtain ⟨F, e, hF⟩ := h
  obtain ⟨F2, e2, hF2⟩ := h2
  subst e
  exact ⟨F2, e2, fun b k hb => (hF2 b k hb).trans (hF b k hb)⟩
theorem FrS.weaken {S T : Nat → Prop} {M M1 : Mm} (h : FrS S M M1) (hs : ∀ b, S b → T b) : FrS T M M1 := by
  obtain ⟨F, e, hF⟩ := h
  exact ⟨F, e, fun b k hb => hF b k (fun q => hb (hs b q))⟩
theorem FrS.gI {S : Nat → Prop} {M M1 : Mm} (h : FrS S M M1) {b : Nat} (hb : ¬ S b) (k : Nat) : gI M1 b k = gI M b k := by
  obtain ⟨F, e, hF⟩ := h
  subst e
  exact hF b k hb
theorem FrS.sh {S : Nat → Prop} {M M1 : Mm} (h : FrS S M M1) (b : Nat) : sh M1 b = sh M b := by obtain ⟨F, e, -⟩ := h; subst e; exact Eq.refl _
theorem FrS.gR {S : Nat → Prop} {M M1 : Mm} (h : FrS S M M1) (b k : Nat) : gR M1 b k = gR M b k := by obtain ⟨F, e, -⟩ := h; subst e; exact Eq.refl _
theorem FrS.gJ {S : Nat → Prop} {M M1 : Mm} (h : FrS S M M1) (b k : Nat) : gJ M1 b k = gJ M b k := by obtain ⟨F, e, -⟩ := h; subst e; exact Eq.refl _
theorem FrS.nxt {S : Nat → Prop} {M M1 : Mm} (h : FrS S M M1) : nxt M1 = nxt M := by obtain ⟨F, e, -⟩ := h; subst e; exact Eq.refl _
theorem FrS.slo {S : Nat → Prop} {M M1 : Mm} (h : FrS S M M1) : slo M1 = slo M := by obtain ⟨F, e, -⟩ := h; subst e; exact Eq.refl _
theorem FrS.sI {S : Nat → Prop} {M : Mm} {a j : Nat} {x : Int32} (h : S a) : FrS S M (sI M a j x) := ⟨_, Eq.refl _, fun b k hb => by
  have : ¬ (b = a ∧ k = j) := fun q => hb (q.1 ▸ h)
  show (if b = a ∧ k = j then x else _) = _
  rw [if_neg this]; exact Eq.refl _⟩
def WV (M : Mm) (w : Nat) (l : List Nat) : Prop := gI M w 1 = nI l.length ∧ (∀ j, j < l.length → gI M (w + 1) j = nI (l.getD j 0)) ∧ ∀ c ∈ l, c < 128
abbrev wS (w : Nat) : Nat → Prop := fun b => b = w ∨ b = w + 1
theorem WS.fr {M M1 : Mm} {S : Nat → Prop} {w room : Nat} (h : WS M w room) (hf : FrS S M M1) : WS M1 w room := ⟨(hf.sh _).trans h.1, (hf.gR _ _).trans h.2.1, (hf.sh _).trans h.2.2⟩
theorem WV.fr {M M1 : Mm} {S : Nat → Prop} {w : Nat} {l : List Nat} (h : WV M w l) (hf : FrS S M M1) (h1 : ¬ S w) (h2 : ¬ S (w + 1)) : WV M1 w l := ⟨(hf.gI h1 _).trans h.1, fun j hj => (hf.gI h2 _).trans (h.2.1 j hj), h.2.2⟩
theorem WS.ne {M : Mm} {w v rw rv : Nat} (h : WS M w rw) (h2 : WS M v rv) : v ≠ w + 1 ∧ w ≠ v + 1 := by
  refine ⟨fun e => ?_, fun e => ?_⟩
  · have := h.2.2; rw [← e, h2.1] at this; cases this
  · have := h2.2.2; rw [← e, h.1] at this; cases this
theorem getD_lt {l : List Nat} (h : ∀ c ∈ l, c < 128) {j : Nat} (hj : j < l.length) : l.getD j 0 < 128 := by
  rw [List.getD_eq_getElem?_getD, List.getElem?_eq_getElem hj]
  exact h _ (List.getElem_mem hj)
theorem getD_app {l : List Nat} {c j : Nat} (h : j < l.length + 1) : (l ++ [c]).getD j 0 = if j < l.length then l.getD j 0 else c := by
  by_cases q : j < l.length
  · rw [if_pos q, List.getD_eq_getElem?_getD, List.getElem?_append_left q, ← List.getD_eq_getElem?_getD]
  · have : j = l.length := by omega
    subst this
    simp
theorem k_Word_clear {M : Mm} {w room : Nat} {Q : Option Value → Mm → Prop} (h : WS M w room) (hQ : ∀ M', FrS (wS w) M M' → WV M' w [] → Q none M') : wp F_Word_clear 0 [.ref w] [] M Q := by
  rw [c_Word_clear h]
  exact hQ _ (FrS.sI (Or.inl (Eq.refl _))) ⟨by simp only [SS, and_self, if_true]; rfl, fun j hj => by simp at hj, fun c hc => by simp at hc⟩
theorem k_Word_add {M : Mm} {w room c : Nat} {l : List Nat} {Q : Option Value → Mm → Prop} (h : WS M w room) (hv : WV M w l) (hc : c < 128) (hr : room < 2147483648) (hlt : l.length < room) (hQ : ∀ M', FrS (wS w) M M' → WV M' w (l ++ [c]) → Q none M') : wp F_Word_add 0 [.ref w, .int (nI c)] [] M Q := by
  have e1 : ¬ nI room ≤ nI l.length := nI_ge hlt (by omega)
  have e2 := byte_nI hc
  simp only [B_Word_add_0, B_Word_add_33, SS, h.1, h.2.1, h.2.2, hv.1, true_and, e1, if_false, bsW_b h.2.2 hlt hr, e2.1, e2.2, nI_i1]
  have n1 : ¬ w = w + 1 := by omega
  have n2 : ¬ w + 1 = w := by omega
  simp only [n1, false_and, if_false, hv.1, nI_i1]
  refine hQ _ ((FrS.sI (S := wS w) (Or.inr rfl)).trans (FrS.sI (Or.inl rfl))) ⟨?_, fun j hj => ?_, fun d hd => ?_⟩
  · simp only [SS, and_self, if_true, List.length_append, List.length_cons, List.length_nil]
  · simp only [List.length_append, List.length_cons, List.length_nil] at hj
    simp only [SS, n2, false_and, if_false, true_and]
    rw [getD_app hj]
    by_cases q : j < l.length
    · rw [if_neg (by omega), if_pos q]
      exact hv.2.1 j q
    · rw [if_pos (by omega), if_neg q]
  · rcases List.mem_append.mp hd with q | q
    · exact hv.2.2 d q
    · rw [List.mem_singleton.mp q]; exact hc
theorem k_Word_become {M : Mm} {w v rw rv : Nat} {l : List Nat} {Q : Option Value → Mm → Prop} (h : WS M w rw) (h2 : WS M v rv) (hl : WV M v l) (hne : v ≠ w) (hr : l.length ≤ rw) (hrv : l.length ≤ rv) (b1 : rw < 2147483648) (b2 : rv < 2147483648)
    (hQ : ∀ M', FrS (wS w) M M' → WV M' w l → Q none M') : wp F_Word_become 0 [.ref w, .ref v, jk, jk] [] M Q := by
  obtain ⟨n1, n2⟩ := h.ne h2
  have loop : ∀ k i, i + k = l.length → ∀ F : Nat → Nat → Int32, (∀ b q, F b q = if b = w + 1 ∧ q < i then nI (l.getD q 0) else gI M b q) → wp F_Word_become 4 [.ref w, .ref v, .int (nI i), .int (nI i)] [] (wI M F) Q := by
    intro k
    induction k with
    | zero =>
      intro i hi F hF
      have e1 : F v 1 = nI l.length := by rw [hF, if_neg (fun q => n1 q.1)]; exact hl.1
      have e2 : nI l.length ≤ nI i := nI_le (by omega) (by omega)
      simp only [B_Word_become_4, B_Word_become_42, SS, h.1, h2.1, e1, e2, if_true, true_and]
      refine hQ _ ⟨_, rfl, fun b q hb => ?_⟩ ⟨?_, fun j hj => ?_, hl.2.2⟩
      · show (if b = w ∧ q = 1 then _ else F b q) = _
        rw [if_neg (fun z => hb (Or.inl z.1)), hF, if_neg (fun z => hb (Or.inr z.1))]
      · show (if w = w ∧ 1 = 1 then nI i else _) = _
        rw [if_pos ⟨rfl, rfl⟩, show i = l.length by omega]
      · show (if w + 1 = w ∧ j = 1 then _ else F (w + 1) j) = _
        rw [if_neg (by omega), hF, if_pos ⟨rfl, by omega⟩]
    | succ k ih =>
      intro i hi F hF
      have e1 : F v 1 = nI l.length := by rw [hF, if_neg (fun q => n1 q.1)]; exact hl.1
      have e2 : ¬ nI l.length ≤ nI i := nI_ge (by omega) (by omega)
      have e3 : ¬ nI rw ≤ nI i := nI_ge (by omega) (by omega)
      have e4 : F (v + 1) i = nI (l.getD i 0) := by rw [hF, if_neg (fun q => hne (by omega))]; exact hl.2.1 i (by omega)
      have e5 := byte_nI (getD_lt hl.2.2 (show i < l.length by omega))
      have e6 : ixB (wI M F) (v + 1) (nI i) := ixB_of h2.2.2 (by omega) (by omega)
      have e7 : ∀ x K, bsW (wI M F) (w + 1) (nI i) x K = K (sI (wI M F) (w + 1) i (vp_nar .byte x)) := fun x K => bsW_b h.2.2 (by omega) b1
      have e8 : cl (nI i) = i := cl_nI (by omega)
      simp only [B_Word_become_4, SS, h.1, h.2.1, h.2.2, h2.1, h2.2.1, e1, e2, e3, e4, e5.1, e6, e7, e8, if_false, true_and, nI_i1]
      rw [G_Word_become_39]
      refine ih (i + 1) (by omega) _ (fun b q => ?_)
      show (if b = w + 1 ∧ q = i then _ else F b q) = _
      rw [hF]
      by_cases z : b = w + 1
      · by_cases y : q = i
        · rw [if_pos ⟨z, y⟩, if_pos ⟨z, by omega⟩, y]
        · rw [if_neg (fun u => y u.2)]
          by_cases x : q < i
          · rw [if_pos ⟨z, x⟩, if_pos ⟨z, by omega⟩]
          · rw [if_neg (fun u => x u.2), if_neg (fun u => by omega)]
      · rw [if_neg (fun u => z u.1), if_neg (fun u => z u.1), if_neg (fun u => z u.1)]
  simp only [B_Word_become_0, SS]
  exact loop l.length 0 (by omega) (gI M) (fun b q => by rw [if_neg (fun u => by omega)])
