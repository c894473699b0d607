/-! the class's constructor, from its end -/
def HH (M : Mm) (x : Nat) : Prop := sh M x = some (.inl 11) ∧ gR M x 3 = some (x + 2) ∧ sh M (x + 2) = some (.inr (0, 26)) ∧ gR M x 5 = some (x + 8) ∧ sh M (x + 8) = some (.inr (10, 8))
def RR (f c x : Nat) (M M' : Mm) : Prop := FrX (fun b => b = x + 2) (fun b => b = x ∨ b = x + 8) M M' ∧ (∀ j, j < f → gR M' x j = gR M x j) ∧ nxt M' = x + 1064 ∧ slo M' ≤ slo M + c
def Stq (x f : Nat) (M M3 : Mm) : Prop := FrX (fun _ => False) (fun b => b = x) M M3 ∧ ∀ j, j ≠ f → gR M3 x j = gR M x j
theorem HH.st {M M3 : Mm} {x f : Nat} (h : HH M x) (s : Stq x f M M3) (hf : 6 ≤ f) (hn : x + 9 ≤ nxt M) : HH M3 x :=
  ⟨(s.1.2.2.1 _ (by omega)).trans h.1, (s.2 _ (by omega)).trans h.2.1, (s.1.2.2.1 _ (by omega)).trans h.2.2.1, (s.2 _ (by omega)).trans h.2.2.2.1, (s.1.2.2.1 _ (by omega)).trans h.2.2.2.2⟩
theorem Stq.rr {M M3 M' : Mm} {x f f' c c' : Nat} (s : Stq x f M M3) (r : RR f' c x M3 M') (hf : f < f') (hs : slo M3 + c ≤ slo M + c') : RR f c' x M M' :=
  ⟨(s.1.weaken (fun _ _ q => q.elim) (fun _ _ q => Or.inl q)).trans r.1, fun j hj => (r.2.1 j (by omega)).trans (s.2 j (by omega)), r.2.2.1, by have := r.2.2.2; omega⟩
theorem st_arr {M : Mm} {x f n : Nat} {t : Tg} (hx : x < nxt M) : Stq x f M (sR (nw M t n) x f (some (nxt M))) ∧ sh (sR (nw M t n) x f (some (nxt M))) (nxt M) = some t ∧ gR (sR (nw M t n) x f (some (nxt M))) x f = some (nxt M) ∧ nxt (sR (nw M t n) x f (some (nxt M))) = nxt M + 1 ∧ slo (sR (nw M t n) x f (some (nxt M))) = slo M + n := by
  have h0 : ¬ x = nxt M := by omega
  refine ⟨⟨fx_nw.trans (fx_sR rfl), fun j hj => ?_⟩, ?_, ?_, rfl, rfl⟩
  · rw [gR_sR, if_neg (fun q => hj q.2), gR_nw, if_neg h0]
  · rw [sh_sR, sh_nw, if_pos rfl]
  · rw [gR_sR, if_pos ⟨rfl, rfl⟩]
/-- an object was made, at M2 it stands, and comes into x's field f -/
theorem st_obj {M M2 : Mm} {x f c k : Nat} (hx : x < nxt M) (F : FrX (fun b => b = nxt M) (fun b => b = nxt M) (nw M (.inl c) k) M2) : Stq x f M (sR M2 x f (some (nxt M))) ∧ sh M2 x = sh M x ∧ gR (sR M2 x f (some (nxt M))) x f = some (nxt M) := by
  have F0 : FrX (fun b => b = nxt M) (fun b => b = nxt M) M M2 := fx_nw.trans F
  have F1 : FrX (fun _ => False) (fun _ => False) M M2 := F0.weaken (fun b hb q => by omega) (fun b hb q => by omega)
  refine ⟨⟨(F1.weaken (fun _ _ q => q) (fun _ _ q => q.elim)).trans (fx_sR rfl), fun j hj => ?_⟩, F1.2.2.1 x hx, ?_⟩
  · rw [gR_sR, if_neg (fun q => hj q.2)]
    exact F1.2.2.2.2 x hx (fun q => q) j
  · rw [gR_sR, if_pos ⟨rfl, rfl⟩]
def mkW (M : Mm) (room : Nat) : Mm := sR (nw (nw M (.inl 10) 2) (.inr (2, room)) room) (nxt M) 0 (some (nxt M + 1))
theorem mkW_ok {M : Mm} {room : Nat} : WS (mkW M room) (nxt M) room ∧ FrX (fun _ => False) (fun _ => False) M (mkW M room) ∧ nxt (mkW M room) = nxt M + 2 ∧ slo (mkW M room) = slo M + 2 + room ∧ (∀ j, gI (mkW M room) (nxt M) j = 0) ∧ FrX (fun b => b = nxt M) (fun b => b = nxt M) (nw M (.inl 10) 2) (mkW M room) := by
  have a1 : ¬ nxt M = nxt M + 1 := by omega
  have F : FrX (fun b => b = nxt M) (fun b => b = nxt M) (nw M (.inl 10) 2) (mkW M room) := fx_nw.trans (fx_sR rfl)
  refine ⟨⟨?_, ?_, ?_⟩, (fx_nw.trans F).weaken (fun b hb q => by omega) (fun b hb q => by omega), rfl, rfl, fun j => ?_, F⟩
  · simp [mkW, SS, sh_nw, nxt_nw]
  · simp [mkW, SS]
  · simp [mkW, SS, sh_nw, nxt_nw]
  · simp [mkW, SS, gI_nw, nxt_nw]
theorem c_mkW {M : Mm} {room : Nat} {Q : Option Value → Mm → Prop} (hr : room ≤ 16777216) : wp F_Word_init 0 [.ref (nxt M), .int (nI room)] [] (nw M (.inl 10) 2) Q = Q none (mkW M room) := by
  rw [c_Word_init (by rw [sh_nw, if_pos rfl]) (by rw [nxt_nw]; omega) hr]
  rfl
def GL (M : Mm) (x : Nat) : Prop := (∀ j, j < 26 → gI M (x + 2) j = -1) ∧ ∀ i, i < 8 → gR M (x + 8) i = some (x + 1048 + 2 * i) ∧ WS M (x + 1048 + 2 * i) 80 ∧ gI M (x + 1048 + 2 * i) 1 = 0
section TT
variable {M : Mm} {x : Nat} {Q : Option Value → Mm → Prop}
theorem tL (h : HH M x) (hn : nxt M = x + 1048) (hQ : ∀ M', RR 20 656 x M M' → GL M' x → Q none M') : wp F_Mr_init 222 [.ref x, .int (nI 0)] [] M Q := by
  obtain ⟨h1, h2, h3, h4, h5⟩ := h
  have fill : ∀ d i (M1 : Mm), i + d = 26 → FrS (fun b => b = x + 2) M M1 → (∀ j, j < i → gI M1 (x + 2) j = -1) → (∀ M2 (l1 : Value), FrS (fun b => b = x + 2) M M2 → (∀ j, j < 26 → gI M2 (x + 2) j = -1) → wp F_Mr_init 241 [.ref x, l1] [] M2 Q) → wp F_Mr_init 222 [.ref x, .int (nI i)] [] M1 Q := by
    intro d
    induction d with
    | zero =>
      intro i M1 hi F hj K
      have g : (26 : Int32) ≤ nI i := nI_le (a := 26) (by omega) (by omega)
      simp only [B_Mr_init_222, g, if_true]
      exact K M1 _ F (fun j h => hj j (by omega))
    | succ d ih =>
      intro i M1 hi F hj K
      have g : ¬ (26 : Int32) ≤ nI i := nI_ge (b := 26) (by omega) (by omega)
      have ix : ixW M1 (x + 2) (nI i) := ixW_of ((F.sh _).trans h3) (by omega) (by omega)
      simp only [B_Mr_init_222, g, if_false, SS, (F.sh _).trans h1, (F.gR _ _).trans h2, ix, cl_nI (show i < 2147483648 by omega), true_and, nI_i1]
      rw [G_Mr_init_238]
      refine ih (i + 1) _ (by omega) (F.trans (FrS.sI rfl)) (fun j h => ?_) K
      rw [gI_sI]
      by_cases e : j = i
      · rw [if_pos ⟨rfl, e⟩]
      · rw [if_neg (fun q => e q.2)]; exact hj j (by omega)
  refine fill 26 0 M rfl FrS.rfl (fun j h => by omega) ?_
  intro M2 l1 F2 g2
  simp only [B_Mr_init_241]
  have loop : ∀ d i (M3 : Mm), i + d = 8 → FrX (fun b => b = x + 2) (fun b => b = x + 8) M M3 → (∀ j, j < 26 → gI M3 (x + 2) j = -1) → (∀ j, j < i → gR M3 (x + 8) j = some (x + 1048 + 2 * j) ∧ WS M3 (x + 1048 + 2 * j) 80 ∧ gI M3 (x + 1048 + 2 * j) 1 = 0) → nxt M3 = x + 1048 + 2 * i → slo M3 = slo M + 82 * i → wp F_Mr_init 243 [.ref x, .int (nI i)] [] M3 Q := by
    intro d
    induction d with
    | zero =>
      intro i M3 hi F hg hs hn3 hsl
      have g : (8 : Int32) ≤ nI i := nI_le (a := 8) (by omega) (by omega)
      simp only [B_Mr_init_243, B_Mr_init_270, g, if_true]
      exact hQ M3 ⟨F.weaken (fun _ _ q => q) (fun _ _ q => Or.inr q), fun j _ => F.2.2.2.2 _ (by omega) (by omega) j, by omega, by omega⟩ ⟨hg, fun j hj => hs j (by omega)⟩
    | succ d ih =>
      intro i M3 hi F hg hs hn3 hsl
      have g : ¬ (8 : Int32) ≤ nI i := nI_ge (b := 8) (by omega) (by omega)
      have x1 := (F.2.2.1 x (by omega)).trans h1
      have x5 := (F.2.2.2.2 x (by omega) (by omega) 5).trans h4
      have k80 : (80 : Int32) = nI 80 := rfl
      simp only [B_Mr_init_243, g, if_false, SS, x1, x5, true_and, k80]
      rw [c_mkW (by omega)]
      obtain ⟨w1, w2, w3, w4, w5, -⟩ := mkW_ok (M := M3) (room := 80)
      generalize mkW M3 80 = M4 at w1 w2 w3 w4 w5
      have s8 : sh M4 (x + 8) = some (.inr (10, 8)) := (w2.2.2.1 _ (by omega)).trans ((F.2.2.1 _ (by omega)).trans h5)
      have okA : (∃ kd n c, sh M4 (x + 8) = some (.inr (kd, n)) ∧ sh M4 (nxt M3) = some (.inl c) ∧ lk aO 0 kd = some c ∧ inb (nI i) n = true) := ⟨10, 8, 10, s8, w1.1, by decide, inb_nI (by omega) (by omega)⟩
      simp only [SS, Option.toList_none, List.nil_append, B_Mr_init_243, okA, cl_nI (show i < 2147483648 by omega), true_and, nI_i1]
      rw [G_Mr_init_267]
      have F5 : FrX (fun _ => False) (fun b => b = x + 8) M4 (sR M4 (x + 8) i (some (nxt M3))) := fx_sR rfl
      have F35 : FrX (fun _ => False) (fun b => b = x + 8) M3 (sR M4 (x + 8) i (some (nxt M3))) := (w2.weaken (fun _ _ q => q) (fun _ _ q => q.elim)).trans F5
      refine ih (i + 1) _ (by omega) (F.trans (F35.weaken (fun _ _ q => q.elim) (fun _ _ q => q))) (fun j hj => ((F35.2.2.2.1 _ (by omega) (fun q => q)).1 j).trans (hg j hj)) (fun j hj => ?_) (by show nxt M4 = _; omega) (by show slo M4 = _; omega)
      by_cases e : j = i
      · subst e
        rw [gR_sR, if_pos ⟨rfl, rfl⟩]
        rw [← hn3]
        exact ⟨rfl, w1.frx F5 (by omega) (by omega), w5 1⟩
      · obtain ⟨r1, r2, r3⟩ := hs j (by omega)
        refine ⟨?_, r2.frx F35 (by omega) (by omega), ((F35.2.2.2.1 _ (by omega) (fun q => q)).1 _).trans r3⟩
        rw [gR_sR, if_neg (fun q => e q.2)]
        exact (w2.2.2.2.2 _ (by omega) (fun q => q) j).trans r1
  exact loop 8 0 M2 rfl (F2.x.weaken (fun _ _ q => q) (fun _ _ q => q.elim)) g2 (fun j hj => by omega) (by rw [F2.nxt]; omega) (by rw [F2.slo]; omega)
def G19 (M : Mm) (x : Nat) : Prop := gR M x 19 = some (x + 1047) ∧ sh M (x + 1047) = some (.inr (0, 201)) ∧ GL M x
theorem t19 (h : HH M x) (hn : nxt M = x + 1047) (hQ : ∀ M', RR 19 857 x M M' → G19 M' x → Q none M') : wp F_Mr_init 211 [.ref x, jk] [] M Q := by
  have k : (201 : Int32) = nI 201 := rfl
  simp only [R_Mr_init_211, R_Mr_init_212, R_Mr_init_215, R_Mr_init_217, R_Mr_init_220, R_Mr_init_221, k, cl_nI (show 201 < 2147483648 by omega), arr_ok (show 201 ≤ 16777216 by omega), true_and, sh_nw, show ¬ x = nxt M by omega, if_false, h.1]
  obtain ⟨a1, a2, a3, a4, a5⟩ := st_arr (f := 19) (n := 201) (t := .inr (0, 201)) (show x < nxt M by omega)
  refine tL (h.st a1 (by omega) (by omega)) (by rw [a4]; omega) ?_
  intro M' r g
  refine hQ M' (a1.rr r (by omega) (by omega)) ⟨(r.2.1 _ (by omega)).trans (by rw [a3, hn]), ?_, g⟩
  exact (r.1.2.2.1 _ (by omega)).trans ((congrArg (sh _) hn).symm.trans a2)
def G18 (M : Mm) (x : Nat) : Prop := gR M x 18 = some (x + 1045) ∧ WS M (x + 1045) 120 ∧ G19 M x
theorem t18 (h : HH M x) (hn : nxt M = x + 1045) (hQ : ∀ M', RR 18 979 x M M' → G18 M' x → Q none M') : wp F_Mr_init 198 [.ref x, jk] [] M Q := by
  have k : (120 : Int32) = nI 120 := rfl
  simp only [R_Mr_init_198, R_Mr_init_199, R_Mr_init_202, R_Mr_init_203, R_Mr_init_205, k]
  rw [c_mkW (by omega)]
  obtain ⟨w1, w2, w3, w4, w5, w6⟩ := mkW_ok (M := M) (room := 120)
  generalize mkW M 120 = M2 at w1 w2 w3 w4 w5 w6
  obtain ⟨a1, a2, a3⟩ := st_obj (f := 18) (show x < nxt M by omega) w6
  simp only [Option.toList_none, List.nil_append, R_Mr_init_208, a2, h.1, true_and]
  refine t19 (h.st a1 (by omega) (by omega)) (by show nxt M2 = _; omega) ?_
  intro M' r g
  have F2 : FrX (fun b => b = x + 2) (fun b => b = x ∨ b = x + 8) M2 M' := (fx_sR (Or.inl rfl)).trans r.1
  refine hQ M' (a1.rr r (by omega) (by show slo M2 + _ ≤ _; omega)) ⟨(r.2.1 _ (by omega)).trans (by rw [a3, hn]), ?_, g⟩
  rw [hn] at w1
  exact w1.frx F2 (by omega) (by omega)
def G17 (M : Mm) (x : Nat) : Prop := gR M x 17 = some (x + 1043) ∧ WS M (x + 1043) 120 ∧ G18 M x
theorem t17 (h : HH M x) (hn : nxt M = x + 1043) (hQ : ∀ M', RR 17 1101 x M M' → G17 M' x → Q none M') : wp F_Mr_init 185 [.ref x, jk] [] M Q := by
  have k : (120 : Int32) = nI 120 := rfl
  simp only [R_Mr_init_185, R_Mr_init_186, R_Mr_init_189, R_Mr_init_190, R_Mr_init_192, k]
  rw [c_mkW (by omega)]
  obtain ⟨w1, w2, w3, w4, w5, w6⟩ := mkW_ok (M := M) (room := 120)
  generalize mkW M 120 = M2 at w1 w2 w3 w4 w5 w6
  obtain ⟨a1, a2, a3⟩ := st_obj (f := 17) (show x < nxt M by omega) w6
  simp only [Option.toList_none, List.nil_append, R_Mr_init_195, a2, h.1, true_and]
  refine t18 (h.st a1 (by omega) (by omega)) (by show nxt M2 = _; omega) ?_
  intro M' r g
  have F2 : FrX (fun b => b = x + 2) (fun b => b = x ∨ b = x + 8) M2 M' := (fx_sR (Or.inl rfl)).trans r.1
  refine hQ M' (a1.rr r (by omega) (by show slo M2 + _ ≤ _; omega)) ⟨(r.2.1 _ (by omega)).trans (by rw [a3, hn]), ?_, g⟩
  rw [hn] at w1
  exact w1.frx F2 (by omega) (by omega)
def G16 (M : Mm) (x : Nat) : Prop := gR M x 16 = some (x + 1041) ∧ WS M (x + 1041) 120 ∧ G17 M x
theorem t16 (h : HH M x) (hn : nxt M = x + 1041) (hQ : ∀ M', RR 16 1223 x M M' → G16 M' x → Q none M') : wp F_Mr_init 172 [.ref x, jk] [] M Q := by
  have k : (120 : Int32) = nI 120 := rfl
  simp only [R_Mr_init_172, R_Mr_init_173, R_Mr_init_176, R_Mr_init_177, R_Mr_init_179, k]
  rw [c_mkW (by omega)]
  obtain ⟨w1, w2, w3, w4, w5, w6⟩ := mkW_ok (M := M) (room := 120)
  generalize mkW M 120 = M2 at w1 w2 w3 w4 w5 w6
  obtain ⟨a1, a2, a3⟩ := st_obj (f := 16) (show x < nxt M by omega) w6
  simp only [Option.toList_none, List.nil_append, R_Mr_init_182, a2, h.1, true_and]
  refine t17 (h.st a1 (by omega) (by omega)) (by show nxt M2 = _; omega) ?_
  intro M' r g
  have F2 : FrX (fun b => b = x + 2) (fun b => b = x ∨ b = x + 8) M2 M' := (fx_sR (Or.inl rfl)).trans r.1
  refine hQ M' (a1.rr r (by omega) (by show slo M2 + _ ≤ _; omega)) ⟨(r.2.1 _ (by omega)).trans (by rw [a3, hn]), ?_, g⟩
  rw [hn] at w1
  exact w1.frx F2 (by omega) (by omega)
def G14 (M : Mm) (x : Nat) : Prop := gR M x 14 = some (x + 1040) ∧ sh M (x + 1040) = some (.inr (0, 300)) ∧ G16 M x
theorem t14 (h : HH M x) (hn : nxt M = x + 1040) (hQ : ∀ M', RR 14 1523 x M M' → G14 M' x → Q none M') : wp F_Mr_init 163 [.ref x, jk] [] M Q := by
  have k : (300 : Int32) = nI 300 := rfl
  simp only [R_Mr_init_163, R_Mr_init_164, R_Mr_init_167, R_Mr_init_169, k, cl_nI (show 300 < 2147483648 by omega), arr_ok (show 300 ≤ 16777216 by omega), true_and, sh_nw, show ¬ x = nxt M by omega, if_false, h.1]
  obtain ⟨a1, a2, a3, a4, a5⟩ := st_arr (f := 14) (n := 300) (t := .inr (0, 300)) (show x < nxt M by omega)
  refine t16 (h.st a1 (by omega) (by omega)) (by rw [a4]; omega) ?_
  intro M' r g
  refine hQ M' (a1.rr r (by omega) (by omega)) ⟨(r.2.1 _ (by omega)).trans (by rw [a3, hn]), ?_, g⟩
  exact (r.1.2.2.1 _ (by omega)).trans ((congrArg (sh _) hn).symm.trans a2)
def G13 (M : Mm) (x : Nat) : Prop := gR M x 13 = some (x + 1039) ∧ sh M (x + 1039) = some (.inr (0, 300)) ∧ G14 M x
theorem t13 (h : HH M x) (hn : nxt M = x + 1039) (hQ : ∀ M', RR 13 1823 x M M' → G13 M' x → Q none M') : wp F_Mr_init 154 [.ref x, jk] [] M Q := by
  have k : (300 : Int32) = nI 300 := rfl
  simp only [R_Mr_init_154, R_Mr_init_155, R_Mr_init_158, R_Mr_init_160, k, cl_nI (show 300 < 2147483648 by omega), arr_ok (show 300 ≤ 16777216 by omega), true_and, sh_nw, show ¬ x = nxt M by omega, if_false, h.1]
  obtain ⟨a1, a2, a3, a4, a5⟩ := st_arr (f := 13) (n := 300) (t := .inr (0, 300)) (show x < nxt M by omega)
  refine t14 (h.st a1 (by omega) (by omega)) (by rw [a4]; omega) ?_
  intro M' r g
  refine hQ M' (a1.rr r (by omega) (by omega)) ⟨(r.2.1 _ (by omega)).trans (by rw [a3, hn]), ?_, g⟩
  exact (r.1.2.2.1 _ (by omega)).trans ((congrArg (sh _) hn).symm.trans a2)
/-- what later steps leave of the cells that stand -/
theorem rr_k {M2 M' : Mm} {f c p : Nat} {v : Option Nat} (r : RR f c x (sR M2 x p v) M') : (∀ b, b < nxt M2 → sh M' b = sh M2 b) ∧ (∀ b, b < nxt M2 → b ≠ x → b ≠ x + 8 → ∀ j, gR M' b j = gR M2 b j) ∧ (∀ b, b < nxt M2 → b ≠ x + 2 → ∀ j, gI M' b j = gI M2 b j) ∧ FrX (fun b => b = x + 2) (fun b => b = x ∨ b = x + 8) M2 M' := by
  have F2 : FrX (fun b => b = x + 2) (fun b => b = x ∨ b = x + 8) M2 M' := (fx_sR (Or.inl rfl)).trans r.1
  exact ⟨F2.2.2.1, fun b hb h1 h2 j => F2.2.2.2.2 b hb (fun q => q.elim h1 h2) j, fun b hb h1 j => (F2.2.2.2.1 b hb h1).1 j, F2⟩
def G12 (M : Mm) (x : Nat) : Prop := gR M x 12 = some (x + 1034) ∧ (sh M (x + 1034) = some (.inl 1) ∧ (gR M (x + 1034) 0 = some (x + 9) ∧ gR M (x + 1034) 1 = some (x + 1013) ∧ gR M (x + 1034) 2 = some (x + 1035) ∧ gR M (x + 1034) 6 = some (x + 1036) ∧ gR M (x + 1034) 7 = some (x + 1037) ∧ gR M (x + 1034) 8 = some (x + 1038)) ∧ (sh M (x + 1035) = some (.inr (1, 0)) ∧ sh M (x + 1036) = some (.inr (0, 0)) ∧ sh M (x + 1037) = some (.inr (0, 0)) ∧ sh M (x + 1038) = some (.inr (1, 0)))) ∧ (∀ j, gI M (x + 1034) j = 0) ∧ G13 M x
theorem t12 (h : HH M x) (h6 : gR M x 6 = some (x + 9)) (h8 : gR M x 8 = some (x + 1013)) (hn : nxt M = x + 1034) (hQ : ∀ M', RR 12 1832 x M M' → G12 M' x → Q none M') : wp F_Mr_init 135 [.ref x, jk] [] M Q := by
  have e1 : ¬ x = nxt M := by omega
  simp only [R_Mr_init_135, R_Mr_init_136, R_Mr_init_139, R_Mr_init_140, R_Mr_init_141, R_Mr_init_144, R_Mr_init_145, R_Mr_init_148, SS, sh_nw, gR_nw, e1, if_false, h.1, h6, h8, true_and]
  refine k_Elem_init (by rw [sh_nw, if_pos rfl]) rfl ?_
  intro M2 F ⟨c0, c1, c2, c3, c4, c5, c6, c7, c8, c9⟩ n2 s2
  obtain ⟨a1, a2, a3⟩ := st_obj (f := 12) (show x < nxt M by omega) (F.weaken (fun _ _ q => q.elim) (fun _ _ q => q))
  rw [slo_nw] at s2
  simp only [Option.toList_none, List.nil_append, R_Mr_init_151, a2, h.1, true_and]
  refine t13 (h.st a1 (by omega) (by omega)) (by show nxt M2 = _; omega) ?_
  intro M' r g
  obtain ⟨q1, q2, q3, q4⟩ := rr_k r
  rw [hn] at c0 c1 c2 c3 c4 c5 c6 c7 c8 c9
  have sp : sh M2 (x + 1034) = some (.inl 1) := by rw [← hn]; exact (F.2.2.1 _ (by rw [nxt_nw]; omega)).trans (by rw [sh_nw, if_pos rfl])
  have gz : ∀ j, gI M2 (x + 1034) j = 0 := fun j => by rw [← hn]; exact ((F.2.2.2.1 _ (by rw [nxt_nw]; omega) (fun q => q)).1 j).trans (by rw [gI_nw, if_pos rfl])
  refine hQ M' (a1.rr r (by omega) (by show slo M2 + _ ≤ _; omega)) ⟨(r.2.1 _ (by omega)).trans (by rw [a3, hn]), ⟨(q1 _ (by omega)).trans sp, ⟨(q2 _ (by omega) (by omega) (by omega) _).trans c0, (q2 _ (by omega) (by omega) (by omega) _).trans c1, (q2 _ (by omega) (by omega) (by omega) _).trans c2, (q2 _ (by omega) (by omega) (by omega) _).trans c3, (q2 _ (by omega) (by omega) (by omega) _).trans c4, (q2 _ (by omega) (by omega) (by omega) _).trans c5⟩, (q1 _ (by omega)).trans c6, (q1 _ (by omega)).trans c7, (q1 _ (by omega)).trans c8, (q1 _ (by omega)).trans c9⟩, fun j => (q3 _ (by omega) (by omega) j).trans (gz j), g⟩
def G11 (M : Mm) (x : Nat) : Prop := gR M x 11 = some (x + 1029) ∧ FNS M x ∧ (∀ j, gI M (x + 1029) j = 0) ∧ G12 M x
theorem t11 (h : HH M x) (h6 : gR M x 6 = some (x + 9)) (h8 : gR M x 8 = some (x + 1013)) (h9 : gR M x 9 = some (x + 1018)) (hn : nxt M = x + 1029) (hQ : ∀ M', RR 11 2086 x M M' → G11 M' x → Q none M') : wp F_Mr_init 116 [.ref x, jk] [] M Q := by
  have e1 : ¬ x = nxt M := by omega
  simp only [R_Mr_init_116, R_Mr_init_117, R_Mr_init_120, R_Mr_init_121, R_Mr_init_122, R_Mr_init_125, R_Mr_init_126, R_Mr_init_129, SS, sh_nw, gR_nw, e1, if_false, h.1, h6, h9, true_and]
  refine k_Find_init (by rw [sh_nw, if_pos rfl]) rfl ?_
  intro M2 F ⟨c0, c1, c2, c3, c4, c5⟩ n2 s2
  obtain ⟨a1, a2, a3⟩ := st_obj (f := 11) (show x < nxt M by omega) (F.weaken (fun _ _ q => q.elim) (fun _ _ q => q))
  rw [slo_nw] at s2
  simp only [Option.toList_none, List.nil_append, R_Mr_init_132, a2, h.1, true_and]
  refine t12 (h.st a1 (by omega) (by omega)) ((a1.2 _ (by omega)).trans h6) ((a1.2 _ (by omega)).trans h8) (by show nxt M2 = _; omega) ?_
  intro M' r g
  obtain ⟨q1, q2, q3, q4⟩ := rr_k r
  rw [hn] at c0 c1 c2 c3 c4 c5
  have sp : sh M2 (x + 1029) = some (.inl 2) := by rw [← hn]; exact (F.2.2.1 _ (by rw [nxt_nw]; omega)).trans (by rw [sh_nw, if_pos rfl])
  have gz : ∀ j, gI M2 (x + 1029) j = 0 := fun j => by rw [← hn]; exact ((F.2.2.2.1 _ (by rw [nxt_nw]; omega) (fun q => q)).1 j).trans (by rw [gI_nw, if_pos rfl])
  exact hQ M' (a1.rr r (by omega) (by show slo M2 + _ ≤ _; omega)) ⟨(r.2.1 _ (by omega)).trans (by rw [a3, hn]), ⟨(q1 _ (by omega)).trans sp, ⟨(q2 _ (by omega) (by omega) (by omega) _).trans c0, (q2 _ (by omega) (by omega) (by omega) _).trans c1, (q2 _ (by omega) (by omega) (by omega) _).trans c2, (q2 _ (by omega) (by omega) (by omega) _).trans c3⟩, c4.frx q4 (by omega) (by omega), c5.frx q4 (by omega) (by omega)⟩, fun j => (q3 _ (by omega) (by omega) j).trans (gz j), g⟩
def G10 (M : Mm) (x : Nat) : Prop := gR M x 10 = some (x + 1024) ∧ CPS M x ∧ (∀ j, gI M (x + 1024) j = 0) ∧ G11 M x
theorem t10 (h : HH M x) (h6 : gR M x 6 = some (x + 9)) (h7 : gR M x 7 = some (x + 1011)) (h8 : gR M x 8 = some (x + 1013)) (h9 : gR M x 9 = some (x + 1018)) (hn : nxt M = x + 1024) (hQ : ∀ M', RR 10 2338 x M M' → G10 M' x → Q none M') : wp F_Mr_init 93 [.ref x, jk] [] M Q := by
  have e1 : ¬ x = nxt M := by omega
  simp only [R_Mr_init_93, R_Mr_init_94, R_Mr_init_97, R_Mr_init_98, R_Mr_init_99, R_Mr_init_102, R_Mr_init_103, R_Mr_init_106, R_Mr_init_107, R_Mr_init_110, SS, sh_nw, gR_nw, e1, if_false, h.1, h6, h7, h9, true_and]
  refine k_Comp_init (by rw [sh_nw, if_pos rfl]) rfl ?_
  intro M2 F ⟨c0, c1, c2, c3, c4, c5, c6⟩ n2 s2
  obtain ⟨a1, a2, a3⟩ := st_obj (f := 10) (show x < nxt M by omega) (F.weaken (fun _ _ q => q.elim) (fun _ _ q => q))
  rw [slo_nw] at s2
  simp only [Option.toList_none, List.nil_append, R_Mr_init_113, a2, h.1, true_and]
  refine t11 (h.st a1 (by omega) (by omega)) ((a1.2 _ (by omega)).trans h6) ((a1.2 _ (by omega)).trans h8) ((a1.2 _ (by omega)).trans h9) (by show nxt M2 = _; omega) ?_
  intro M' r g
  obtain ⟨q1, q2, q3, q4⟩ := rr_k r
  rw [hn] at c0 c1 c2 c3 c4 c5 c6
  have sp : sh M2 (x + 1024) = some (.inl 0) := by rw [← hn]; exact (F.2.2.1 _ (by rw [nxt_nw]; omega)).trans (by rw [sh_nw, if_pos rfl])
  have gz : ∀ j, gI M2 (x + 1024) j = 0 := fun j => by rw [← hn]; exact ((F.2.2.2.1 _ (by rw [nxt_nw]; omega) (fun q => q)).1 j).trans (by rw [gI_nw, if_pos rfl])
  exact hQ M' (a1.rr r (by omega) (by show slo M2 + _ ≤ _; omega)) ⟨(r.2.1 _ (by omega)).trans (by rw [a3, hn]), ⟨(q1 _ (by omega)).trans sp, ⟨(q2 _ (by omega) (by omega) (by omega) _).trans c0, (q2 _ (by omega) (by omega) (by omega) _).trans c1, (q2 _ (by omega) (by omega) (by omega) _).trans c2, (q2 _ (by omega) (by omega) (by omega) _).trans c3, (q2 _ (by omega) (by omega) (by omega) _).trans c4⟩, c5.frx q4 (by omega) (by omega), c6.frx q4 (by omega) (by omega)⟩, fun j => (q3 _ (by omega) (by omega) j).trans (gz j), g⟩
def G9 (M : Mm) (x : Nat) : Prop := gR M x 9 = some (x + 1018) ∧ RDS M (x + 1018) (x + 9) (x + 1013) ∧ G10 M x
theorem t9 (h : HH M x) (h6 : gR M x 6 = some (x + 9)) (h7 : gR M x 7 = some (x + 1011)) (h8 : gR M x 8 = some (x + 1013)) (hn : nxt M = x + 1018) (hQ : ∀ M', RR 9 3307 x M M' → G9 M' x → Q none M') : wp F_Mr_init 74 [.ref x, jk] [] M Q := by
  have e1 : ¬ x = nxt M := by omega
  simp only [R_Mr_init_74, R_Mr_init_75, R_Mr_init_78, R_Mr_init_79, R_Mr_init_80, R_Mr_init_83, R_Mr_init_84, R_Mr_init_87, SS, sh_nw, gR_nw, e1, if_false, h.1, h6, h8, true_and]
  refine k_Red_init (by rw [sh_nw, if_pos rfl]) rfl ?_
  intro M2 F c0 n2 s2
  obtain ⟨a1, a2, a3⟩ := st_obj (f := 9) (show x < nxt M by omega) (F.weaken (fun _ _ q => q.elim) (fun _ _ q => q))
  rw [slo_nw] at s2
  simp only [Option.toList_none, List.nil_append, R_Mr_init_90, a2, h.1, true_and]
  rw [hn] at c0 n2
  refine t10 (h.st a1 (by omega) (by omega)) ((a1.2 _ (by omega)).trans h6) ((a1.2 _ (by omega)).trans h7) ((a1.2 _ (by omega)).trans h8) (by rw [a3, hn]) (by show nxt M2 = _; omega) ?_
  intro M' r g
  obtain ⟨q1, q2, q3, q4⟩ := rr_k r
  exact hQ M' (a1.rr r (by omega) (by show slo M2 + _ ≤ _; omega)) ⟨(r.2.1 _ (by omega)).trans (by rw [a3, hn]), c0.frx q4 (by omega) (by omega), g⟩
def G8 (M : Mm) (x : Nat) : Prop := gR M x 8 = some (x + 1013) ∧ MCS M (x + 1013) (x + 1014) (x + 1015) (x + 1016) (x + 1017) 64 ∧ G9 M x
theorem t8 (h : HH M x) (h6 : gR M x 6 = some (x + 9)) (h7 : gR M x 7 = some (x + 1011)) (hn : nxt M = x + 1013) (hQ : ∀ M', RR 8 4018 x M M' → G8 M' x → Q none M') : wp F_Mr_init 63 [.ref x, jk] [] M Q := by
  simp only [R_Mr_init_63, R_Mr_init_64, R_Mr_init_67, R_Mr_init_68]
  refine k_Mach_init (by rw [sh_nw, if_pos rfl]) rfl ?_
  intro M2 F c0 n2 s2
  obtain ⟨a1, a2, a3⟩ := st_obj (f := 8) (show x < nxt M by omega) F
  rw [slo_nw] at s2
  simp only [Option.toList_none, List.nil_append, R_Mr_init_71, a2, h.1, true_and]
  rw [hn] at c0 n2
  refine t9 (h.st a1 (by omega) (by omega)) ((a1.2 _ (by omega)).trans h6) ((a1.2 _ (by omega)).trans h7) (by rw [a3, hn]) (by show nxt M2 = _; omega) ?_
  intro M' r g
  obtain ⟨q1, q2, q3, q4⟩ := rr_k r
  exact hQ M' (a1.rr r (by omega) (by show slo M2 + _ ≤ _; omega)) ⟨(r.2.1 _ (by omega)).trans (by rw [a3, hn]), c0.frx q4 (q3 _ (by omega) (by omega) _) (by omega), g⟩
def G7 (M : Mm) (x : Nat) : Prop := gR M x 7 = some (x + 1011) ∧ (sh M (x + 1011) = some (.inl 7) ∧ gR M (x + 1011) 0 = some (x + 1012) ∧ sh M (x + 1012) = some (.inr (12, 1000)) ∧ ∀ j, gR M (x + 1012) j = none) ∧ (∀ j, gI M (x + 1011) j = 0) ∧ G8 M x
theorem t7 (h : HH M x) (h6 : gR M x 6 = some (x + 9)) (hn : nxt M = x + 1011) (hQ : ∀ M', RR 7 5021 x M M' → G7 M' x → Q none M') : wp F_Mr_init 52 [.ref x, jk] [] M Q := by
  simp only [R_Mr_init_52, R_Mr_init_53, R_Mr_init_56, R_Mr_init_57]
  refine k_RowI_init (by rw [sh_nw, if_pos rfl]) rfl ?_
  intro M2 F ⟨c0, c1, c2⟩ n2 s2
  obtain ⟨a1, a2, a3⟩ := st_obj (f := 7) (show x < nxt M by omega) (F.weaken (fun _ _ q => q.elim) (fun _ _ q => q))
  rw [slo_nw] at s2
  simp only [Option.toList_none, List.nil_append, R_Mr_init_60, a2, h.1, true_and]
  rw [hn] at c0 c1 c2 n2
  have sp : sh M2 (x + 1011) = some (.inl 7) := by rw [← hn]; exact (F.2.2.1 _ (by rw [nxt_nw]; omega)).trans (by rw [sh_nw, if_pos rfl])
  have gz : ∀ j, gI M2 (x + 1011) j = 0 := fun j => by rw [← hn]; exact ((F.2.2.2.1 _ (by rw [nxt_nw]; omega) (fun q => q)).1 j).trans (by rw [gI_nw, if_pos rfl])
  refine t8 (h.st a1 (by omega) (by omega)) ((a1.2 _ (by omega)).trans h6) (by rw [a3, hn]) (by show nxt M2 = _; omega) ?_
  intro M' r g
  obtain ⟨q1, q2, q3, q4⟩ := rr_k r
  exact hQ M' (a1.rr r (by omega) (by show slo M2 + _ ≤ _; omega)) ⟨(r.2.1 _ (by omega)).trans (by rw [a3, hn]), ⟨(q1 _ (by omega)).trans sp, (q2 _ (by omega) (by omega) (by omega) _).trans c0, (q1 _ (by omega)).trans c1, fun j => (q2 _ (by omega) (by omega) (by omega) _).trans (c2 j)⟩, fun j => (q3 _ (by omega) (by omega) j).trans (gz j), g⟩
def G6 (M : Mm) (x : Nat) : Prop := gR M x 6 = some (x + 9) ∧ RUS M (x + 9) ∧ (gI M (x + 9) 1 = 0 ∧ gI M (x + 9) 2 = 0 ∧ gI M (x + 9) 3 = 1) ∧ G7 M x
theorem t6 (h : HH M x) (hn : nxt M = x + 9) (hQ : ∀ M', RR 6 30625 x M M' → G6 M' x → Q none M') : wp F_Mr_init 41 [.ref x, jk] [] M Q := by
  simp only [R_Mr_init_41, R_Mr_init_42, R_Mr_init_45, R_Mr_init_46]
  refine k_Rules_init (by rw [sh_nw, if_pos rfl]) rfl (fun j => by rw [gI_nw, if_pos rfl]) ?_
  intro M2 F c0 c1 c2 c3 n2 s2
  obtain ⟨a1, a2, a3⟩ := st_obj (f := 6) (show x < nxt M by omega) F
  rw [slo_nw] at s2
  simp only [Option.toList_none, List.nil_append, R_Mr_init_49, a2, h.1, true_and]
  rw [hn] at c0 c1 c2 c3 n2
  refine t7 (h.st a1 (by omega) (by omega)) (by rw [a3, hn]) (by show nxt M2 = _; omega) ?_
  intro M' r g
  obtain ⟨q1, q2, q3, q4⟩ := rr_k r
  exact hQ M' (a1.rr r (by omega) (by show slo M2 + _ ≤ _; omega)) ⟨(r.2.1 _ (by omega)).trans (by rw [a3, hn]), c0.frx q4 (by omega) (fun b hb q => by have := hb.1; omega), ⟨(q3 _ (by omega) (by omega) _).trans c1, (q3 _ (by omega) (by omega) _).trans c2, (q3 _ (by omega) (by omega) _).trans c3⟩, g⟩
def G5 (M : Mm) (x : Nat) : Prop := gR M x 5 = some (x + 8) ∧ sh M (x + 8) = some (.inr (10, 8)) ∧ G6 M x
theorem t5 (h1 : sh M x = some (.inl 11)) (h2 : gR M x 3 = some (x + 2)) (h3 : sh M (x + 2) = some (.inr (0, 26))) (hn : nxt M = x + 8) (hQ : ∀ M', RR 5 30633 x M M' → G5 M' x → Q none M') : wp F_Mr_init 32 [.ref x, jk] [] M Q := by
  have k : (8 : Int32) = nI 8 := rfl
  simp only [R_Mr_init_32, R_Mr_init_33, R_Mr_init_35, R_Mr_init_38, k, cl_nI (show 8 < 2147483648 by omega), arr_ok (show 8 ≤ 16777216 by omega), true_and, sh_nw, show ¬ x = nxt M by omega, if_false, h1]
  obtain ⟨a1, a2, a3, a4, a5⟩ := st_arr (f := 5) (n := 8) (t := .inr (10, 8)) (show x < nxt M by omega)
  have a2 := (congrArg (sh _) hn).symm.trans a2
  refine t6 ⟨(a1.1.2.2.1 _ (by omega)).trans h1, (a1.2 _ (by omega)).trans h2, (a1.1.2.2.1 _ (by omega)).trans h3, by rw [a3, hn], a2⟩ (by rw [a4]; omega) ?_
  intro M' r g
  exact hQ M' (a1.rr r (by omega) (by omega)) ⟨(r.2.1 _ (by omega)).trans (by rw [a3, hn]), (r.1.2.2.1 _ (by omega)).trans a2, g⟩
def G4 (M : Mm) (x : Nat) : Prop := gR M x 4 = some (x + 3) ∧ PRS M x ∧ G5 M x
theorem t4 (h1 : sh M x = some (.inl 11)) (h2 : gR M x 3 = some (x + 2)) (h3 : sh M (x + 2) = some (.inr (0, 26))) (hn : nxt M = x + 3) (hQ : ∀ M', RR 4 31351 x M M' → G4 M' x → Q none M') : wp F_Mr_init 21 [.ref x, jk] [] M Q := by
  simp only [R_Mr_init_21, R_Mr_init_22, R_Mr_init_25, R_Mr_init_26]
  refine k_Pres_init (by rw [sh_nw, if_pos rfl]) rfl ?_
  intro M2 F ⟨c0, c1, c2, c3, c4, c5⟩ n2 s2
  obtain ⟨a1, a2, a3⟩ := st_obj (f := 4) (show x < nxt M by omega) (F.weaken (fun _ _ q => q.elim) (fun _ _ q => q))
  rw [slo_nw] at s2
  simp only [Option.toList_none, List.nil_append, R_Mr_init_29, a2, h1, true_and]
  rw [hn] at c0 c1 c2 c3 c4 c5 n2
  have sp : sh M2 (x + 3) = some (.inl 5) := by rw [← hn]; exact (F.2.2.1 _ (by rw [nxt_nw]; omega)).trans (by rw [sh_nw, if_pos rfl])
  refine t5 ((a1.1.2.2.1 _ (by omega)).trans h1) ((a1.2 _ (by omega)).trans h2) ((a1.1.2.2.1 _ (by omega)).trans h3) (by show nxt M2 = _; omega) ?_
  intro M' r g
  obtain ⟨q1, q2, q3, q4⟩ := rr_k r
  exact hQ M' (a1.rr r (by omega) (by show slo M2 + _ ≤ _; omega)) ⟨(r.2.1 _ (by omega)).trans (by rw [a3, hn]), ⟨(q1 _ (by omega)).trans sp, ⟨(q2 _ (by omega) (by omega) (by omega) _).trans c0, (q2 _ (by omega) (by omega) (by omega) _).trans c1, (q2 _ (by omega) (by omega) (by omega) _).trans c2⟩, (q1 _ (by omega)).trans c3, c4.frx q4 (by omega) (by omega), (q1 _ (by omega)).trans c5⟩, g⟩
def G3 (M : Mm) (x : Nat) : Prop := gR M x 3 = some (x + 2) ∧ sh M (x + 2) = some (.inr (0, 26)) ∧ G4 M x
theorem t3 (h1 : sh M x = some (.inl 11)) (hn : nxt M = x + 2) (hQ : ∀ M', RR 3 31377 x M M' → G3 M' x → Q none M') : wp F_Mr_init 13 [.ref x, jk] [] M Q := by
  have k : (26 : Int32) = nI 26 := rfl
  simp only [R_Mr_init_13, R_Mr_init_14, R_Mr_init_16, R_Mr_init_18, k, cl_nI (show 26 < 2147483648 by omega), arr_ok (show 26 ≤ 16777216 by omega), true_and, sh_nw, show ¬ x = nxt M by omega, if_false, h1]
  obtain ⟨a1, a2, a3, a4, a5⟩ := st_arr (f := 3) (n := 26) (t := .inr (0, 26)) (show x < nxt M by omega)
  have a2 := (congrArg (sh _) hn).symm.trans a2
  refine t4 ((a1.1.2.2.1 _ (by omega)).trans h1) (by rw [a3, hn]) a2 (by rw [a4]; omega) ?_
  intro M' r g
  exact hQ M' (a1.rr r (by omega) (by omega)) ⟨(r.2.1 _ (by omega)).trans (by rw [a3, hn]), (r.1.2.2.1 _ (by omega)).trans a2, g⟩
def G0 (M : Mm) (x : Nat) : Prop := gR M x 0 = some (x + 1) ∧ sh M (x + 1) = some (.inr (2, 600)) ∧ G3 M x
theorem k_Mr_init (h1 : sh M x = some (.inl 11)) (hn : nxt M = x + 1) (hQ : ∀ M', RR 0 31977 x M M' → G0 M' x → Q none M') : wp F_Mr_init 0 [.ref x, jk] [] M Q := by
  have k : (600 : Int32) = nI 600 := rfl
  simp only [R_Mr_init_0, R_Mr_init_1, R_Mr_init_4, R_Mr_init_5, R_Mr_init_8, R_Mr_init_10, k, cl_nI (show 600 < 2147483648 by omega), arr_ok (show 600 ≤ 16777216 by omega), true_and, sh_nw, show ¬ x = nxt M by omega, if_false, h1]
  obtain ⟨a1, a2, a3, a4, a5⟩ := st_arr (f := 0) (n := 600) (t := .inr (2, 600)) (show x < nxt M by omega)
  have a2 := (congrArg (sh _) hn).symm.trans a2
  refine t3 ((a1.1.2.2.1 _ (by omega)).trans h1) (by rw [a4]; omega) ?_
  intro M' r g
  exact hQ M' (a1.rr r (by omega) (by omega)) ⟨(r.2.1 _ (by omega)).trans (by rw [a3, hn]), (r.1.2.2.1 _ (by omega)).trans a2, g⟩
end TT
