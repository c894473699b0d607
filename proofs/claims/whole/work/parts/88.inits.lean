/-! objects are made -/
theorem fx_nw {S T : Nat → Prop} {M : Mm} {t : Tg} {n : Nat} : FrX S T M (nw M t n) := ⟨by rw [nxt_nw]; omega, by rw [slo_nw]; omega, fun b hb => by rw [sh_nw, if_neg (by omega)], fun b hb _ => ⟨fun k => by rw [gI_nw, if_neg (by omega)], fun k => by rw [gJ_nw, if_neg (by omega)]⟩, fun b hb _ k => by rw [gR_nw, if_neg (by omega)]⟩
theorem fx_sR {S T : Nat → Prop} {M : Mm} {a j : Nat} {v : Option Nat} (h : T a) : FrX S T M (sR M a j v) := ⟨Nat.le_refl _, Nat.le_refl _, fun b hb => Eq.refl _, fun b hb _ => ⟨fun k => Eq.refl _, fun k => Eq.refl _⟩, fun b hb hn k => by
  rw [gR_sR, if_neg (fun (q : b = a ∧ k = j) => hn (q.1 ▸ h))]⟩
theorem fx_sI {S T : Nat → Prop} {M : Mm} {a j : Nat} {v : Int32} (h : S a) : FrX S T M (sI M a j v) := ⟨Nat.le_refl _, Nat.le_refl _, fun b hb => Eq.refl _, fun b hb hn => ⟨fun k => by rw [gI_sI, if_neg (fun (q : b = a ∧ k = j) => hn (q.1 ▸ h))], fun k => Eq.refl _⟩, fun b hb hn k => Eq.refl _⟩
theorem k_Rule_init {M : Mm} {p : Nat} {Q : Option Value → Mm → Prop} (h : sh M p = some (.inl 8)) (hp : nxt M = p + 1) (hQ : ∀ M', FrX (fun _ => False) (fun b => b = p) M M' → RS M' p → nxt M' = p + 5 → slo M' = slo M + 124 → Q none M') : wp F_Rule_init 0 [.ref p] [] M Q := by
  have k60 : (60 : Int32) = nI 60 := rfl
  have a1 : ¬ p = p + 1 := by omega
  have a2 : ¬ p = p + 1 + 1 := by omega
  have a3 : ¬ p = p + 1 + 1 + 1 := by omega
  have a4 : ¬ p = p + 1 + 1 + 1 + 1 := by omega
  simp only [B_Rule_init_0, k60]
  rw [c_Word_init (by simp only [sh_nw, if_true]) (by simp only [nxt_nw]; omega) (by omega)]
  simp only [Option.toList_none, List.nil_append, B_Rule_init_0, SS, sh_nw, nxt_nw, hp, a1, a2, if_false, h, true_and, k60]
  rw [c_Word_init (by simp only [SS, sh_nw, nxt_nw, hp, if_true]) (by simp only [SS, nxt_nw]; omega) (by omega)]
  simp only [Option.toList_none, List.nil_append, B_Rule_init_0, SS, sh_nw, nxt_nw, hp, a1, a2, a3, show ¬ p = p + 1 + 1 + 1 + 1 by omega, if_false, h, true_and]
  refine hQ _ (FrX.weaken (S := fun b => p + 1 ≤ b) (T := fun b => b = p ∨ p + 1 ≤ b) ?_ (fun b hb q => by omega) (fun b hb q => by omega)) ⟨?_, ?_, ?_, ⟨?_, ?_, ?_⟩, ⟨?_, ?_, ?_⟩⟩ ?_ ?_
  · repeat first
      | exact FrX.rfl
      | refine FrX.trans ?_ fx_nw
      | refine FrX.trans ?_ (fx_sR (by omega))
  all_goals simp [SS, sh_nw, gR_nw, nxt_nw, slo_nw, slo_sR, hp, h, a2, a3, a4]
  all_goals try omega
theorem k_Comp_init {M : Mm} {p a b c : Nat} {Q : Option Value → Mm → Prop} (h : sh M p = some (.inl 0)) (hp : nxt M = p + 1) (hQ : ∀ M', FrX (fun _ => False) (fun b => b = p) M M' → (gR M' p 0 = some a ∧ gR M' p 1 = some b ∧ gR M' p 2 = some c ∧ gR M' p 3 = some (p + 1) ∧ gR M' p 4 = some (p + 3) ∧ WS M' (p + 1) 120 ∧ WS M' (p + 3) 120) → nxt M' = p + 5 → slo M' = slo M + 244 → Q none M') : wp F_Completion_init 0 [.ref p, .ref a, .ref b, .ref c] [] M Q := by
  have k120 : (120 : Int32) = nI 120 := rfl
  have a1 : ¬ p = p + 1 := by omega
  have a2 : ¬ p = p + 1 + 1 := by omega
  have a3 : ¬ p = p + 1 + 1 + 1 := by omega
  have a4 : ¬ p = p + 1 + 1 + 1 + 1 := by omega
  simp only [B_Completion_init_0, k120]
  rw [c_Word_init (by simp only [sh_nw, if_true]) (by simp only [nxt_nw]; omega) (by omega)]
  simp only [Option.toList_none, List.nil_append, B_Completion_init_0, SS, sh_nw, nxt_nw, hp, a1, a2, if_false, h, true_and, k120]
  rw [c_Word_init (by simp only [SS, sh_nw, nxt_nw, hp, if_true]) (by simp only [SS, nxt_nw]; omega) (by omega)]
  simp only [Option.toList_none, List.nil_append, B_Completion_init_0, SS, sh_nw, nxt_nw, hp, a1, a2, a3, show ¬ p = p + 1 + 1 + 1 + 1 by omega, if_false, h, true_and]
  refine hQ _ (FrX.weaken (S := fun b => p + 1 ≤ b) (T := fun b => b = p ∨ p + 1 ≤ b) ?_ (fun b hb q => by omega) (fun b hb q => by omega)) ⟨?_, ?_, ?_, ?_, ?_, ⟨?_, ?_, ?_⟩, ⟨?_, ?_, ?_⟩⟩ ?_ ?_
  · repeat first
      | exact FrX.rfl
      | refine FrX.trans ?_ fx_nw
      | refine FrX.trans ?_ (fx_sR (by omega))
  all_goals simp [SS, sh_nw, gR_nw, nxt_nw, slo_nw, slo_sR, hp, h, a2, a3, a4]
  all_goals try omega
theorem k_Find_init {M : Mm} {p a b : Nat} {Q : Option Value → Mm → Prop} (h : sh M p = some (.inl 2)) (hp : nxt M = p + 1) (hQ : ∀ M', FrX (fun _ => False) (fun b => b = p) M M' → (gR M' p 0 = some a ∧ gR M' p 1 = some b ∧ gR M' p 2 = some (p + 1) ∧ gR M' p 3 = some (p + 3) ∧ WS M' (p + 1) 120 ∧ WS M' (p + 3) 120) → nxt M' = p + 5 → slo M' = slo M + 244 → Q none M') : wp F_Finder_init 0 [.ref p, .ref a, .ref b] [] M Q := by
  have k120 : (120 : Int32) = nI 120 := rfl
  have a1 : ¬ p = p + 1 := by omega
  have a2 : ¬ p = p + 1 + 1 := by omega
  have a3 : ¬ p = p + 1 + 1 + 1 := by omega
  have a4 : ¬ p = p + 1 + 1 + 1 + 1 := by omega
  simp only [B_Finder_init_0, k120]
  rw [c_Word_init (by simp only [sh_nw, if_true]) (by simp only [nxt_nw]; omega) (by omega)]
  simp only [Option.toList_none, List.nil_append, B_Finder_init_0, SS, sh_nw, nxt_nw, hp, a1, a2, if_false, h, true_and, k120]
  rw [c_Word_init (by simp only [SS, sh_nw, nxt_nw, hp, if_true]) (by simp only [SS, nxt_nw]; omega) (by omega)]
  simp only [Option.toList_none, List.nil_append, B_Finder_init_0, SS, sh_nw, nxt_nw, hp, a1, a2, a3, show ¬ p = p + 1 + 1 + 1 + 1 by omega, if_false, h, true_and]
  refine hQ _ (FrX.weaken (S := fun b => p + 1 ≤ b) (T := fun b => b = p ∨ p + 1 ≤ b) ?_ (fun b hb q => by omega) (fun b hb q => by omega)) ⟨?_, ?_, ?_, ?_, ⟨?_, ?_, ?_⟩, ⟨?_, ?_, ?_⟩⟩ ?_ ?_
  · repeat first
      | exact FrX.rfl
      | refine FrX.trans ?_ fx_nw
      | refine FrX.trans ?_ (fx_sR (by omega))
  all_goals simp [SS, sh_nw, gR_nw, nxt_nw, slo_nw, slo_sR, hp, h, a2, a3, a4]
  all_goals try omega
theorem arr_ok {n : Nat} (h : n ≤ 16777216) : (¬ nI n < 0 ∧ n ≤ 16777216) = True := eq_true ⟨nI_pos (by omega), h⟩
theorem k_Pres_init {M : Mm} {p : Nat} {Q : Option Value → Mm → Prop} (h : sh M p = some (.inl 5)) (hp : nxt M = p + 1) (hQ : ∀ M', FrX (fun _ => False) (fun b => b = p) M M' → (gR M' p 0 = some (p + 1) ∧ gR M' p 3 = some (p + 2) ∧ gR M' p 4 = some (p + 4) ∧ sh M' (p + 1) = some (.inr (0, 26)) ∧ WS M' (p + 2) 600 ∧ sh M' (p + 4) = some (.inr (0, 80))) → nxt M' = p + 5 → slo M' = slo M + 708 → Q none M') : wp F_Presentation_init 0 [.ref p] [] M Q := by
  have k26 : (26 : Int32) = nI 26 := rfl
  have k600 : (600 : Int32) = nI 600 := rfl
  have k80 : (80 : Int32) = nI 80 := rfl
  have a1 : ¬ p = p + 1 := by omega
  have a2 : ¬ p = p + 1 + 1 := by omega
  have a3 : ¬ p = p + 1 + 1 + 1 := by omega
  have a4 : ¬ p = p + 1 + 1 + 1 + 1 := by omega
  simp only [B_Presentation_init_0, k26, k600, arr_ok (show 26 ≤ 16777216 by omega), cl_nI (show 26 < 2147483648 by omega), true_and, SS, sh_nw, nxt_nw, hp, a1, if_false, h]
  rw [c_Word_init (by simp only [SS, sh_nw, nxt_nw, hp, if_true]) (by simp only [SS, nxt_nw]; omega) (by omega)]
  simp only [Option.toList_none, List.nil_append, B_Presentation_init_0, SS, sh_nw, nxt_nw, hp, a1, a2, a3, a4, if_false, h, true_and, k80, arr_ok (show 80 ≤ 16777216 by omega), cl_nI (show 80 < 2147483648 by omega)]
  refine hQ _ (FrX.weaken (S := fun b => p + 1 ≤ b) (T := fun b => b = p ∨ p + 1 ≤ b) ?_ (fun b hb q => by omega) (fun b hb q => by omega)) ⟨?_, ?_, ?_, ?_, ⟨?_, ?_, ?_⟩, ?_⟩ ?_ ?_
  · repeat first
      | exact FrX.rfl
      | refine FrX.trans ?_ fx_nw
      | refine FrX.trans ?_ (fx_sR (by omega))
  all_goals simp [SS, sh_nw, gR_nw, nxt_nw, slo_nw, slo_sR, hp, h, a2, a3, a4]
  all_goals try omega
theorem k_RowI_init {M : Mm} {p : Nat} {Q : Option Value → Mm → Prop} (h : sh M p = some (.inl 7)) (hp : nxt M = p + 1) (hQ : ∀ M', FrX (fun _ => False) (fun b => b = p) M M' → (gR M' p 0 = some (p + 1) ∧ sh M' (p + 1) = some (.inr (12, 1000)) ∧ ∀ j, gR M' (p + 1) j = none) → nxt M' = p + 2 → slo M' = slo M + 1000 → Q none M') : wp F_Row_init 0 [.ref p] [] M Q := by
  have k1 : (1000 : Int32) = nI 1000 := rfl
  have a1 : ¬ p = p + 1 := by omega
  have a2 : ¬ p + 1 = p := by omega
  simp only [B_Row_init_0, k1, arr_ok (show 1000 ≤ 16777216 by omega), cl_nI (show 1000 < 2147483648 by omega), true_and, SS, sh_nw, nxt_nw, hp, a1, if_false, h]
  refine hQ _ (FrX.weaken (S := fun b => p + 1 ≤ b) (T := fun b => b = p ∨ p + 1 ≤ b) ?_ (fun b hb q => by omega) (fun b hb q => by omega)) ⟨?_, ?_, fun j => ?_⟩ ?_ ?_
  · repeat first
      | exact FrX.rfl
      | refine FrX.trans ?_ fx_nw
      | refine FrX.trans ?_ (fx_sR (by omega))
  all_goals simp [SS, sh_nw, gR_nw, nxt_nw, slo_nw, slo_sR, hp, h, a2]
theorem k_Elem_init {M : Mm} {p a b : Nat} {Q : Option Value → Mm → Prop} (h : sh M p = some (.inl 1)) (hp : nxt M = p + 1) (hQ : ∀ M', FrX (fun _ => False) (fun b => b = p) M M' → (gR M' p 0 = some a ∧ gR M' p 1 = some b ∧ gR M' p 2 = some (p + 1) ∧ gR M' p 6 = some (p + 2) ∧ gR M' p 7 = some (p + 3) ∧ gR M' p 8 = some (p + 4) ∧ sh M' (p + 1) = some (.inr (1, 0)) ∧ sh M' (p + 2) = some (.inr (0, 0)) ∧ sh M' (p + 3) = some (.inr (0, 0)) ∧ sh M' (p + 4) = some (.inr (1, 0))) → nxt M' = p + 5 → slo M' = slo M → Q none M') : wp F_Elements_init 0 [.ref p, .ref a, .ref b] [] M Q := by
  have k0 : (0 : Int32) = nI 0 := rfl
  have a1 : ¬ p = p + 1 := by omega
  have a2 : ¬ p = p + 1 + 1 := by omega
  have a3 : ¬ p = p + 1 + 1 + 1 := by omega
  have a4 : ¬ p = p + 1 + 1 + 1 + 1 := by omega
  have ok0 : (¬ (0 : Int32) < 0 ∧ 0 ≤ 16777216) = True := arr_ok (n := 0) (by omega)
  have c0 : cl (0 : Int32) = 0 := rfl
  simp only [B_Elements_init_0, ok0, c0, true_and, SS, sh_nw, nxt_nw, hp, a1, a2, a3, a4, if_false, h]
  refine hQ _ (FrX.weaken (S := fun b => p + 1 ≤ b) (T := fun b => b = p ∨ p + 1 ≤ b) ?_ (fun b hb q => by omega) (fun b hb q => by omega)) ⟨?_, ?_, ?_, ?_, ?_, ?_, ?_, ?_, ?_, ?_⟩ ?_ ?_
  · repeat first
      | exact FrX.rfl
      | refine FrX.trans ?_ fx_nw
      | refine FrX.trans ?_ (fx_sR (by omega))
  all_goals simp [SS, sh_nw, gR_nw, nxt_nw, slo_nw, slo_sR, hp, h, a2, a3, a4]
  all_goals try omega
theorem k_Red_init {M : Mm} {p a b : Nat} {Q : Option Value → Mm → Prop} (h : sh M p = some (.inl 6)) (hp : nxt M = p + 1) (hQ : ∀ M', FrX (fun _ => False) (fun b => b = p) M M' → RDS M' p a b → nxt M' = p + 6 → slo M' = slo M + 961 → Q none M') : wp F_Reducer_init 0 [.ref p, .ref a, .ref b] [] M Q := by
  have k120 : (120 : Int32) = nI 120 := rfl
  have k121 : (121 : Int32) = nI 121 := rfl
  have k300 : (300 : Int32) = nI 300 := rfl
  have a1 : ¬ p = p + 1 := by omega
  have a2 : ¬ p = p + 1 + 1 := by omega
  have a3 : ¬ p = p + 1 + 1 + 1 := by omega
  have a4 : ¬ p = p + 1 + 1 + 1 + 1 := by omega
  have a5 : ¬ p = p + 1 + 1 + 1 + 1 + 1 := by omega
  simp only [B_Reducer_init_0, k120, k121, k300, arr_ok (show 120 ≤ 16777216 by omega), arr_ok (show 121 ≤ 16777216 by omega), arr_ok (show 300 ≤ 16777216 by omega), cl_nI (show 120 < 2147483648 by omega), cl_nI (show 121 < 2147483648 by omega), cl_nI (show 300 < 2147483648 by omega), true_and, SS, sh_nw, nxt_nw, hp, a1, a2, a3, a4, a5, if_false, h]
  refine hQ _ (FrX.weaken (S := fun b => p + 1 ≤ b) (T := fun b => b = p ∨ p + 1 ≤ b) ?_ (fun b hb q => by omega) (fun b hb q => by omega)) ⟨?_, ⟨?_, ?_, ?_, ?_, ?_, ?_, ?_⟩, ?_, ?_, ?_, ?_, ?_⟩ ?_ ?_
  · repeat first
      | exact FrX.rfl
      | refine FrX.trans ?_ fx_nw
      | refine FrX.trans ?_ (fx_sR (by omega))
  all_goals simp [SS, sh_nw, gR_nw, nxt_nw, slo_nw, slo_sR, hp, h, a2, a3, a4, a5]
  all_goals try omega
theorem k_Mach_init {M : Mm} {p : Nat} {Q : Option Value → Mm → Prop} (h : sh M p = some (.inl 3)) (hp : nxt M = p + 1) (hQ : ∀ M', FrX (fun b => b = p) (fun b => b = p) M M' → MCS M' p (p + 1) (p + 2) (p + 3) (p + 4) 64 → nxt M' = p + 5 → slo M' = slo M + 704 → Q none M') : wp F_Machine_init 0 [.ref p] [] M Q := by
  have k64 : (64 : Int32) = nI 64 := rfl
  have k8 : (8 : Int32) = nI 8 := rfl
  have a1 : ¬ p = p + 1 := by omega
  have a2 : ¬ p = p + 1 + 1 := by omega
  have a3 : ¬ p = p + 1 + 1 + 1 := by omega
  have a4 : ¬ p = p + 1 + 1 + 1 + 1 := by omega
  simp only [B_Machine_init_0, k64, k8, pk_mul, Nat.reduceMul, arr_ok (show 64 ≤ 16777216 by omega), arr_ok (show 512 ≤ 16777216 by omega), cl_nI (show 64 < 2147483648 by omega), cl_nI (show 512 < 2147483648 by omega), true_and, and_self, SS, sh_nw, gI_nw, nxt_nw, hp, a1, a2, a3, a4, if_false, if_true, h]
  refine hQ _ (FrX.weaken (S := fun b => b = p ∨ p + 1 ≤ b) (T := fun b => b = p ∨ p + 1 ≤ b) ?_ (fun b hb q => by omega) (fun b hb q => by omega)) ⟨?_, ⟨?_, ?_, ?_, ?_⟩, ?_, ⟨?_, ?_, ?_, ?_⟩, ⟨by omega, by omega, by omega, by omega, by omega, by omega⟩, by omega, by omega, ?_⟩ ?_ ?_
  · repeat first
      | exact FrX.rfl
      | refine FrX.trans ?_ fx_nw
      | refine FrX.trans ?_ (fx_sR (by omega))
      | refine FrX.trans ?_ (fx_sI (by omega))
  all_goals simp [SS, sh_nw, gR_nw, gI_nw, nxt_nw, slo_nw, slo_sR, slo_sI, hp, h, a2, a3, a4]
  all_goals try omega
theorem k_Rules_init {M : Mm} {z : Nat} {Q : Option Value → Mm → Prop} (h : sh M z = some (.inl 9)) (hp : nxt M = z + 1) (hz : ∀ j, gI M z j = 0) (hQ : ∀ M', FrX (fun b => b = z) (fun b => b = z) M M' → RUS M' z → gI M' z 1 = 0 → gI M' z 2 = 0 → gI M' z 3 = 1 → nxt M' = z + 1002 → slo M' = slo M + 25600 → Q none M') : wp F_Rules_init 0 [.ref z, jk] [] M Q := by
  have k200 : (200 : Int32) = nI 200 := rfl
  have a1 : ¬ z = z + 1 := by omega
  simp only [B_Rules_init_0, k200, arr_ok (show 200 ≤ 16777216 by omega), cl_nI (show 200 < 2147483648 by omega), true_and, SS, sh_nw, nxt_nw, hp, a1, if_false, h, or_true]
  have loop : ∀ d i (M1 : Mm), i + d = 200 → FrX (fun b => b = z) (fun b => b = z) M M1 → sh M1 z = some (.inl 9) → gR M1 z 0 = some (z + 1) → sh M1 (z + 1) = some (.inr (11, 200)) → (∀ j, j < i → gR M1 (z + 1) j = some (z + 2 + 5 * j) ∧ RS M1 (z + 2 + 5 * j)) → gI M1 z 1 = 0 → gI M1 z 2 = 0 → gI M1 z 3 = 1 → nxt M1 = z + 2 + 5 * i → slo M1 = slo M + 200 + 127 * i → wp F_Rules_init 21 [.ref z, .int (nI i)] [] M1 Q := by
    intro d
    induction d with
    | zero =>
      intro i M1 hi F hs h0 hs1 hr g1 g2 g3 hn hsl
      have g : (200 : Int32) ≤ nI i := nI_le (a := 200) (by omega) (by omega)
      simp only [B_Rules_init_21, B_Rules_init_47, g, if_true]
      exact hQ M1 F ⟨hs, h0, hs1, fun j hj => hr j (by omega)⟩ g1 g2 g3 (by omega) (by omega)
    | succ d ih =>
      intro i M1 hi F hs h0 hs1 hr g1 g2 g3 hn hsl
      have g : ¬ (200 : Int32) ≤ nI i := nI_ge (b := 200) (by omega) (by omega)
      simp only [B_Rules_init_21, g, if_false, SS, hs, h0, true_and]
      refine k_Rule_init (p := nxt M1) (by simp only [sh_nw, if_true]) (by rw [nxt_nw]) ?_
      intro M2 F2 rs2 n2 s2
      rw [slo_nw] at s2
      have F12 : FrX (fun _ => False) (fun b => b = nxt M1) M1 M2 := (fx_nw (S := fun _ => False) (T := fun b => b = nxt M1)).trans F2
      have s1' : sh M2 (z + 1) = some (.inr (11, 200)) := (F12.2.2.1 _ (by omega)).trans hs1
      have okA : (∃ kd n c, sh M2 (z + 1) = some (.inr (kd, n)) ∧ sh M2 (nxt M1) = some (.inl c) ∧ lk aO 0 kd = some c ∧ inb (nI i) n = true) := ⟨11, 200, 8, s1', rs2.1, by decide, inb_nI (by omega) (by omega)⟩
      simp only [SS, Option.toList_none, List.nil_append, B_Rules_init_21, okA, cl_nI (show i < 2147483648 by omega), true_and, nI_i1]
      rw [G_Rules_init_44]
      have F3 : FrX (fun _ => False) (fun b => b = z + 1) M2 (sR M2 (z + 1) i (some (nxt M1))) := fx_sR rfl
      have F13 : FrX (fun _ => False) (fun b => b = nxt M1 ∨ b = z + 1) M1 (sR M2 (z + 1) i (some (nxt M1))) := (F12.weaken (fun _ _ q => q) (fun _ _ q => Or.inl q)).trans (F3.weaken (fun _ _ q => q) (fun _ _ q => Or.inr q))
      have FM : FrX (fun b => b = z) (fun b => b = z) M (sR M2 (z + 1) i (some (nxt M1))) := F.trans' F13 (fun b _ q => q.elim) (fun b hb q => by omega)
      refine ih (i + 1) _ (by omega) FM ((F13.2.2.1 _ (by omega)).trans hs) ((F13.2.2.2.2 _ (by omega) (by omega) _).trans h0) s1' (fun j hj => ?_) (((F13.2.2.2.1 _ (by omega) (fun q => q)).1 _).trans g1) (((F13.2.2.2.1 _ (by omega) (fun q => q)).1 _).trans g2) (((F13.2.2.2.1 _ (by omega) (fun q => q)).1 _).trans g3) (by show nxt M2 = _; omega) (by show slo M2 = _; omega)
      by_cases e : j = i
      · subst e
        have en : nxt M1 = z + 2 + 5 * j := hn
        refine ⟨by simp [SS, en], ?_⟩
        rw [← en]
        exact rs2.frx F3 (by omega) (fun b h1 h2 q => by omega)
      · obtain ⟨r1, r2⟩ := hr j (by omega)
        refine ⟨?_, r2.frx F13 (by omega) (fun b h1 h2 q => by omega)⟩
        rw [gR_sR, if_neg (fun q => e q.2)]
        exact (F12.2.2.2.2 _ (by omega) (by omega) j).trans r1
  refine loop 200 0 _ rfl (FrX.weaken (S := fun b => b = z ∨ z + 1 ≤ b) (T := fun b => b = z ∨ z + 1 ≤ b) ?_ (fun b hb q => by omega) (fun b hb q => by omega)) ?_ ?_ ?_ (fun j hj => by omega) ?_ ?_ ?_ ?_ ?_
  · repeat first
      | exact FrX.rfl
      | refine FrX.trans ?_ fx_nw
      | refine FrX.trans ?_ (fx_sR (by omega))
      | refine FrX.trans ?_ (fx_sI (by omega))
  all_goals simp [SS, sh_nw, gR_nw, gI_nw, nxt_nw, slo_nw, slo_sR, slo_sI, hp, h, a1, hz]
