theorem zb {v : Int32} (h : v &&& 1 = v) : v = 0 ∨ v = 1 := by
  obtain ⟨j, hj, e⟩ := pk_andE v (m := 1) 1 rfl
  rw [h] at e
  rw [e]
  rcases (show j = 0 ∨ j = 1 by omega) with rfl | rfl
  · exact Or.inl rfl
  · exact Or.inr rfl
/-! equations of wp, a kind of instruction each -/
def cl (j : Int32) : Nat := j.toNatClampNeg
def ixI (M : Mm) (a : Nat) (j : Int32) : Prop := ∃ kd n, sh M a = some (.inr (kd, n)) ∧ (kd = 0 ∨ kd = 9) ∧ inb j n = true
def ixB (M : Mm) (a : Nat) (j : Int32) : Prop := ∃ kd n, sh M a = some (.inr (kd, n)) ∧ (kd = 2 ∨ kd = 3) ∧ inb j n = true
def ixJ (M : Mm) (a : Nat) (j : Int32) : Prop := ∃ n, sh M a = some (.inr (1, n)) ∧ inb j n = true
def ixR (M : Mm) (a : Nat) (j : Int32) : Prop := ∃ kd n, sh M a = some (.inr (kd, n)) ∧ 10 ≤ kd ∧ inb j n = true
def ixW (M : Mm) (a : Nat) (j : Int32) : Prop := ∃ n, sh M a = some (.inr (0, n)) ∧ inb j n = true
def bsW (M : Mm) (a : Nat) (j x : Int32) (K : Mm → Prop) : Prop := match sh M a with
  | some (.inr (2, n)) => inb j n = true ∧ K (sI M a (cl j) (vp_nar .byte x))
  | some (.inr (3, n)) => inb j n = true ∧ K (sI M a (cl j) (vp_nar .boolean x))
  | _ => False
section WPE
variable {f : Fn} {pc : Nat} {L st r : List Value} {M : Mm} {Q : Option Value → Mm → Prop} {len : Nat}
theorem wp_no {i : Instr} (hd : decode (fnB f) pc = .ok (i, len)) (hs : step f i pc L st M = none) : wp f pc L st M Q = False := by
  apply propext
  refine ⟨?_, False.elim⟩
  rintro ⟨n, r2, M2, h, hq⟩
  obtain ⟨n', i', len', e, hd', hl', hc⟩ := exec_cases h
  cases hd.symm.trans hd'
  rcases hc with ⟨a, b, c, d, hs', h2⟩ | ⟨r, hs', e2⟩ | ⟨g', as', rest', r, M1, hs', h2, h3⟩ <;> cases hs.symm.trans hs'
theorem wp_if {i : Instr} {c : Prop} (dc : Decidable c) {pc' : Nat} {L' st' : List Value} {M' : Mm} (hd : decode (fnB f) pc = .ok (i, len)) (hl : okL i len = true) (hy : c → step f i pc L st M = some (.inl (pc', L', st', M'))) (hn : ¬ c → step f i pc L st M = none) : wp f pc L st M Q = (c ∧ wp f pc' L' st' M' Q) := by
  by_cases h : c
  · rw [wp_in hd hl (hy h)]
    exact propext ⟨fun q => ⟨h, q⟩, fun q => q.2⟩
  · rw [wp_no hd (hn h)]
    exact propext ⟨False.elim, fun q => h q.1⟩
theorem wp_br {i : Instr} {c : Prop} {dc : Decidable c} {a b : Nat} {L' st' : List Value} {M' : Mm} (hd : decode (fnB f) pc = .ok (i, len)) (hl : okL i len = true) (hy : c → step f i pc L st M = some (.inl (a, L', st', M'))) (hn : ¬ c → step f i pc L st M = some (.inl (b, L', st', M'))) : wp f pc L st M Q = if c then wp f a L' st' M' Q else wp f b L' st' M' Q := by
  by_cases h : c
  · rw [wp_in hd hl (hy h), if_pos h]
  · rw [wp_in hd hl (hn h), if_neg h]
theorem tg_eq {off : Int} {t : Nat} {k : Nat → Option Out} (h : (pc : Int) + off = (t : Int)) : tg pc off k = k t := by
  unfold tg
  rw [h]
theorem wp_if_eq {x : Int32} {off : Int} {t : Nat} (hd : decode (fnB f) pc = .ok (.ifCond .eq off, 3)) (ht : (pc : Int) + off = (t : Int)) : wp f pc L (.int x :: r) M Q = if x = 0 then wp f t L r M Q else wp f (pc + 3) L r M Q := by
  refine wp_br hd rfl (fun h => ?_) (fun h => ?_)
  · show tg pc off _ = _
    rw [tg_eq ht]
    simp only [nx, cmpi, h, decide_true, decide_false, Bool.not_true, Bool.not_false, if_true, Bool.false_eq_true, if_false]
  · show tg pc off _ = _
    rw [tg_eq ht]
    simp only [nx, cmpi, h, decide_true, decide_false, Bool.not_true, Bool.not_false, if_true, Bool.false_eq_true, if_false]
theorem wp_icmp_eq {x y : Int32} {off : Int} {t : Nat} (hd : decode (fnB f) pc = .ok (.if_icmp .eq off, 3)) (ht : (pc : Int) + off = (t : Int)) : wp f pc L (.int y :: .int x :: r) M Q = if x = y then wp f t L r M Q else wp f (pc + 3) L r M Q := by
  refine wp_br hd rfl (fun h => ?_) (fun h => ?_)
  · show tg pc off _ = _
    rw [tg_eq ht]
    simp only [nx, cmpi, h, decide_true, decide_false, Bool.not_true, Bool.not_false, if_true, Bool.false_eq_true, if_false]
  · show tg pc off _ = _
    rw [tg_eq ht]
    simp only [nx, cmpi, h, decide_true, decide_false, Bool.not_true, Bool.not_false, if_true, Bool.false_eq_true, if_false]
theorem wp_if_ne {x : Int32} {off : Int} {t : Nat} (hd : decode (fnB f) pc = .ok (.ifCond .ne off, 3)) (ht : (pc : Int) + off = (t : Int)) : wp f pc L (.int x :: r) M Q = if x = 0 then wp f (pc + 3) L r M Q else wp f t L r M Q := by
  refine wp_br hd rfl (fun h => ?_) (fun h => ?_)
  · show tg pc off _ = _
    rw [tg_eq ht]
    simp only [nx, cmpi, h, decide_true, decide_false, Bool.not_true, Bool.not_false, if_true, Bool.false_eq_true, if_false]
  · show tg pc off _ = _
    rw [tg_eq ht]
    simp only [nx, cmpi, h, decide_true, decide_false, Bool.not_true, Bool.not_false, if_true, Bool.false_eq_true, if_false]
theorem wp_icmp_ne {x y : Int32} {off : Int} {t : Nat} (hd : decode (fnB f) pc = .ok (.if_icmp .ne off, 3)) (ht : (pc : Int) + off = (t : Int)) : wp f pc L (.int y :: .int x :: r) M Q = if x = y then wp f (pc + 3) L r M Q else wp f t L r M Q := by
  refine wp_br hd rfl (fun h => ?_) (fun h => ?_)
  · show tg pc off _ = _
    rw [tg_eq ht]
    simp only [nx, cmpi, h, decide_true, decide_false, Bool.not_true, Bool.not_false, if_true, Bool.false_eq_true, if_false]
  · show tg pc off _ = _
    rw [tg_eq ht]
    simp only [nx, cmpi, h, decide_true, decide_false, Bool.not_true, Bool.not_false, if_true, Bool.false_eq_true, if_false]
theorem wp_if_lt {x : Int32} {off : Int} {t : Nat} (hd : decode (fnB f) pc = .ok (.ifCond .lt off, 3)) (ht : (pc : Int) + off = (t : Int)) : wp f pc L (.int x :: r) M Q = if x < 0 then wp f t L r M Q else wp f (pc + 3) L r M Q := by
  refine wp_br hd rfl (fun h => ?_) (fun h => ?_)
  · show tg pc off _ = _
    rw [tg_eq ht]
    simp only [nx, cmpi, h, decide_true, decide_false, Bool.not_true, Bool.not_false, if_true, Bool.false_eq_true, if_false]
  · show tg pc off _ = _
    rw [tg_eq ht]
    simp only [nx, cmpi, h, decide_true, decide_false, Bool.not_true, Bool.not_false, if_true, Bool.false_eq_true, if_false]
theorem wp_icmp_lt {x y : Int32} {off : Int} {t : Nat} (hd : decode (fnB f) pc = .ok (.if_icmp .lt off, 3)) (ht : (pc : Int) + off = (t : Int)) : wp f pc L (.int y :: .int x :: r) M Q = if x < y then wp f t L r M Q else wp f (pc + 3) L r M Q := by
  refine wp_br hd rfl (fun h => ?_) (fun h => ?_)
  · show tg pc off _ = _
    rw [tg_eq ht]
    simp only [nx, cmpi, h, decide_true, decide_false, Bool.not_true, Bool.not_false, if_true, Bool.false_eq_true, if_false]
  · show tg pc off _ = _
    rw [tg_eq ht]
    simp only [nx, cmpi, h, decide_true, decide_false, Bool.not_true, Bool.not_false, if_true, Bool.false_eq_true, if_false]
theorem wp_if_ge {x : Int32} {off : Int} {t : Nat} (hd : decode (fnB f) pc = .ok (.ifCond .ge off, 3)) (ht : (pc : Int) + off = (t : Int)) : wp f pc L (.int x :: r) M Q = if 0 ≤ x then wp f t L r M Q else wp f (pc + 3) L r M Q := by
  refine wp_br hd rfl (fun h => ?_) (fun h => ?_)
  · show tg pc off _ = _
    rw [tg_eq ht]
    simp only [nx, cmpi, h, decide_true, decide_false, Bool.not_true, Bool.not_false, if_true, Bool.false_eq_true, if_false]
  · show tg pc off _ = _
    rw [tg_eq ht]
    simp only [nx, cmpi, h, decide_true, decide_false, Bool.not_true, Bool.not_false, if_true, Bool.false_eq_true, if_false]
theorem wp_icmp_ge {x y : Int32} {off : Int} {t : Nat} (hd : decode (fnB f) pc = .ok (.if_icmp .ge off, 3)) (ht : (pc : Int) + off = (t : Int)) : wp f pc L (.int y :: .int x :: r) M Q = if y ≤ x then wp f t L r M Q else wp f (pc + 3) L r M Q := by
  refine wp_br hd rfl (fun h => ?_) (fun h => ?_)
  · show tg pc off _ = _
    rw [tg_eq ht]
    simp only [nx, cmpi, h, decide_true, decide_false, Bool.not_true, Bool.not_false, if_true, Bool.false_eq_true, if_false]
  · show tg pc off _ = _
    rw [tg_eq ht]
    simp only [nx, cmpi, h, decide_true, decide_false, Bool.not_true, Bool.not_false, if_true, Bool.false_eq_true, if_false]
theorem wp_if_gt {x : Int32} {off : Int} {t : Nat} (hd : decode (fnB f) pc = .ok (.ifCond .gt off, 3)) (ht : (pc : Int) + off = (t : Int)) : wp f pc L (.int x :: r) M Q = if 0 < x then wp f t L r M Q else wp f (pc + 3) L r M Q := by
  refine wp_br hd rfl (fun h => ?_) (fun h => ?_)
  · show tg pc off _ = _
    rw [tg_eq ht]
    simp only [nx, cmpi, h, decide_true, decide_false, Bool.not_true, Bool.not_false, if_true, Bool.false_eq_true, if_false]
  · show tg pc off _ = _
    rw [tg_eq ht]
    simp only [nx, cmpi, h, decide_true, decide_false, Bool.not_true, Bool.not_false, if_true, Bool.false_eq_true, if_false]
theorem wp_icmp_gt {x y : Int32} {off : Int} {t : Nat} (hd : decode (fnB f) pc = .ok (.if_icmp .gt off, 3)) (ht : (pc : Int) + off = (t : Int)) : wp f pc L (.int y :: .int x :: r) M Q = if y < x then wp f t L r M Q else wp f (pc + 3) L r M Q := by
  refine wp_br hd rfl (fun h => ?_) (fun h => ?_)
  · show tg pc off _ = _
    rw [tg_eq ht]
    simp only [nx, cmpi, h, decide_true, decide_false, Bool.not_true, Bool.not_false, if_true, Bool.false_eq_true, if_false]
  · show tg pc off _ = _
    rw [tg_eq ht]
    simp only [nx, cmpi, h, decide_true, decide_false, Bool.not_true, Bool.not_false, if_true, Bool.false_eq_true, if_false]
theorem wp_if_le {x : Int32} {off : Int} {t : Nat} (hd : decode (fnB f) pc = .ok (.ifCond .le off, 3)) (ht : (pc : Int) + off = (t : Int)) : wp f pc L (.int x :: r) M Q = if x ≤ 0 then wp f t L r M Q else wp f (pc + 3) L r M Q := by
  refine wp_br hd rfl (fun h => ?_) (fun h => ?_)
  · show tg pc off _ = _
    rw [tg_eq ht]
    simp only [nx, cmpi, h, decide_true, decide_false, Bool.not_true, Bool.not_false, if_true, Bool.false_eq_true, if_false]
  · show tg pc off _ = _
    rw [tg_eq ht]
    simp only [nx, cmpi, h, decide_true, decide_false, Bool.not_true, Bool.not_false, if_true, Bool.false_eq_true, if_false]
theorem wp_icmp_le {x y : Int32} {off : Int} {t : Nat} (hd : decode (fnB f) pc = .ok (.if_icmp .le off, 3)) (ht : (pc : Int) + off = (t : Int)) : wp f pc L (.int y :: .int x :: r) M Q = if x ≤ y then wp f t L r M Q else wp f (pc + 3) L r M Q := by
  refine wp_br hd rfl (fun h => ?_) (fun h => ?_)
  · show tg pc off _ = _
    rw [tg_eq ht]
    simp only [nx, cmpi, h, decide_true, decide_false, Bool.not_true, Bool.not_false, if_true, Bool.false_eq_true, if_false]
  · show tg pc off _ = _
    rw [tg_eq ht]
    simp only [nx, cmpi, h, decide_true, decide_false, Bool.not_true, Bool.not_false, if_true, Bool.false_eq_true, if_false]
theorem wp_goto {off : Int} {t : Nat} (hd : decode (fnB f) pc = .ok (.goto off, 3)) (ht : (pc : Int) + off = (t : Int)) : wp f pc L st M Q = wp f t L st M Q :=
  wp_in hd rfl (by show tg pc off _ = _; rw [tg_eq ht]; rfl)
theorem wp_irem {x y : Int32} (hd : decode (fnB f) pc = .ok (.irem, 1)) : wp f pc L (.int y :: .int x :: r) M Q = (¬ y = 0 ∧ wp f (pc + 1) L (.int (x - x / y * y) :: r) M Q) := by
  refine wp_if inferInstance hd rfl (fun h => ?_) (fun h => ?_)
  · show gd _ _ = _
    simp only [gd, h, decide_false, Bool.not_false, if_true, nx]
  · have h : y = 0 := Decidable.not_not.mp h
    show gd _ _ = _
    simp only [gd, h, decide_true, Bool.not_true, Bool.false_eq_true, if_false]
theorem ob_eq {a ci : Nat} {k : Nat → Option Out} (h : sh M a = some (.inl ci)) : ob M a k = k ci := by unfold ob; rw [h]
theorem ar_eq {a kd n : Nat} {k : Nat → Nat → Option Out} (h : sh M a = some (.inr (kd, n))) : ar M a k = k kd n := by unfold ar; rw [h]
theorem ob_gd {a ci : Nat} {k : Option Out} (h : ¬ sh M a = some (.inl ci)) : (ob M a fun c => gd (decide (c = ci)) k) = none := by
  unfold ob
  split
  · rename_i c e
    unfold gd
    dsimp only
    rw [if_neg]
    intro q
    exact h (by rw [e, of_decide_eq_true q])
  · rfl

theorem wp_getI {a ci j k : Nat} (hd : decode (fnB f) pc = .ok (.getfield k, 3)) (hk : lk fT (fnC f) k = some (ci, j)) (hy : tk (cY ci j) = 0) : wp f pc L (.ref a :: r) M Q = (sh M a = some (.inl ci) ∧ wp f (pc + 3) L (.int (gI M a j) :: r) M Q) := by
  refine wp_if inferInstance hd rfl (fun h => ?_) (fun h => ?_)
  · simp only [step, s1r, hk, ob_eq h, decide_true, gd, if_true, hy, nx]
  · simp only [step, s1r, hk]
    exact ob_gd h
theorem wp_getJ {a ci j k : Nat} (hd : decode (fnB f) pc = .ok (.getfield k, 3)) (hk : lk fT (fnC f) k = some (ci, j)) (hy : tk (cY ci j) = 1) : wp f pc L (.ref a :: r) M Q = (sh M a = some (.inl ci) ∧ wp f (pc + 3) L (.long (gJ M a j) :: r) M Q) := by
  refine wp_if inferInstance hd rfl (fun h => ?_) (fun h => ?_)
  · simp only [step, s1r, hk, ob_eq h, decide_true, gd, if_true, hy, nx]
  · simp only [step, s1r, hk]
    exact ob_gd h
theorem wp_getA {a ci j k : Nat} (hd : decode (fnB f) pc = .ok (.getfield k, 3)) (hk : lk fT (fnC f) k = some (ci, j)) (hy : tk (cY ci j) = 2) : wp f pc L (.ref a :: r) M Q = (sh M a = some (.inl ci) ∧ wp f (pc + 3) L (va_rf (gR M a j) :: r) M Q) := by
  refine wp_if inferInstance hd rfl (fun h => ?_) (fun h => ?_)
  · simp only [step, s1r, hk, ob_eq h, decide_true, gd, if_true, hy, nx]
  · simp only [step, s1r, hk]
    exact ob_gd h
theorem wp_putI {a ci j k : Nat} {x : Int32} (hd : decode (fnB f) pc = .ok (.putfield k, 3)) (hk : lk fT (fnC f) k = some (ci, j)) (hy : cY ci j = .int) (hf : (!(cF ci j) || (decide (fnC f = ci) && decide ((fnY f).name = "<init>"))) = true) : wp f pc L (.int x :: .ref a :: r) M Q = (sh M a = some (.inl ci) ∧ wp f (pc + 3) L r (sI M a j x) Q) := by
  refine wp_if inferInstance hd rfl (fun h => ?_) (fun h => ?_)
  · simp only [step, hk, ob_eq h, hf, hy, narrow, fits, tk, pfv, decide_true, Bool.and_self, gd, if_true, nx]
  · simp only [step, hk, hf, hy, narrow, fits, decide_true, Bool.and_true]
    exact ob_gd h
theorem wp_putJ {a ci j k : Nat} {x : Int64} (hd : decode (fnB f) pc = .ok (.putfield k, 3)) (hk : lk fT (fnC f) k = some (ci, j)) (hy : cY ci j = .long) (hf : (!(cF ci j) || (decide (fnC f = ci) && decide ((fnY f).name = "<init>"))) = true) : wp f pc L (.long x :: .ref a :: r) M Q = (sh M a = some (.inl ci) ∧ wp f (pc + 3) L r (sJ M a j x) Q) := by
  refine wp_if inferInstance hd rfl (fun h => ?_) (fun h => ?_)
  · simp only [step, hk, ob_eq h, hf, hy, narrow, fits, tk, pfv, decide_true, Bool.and_self, gd, if_true, nx]
  · simp only [step, hk, hf, hy, narrow, fits, decide_true, Bool.and_true]
    exact ob_gd h
theorem wp_putRO {a ci j k : Nat} {x : Nat} {C : String} (hd : decode (fnB f) pc = .ok (.putfield k, 3)) (hk : lk fT (fnC f) k = some (ci, j)) (hy : cY ci j = .object C) (hf : (!(cF ci j) || (decide (fnC f = ci) && decide ((fnY f).name = "<init>"))) = true) : wp f pc L (.ref x :: .ref a :: r) M Q = (sh M a = some (.inl ci) ∧ wp f (pc + 3) L r (sR M a j (some x)) Q) := by
  refine wp_if inferInstance hd rfl (fun h => ?_) (fun h => ?_)
  · simp only [step, hk, ob_eq h, hf, hy, narrow, fits, tk, pfv, decide_true, Bool.and_self, gd, if_true, nx]
  · simp only [step, hk, hf, hy, narrow, fits, decide_true, Bool.and_true]
    exact ob_gd h
theorem wp_putRA {a ci j k : Nat} {x : Nat} {C : FieldType} (hd : decode (fnB f) pc = .ok (.putfield k, 3)) (hk : lk fT (fnC f) k = some (ci, j)) (hy : cY ci j = .array C) (hf : (!(cF ci j) || (decide (fnC f = ci) && decide ((fnY f).name = "<init>"))) = true) : wp f pc L (.ref x :: .ref a :: r) M Q = (sh M a = some (.inl ci) ∧ wp f (pc + 3) L r (sR M a j (some x)) Q) := by
  refine wp_if inferInstance hd rfl (fun h => ?_) (fun h => ?_)
  · simp only [step, hk, ob_eq h, hf, hy, narrow, fits, tk, pfv, decide_true, Bool.and_self, gd, if_true, nx]
  · simp only [step, hk, hf, hy, narrow, fits, decide_true, Bool.and_true]
    exact ob_gd h
theorem wp_putNO {a ci j k : Nat}  {C : String} (hd : decode (fnB f) pc = .ok (.putfield k, 3)) (hk : lk fT (fnC f) k = some (ci, j)) (hy : cY ci j = .object C) (hf : (!(cF ci j) || (decide (fnC f = ci) && decide ((fnY f).name = "<init>"))) = true) : wp f pc L (.null :: .ref a :: r) M Q = (sh M a = some (.inl ci) ∧ wp f (pc + 3) L r (sR M a j (none)) Q) := by
  refine wp_if inferInstance hd rfl (fun h => ?_) (fun h => ?_)
  · simp only [step, hk, ob_eq h, hf, hy, narrow, fits, tk, pfv, decide_true, Bool.and_self, gd, if_true, nx]
  · simp only [step, hk, hf, hy, narrow, fits, decide_true, Bool.and_true]
    exact ob_gd h
theorem wp_putNA {a ci j k : Nat}  {C : FieldType} (hd : decode (fnB f) pc = .ok (.putfield k, 3)) (hk : lk fT (fnC f) k = some (ci, j)) (hy : cY ci j = .array C) (hf : (!(cF ci j) || (decide (fnC f = ci) && decide ((fnY f).name = "<init>"))) = true) : wp f pc L (.null :: .ref a :: r) M Q = (sh M a = some (.inl ci) ∧ wp f (pc + 3) L r (sR M a j (none)) Q) := by
  refine wp_if inferInstance hd rfl (fun h => ?_) (fun h => ?_)
  · simp only [step, hk, ob_eq h, hf, hy, narrow, fits, tk, pfv, decide_true, Bool.and_self, gd, if_true, nx]
  · simp only [step, hk, hf, hy, narrow, fits, decide_true, Bool.and_true]
    exact ob_gd h
theorem nar_z {x : Int32} : (decide (narrow .boolean (.int x) = .int x) && fits .boolean (.int x)) = decide (x = 0 ∨ x = 1) := by
  by_cases h : x = 0 ∨ x = 1
  · rcases h with rfl | rfl <;> rfl
  · have h1 : ¬ x = 0 := fun q => h (Or.inl q)
    have h2 : ¬ x = 1 := fun q => h (Or.inr q)
    simp [fits, h1, h2]
theorem wp_putZ {a ci j k : Nat} {x : Int32} (hd : decode (fnB f) pc = .ok (.putfield k, 3)) (hk : lk fT (fnC f) k = some (ci, j)) (hy : cY ci j = .boolean) (hf : (!(cF ci j) || (decide (fnC f = ci) && decide ((fnY f).name = "<init>"))) = true) : wp f pc L (.int x :: .ref a :: r) M Q = ((x = 0 ∨ x = 1) ∧ sh M a = some (.inl ci) ∧ wp f (pc + 3) L r (sI M a j x) Q) := by
  by_cases hz : x = 0 ∨ x = 1
  · have hz2 : (decide (narrow .boolean (.int x) = .int x) && fits .boolean (.int x)) = true := by rw [nar_z]; exact decide_eq_true hz
    have hz3 := Bool.and_eq_true_iff.mp hz2
    have : wp f pc L (.int x :: .ref a :: r) M Q = (sh M a = some (.inl ci) ∧ wp f (pc + 3) L r (sI M a j x) Q) := by
      refine wp_if inferInstance hd rfl (fun h => ?_) (fun h => ?_)
      · simp only [step, hk, ob_eq h, hf, hy, hz3.1, hz3.2, tk, pfv, decide_true, Bool.and_self, gd, if_true, nx]
      · simp only [step, hk, hf, hy, hz3.1, hz3.2, Bool.and_true]
        exact ob_gd h
    rw [this]
    exact propext ⟨fun q => ⟨hz, q⟩, fun q => q.2⟩
  · have hz2 : (decide (narrow .boolean (.int x) = .int x) && fits .boolean (.int x)) = false := by rw [nar_z]; exact decide_eq_false hz
    rw [wp_no hd]
    · exact propext ⟨False.elim, fun q => hz q.1⟩
    · simp only [step, hk, hy, Bool.and_assoc]
      unfold ob
      split
      · unfold gd
        dsimp only
        rw [if_neg]
        rw [← Bool.and_assoc (decide _) (fits _ _), hz2]
        simp
      · rfl
theorem wp_alen {a : Nat} (hd : decode (fnB f) pc = .ok (.arraylength, 1)) : wp f pc L (.ref a :: r) M Q = (match sh M a with
    | some (.inr (_, n)) => wp f (pc + 1) L (.int (Int32.ofNat n) :: r) M Q
    | _ => False) := by
  split
  · rename_i kd n e
    exact wp_in hd rfl (by show ar M a _ = _; rw [ar_eq e]; rfl)
  · rename_i e
    refine wp_no hd ?_
    show ar M a _ = _
    unfold ar
    split
    · rename_i kd n e2
      exact absurd e2 (e kd n)
    · rfl

theorem wp_iald {a : Nat} {j : Int32} (hd : decode (fnB f) pc = .ok (.iaload, 1)) : wp f pc L (.int j :: .ref a :: r) M Q = (ixI M a j ∧ wp f (pc + 1) L (.int (gI M a (cl j)) :: r) M Q) := by
  refine wp_if (Classical.propDecidable _) hd rfl (fun h => ?_) (fun h => ?_)
  · obtain ⟨kd, n, e, hk, hj⟩ := h
    show ar M a _ = _
    rw [ar_eq e]
    rcases hk with rfl | rfl <;> simp [gd, hj, nx, cl]
  · show ar M a _ = _
    unfold ar
    split
    · rename_i kd n e
      unfold gd
      dsimp only
      rw [if_neg]
      intro q
      simp only [Bool.and_eq_true, Bool.or_eq_true, beq_iff_eq, decide_eq_true_eq] at q
      exact h ⟨kd, n, e, q.1, q.2⟩
    · rfl
theorem wp_bald {a : Nat} {j : Int32} (hd : decode (fnB f) pc = .ok (.baload, 1)) : wp f pc L (.int j :: .ref a :: r) M Q = (ixB M a j ∧ wp f (pc + 1) L (.int (gI M a (cl j)) :: r) M Q) := by
  refine wp_if (Classical.propDecidable _) hd rfl (fun h => ?_) (fun h => ?_)
  · obtain ⟨kd, n, e, hk, hj⟩ := h
    show ar M a _ = _
    rw [ar_eq e]
    rcases hk with rfl | rfl <;> simp [gd, hj, nx, cl]
  · show ar M a _ = _
    unfold ar
    split
    · rename_i kd n e
      unfold gd
      dsimp only
      rw [if_neg]
      intro q
      simp only [Bool.and_eq_true, Bool.or_eq_true, beq_iff_eq, decide_eq_true_eq] at q
      exact h ⟨kd, n, e, q.1, q.2⟩
    · rfl
theorem wp_lald {a : Nat} {j : Int32} (hd : decode (fnB f) pc = .ok (.laload, 1)) : wp f pc L (.int j :: .ref a :: r) M Q = (ixJ M a j ∧ wp f (pc + 1) L (.long (gJ M a (cl j)) :: r) M Q) := by
  refine wp_if (Classical.propDecidable _) hd rfl (fun h => ?_) (fun h => ?_)
  · obtain ⟨n, e, hj⟩ := h
    show ar M a _ = _
    rw [ar_eq e]
    simp [gd, hj, nx, cl]
  · show ar M a _ = _
    unfold ar
    split
    · rename_i kd n e
      unfold gd
      dsimp only
      rw [if_neg]
      intro q
      simp only [Bool.and_eq_true, Bool.or_eq_true, beq_iff_eq, decide_eq_true_eq] at q
      exact h ⟨n, by rw [e, q.1], q.2⟩
    · rfl
theorem wp_aald {a : Nat} {j : Int32} (hd : decode (fnB f) pc = .ok (.aaload, 1)) : wp f pc L (.int j :: .ref a :: r) M Q = (ixR M a j ∧ wp f (pc + 1) L (va_rf (gR M a (cl j)) :: r) M Q) := by
  refine wp_if (Classical.propDecidable _) hd rfl (fun h => ?_) (fun h => ?_)
  · obtain ⟨kd, n, e, hk, hj⟩ := h
    show ar M a _ = _
    rw [ar_eq e]
    simp [gd, hj, hk, nx, cl]
  · show ar M a _ = _
    unfold ar
    split
    · rename_i kd n e
      unfold gd
      dsimp only
      rw [if_neg]
      intro q
      simp only [Bool.and_eq_true, Bool.or_eq_true, beq_iff_eq, decide_eq_true_eq] at q
      exact h ⟨kd, n, e, q.1, q.2⟩
    · rfl
theorem wp_iast {a : Nat} {j : Int32} {x : Int32} (hd : decode (fnB f) pc = .ok (.iastore, 1)) : wp f pc L (.int x :: .int j :: .ref a :: r) M Q = (ixW M a j ∧ wp f (pc + 1) L r (sI M a (cl j) x) Q) := by
  refine wp_if (Classical.propDecidable _) hd rfl (fun h => ?_) (fun h => ?_)
  · obtain ⟨n, e, hj⟩ := h
    show ar M a _ = _
    rw [ar_eq e]
    simp [gd, hj, nx, cl]
  · show ar M a _ = _
    unfold ar
    split
    · rename_i kd n e
      unfold gd
      dsimp only
      rw [if_neg]
      intro q
      simp only [Bool.and_eq_true, beq_iff_eq] at q
      exact h ⟨n, by rw [e, q.1], q.2⟩
    · rfl
theorem wp_last {a : Nat} {j : Int32} {x : Int64} (hd : decode (fnB f) pc = .ok (.lastore, 1)) : wp f pc L (.long x :: .int j :: .ref a :: r) M Q = (ixJ M a j ∧ wp f (pc + 1) L r (sJ M a (cl j) x) Q) := by
  refine wp_if (Classical.propDecidable _) hd rfl (fun h => ?_) (fun h => ?_)
  · obtain ⟨n, e, hj⟩ := h
    show ar M a _ = _
    rw [ar_eq e]
    simp [gd, hj, nx, cl]
  · show ar M a _ = _
    unfold ar
    split
    · rename_i kd n e
      unfold gd
      dsimp only
      rw [if_neg]
      intro q
      simp only [Bool.and_eq_true, beq_iff_eq] at q
      exact h ⟨n, by rw [e, q.1], q.2⟩
    · rfl
theorem wp_bast {a : Nat} {j x : Int32} (hd : decode (fnB f) pc = .ok (.bastore, 1)) : wp f pc L (.int x :: .int j :: .ref a :: r) M Q = bsW M a j x (fun M1 => wp f (pc + 1) L r M1 Q) := by
  unfold bsW
  split
  · rename_i n e
    refine wp_if inferInstance hd rfl (fun h => ?_) (fun h => ?_)
    · show ar M a _ = _
      rw [ar_eq e]
      simp [gd, h, nx, cl]
    · show ar M a _ = _
      rw [ar_eq e]
      simp [gd, h]
  · rename_i n e
    refine wp_if inferInstance hd rfl (fun h => ?_) (fun h => ?_)
    · show ar M a _ = _
      rw [ar_eq e]
      simp [gd, h, nx, cl]
    · show ar M a _ = _
      rw [ar_eq e]
      simp [gd, h]
  · rename_i e1 e2
    refine wp_no hd ?_
    show ar M a _ = _
    unfold ar
    split
    · rename_i kd n e
      by_cases h2 : kd = 2
      · subst h2; exact absurd e (e1 n)
      · dsimp only
        rw [if_neg h2]
        unfold gd
        rw [if_neg]
        intro q
        simp only [Bool.and_eq_true, beq_iff_eq] at q
        obtain ⟨rfl, -⟩ := q
        exact absurd e (e2 n)
    · rfl
theorem wp_aast {a v : Nat} {j : Int32} (hd : decode (fnB f) pc = .ok (.aastore, 1)) : wp f pc L (.ref v :: .int j :: .ref a :: r) M Q = ((∃ kd n c, sh M a = some (.inr (kd, n)) ∧ sh M v = some (.inl c) ∧ lk aO 0 kd = some c ∧ inb j n = true) ∧ wp f (pc + 1) L r (sR M a (cl j) (some v)) Q) := by
  refine wp_if (Classical.propDecidable _) hd rfl (fun h => ?_) (fun h => ?_)
  · obtain ⟨kd, n, c, e1, e2, e3, hj⟩ := h
    show ar M a _ = _
    rw [ar_eq e1, ob_eq e2]
    simp [gd, e3, hj, nx, cl]
  · show ar M a _ = _
    unfold ar
    split
    · rename_i kd n e
      unfold ob
      split
      · rename_i c e2
        unfold gd
        dsimp only
        rw [if_neg]
        intro q
        simp only [Bool.and_eq_true, decide_eq_true_eq] at q
        exact h ⟨kd, n, c, e, e2, q.1, q.2⟩
      · rfl
    · rfl
theorem nw_gd {n : Int32} {k : Option Out} (h : ¬ (¬ n < 0 ∧ cl n ≤ 16777216)) : gd (!decide (n < 0) && decide (n.toNatClampNeg ≤ 16777216)) k = none := by
  unfold gd
  rw [if_neg]
  intro q
  simp only [Bool.and_eq_true, decide_eq_true_eq, Bool.not_eq_true', decide_eq_false_iff_not] at q
  exact h q
theorem nw_gd1 {n : Int32} {k : Option Out} (h : ¬ n < 0 ∧ cl n ≤ 16777216) : gd (!decide (n < 0) && decide (n.toNatClampNeg ≤ 16777216)) k = k := by
  unfold gd
  rw [if_pos]
  simp only [Bool.and_eq_true, decide_eq_true_eq, Bool.not_eq_true', decide_eq_false_iff_not]
  exact h
theorem wp_anew {n : Int32} {k kd : Nat} (hd : decode (fnB f) pc = .ok (.anewarray k, 3)) (hk : lk aT (fnC f) k = some kd) : wp f pc L (.int n :: r) M Q = ((¬ n < 0 ∧ cl n ≤ 16777216) ∧ wp f (pc + 3) L (.ref (nxt M) :: r) (nw M (.inr (kd, cl n)) (cl n)) Q) := by
  refine wp_if inferInstance hd rfl (fun h => ?_) (fun h => ?_)
  · simp only [step, s1i, hk]
    exact nw_gd1 h
  · simp only [step, s1i, hk]
    exact nw_gd h

theorem wp_new_int {n : Int32} (hd : decode (fnB f) pc = .ok (.newarray .int, 2)) : wp f pc L (.int n :: r) M Q = ((¬ n < 0 ∧ cl n ≤ 16777216) ∧ wp f (pc + 2) L (.ref (nxt M) :: r) (nw M (.inr (0, cl n)) (cl n)) Q) := by
  refine wp_if inferInstance hd rfl (fun h => ?_) (fun h => ?_)
  · exact nw_gd1 h
  · exact nw_gd h
theorem wp_new_long {n : Int32} (hd : decode (fnB f) pc = .ok (.newarray .long, 2)) : wp f pc L (.int n :: r) M Q = ((¬ n < 0 ∧ cl n ≤ 16777216) ∧ wp f (pc + 2) L (.ref (nxt M) :: r) (nw M (.inr (1, cl n)) (cl n)) Q) := by
  refine wp_if inferInstance hd rfl (fun h => ?_) (fun h => ?_)
  · exact nw_gd1 h
  · exact nw_gd h
theorem wp_new_byte {n : Int32} (hd : decode (fnB f) pc = .ok (.newarray .byte, 2)) : wp f pc L (.int n :: r) M Q = ((¬ n < 0 ∧ cl n ≤ 16777216) ∧ wp f (pc + 2) L (.ref (nxt M) :: r) (nw M (.inr (2, cl n)) (cl n)) Q) := by
  refine wp_if inferInstance hd rfl (fun h => ?_) (fun h => ?_)
  · exact nw_gd1 h
  · exact nw_gd h
theorem wp_new_boolean {n : Int32} (hd : decode (fnB f) pc = .ok (.newarray .boolean, 2)) : wp f pc L (.int n :: r) M Q = ((¬ n < 0 ∧ cl n ≤ 16777216) ∧ wp f (pc + 2) L (.ref (nxt M) :: r) (nw M (.inr (3, cl n)) (cl n)) Q) := by
  refine wp_if inferInstance hd rfl (fun h => ?_) (fun h => ?_)
  · exact nw_gd1 h
  · exact nw_gd h
theorem wp_new {k ci : Nat} (hd : decode (fnB f) pc = .ok (.new k, 3)) (hk : lk nT (fnC f) k = some ci) : wp f pc L st M Q = wp f (pc + 3) L (.ref (nxt M) :: st) (nw M (.inl ci) (cS ci)) Q :=
  wp_in hd rfl (by simp only [step, hk, nx])
theorem wp_callS {g : Fn} {k : Nat} {as rest : List Value} (hd : decode (fnB f) pc = .ok (.invokestatic k, 3)) (hk : lk mT (fnC f) k = some (0, g)) (h1 : fnP g ≤ st.length) (h2 : (st.take (fnP g)).reverse = as) (h3 : st.drop (fnP g) = rest) (h4 : (decide (fnK g < fnK f) && decide (rest.length ≤ 4) && decide ((expd as).length ≤ fnL g) && decide (19 + fnL g + fnS g ≤ fnS f)) = true) : wp f pc L st M Q = wp g 0 (ent (fnL g) as) [] M (fun r M1 => wp f (pc + 3) L (r.toList ++ rest) M1 Q) :=
  wp_call hd rfl (by simp only [step, hk, h1, h2, h3, mk, h4, gd, decide_true, if_true])
theorem wp_callI {g : Fn} {k b : Nat} {As rest : List Value} (hd : decode (fnB f) pc = .ok (.invokespecial k, 3)) (hk : lk mT (fnC f) k = some (2, g) ∨ lk mT (fnC f) k = some (7, g)) (h2 : (st.take (fnP g)).reverse = As) (h3 : st.drop (fnP g) = .ref b :: rest) (h4 : (decide (fnK g < fnK f) && decide (rest.length ≤ 4) && decide ((expd (.ref b :: As)).length ≤ fnL g) && decide (19 + fnL g + fnS g ≤ fnS f)) = true) : wp f pc L st M Q = wp g 0 (ent (fnL g) (.ref b :: As)) [] M (fun r M1 => wp f (pc + 3) L (r.toList ++ rest) M1 Q) :=
  wp_call hd rfl (by rcases hk with hk | hk <;> simp only [step, hk, h2, h3, mk, h4, gd, if_true])
theorem wp_callV {g : Fn} {k b : Nat} {As rest : List Value} (hd : decode (fnB f) pc = .ok (.invokevirtual k, 3)) (hk : lk mT (fnC f) k = some (1, g)) (h2 : (st.take (fnP g)).reverse = As) (h3 : st.drop (fnP g) = .ref b :: rest) (h4 : (decide (fnK g < fnK f) && decide (rest.length ≤ 4) && decide ((expd (.ref b :: As)).length ≤ fnL g) && decide (19 + fnL g + fnS g ≤ fnS f)) = true) : wp f pc L st M Q = (sh M b = some (.inl (fnC g)) ∧ wp g 0 (ent (fnL g) (.ref b :: As)) [] M (fun r M1 => wp f (pc + 3) L (r.toList ++ rest) M1 Q)) := by
  by_cases h : sh M b = some (.inl (fnC g))
  · rw [wp_call (g := g) (as := .ref b :: As) (rest := rest) hd rfl (by simp only [step, hk, h2, h3, ob_eq h, mk, h4, gd, decide_true, if_true])]
    exact propext ⟨fun q => ⟨h, q⟩, fun q => q.2⟩
  · rw [wp_no hd (by simp only [step, hk, h3]; exact ob_gd h)]
    exact propext ⟨False.elim, fun q => h q.1⟩
theorem wp_obj {k a : Nat} {g : Fn} (hd : decode (fnB f) pc = .ok (.invokespecial k, 3)) (hk : lk mT (fnC f) k = some (3, g)) (h4 : 2 * r.length + 12 ≤ fnS f) : wp f pc L (.ref a :: r) M Q = wp f (pc + 3) L r M Q :=
  wp_in hd rfl (by simp only [step, hk, s1r, gd, h4, decide_true, if_true, nx])
theorem wp_min {k : Nat} {x y : Int32} {g : Fn} (hd : decode (fnB f) pc = .ok (.invokestatic k, 3)) (hk : lk mT (fnC f) k = some (4, g)) (h4 : 2 * r.length + 13 ≤ fnS f) : wp f pc L (.int y :: .int x :: r) M Q = wp f (pc + 3) L (.int (if y < x then y else x) :: r) M Q :=
  wp_in hd rfl (by simp only [step, hk, s2i, gd, h4, decide_true, if_true, nx])
theorem wp_max {k : Nat} {x y : Int32} {g : Fn} (hd : decode (fnB f) pc = .ok (.invokestatic k, 3)) (hk : lk mT (fnC f) k = some (5, g)) (h4 : 2 * r.length + 13 ≤ fnS f) : wp f pc L (.int y :: .int x :: r) M Q = wp f (pc + 3) L (.int (if x < y then y else x) :: r) M Q :=
  wp_in hd rfl (by simp only [step, hk, s2i, gd, h4, decide_true, if_true, nx])
def cpOk (M : Mm) (a b : Nat) (sp dp n : Int32) : Prop := ∃ n0 n1, sh M a = some (.inr (0, n0)) ∧ sh M b = some (.inr (0, n1)) ∧ ¬ sp < 0 ∧ ¬ dp < 0 ∧ ¬ n < 0 ∧ cl sp + cl n ≤ n0 ∧ cl dp + cl n ≤ n1
theorem wp_copy {k a b : Nat} {sp dp n : Int32} {g : Fn} (hd : decode (fnB f) pc = .ok (.invokestatic k, 3)) (hk : lk mT (fnC f) k = some (6, g)) (h4 : 2 * r.length + (nativeFrameWords "java/lang/System" "arraycopy" 5 + 11) ≤ fnS f) : wp f pc L (.int n :: .int dp :: .ref b :: .int sp :: .ref a :: r) M Q = (cpOk M a b sp dp n ∧ wp f (pc + 3) L r (cpI M a b (cl sp) (cl dp) (cl n)) Q) := by
  refine wp_if (Classical.propDecidable _) hd rfl (fun h => ?_) (fun h => ?_)
  · obtain ⟨n0, n1, e1, e2, q1, q2, q3, q4, q5⟩ := h
    simp only [cl] at q4 q5
    simp only [step, hk, ar_eq e1, ar_eq e2, gd, h4, q1, q2, q3, q4, q5, decide_true, decide_false, Bool.not_false, Bool.and_self, if_true, nx, cl]
  · simp only [step, hk]
    unfold ar
    split
    · rename_i k0 n0 e1
      split
      · rename_i k1 n1 e2
        unfold gd
        dsimp only
        rw [if_neg]
        intro q
        simp only [Bool.and_eq_true, decide_eq_true_eq, Bool.not_eq_true', decide_eq_false_iff_not] at q
        obtain ⟨⟨⟨⟨⟨⟨⟨rfl, rfl⟩, -⟩, z1⟩, z2⟩, z3⟩, z4⟩, z5⟩ := q
        exact h ⟨n0, n1, e1, e2, z1, z2, z3, z4, z5⟩
      · rfl
    · rfl
theorem wp_retZ {v : Int32} (hd : decode (fnB f) pc = .ok (.ireturn, 1)) (hr : fnR f = some .boolean) : wp f pc L [.int v] M Q = ((v = 0 ∨ v = 1) ∧ Q (some (.int v)) M) := by
  by_cases h : v = 0 ∨ v = 1
  · rw [wp_ret (r := some (.int v)) hd rfl (by simp only [step, hr, gd]; rw [if_pos]; rcases h with rfl | rfl <;> rfl)]
    exact propext ⟨fun q => ⟨h, q⟩, fun q => q.2⟩
  · rw [wp_no hd]
    · exact propext ⟨False.elim, fun q => h q.1⟩
    · simp only [step, hr, gd]
      rw [if_neg]
      intro q
      have q := of_decide_eq_true q
      simp only [narrow, Value.int.injEq] at q
      refine h (zb q)
theorem wp_retI {v : Int32} (hd : decode (fnB f) pc = .ok (.ireturn, 1)) (hr : fnR f = some .int) : wp f pc L [.int v] M Q = Q (some (.int v)) M :=
  wp_ret hd rfl (by simp only [step, hr, gd, narrow, decide_true, if_true])
theorem wp_retJ {v : Int64} (hd : decode (fnB f) pc = .ok (.lreturn, 1)) (hr : fnR f = some .long) : wp f pc L [.long v] M Q = Q (some (.long v)) M :=
  wp_ret hd rfl (by simp only [step, hr])
theorem wp_retV (hd : decode (fnB f) pc = .ok (.return_, 1)) (hr : fnR f = none) : wp f pc L [] M Q = Q none M :=
  wp_ret hd rfl (by simp only [step, hr])
theorem wp_retR {a : Nat} {C : String} (hd : decode (fnB f) pc = .ok (.areturn, 1)) (hr : fnR f = some (.object C)) : wp f pc L [.ref a] M Q = Q (some (.ref a)) M :=
  wp_ret hd rfl (by simp only [step, hr, gd, isR, if_true])
theorem wp_retN {C : String} (hd : decode (fnB f) pc = .ok (.areturn, 1)) (hr : fnR f = some (.object C)) : wp f pc L [.null] M Q = Q (some .null) M :=
  wp_ret hd rfl (by simp only [step, hr, gd, isR, if_true])
theorem wp_swI {x : Int32} {d lo hi o : Int} {offs : Array Int} {t : Nat} (hd : decode (fnB f) pc = .ok (.tableswitch d lo hi offs, len)) (h1 : ¬ (x.toInt < lo ∨ hi < x.toInt)) (h2 : offs[(x.toInt - lo).toNat]? = some o) (ht : (pc : Int) + o = (t : Int)) : wp f pc L (.int x :: r) M Q = wp f t L r M Q :=
  wp_in hd rfl (by simp only [step, s1i, h1, if_false, h2, tg_eq ht, nx])
theorem wp_swO {x : Int32} {d lo hi : Int} {offs : Array Int} {t : Nat} (hd : decode (fnB f) pc = .ok (.tableswitch d lo hi offs, len)) (ht : (pc : Int) + d = (t : Int)) (h1 : x.toInt < lo ∨ hi < x.toInt) : wp f pc L (.int x :: r) M Q = wp f t L r M Q :=
  wp_in hd rfl (by simp only [step, s1i, h1, if_true, tg_eq ht, nx])
end WPE
/-! the store's rows -/
section STORE
variable (M : Mm) (a b j k n sp dp : Nat) (x : Int32) (y : Int64) (z : Option Nat) (t : Tg) (F : Nat → Nat → Int32) (F2 : Nat → Nat → Int64)
theorem sh_sI : sh (sI M a j x) b = sh M b := rfl
theorem sh_sJ : sh (sJ M a j y) b = sh M b := rfl
theorem sh_sR : sh (sR M a j z) b = sh M b := rfl
theorem sh_wI : sh (wI M F) b = sh M b := rfl
theorem sh_wJ : sh (wJ M F2) b = sh M b := rfl
theorem sh_cp : sh (cpI M a b sp dp n) k = sh M k := rfl
theorem sh_nw : sh (nw M t n) b = if b = nxt M then some t else sh M b := rfl
theorem gI_sI : gI (sI M a j x) b k = if b = a ∧ k = j then x else gI M b k := rfl
theorem gI_sJ : gI (sJ M a j y) b k = gI M b k := rfl
theorem gI_sR : gI (sR M a j z) b k = gI M b k := rfl
theorem gI_wI : gI (wI M F) b k = F b k := rfl
theorem gI_wJ : gI (wJ M F2) b k = gI M b k := rfl
theorem gI_nw : gI (nw M t n) b k = if b = nxt M then 0 else gI M b k := rfl
theorem gI_cp (q : Nat) : gI (cpI M a b sp dp n) q k = if q = b ∧ dp ≤ k ∧ k < dp + n then gI M a (sp + (k - dp)) else gI M q k := rfl
theorem gJ_sI : gJ (sI M a j x) b k = gJ M b k := rfl
theorem gJ_sJ : gJ (sJ M a j y) b k = if b = a ∧ k = j then y else gJ M b k := rfl
theorem gJ_sR : gJ (sR M a j z) b k = gJ M b k := rfl
theorem gJ_wI : gJ (wI M F) b k = gJ M b k := rfl
theorem gJ_wJ : gJ (wJ M F2) b k = F2 b k := rfl
theorem gJ_cp (q : Nat) : gJ (cpI M a b sp dp n) q k = gJ M q k := rfl
theorem gJ_nw : gJ (nw M t n) b k = if b = nxt M then 0 else gJ M b k := rfl
theorem gR_sI : gR (sI M a j x) b k = gR M b k := rfl
theorem gR_sJ : gR (sJ M a j y) b k = gR M b k := rfl
theorem gR_sR : gR (sR M a j z) b k = if b = a ∧ k = j then z else gR M b k := rfl
theorem gR_wI : gR (wI M F) b k = gR M b k := rfl
theorem gR_wJ : gR (wJ M F2) b k = gR M b k := rfl
theorem gR_cp (q : Nat) : gR (cpI M a b sp dp n) q k = gR M q k := rfl
theorem gR_nw : gR (nw M t n) b k = if b = nxt M then none else gR M b k := rfl
theorem nxt_sI : nxt (sI M a j x) = nxt M := rfl
theorem nxt_sJ : nxt (sJ M a j y) = nxt M := rfl
theorem nxt_sR : nxt (sR M a j z) = nxt M := rfl
theorem nxt_wI : nxt (wI M F) = nxt M := rfl
theorem nxt_wJ : nxt (wJ M F2) = nxt M := rfl
theorem nxt_cp : nxt (cpI M a b sp dp n) = nxt M := rfl
theorem nxt_nw : nxt (nw M t n) = nxt M + 1 := rfl
theorem slo_sI : slo (sI M a j x) = slo M := rfl
theorem slo_sJ : slo (sJ M a j y) = slo M := rfl
theorem slo_sR : slo (sR M a j z) = slo M := rfl
theorem slo_wI : slo (wI M F) = slo M := rfl
theorem slo_wJ : slo (wJ M F2) = slo M := rfl
theorem slo_cp : slo (cpI M a b sp dp n) = slo M := rfl
theorem slo_nw : slo (nw M t n) = slo M + n := rfl
theorem va_rf_s : va_rf (some a) = .ref a := rfl
theorem va_rf_n : va_rf none = .null := rfl
end STORE
