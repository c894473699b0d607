/-! the class whole: its own cells, and what stands behind them -/
def tS (x b : Nat) : Prop := (x + 9 ≤ b ∧ b < x + 1039) ∨ x + 1094 ≤ b
def MrS (M : Mm) (x : Nat) : Prop := (sh M x = some (.inl 11) ∧ gR M x 0 = some (x + 1) ∧ gR M x 3 = some (x + 2) ∧ gR M x 4 = some (x + 3) ∧ gR M x 5 = some (x + 8) ∧ gR M x 6 = some (x + 9) ∧ gR M x 7 = some (x + 1011) ∧ gR M x 8 = some (x + 1013) ∧ gR M x 9 = some (x + 1018) ∧ gR M x 10 = some (x + 1024) ∧ gR M x 11 = some (x + 1029) ∧ gR M x 12 = some (x + 1034) ∧ gR M x 13 = some (x + 1039) ∧ gR M x 14 = some (x + 1040) ∧ gR M x 16 = some (x + 1041) ∧ gR M x 17 = some (x + 1043) ∧ gR M x 18 = some (x + 1045) ∧ gR M x 19 = some (x + 1047)) ∧
  (sh M (x + 2) = some (.inr (0, 26)) ∧ sh M (x + 8) = some (.inr (10, 8)) ∧ sh M (x + 1039) = some (.inr (0, 300)) ∧ sh M (x + 1040) = some (.inr (0, 300)) ∧ sh M (x + 1047) = some (.inr (0, 201))) ∧ (WS M (x + 1041) 120 ∧ WS M (x + 1043) 120 ∧ WS M (x + 1045) 120) ∧ (∀ i, i < 8 → gR M (x + 8) i = some (x + 1048 + 2 * i) ∧ WS M (x + 1048 + 2 * i) 80) ∧ PRS M x ∧ x + 1094 ≤ nxt M
theorem MrS.fx {M M1 : Mm} {S T : Nat → Prop} {x : Nat} (h : MrS M x) (hf : FrX S T M M1) (ht : ∀ b, T b → tS x b) : MrS M1 x := by
  obtain ⟨⟨a1, a2⟩, b, ⟨c1, c2, c3⟩, d, e, hx⟩ := h
  have nT : ∀ b, b < x + 9 ∨ (x + 1039 ≤ b ∧ b < x + 1094) → ¬ T b := fun b hb q => by rcases ht b q with q | q <;> omega
  have r : ∀ j, gR M1 x j = gR M x j := fun j => hf.2.2.2.2 x (by omega) (nT _ (by omega)) j
  have s : ∀ b, b < x + 1094 → sh M1 b = sh M b := fun b hb => hf.2.2.1 b (by omega)
  refine ⟨⟨(s _ (by omega)).trans a1, ?_⟩, ⟨(s _ (by omega)).trans b.1, (s _ (by omega)).trans b.2.1, (s _ (by omega)).trans b.2.2.1, (s _ (by omega)).trans b.2.2.2.1, (s _ (by omega)).trans b.2.2.2.2⟩, ⟨c1.frx hf (by omega) (nT _ (by omega)), c2.frx hf (by omega) (nT _ (by omega)), c3.frx hf (by omega) (nT _ (by omega))⟩, fun i hi => ⟨(hf.2.2.2.2 _ (by omega) (nT _ (by omega)) i).trans (d i hi).1, (d i hi).2.frx hf (by omega) (nT _ (by omega))⟩, e.frx hf hx (fun b y1 y2 => nT _ (by omega)), Nat.le_trans hx hf.1⟩
  simp only [r]
  exact a2
/-- tape, fault, numbers of letters, SLOTS, the trace told -/
def Bas (M : Mm) (x : Nat) (tp : List Nat) (lf : Nat) (nm : Nm) (sl : Nat → List Nat) (td : List (Nat × Nat)) : Prop := MrS M x ∧ TPV M x tp ∧ (gI M x 1 = nI tp.length ∧ gI M x 2 = nI lf) ∧ NmV M (x + 2) nm ∧ (∀ i, i < 8 → WV M (x + 1048 + 2 * i) (sl i) ∧ (sl i).length ≤ 80) ∧ gI M x 15 = nI td.length ∧ td.length ≤ 300 ∧ TRv M (x + 1039) (x + 1040) td
theorem TPV.frx {M M1 : Mm} {S T : Nat → Prop} {x : Nat} {tp : List Nat} (h : TPV M x tp) (hf : FrX S T M M1) (hx : x + 1 < nxt M) (hs : ¬ S (x + 1)) : TPV M1 x tp := ⟨(hf.2.2.1 _ hx).trans h.1, fun j hj => ((hf.2.2.2.1 _ hx hs).1 j).trans (h.2.1 j hj), h.2.2⟩
/-- but for the SLOTS -/
theorem Bas.gen {M M1 : Mm} {S T : Nat → Prop} {x lf : Nat} {tp : List Nat} {nm : Nm} {sl sl' : Nat → List Nat} {td : List (Nat × Nat)} (h : Bas M x tp lf nm sl td) (hf : FrX S T M M1) (hs : ∀ b, S b → tS x b ∨ (x + 1041 ≤ b ∧ b < x + 1064)) (ht : ∀ b, T b → tS x b) (hv : ∀ i, i < 8 → WV M1 (x + 1048 + 2 * i) (sl' i) ∧ (sl' i).length ≤ 80) : Bas M1 x tp lf nm sl' td := by
  obtain ⟨a1, a2, ⟨a3, a4⟩, a5, a6, a7, a8, a9⟩ := h
  have hx := a1.2.2.2.2.2
  have nS : ∀ b, b < x + 9 ∨ b = x + 1039 ∨ b = x + 1040 → ¬ S b := fun b hb q => by rcases hs b q with (q | q) | q <;> omega
  have g : ∀ b, b < x + 9 ∨ b = x + 1039 ∨ b = x + 1040 → ∀ j, gI M1 b j = gI M b j := fun b hb j => (hf.2.2.2.1 b (by omega) (nS b hb)).1 j
  exact ⟨a1.fx hf ht, a2.frx hf (by omega) (nS _ (by omega)), ⟨(g _ (by omega) _).trans a3, (g _ (by omega) _).trans a4⟩, fun j hj => (g _ (by omega) _).trans (a5 j hj), hv, (g _ (by omega) _).trans a7, a8, fun j h1 h2 => ⟨(g _ (by omega) _).trans (a9 j h1 h2).1, (g _ (by omega) _).trans (a9 j h1 h2).2⟩⟩
theorem Bas.fx {M M1 : Mm} {S T : Nat → Prop} {x lf : Nat} {tp : List Nat} {nm : Nm} {sl : Nat → List Nat} {td : List (Nat × Nat)} (h : Bas M x tp lf nm sl td) (hf : FrX S T M M1) (hs : ∀ b, S b → tS x b ∨ (x + 1041 ≤ b ∧ b < x + 1048)) (ht : ∀ b, T b → tS x b) : Bas M1 x tp lf nm sl td := by
  have hx := h.1.2.2.2.2.2
  have hv := h.2.2.2.2.1
  have nS : ∀ b, x + 1048 ≤ b → b < x + 1064 → ¬ S b := fun b h1 h2 q => by rcases hs b q with (q | q) | q <;> omega
  exact h.gen hf (fun b q => (hs b q).imp id (fun q => ⟨by omega, by omega⟩)) ht (fun i hi => ⟨(hv i hi).1.frx hf (by omega) (nS _ (by omega) (by omega)) (nS _ (by omega) (by omega)), (hv i hi).2⟩)
/-- SLOT i was written -/
theorem Bas.slot {M M1 : Mm} {S T : Nat → Prop} {x lf i : Nat} {tp w : List Nat} {nm : Nm} {sl : Nat → List Nat} {td : List (Nat × Nat)} (h : Bas M x tp lf nm sl td) (hf : FrX S T M M1) (hi : i < 8) (hs : ∀ b, S b → tS x b ∨ (x + 1041 ≤ b ∧ b < x + 1048) ∨ wS (x + 1048 + 2 * i) b) (ht : ∀ b, T b → tS x b) (hw : WV M1 (x + 1048 + 2 * i) w) (hl : w.length ≤ 80) : Bas M1 x tp lf nm (upd1 sl i w) td := by
  have hx := h.1.2.2.2.2.2
  have hv := h.2.2.2.2.1
  have nS : ∀ j b, j < 8 → j ≠ i → (b = x + 1048 + 2 * j ∨ b = x + 1048 + 2 * j + 1) → ¬ S b := fun j b h1 h2 h3 q => by rcases hs b q with (q | q) | q | q | q <;> omega
  refine h.gen hf (fun b q => (hs b q).imp id (fun q => by rcases q with q | q | q <;> exact ⟨by omega, by omega⟩)) ht (fun j hj => ?_)
  by_cases e : j = i
  · subst e
    simp only [upd1, if_true]
    exact ⟨hw, hl⟩
  · simp only [upd1, if_neg e]
    exact ⟨(hv j hj).1.frx hf (by omega) (nS j _ hj e (Or.inl rfl)) (nS j _ hj e (Or.inr rfl)), (hv j hj).2⟩
/-! all that stands behind -/
def Rom (M : Mm) (x s0 : Nat) : Prop := nxt M + 256 ≤ x + 1094 + (4 * capM M (x + 1013) + 5 * rgN M (x + 1011) + wlM M x / 81 + 3 * qlM M x) ∧ slo M ≤ s0 + (phi (capM M (x + 1013)) + 246 * rgN M (x + 1011) + phiW (wlM M x) + phiQ (qlM M x))
theorem Rom.pg {M M1 : Mm} {x s0 : Nat} (h : Rom M x s0) (p : Pg M M1 x) : Rom M1 x s0 := ⟨by have := h.1; have := p.1; omega, by have := h.2; have := p.2; omega⟩
def Cor (M : Mm) (x s0 : Nat) (rs : List Ru) (k : Nat) (row : List Pr) (t s : Nat) (st : Bool) (fo : Option (Nat × Nat × Nat)) : Prop := ∃ f kn cr tk, Cmp M x rs k f row ∧ CNV M x t s st ∧ FnV M x rs fo kn ∧ ElV M x rs k cr tk ∧ ((0 < cr ∨ tk = true) → row = [] ∧ st = false) ∧ Rom M x s0
theorem FrZ.symm {S : Nat → Prop} {M M' : Mm} (h : FrZ S M M') : FrZ S M' M := ⟨h.1.symm, h.2.1.symm, fun b => (h.2.2.1 b).symm, fun b j => (h.2.2.2.1 b j).symm, fun b hb => ⟨fun j => ((h.2.2.2.2 b hb).1 j).symm, fun j => ((h.2.2.2.2 b hb).2 j).symm⟩⟩
theorem FrS.z {S : Nat → Prop} {M M' : Mm} (h : FrS S M M') : FrZ S M M' := ⟨h.nxt, h.slo, h.sh, h.gR, fun _ hb => ⟨h.gI hb, fun _ => h.gJ _ _⟩⟩
theorem FrZ.weaken {S T : Nat → Prop} {M M1 : Mm} (h : FrZ S M M1) (hs : ∀ b, S b → T b) : FrZ T M M1 := ⟨h.1, h.2.1, h.2.2.1, h.2.2.2.1, fun b hb => h.2.2.2.2 b (fun q => hb (hs b q))⟩
theorem Cmp.z {M M1 : Mm} {S : Nat → Prop} {x k f : Nat} {rs : List Ru} {row : List Pr} (h : Cmp M x rs k f row) (hf : FrZ S M M1) (hs : ∀ b, S b → b < x + 9 ∨ (x + 1024 ≤ b ∧ b < x + 1094)) : Cmp M1 x rs k f row := by
  obtain ⟨hE, hS, hV, hC⟩ := h
  have hlo := hE.lo.1
  obtain ⟨r1, r2, -⟩ := Row.frx hS hV hf.x ⟨fun q => by have := hs _ q; omega, fun q => q, fun q => q⟩ (fun v rv hv _ => ⟨fun q => by have := hs _ q; omega, fun q => by have := hs _ q; omega⟩) (fun _ _ q => q)
  exact ⟨hE.frx hf.x (fun b hb => ⟨fun q => by have := hs _ q; omega, fun q => q⟩) ⟨fun q => by have := hs _ q; omega, fun q => q⟩ (fun b n j _ _ _ hb _ q => by have := hs _ q; rcases hb with hb | hb <;> omega) (fun q => q), r1, r2, hC.frx hf.x hlo (fun _ _ _ q => q)⟩
theorem Pg.z {M M1 : Mm} {S : Nat → Prop} {x : Nat} (hf : FrZ S M M1) (hs : ¬ S (x + 1013)) : Pg M M1 x := by
  have e1 : capM M1 (x + 1013) = capM M (x + 1013) := by unfold capM; rw [(hf.2.2.2.2 _ hs).1]
  have e2 : rgN M1 (x + 1011) = rgN M (x + 1011) := by unfold rgN; exact List.countP_congr (fun i _ => by rw [hf.2.2.2.1])
  have e3 : wlM M1 x = wlM M x := by unfold wlM aL; rw [hf.2.2.2.1]; split <;> simp only [hf.2.2.1]
  have e4 : qlM M1 x = qlM M x := by unfold qlM aL; rw [hf.2.2.2.1]; split <;> simp only [hf.2.2.1]
  exact ⟨by rw [e1, e2, e3, e4, hf.1]; omega, by rw [e1, e2, e3, e4, hf.2.1]; omega⟩
theorem FnV.x {M M1 : Mm} {S T : Nat → Prop} {x : Nat} {rs : List Ru} {fo : Option (Nat × Nat × Nat)} {kn : Bool} (h : FnV M x rs fo kn) (hf : FrX S T M M1) (hx : x + 1094 ≤ nxt M) (ht : ∀ b, x + 1029 ≤ b → b < x + 1034 → ¬ T b) (hs : ¬ S (x + 1029)) : FnV M1 x rs fo kn := by
  have e : ∀ j, gI M1 (x + 1029) j = gI M (x + 1029) j := fun j => (hf.2.2.2.1 _ (by omega) hs).1 j
  exact ⟨h.1.frx hf hx ht, h.2.1.eq e, (e _).trans h.2.2.1, fun q => ⟨(e _).trans (h.2.2.2 q).1, (h.2.2.2 q).2⟩⟩
theorem CNV.x {M M1 : Mm} {S T : Nat → Prop} {x t s : Nat} {st : Bool} (h : CNV M x t s st) (hf : FrX S T M M1) (hx : x + 1094 ≤ nxt M) (hs : ¬ S (x + 1024)) : CNV M1 x t s st := by
  have e : ∀ j, gI M1 (x + 1024) j = gI M (x + 1024) j := fun j => (hf.2.2.2.1 _ (by omega) hs).1 j
  exact ⟨(e _).trans h.1, (e _).trans h.2.1, (e _).trans h.2.2⟩
theorem ElV.z {M M1 : Mm} {S : Nat → Prop} {x k f cr : Nat} {rs : List Ru} {row : List Pr} {tk : Bool} (h : Cmp M x rs k f row) (hV : ElV M x rs k cr tk) (hf : FrZ S M M1) (hs : ∀ b, S b → b ≠ x + 9 ∧ ¬ (x + 1013 ≤ b ∧ b ≤ x + 1017) ∧ ¬ (x + 1034 ≤ b ∧ b < x + 1039) ∧ b < x + 1094) : ElV M1 x rs k cr tk := by
  obtain ⟨W, I, Qa, P, wl, ql, e1, e2, e3, e4, e5, e6, e7⟩ := hV
  have g : ∀ b, ¬ S b → ∀ j, gI M1 b j = gI M b j := fun b hb j => (hf.2.2.2.2 b hb).1 j
  have gj : ∀ b, ¬ S b → ∀ j, gJ M1 b j = gJ M b j := fun b hb j => (hf.2.2.2.2 b hb).2 j
  have n34 : ¬ S (x + 1034) := fun q => by have := hs _ q; omega
  refine ⟨W, I, Qa, P, wl, ql, e1.frZ hf, (g _ n34 _).trans e2, e3, (g _ n34 _).trans e4, fun q => (g _ (fun q => by have := hs _ q; omega) _).trans (e5 q), fun hcr A D cap N str hcap hA hD hAut => ?_, fun q => (gj _ n34 _).trans (e7 q)⟩
  obtain ⟨A0, B0, C0, D0, cap0, m1, m2, -⟩ := h.1
  rw [hf.2.2.2.1] at hA hD
  have hA0 : A0 = A := by have := m1.2.1.1.symm.trans hA; cases this; rfl
  have hD0 : D0 = D := by have := m1.2.1.2.2.2.symm.trans hD; cases this; rfl
  subst hA0 hD0
  have nA : ∀ a, mA (x + 1013) (x + 1094) a → ¬ S a := fun a ha q => by have := hs _ q; rcases ha with ha | ha <;> omega
  have hn := hf.1
  have aut : AutN M (x + 1013) A0 D0 cap rs k N str := hAut.frx hf.symm.x (by rw [hn]; exact m1.2.2.2.2.2.2.2.1) (by rw [hn]; exact m1.2.2.2.2.2.2.2.2.1) (by rw [hn]; exact m1.2.2.2.2.2.2.2.2.2.2.2) (fun q => by have := hs _ q; omega) (nA _ m2.1) (nA _ m2.2.2.2)
  obtain ⟨q1, q2⟩ := e6 hcr A0 D0 cap N str hcap hA hD aut
  refine ⟨q1, fun r n hr hn => (gj W (fun q => ?_) _).trans (q2 r n hr hn)⟩
  have := hs _ q
  rcases e1.2.2.2.2.1.1.1 with y | y <;> omega
def oS (x b : Nat) : Prop := b < x + 9 ∨ (x + 1039 ≤ b ∧ b < x + 1094)
theorem Cor.own {M M1 : Mm} {S : Nat → Prop} {x s0 k t s : Nat} {rs : List Ru} {row : List Pr} {st : Bool} {fo : Option (Nat × Nat × Nat)} (h : Cor M x s0 rs k row t s st fo) (hf : FrZ S M M1) (hs : ∀ b, S b → oS x b) : Cor M1 x s0 rs k row t s st fo := by
  obtain ⟨f, kn, cr, tk, c1, c2, c3, c4, c5, c6⟩ := h
  have hlo := c1.1.lo.1
  have n : ∀ b, ¬ oS x b → ¬ S b := fun b hb q => hb (hs b q)
  exact ⟨f, kn, cr, tk, c1.z hf (fun b q => (hs b q).imp id (fun q => ⟨by omega, by omega⟩)), c2.x hf.x hlo (n _ (fun q => by rcases q with q | q <;> omega)), c3.x hf.x hlo (fun _ _ _ q => q) (n _ (fun q => by rcases q with q | q <;> omega)), ElV.z c1 c4 hf (fun b q => by rcases hs b q with q | q <;> exact ⟨by omega, by omega, by omega, by omega⟩), c5, c6.pg (Pg.z hf (n _ (fun q => by rcases q with q | q <;> omega)))⟩
/-- through REDUCING -/
theorem Cor.gx {M M1 : Mm} {P : Nat → Prop} {x s0 k f cr t s : Nat} {rs : List Ru} {row : List Pr} {st tk kn : Bool} {fo : Option (Nat × Nat × Nat)} (c1 : Cmp M x rs k f row) (c4 : ElV M x rs k cr tk) (c5 : (0 < cr ∨ tk = true) → row = [] ∧ st = false) (c6 : Rom M x s0) (d1 : Cmp M1 x rs k f row) (d2 : CNV M1 x t s st) (d3 : FnV M1 x rs fo kn) (hF : FrX (fun b => zS M x b ∨ P b) (zT x) M M1) (hP : Pt M M1 x) (h0 : gI M (x + 9) 3 = 0 → FrS (fun b => rdS (x + 1018) b ∨ P b) M M1) (hPs : ∀ b, P b → (x + 1039 ≤ b ∧ b < x + 1094) ∨ fnZ x b) : Cor M1 x s0 rs k row t s st fo := by
  have hlo := c1.1.lo.1
  have hE : ElV M1 x rs k cr tk := by
    by_cases q : gI M (x + 9) 3 = 0
    · exact ElV.z c1 c4 (h0 q).z (fun b hb => by
        rcases hb with hb | hb
        · exact ⟨by omega, by omega, by omega, by omega⟩
        · rcases hPs b hb with y | y
          · exact ⟨by omega, by omega, by omega, by omega⟩
          · have y1 := y.1; have y2 := y.2; exact ⟨by omega, by omega, by omega, by omega⟩)
    · obtain ⟨W, I, Qa, Pp, wl, ql, e1, e2, e3, e4, e5, e6, e7⟩ := c4
      have hcr : cr = 0 := Nat.eq_zero_of_not_pos (fun y => q (e5 (Or.inl y)))
      have htk : tk = false := Bool.eq_false_iff.mpr (fun y => q (e5 (Or.inr y)))
      subst hcr htk
      have n34 : ¬ (zS M x (x + 1034) ∨ P (x + 1034)) := fun y => by
        rcases y with (y | y) | y
        · omega
        · omega
        · rcases hPs _ y with y | y
          · omega
          · have := y.2; omega
      have g := (hF.2.2.2.1 (x + 1034) (by omega) n34).1
      exact ⟨W, I, Qa, Pp, wl, ql, e1.frx hF (by omega) (fun y => by rcases y with y | y <;> omega) hP.2.2, (g _).trans e2, e3, (g _).trans e4, fun y => y.elim (fun y => absurd y (by omega)) (fun y => by cases y), fun y => by omega, fun y => by cases y⟩
  refine ⟨f, kn, cr, tk, d1, d2, d3, hE, c5, c6.pg ?_⟩
  obtain ⟨W, I, Qa, Pp, wl, ql, e1, -⟩ := c4
  have e1' := e1.frx hF (by omega) (fun y => by rcases y with y | y <;> omega) hP.2.2
  exact hP.g (e1'.wl.1.trans e1.wl.1.symm) (e1'.wl.2.trans e1.wl.2.symm)
/-- through the Elements -/
theorem Cor.ex {M M1 : Mm} {x s0 k f cr t s : Nat} {rs : List Ru} {tk kn : Bool} {fo : Option (Nat × Nat × Nat)} (hx : x + 1094 ≤ nxt M) (c2 : CNV M x t s false) (c3 : FnV M x rs fo kn) (c6 : Rom M x s0) (d1 : Cmp M1 x rs k f []) (d4 : ElV M1 x rs k cr tk) (hF : Efr M M1 x) : Cor M1 x s0 rs k [] t s false fo := by
  have n : ∀ b, (b = x + 1024 ∨ (x + 1029 ≤ b ∧ b < x + 1034)) → ¬ yS x b ∧ ¬ yT x b := fun b hb => ⟨fun q => by rcases q with q | q | q | q <;> omega, fun q => by rcases q with q | q <;> omega⟩
  exact ⟨f, kn, cr, tk, d1, c2.x hF.1 hx (n _ (by omega)).1, c3.x hF.1 hx (fun b y1 y2 => (n b (by omega)).2) (n _ (by omega)).1, d4, fun _ => ⟨rfl, rfl⟩, c6.pg hF.2⟩
/-- what the class's ways may write -/
def Ufr (M M' : Mm) (x : Nat) (P : Nat → Prop) : Prop := FrX (fun b => tS x b ∨ P b) (tS x) M M'
theorem Ufr.trans {M M1 M2 : Mm} {x : Nat} {P : Nat → Prop} (h : Ufr M M1 x P) (h2 : Ufr M1 M2 x P) : Ufr M M2 x P := FrX.trans h h2
theorem Ufr.weaken {M M1 : Mm} {x : Nat} {P P' : Nat → Prop} (h : Ufr M M1 x P) (hp : ∀ b, P b → P' b) : Ufr M M1 x P' := FrX.weaken h (fun b _ q => q.imp id (hp b)) (fun _ _ q => q)
theorem Ufr.rfl {M : Mm} {x : Nat} {P : Nat → Prop} : Ufr M M x P := FrX.rfl
theorem FrZ.u {M M1 : Mm} {x : Nat} {S : Nat → Prop} (h : FrZ S M M1) : Ufr M M1 x S := h.x.weaken (fun _ _ q => Or.inr q) (fun _ _ q => q.elim)
theorem zS_tS {M : Mm} {x b : Nat} (h : zS M x b) : tS x b := by
  rcases h with q | q
  · exact Or.inl ⟨by omega, by omega⟩
  · exact Or.inr q.1
theorem zT_tS {x b : Nat} (h : zT x b) : tS x b := by
  rcases h with q | q <;> exact Or.inl ⟨by omega, by omega⟩
theorem Efr.u {M M1 : Mm} {x : Nat} {P : Nat → Prop} (h : Efr M M1 x) : Ufr M M1 x P := h.1.weaken (fun b _ q => Or.inl (by
  rcases q with q | q | q | q
  · exact Or.inl ⟨by omega, by omega⟩
  · exact Or.inl ⟨by omega, by omega⟩
  · exact Or.inl ⟨by omega, by omega⟩
  · exact Or.inr q)) (fun b _ q => by rcases q with q | q <;> exact Or.inl ⟨by omega, by omega⟩)
theorem k_Tf {M : Mm} {x s0 v u rv ru k t s : Nat} {rs : List Ru} {row : List Pr} {st : Bool} {fo : Option (Nat × Nat × Nat)} {l : List Nat} {Q : Option Value → Mm → Prop} (hC : Cor M x s0 rs k row t s st fo) (sv : WS M v rv) (su : WS M u ru) (vv : WV M v l) (hl : l.length ≤ 120) (hlv : l.length ≤ rv) (hlk : ∀ c ∈ l, c < k) (b1 : rv < 2147483648) (b2 : ru < 2147483648) (hru : l.length ≤ ru) (hv : v + 1 < x + 1094) (hu : x + 1041 ≤ u ∧ u + 1 < x + 1064)
    (hQ0 : form rs l = none → ∀ M', Cor M' x s0 rs k row t s st fo → Ufr M M' x (fun _ => False) → Q (some (.int 0)) M') (hQ1 : ∀ w tr, form rs l = some (w, tr) → w.length ≤ l.length → (∀ c ∈ w, c < k) → ∀ M', Cor M' x s0 rs k row t s st fo → Ufr M M' x (wS u) → WV M' u w → gI M' (x + 1018) 7 = nI tr.length → TRv M' (x + 1022) (x + 1023) tr → Q (some (.int 1)) M') : wp F_Reducer_toForm 0 [.ref (x + 1018), .ref v, .ref u, jk, jk, jk, jk, jk, jk] [] M Q := by
  obtain ⟨f, kn, cr, tk, c1, c2, c3, c4, c5, c6⟩ := hC
  have hlo := c1.1.lo.1
  have nz : ∀ b, x + 1029 ≤ b → b < x + 1094 → ¬ zS M x b := fun b h1 h2 q => by rcases q with q | q <;> omega
  refine k_toForm c1.1 sv su vv hl hlv hlk b1 b2 hru (by omega) (by omega) ?_ ?_
  · intro hn M1 T
    obtain ⟨d1, d2, d3⟩ := c1.tfN T
    have F : FrX (fun b => zS M x b ∨ False) (zT x) M M1 := d2.1.weaken (fun _ _ q => Or.inl q) (fun _ _ q => q)
    refine hQ0 hn M1 (Cor.gx (P := fun _ => False) c1 c4 c5 c6 d1 ?_ (c3.x F hlo (fun b y1 y2 q => by rcases q with q | q <;> omega) (fun q => q.elim (nz _ (by omega) (by omega)) id)) F d2.2 (fun q => (T.2.2.2.2 q).weaken (fun _ y => Or.inl y)) (fun _ q => q.elim)) (F.weaken (fun b _ q => Or.inl (zS_tS (q.elim id False.elim))) (fun b _ q => zT_tS q))
    exact ⟨(d3 _ _ (by omega) (by omega)).trans c2.1, (d3 _ _ (by omega) (by omega)).trans c2.2.1, (d3 _ _ (by omega) (by omega)).trans c2.2.2⟩
  · intro w tr hs hwl hwk M1 T
    obtain ⟨d1, d2, d3, d4⟩ := c1.tfY T su ⟨by omega, by omega⟩
    have nw : ∀ b, x + 1024 ≤ b → b < x + 1041 → ¬ wS u b := fun b h1 h2 q => by rcases q with q | q <;> omega
    refine hQ1 w tr hs hwl hwk M1 (Cor.gx (P := wS u) c1 c4 c5 c6 d1 ?_ (c3.x d2 hlo (fun b y1 y2 q => by rcases q with q | q <;> omega) (fun q => q.elim (nz _ (by omega) (by omega)) (nw _ (by omega) (by omega)))) d2 d3 (fun q => T.frs q) (fun b q => Or.inl (by rcases q with q | q <;> exact ⟨by omega, by omega⟩))) (d2.weaken (fun b _ q => q.imp zS_tS id) (fun b _ q => zT_tS q)) T.2.1 T.2.2.1 T.2.2.2
    exact ⟨(d4 _ _ (by omega) (by omega) (nw _ (by omega) (by omega))).trans c2.1, (d4 _ _ (by omega) (by omega) (nw _ (by omega) (by omega))).trans c2.2.1, (d4 _ _ (by omega) (by omega) (nw _ (by omega) (by omega))).trans c2.2.2⟩
