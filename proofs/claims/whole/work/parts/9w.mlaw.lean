/-! the law: one call on both sides -/
theorem ix9 {M : Mm} {a j n : Nat} (h : sh M a = some (.inr (9, n))) (hj : j < n) (hn : n < 2147483648) : ixI M a (nI j) := ⟨9, n, h, Or.inr rfl, inb_nI hj hn⟩
def LwV (M : Mm) (b L x s0 : Nat) (σ : Sg) : Prop := ClV M x s0 σ ∧ MdV M (x + 1064) σ ∧ SgI σ ∧ sh M b = some (.inr (9, L)) ∧ b < x
theorem MdV.cells {M M1 : Mm} {m : Nat} {σ : Sg} (h : MdV M m σ) (e : ∀ b, m ≤ b → b < m + 30 → sh M1 b = sh M b ∧ (∀ j, gI M1 b j = gI M b j) ∧ (∀ j, gJ M1 b j = gJ M b j) ∧ ∀ j, gR M1 b j = gR M b j) : MdV M1 m σ := by
  obtain ⟨a1, a2, ⟨a3, a4, a5⟩, a6, ⟨f, a7⟩, a8, a9, a10, a11, ⟨cd, a12, a13⟩⟩ := h
  have c : ∀ b, m ≤ b → b < m + 30 → ∀ j, gI M1 b j = gI M b j := fun b h1 h2 => (e b h1 h2).2.1
  have g : ∀ j, gI M1 m j = gI M m j := c m (by omega) (by omega)
  refine ⟨⟨(e m (by omega) (by omega)).1.trans a1.1, fun i hi => ⟨((e m (by omega) (by omega)).2.2.2 _).trans (a1.2 i hi).1, (e _ (by omega) (by omega)).1.trans (a1.2 i hi).2⟩⟩, a2.eq (g _) (c _ (by omega) (by omega)), ⟨(g _).trans a3, (g _).trans a4, fun j hj => (c _ (by omega) (by omega) _).trans (a5 j hj)⟩, a6.eq (g _) (fun b h1 h2 => c b (by omega) (by omega)), ⟨f, a7.eq (g _) (g _) (c _ (by omega) (by omega)) (c _ (by omega) (by omega))⟩, a8.eq (g _) (g _) (g _), a9.eq (g _) (g _) (g _), a10.eq (c _ (by omega) (by omega)) (c _ (by omega) (by omega)), a11.eq (g _) (c _ (by omega) (by omega)) (c _ (by omega) (by omega)), ⟨cd, (g _).trans a12, fun hcd => ?_⟩⟩
  obtain ⟨b3, b4, b5⟩ := a13 hcd
  exact ⟨b3, b4, b5.eq (g _) (fun j => (e m (by omega) (by omega)).2.2.1 j) (c _ (by omega) (by omega)) (fun j => (e _ (by omega) (by omega)).2.2.1 j)⟩
section LW
variable {M M' M'' : Mm} {b L x s0 i0 : Nat} {σ σ' : Sg} {Q : Option Value → Mm → Prop}
theorem LwV.cl (h : LwV M b L x s0 σ) (hx : Xfr M M' x) : MdV M' (x + 1064) σ ∧ sh M' b = some (.inr (9, L)) ∧ ∀ j, gI M' b j = gI M b j := by
  obtain ⟨h1, h2, h3, h4, h5⟩ := h
  have hn := h1.1.1.2.2.2.2.2
  refine ⟨h2.cells (fun q q1 q2 => ?_), (hx.2.2.1 b (by omega)).trans h4, (hx.2.2.2.1 b (by omega) (fun z => by omega)).1⟩
  have nq : ¬ (x ≤ q ∧ ¬ md x q) := fun z => z.2 ⟨q1, by omega⟩
  exact ⟨hx.2.2.1 q (by omega), (hx.2.2.2.1 q (by omega) nq).1, (hx.2.2.2.1 q (by omega) nq).2, hx.2.2.2.2 q (by omega) nq⟩
theorem Bas.mdz {M M1 : Mm} {lf : Nat} {tp : List Nat} {nm : Nm} {sl : Nat → List Nat} {td : List (Nat × Nat)} (h : Bas M x tp lf nm sl td) (hf : FrZ (fun b => x + 1064 ≤ b ∧ b < x + 1064 + 30) M M1) : Bas M1 x tp lf nm sl td := by
  obtain ⟨a1, a2, ⟨a3, a4⟩, a5, a6, a7, a8, a9⟩ := h
  have hx := a1.2.2.2.2.2
  have g : ∀ b, b < x + 1064 → ∀ j, gI M1 b j = gI M b j := fun b hb j => (hf.2.2.2.2 b (by omega)).1 j
  refine ⟨a1.fx hf.x (fun _ q => q.elim), a2.frx hf.x (by omega) (by omega), ⟨(g _ (by omega) _).trans a3, (g _ (by omega) _).trans a4⟩, fun j hj => (g _ (by omega) _).trans (a5 j hj), fun i hi => ⟨⟨(g _ (by omega) _).trans (a6 i hi).1.1, fun j hj => (g _ (by omega) _).trans ((a6 i hi).1.2.1 j hj), (a6 i hi).1.2.2⟩, (a6 i hi).2⟩, (g _ (by omega) _).trans a7, a8, fun j h1 h2 => ⟨(g _ (by omega) _).trans (a9 j h1 h2).1, (g _ (by omega) _).trans (a9 j h1 h2).2⟩⟩
theorem LwV.mk (hc : ClV M' x s0 σ') (hI : SgI σ') (hb : sh M' b = some (.inr (9, L))) (hbx : b < x) (hm : MdV M'' (x + 1064) σ') (hy : Yfr M' M'' (x + 1064)) : LwV M'' b L x s0 σ' := by
  refine ⟨⟨hc.1.mdz hy, hc.2.own hy (fun q hq => ?_)⟩, hm, hI, (hy.2.2.1 b).trans hb, hbx⟩
  unfold oS
  omega
theorem L_read (h : LwV M b L x s0 σ) (hi : i0 + 4 ≤ L) (hL : L ≤ 2048) (K : ∀ M2 σ2, LwV M2 b L x s0 σ2 → wp F_Law_law 882 [.ref b, .ref x, .ref (x + 1064), .int (nI i0)] [] M2 Q) : wp F_Law_law 215 [.ref b, .ref x, .ref (x + 1064), .int (nI i0)] [] M Q := by
  have hsb := h.2.2.2.1
  have hcx := h.1.1.1.1.1
  simp only [B_Law_law_215, SS, hcx, nI_add, true_and]
  refine c_read h.1 h.2.2.1 ?_
  intro M1 C1 X1
  obtain ⟨V1, s1, g1⟩ := h.cl X1
  simp only [SS, List.cons_append, List.nil_append, B_Law_law_215, V1.1.1, nI_add, g1, true_and]
  refine m_read V1 h.2.2.1 ?_
  intro M2 V2 Y2
  simp only [SS, List.cons_append, List.nil_append, B_Law_law_215, if_true]
  exact K M2 _ (LwV.mk C1 (rdG_ok h.2.2.1) s1 h.2.2.2.2 V2 Y2)
theorem L_word (h : LwV M b L x s0 σ) (hi : i0 + 4 ≤ L) (hL : L ≤ 2048) (K : ∀ M2 σ2, LwV M2 b L x s0 σ2 → wp F_Law_law 882 [.ref b, .ref x, .ref (x + 1064), .int (nI i0)] [] M2 Q) : wp F_Law_law 228 [.ref b, .ref x, .ref (x + 1064), .int (nI i0)] [] M Q := by
  have hsb := h.2.2.2.1
  have hcx := h.1.1.1.1.1
  have j1 : (1 : Int32) = nI 1 := rfl
  have x1 : ixI M b (nI (i0 + 1)) := ix9 hsb (by omega) (by omega)
  simp only [B_Law_law_228, SS, hcx, j1, nI_add, x1, cl_nI (show i0 + 1 < 2147483648 by omega), true_and]
  refine c_word h.1 h.2.2.1 ?_
  intro M1 C1 X1
  obtain ⟨V1, s1, g1⟩ := h.cl X1
  have y1 : ixI M1 b (nI (i0 + 1)) := ix9 s1 (by omega) (by omega)
  simp only [SS, List.cons_append, List.nil_append, B_Law_law_228, V1.1.1, j1, nI_add, y1, cl_nI (show i0 + 1 < 2147483648 by omega), g1, true_and]
  refine m_word V1 h.2.2.1 ?_
  intro M2 V2 Y2
  simp only [SS, List.cons_append, List.nil_append, B_Law_law_228, if_true]
  exact K M2 _ (LwV.mk C1 (wdG_ok h.2.2.1) s1 h.2.2.2.2 V2 Y2)
theorem L_fault (h : LwV M b L x s0 σ) (hi : i0 + 4 ≤ L) (hL : L ≤ 2048) (K : ∀ M2 σ2, LwV M2 b L x s0 σ2 → wp F_Law_law 882 [.ref b, .ref x, .ref (x + 1064), .int (nI i0)] [] M2 Q) : wp F_Law_law 251 [.ref b, .ref x, .ref (x + 1064), .int (nI i0)] [] M Q := by
  have hsb := h.2.2.2.1
  have hcx := h.1.1.1.1.1
  simp only [B_Law_law_251, SS, hcx, nI_add, true_and]
  rw [c_fault h.1]
  simp only [SS, List.cons_append, List.nil_append, B_Law_law_251, h.2.1.1.1, nI_add, true_and]
  refine m_fault h.2.1 ?_
  intro M2 V2 Y2
  simp only [SS, List.cons_append, List.nil_append, B_Law_law_251, if_true]
  exact K M2 σ (LwV.mk h.1 h.2.2.1 hsb h.2.2.2.2 V2 Y2)
theorem L_complete (h : LwV M b L x s0 σ) (hi : i0 + 4 ≤ L) (hL : L ≤ 2048) (K : ∀ M2 σ2, LwV M2 b L x s0 σ2 → wp F_Law_law 882 [.ref b, .ref x, .ref (x + 1064), .int (nI i0)] [] M2 Q) : wp F_Law_law 264 [.ref b, .ref x, .ref (x + 1064), .int (nI i0)] [] M Q := by
  have hsb := h.2.2.2.1
  have hcx := h.1.1.1.1.1
  have j1 : (1 : Int32) = nI 1 := rfl
  have x1 : ixI M b (nI (i0 + 1)) := ix9 hsb (by omega) (by omega)
  simp only [B_Law_law_264, SS, hcx, j1, nI_add, x1, cl_nI (show i0 + 1 < 2147483648 by omega), true_and]
  refine c_complete h.1 h.2.2.1 ?_
  intro M1 C1 X1
  obtain ⟨V1, s1, g1⟩ := h.cl X1
  have y1 : ixI M1 b (nI (i0 + 1)) := ix9 s1 (by omega) (by omega)
  simp only [SS, List.cons_append, List.nil_append, B_Law_law_264, V1.1.1, j1, nI_add, y1, cl_nI (show i0 + 1 < 2147483648 by omega), g1, true_and]
  refine m_complete V1 h.2.2.1 ?_
  intro M2 V2 Y2
  simp only [SS, List.cons_append, List.nil_append, B_Law_law_264, if_true]
  exact K M2 _ (LwV.mk C1 (cpG_ok h.2.2.1) s1 h.2.2.2.2 V2 Y2)
theorem L_count (h : LwV M b L x s0 σ) (hi : i0 + 4 ≤ L) (hL : L ≤ 2048) (K : ∀ M2 σ2, LwV M2 b L x s0 σ2 → wp F_Law_law 882 [.ref b, .ref x, .ref (x + 1064), .int (nI i0)] [] M2 Q) : wp F_Law_law 287 [.ref b, .ref x, .ref (x + 1064), .int (nI i0)] [] M Q := by
  have hsb := h.2.2.2.1
  have hcx := h.1.1.1.1.1
  have j1 : (1 : Int32) = nI 1 := rfl
  have x1 : ixI M b (nI (i0 + 1)) := ix9 hsb (by omega) (by omega)
  simp only [B_Law_law_287, SS, hcx, j1, nI_add, x1, cl_nI (show i0 + 1 < 2147483648 by omega), true_and]
  rw [c_count h.1]
  simp only [SS, List.cons_append, List.nil_append, B_Law_law_287, h.2.1.1.1, j1, nI_add, x1, cl_nI (show i0 + 1 < 2147483648 by omega), true_and]
  refine m_count h.2.1 ?_
  intro M2 V2 Y2
  simp only [SS, List.cons_append, List.nil_append, B_Law_law_287, if_true]
  exact K M2 σ (LwV.mk h.1 h.2.2.1 hsb h.2.2.2.2 V2 Y2)
theorem L_rule (h : LwV M b L x s0 σ) (hi : i0 + 4 ≤ L) (hL : L ≤ 2048) (K : ∀ M2 σ2, LwV M2 b L x s0 σ2 → wp F_Law_law 882 [.ref b, .ref x, .ref (x + 1064), .int (nI i0)] [] M2 Q) : wp F_Law_law 310 [.ref b, .ref x, .ref (x + 1064), .int (nI i0)] [] M Q := by
  have hsb := h.2.2.2.1
  have hcx := h.1.1.1.1.1
  have j1 : (1 : Int32) = nI 1 := rfl
  have x1 : ixI M b (nI (i0 + 1)) := ix9 hsb (by omega) (by omega)
  have j2 : (2 : Int32) = nI 2 := rfl
  have x2 : ixI M b (nI (i0 + 2)) := ix9 hsb (by omega) (by omega)
  simp only [B_Law_law_310, SS, hcx, j1, j2, nI_add, x1, x2, cl_nI (show i0 + 1 < 2147483648 by omega), cl_nI (show i0 + 2 < 2147483648 by omega), true_and]
  rw [c_rule h.1]
  simp only [SS, List.cons_append, List.nil_append, B_Law_law_310, h.2.1.1.1, j1, j2, nI_add, x1, x2, cl_nI (show i0 + 1 < 2147483648 by omega), cl_nI (show i0 + 2 < 2147483648 by omega), true_and]
  refine m_rule h.2.1 ?_
  intro M2 V2 Y2
  simp only [SS, List.cons_append, List.nil_append, B_Law_law_310, if_true]
  exact K M2 σ (LwV.mk h.1 h.2.2.1 hsb h.2.2.2.2 V2 Y2)
theorem L_ruleLetter (h : LwV M b L x s0 σ) (hi : i0 + 4 ≤ L) (hL : L ≤ 2048) (K : ∀ M2 σ2, LwV M2 b L x s0 σ2 → wp F_Law_law 882 [.ref b, .ref x, .ref (x + 1064), .int (nI i0)] [] M2 Q) : wp F_Law_law 343 [.ref b, .ref x, .ref (x + 1064), .int (nI i0)] [] M Q := by
  have hsb := h.2.2.2.1
  have hcx := h.1.1.1.1.1
  have j1 : (1 : Int32) = nI 1 := rfl
  have x1 : ixI M b (nI (i0 + 1)) := ix9 hsb (by omega) (by omega)
  have j2 : (2 : Int32) = nI 2 := rfl
  have x2 : ixI M b (nI (i0 + 2)) := ix9 hsb (by omega) (by omega)
  have j3 : (3 : Int32) = nI 3 := rfl
  have x3 : ixI M b (nI (i0 + 3)) := ix9 hsb (by omega) (by omega)
  simp only [B_Law_law_343, SS, hcx, j1, j2, j3, nI_add, x1, x2, x3, cl_nI (show i0 + 1 < 2147483648 by omega), cl_nI (show i0 + 2 < 2147483648 by omega), cl_nI (show i0 + 3 < 2147483648 by omega), true_and]
  rw [c_ruleLetter h.1]
  simp only [SS, List.cons_append, List.nil_append, B_Law_law_343, h.2.1.1.1, j1, j2, j3, nI_add, x1, x2, x3, cl_nI (show i0 + 1 < 2147483648 by omega), cl_nI (show i0 + 2 < 2147483648 by omega), cl_nI (show i0 + 3 < 2147483648 by omega), true_and]
  refine m_ruleLetter h.2.1 h.2.2.1 ?_
  intro M2 V2 Y2
  simp only [SS, List.cons_append, List.nil_append, B_Law_law_343, if_true]
  exact K M2 σ (LwV.mk h.1 h.2.2.1 hsb h.2.2.2.2 V2 Y2)
theorem L_waiting (h : LwV M b L x s0 σ) (hi : i0 + 4 ≤ L) (hL : L ≤ 2048) (K : ∀ M2 σ2, LwV M2 b L x s0 σ2 → wp F_Law_law 882 [.ref b, .ref x, .ref (x + 1064), .int (nI i0)] [] M2 Q) : wp F_Law_law 386 [.ref b, .ref x, .ref (x + 1064), .int (nI i0)] [] M Q := by
  have hsb := h.2.2.2.1
  have hcx := h.1.1.1.1.1
  have j1 : (1 : Int32) = nI 1 := rfl
  have x1 : ixI M b (nI (i0 + 1)) := ix9 hsb (by omega) (by omega)
  have j2 : (2 : Int32) = nI 2 := rfl
  have x2 : ixI M b (nI (i0 + 2)) := ix9 hsb (by omega) (by omega)
  have j3 : (3 : Int32) = nI 3 := rfl
  have x3 : ixI M b (nI (i0 + 3)) := ix9 hsb (by omega) (by omega)
  simp only [B_Law_law_386, SS, hcx, j1, j2, j3, nI_add, x1, x2, x3, cl_nI (show i0 + 1 < 2147483648 by omega), cl_nI (show i0 + 2 < 2147483648 by omega), cl_nI (show i0 + 3 < 2147483648 by omega), true_and]
  refine c_waiting h.1 ?_
  simp only [SS, List.cons_append, List.nil_append, B_Law_law_386, h.2.1.1.1, j1, j2, j3, nI_add, x1, x2, x3, cl_nI (show i0 + 1 < 2147483648 by omega), cl_nI (show i0 + 2 < 2147483648 by omega), cl_nI (show i0 + 3 < 2147483648 by omega), true_and]
  refine m_waiting h.2.1 h.2.2.1 ?_
  intro M2 V2 Y2
  simp only [SS, List.cons_append, List.nil_append, B_Law_law_386, if_true]
  exact K M2 σ (LwV.mk h.1 h.2.2.1 hsb h.2.2.2.2 V2 Y2)
theorem L_open (h : LwV M b L x s0 σ) (hi : i0 + 4 ≤ L) (hL : L ≤ 2048) (K : ∀ M2 σ2, LwV M2 b L x s0 σ2 → wp F_Law_law 882 [.ref b, .ref x, .ref (x + 1064), .int (nI i0)] [] M2 Q) : wp F_Law_law 429 [.ref b, .ref x, .ref (x + 1064), .int (nI i0)] [] M Q := by
  have hsb := h.2.2.2.1
  have hcx := h.1.1.1.1.1
  simp only [B_Law_law_429, SS, hcx, nI_add, true_and]
  refine c_open h.1 ?_
  intro M1 C1 X1
  obtain ⟨V1, s1, g1⟩ := h.cl X1
  simp only [SS, List.cons_append, List.nil_append, B_Law_law_429, V1.1.1, nI_add, g1, true_and]
  refine m_open V1 h.2.2.1 ?_
  intro M2 V2 Y2
  simp only [SS, List.cons_append, List.nil_append, B_Law_law_429, if_true]
  exact K M2 _ (LwV.mk C1 (opG_ok h.2.2.1) s1 h.2.2.2.2 V2 Y2)
theorem L_overlap (h : LwV M b L x s0 σ) (hi : i0 + 4 ≤ L) (hL : L ≤ 2048) (K : ∀ M2 σ2, LwV M2 b L x s0 σ2 → wp F_Law_law 882 [.ref b, .ref x, .ref (x + 1064), .int (nI i0)] [] M2 Q) : wp F_Law_law 442 [.ref b, .ref x, .ref (x + 1064), .int (nI i0)] [] M Q := by
  have hsb := h.2.2.2.1
  have hcx := h.1.1.1.1.1
  have j1 : (1 : Int32) = nI 1 := rfl
  have x1 : ixI M b (nI (i0 + 1)) := ix9 hsb (by omega) (by omega)
  simp only [B_Law_law_442, SS, hcx, j1, nI_add, x1, cl_nI (show i0 + 1 < 2147483648 by omega), true_and]
  rw [c_overlap h.1]
  simp only [SS, List.cons_append, List.nil_append, B_Law_law_442, h.2.1.1.1, j1, nI_add, x1, cl_nI (show i0 + 1 < 2147483648 by omega), true_and]
  refine m_overlap h.2.1 h.2.2.1 ?_
  intro M2 V2 Y2
  simp only [SS, List.cons_append, List.nil_append, B_Law_law_442, if_true]
  exact K M2 σ (LwV.mk h.1 h.2.2.1 hsb h.2.2.2.2 V2 Y2)
theorem L_length (h : LwV M b L x s0 σ) (hi : i0 + 4 ≤ L) (hL : L ≤ 2048) (K : ∀ M2 σ2, LwV M2 b L x s0 σ2 → wp F_Law_law 882 [.ref b, .ref x, .ref (x + 1064), .int (nI i0)] [] M2 Q) : wp F_Law_law 465 [.ref b, .ref x, .ref (x + 1064), .int (nI i0)] [] M Q := by
  have hsb := h.2.2.2.1
  have hcx := h.1.1.1.1.1
  have j1 : (1 : Int32) = nI 1 := rfl
  have x1 : ixI M b (nI (i0 + 1)) := ix9 hsb (by omega) (by omega)
  simp only [B_Law_law_465, SS, hcx, j1, nI_add, x1, cl_nI (show i0 + 1 < 2147483648 by omega), true_and]
  rw [c_length h.1]
  simp only [SS, List.cons_append, List.nil_append, B_Law_law_465, h.2.1.1.1, j1, nI_add, x1, cl_nI (show i0 + 1 < 2147483648 by omega), true_and]
  refine m_length h.2.1 ?_
  intro M2 V2 Y2
  simp only [SS, List.cons_append, List.nil_append, B_Law_law_465, if_true]
  exact K M2 σ (LwV.mk h.1 h.2.2.1 hsb h.2.2.2.2 V2 Y2)
theorem L_letter (h : LwV M b L x s0 σ) (hi : i0 + 4 ≤ L) (hL : L ≤ 2048) (K : ∀ M2 σ2, LwV M2 b L x s0 σ2 → wp F_Law_law 882 [.ref b, .ref x, .ref (x + 1064), .int (nI i0)] [] M2 Q) : wp F_Law_law 488 [.ref b, .ref x, .ref (x + 1064), .int (nI i0)] [] M Q := by
  have hsb := h.2.2.2.1
  have hcx := h.1.1.1.1.1
  have j1 : (1 : Int32) = nI 1 := rfl
  have x1 : ixI M b (nI (i0 + 1)) := ix9 hsb (by omega) (by omega)
  have j2 : (2 : Int32) = nI 2 := rfl
  have x2 : ixI M b (nI (i0 + 2)) := ix9 hsb (by omega) (by omega)
  simp only [B_Law_law_488, SS, hcx, j1, j2, nI_add, x1, x2, cl_nI (show i0 + 1 < 2147483648 by omega), cl_nI (show i0 + 2 < 2147483648 by omega), true_and]
  rw [c_letter h.1]
  simp only [SS, List.cons_append, List.nil_append, B_Law_law_488, h.2.1.1.1, j1, j2, nI_add, x1, x2, cl_nI (show i0 + 1 < 2147483648 by omega), cl_nI (show i0 + 2 < 2147483648 by omega), true_and]
  refine m_letter h.2.1 h.2.2.1 ?_
  intro M2 V2 Y2
  simp only [SS, List.cons_append, List.nil_append, B_Law_law_488, if_true]
  exact K M2 σ (LwV.mk h.1 h.2.2.1 hsb h.2.2.2.2 V2 Y2)
theorem L_join (h : LwV M b L x s0 σ) (hi : i0 + 4 ≤ L) (hL : L ≤ 2048) (K : ∀ M2 σ2, LwV M2 b L x s0 σ2 → wp F_Law_law 882 [.ref b, .ref x, .ref (x + 1064), .int (nI i0)] [] M2 Q) : wp F_Law_law 521 [.ref b, .ref x, .ref (x + 1064), .int (nI i0)] [] M Q := by
  have hsb := h.2.2.2.1
  have hcx := h.1.1.1.1.1
  have j1 : (1 : Int32) = nI 1 := rfl
  have x1 : ixI M b (nI (i0 + 1)) := ix9 hsb (by omega) (by omega)
  have j2 : (2 : Int32) = nI 2 := rfl
  have x2 : ixI M b (nI (i0 + 2)) := ix9 hsb (by omega) (by omega)
  have j3 : (3 : Int32) = nI 3 := rfl
  have x3 : ixI M b (nI (i0 + 3)) := ix9 hsb (by omega) (by omega)
  simp only [B_Law_law_521, SS, hcx, j1, j2, j3, nI_add, x1, x2, x3, cl_nI (show i0 + 1 < 2147483648 by omega), cl_nI (show i0 + 2 < 2147483648 by omega), cl_nI (show i0 + 3 < 2147483648 by omega), true_and]
  refine c_join h.1 ?_
  intro M1 C1 X1
  obtain ⟨V1, s1, g1⟩ := h.cl X1
  have y1 : ixI M1 b (nI (i0 + 1)) := ix9 s1 (by omega) (by omega)
  have y2 : ixI M1 b (nI (i0 + 2)) := ix9 s1 (by omega) (by omega)
  have y3 : ixI M1 b (nI (i0 + 3)) := ix9 s1 (by omega) (by omega)
  simp only [SS, List.cons_append, List.nil_append, B_Law_law_521, V1.1.1, j1, j2, j3, nI_add, y1, y2, y3, cl_nI (show i0 + 1 < 2147483648 by omega), cl_nI (show i0 + 2 < 2147483648 by omega), cl_nI (show i0 + 3 < 2147483648 by omega), g1, true_and]
  refine m_join V1 h.2.2.1 ?_
  intro M2 V2 Y2
  simp only [SS, List.cons_append, List.nil_append, B_Law_law_521, if_true]
  exact K M2 _ (LwV.mk C1 (jnG_ok h.2.2.1) s1 h.2.2.2.2 V2 Y2)
theorem L_reduce (h : LwV M b L x s0 σ) (hi : i0 + 4 ≤ L) (hL : L ≤ 2048) (K : ∀ M2 σ2, LwV M2 b L x s0 σ2 → wp F_Law_law 882 [.ref b, .ref x, .ref (x + 1064), .int (nI i0)] [] M2 Q) : wp F_Law_law 564 [.ref b, .ref x, .ref (x + 1064), .int (nI i0)] [] M Q := by
  have hsb := h.2.2.2.1
  have hcx := h.1.1.1.1.1
  have j1 : (1 : Int32) = nI 1 := rfl
  have x1 : ixI M b (nI (i0 + 1)) := ix9 hsb (by omega) (by omega)
  simp only [B_Law_law_564, SS, hcx, j1, nI_add, x1, cl_nI (show i0 + 1 < 2147483648 by omega), true_and]
  refine c_reduce h.1 h.2.2.1 ?_
  intro M1 C1 X1
  obtain ⟨V1, s1, g1⟩ := h.cl X1
  have y1 : ixI M1 b (nI (i0 + 1)) := ix9 s1 (by omega) (by omega)
  simp only [SS, List.cons_append, List.nil_append, B_Law_law_564, V1.1.1, j1, nI_add, y1, cl_nI (show i0 + 1 < 2147483648 by omega), g1, true_and]
  refine m_reduce V1 h.2.2.1 ?_
  intro M2 V2 Y2
  simp only [SS, List.cons_append, List.nil_append, B_Law_law_564, if_true]
  exact K M2 _ (LwV.mk C1 (rcG_ok h.2.2.1) s1 h.2.2.2.2 V2 Y2)
theorem L_step (h : LwV M b L x s0 σ) (hi : i0 + 4 ≤ L) (hL : L ≤ 2048) (K : ∀ M2 σ2, LwV M2 b L x s0 σ2 → wp F_Law_law 882 [.ref b, .ref x, .ref (x + 1064), .int (nI i0)] [] M2 Q) : wp F_Law_law 587 [.ref b, .ref x, .ref (x + 1064), .int (nI i0)] [] M Q := by
  have hsb := h.2.2.2.1
  have hcx := h.1.1.1.1.1
  have j1 : (1 : Int32) = nI 1 := rfl
  have x1 : ixI M b (nI (i0 + 1)) := ix9 hsb (by omega) (by omega)
  have j2 : (2 : Int32) = nI 2 := rfl
  have x2 : ixI M b (nI (i0 + 2)) := ix9 hsb (by omega) (by omega)
  simp only [B_Law_law_587, SS, hcx, j1, j2, nI_add, x1, x2, cl_nI (show i0 + 1 < 2147483648 by omega), cl_nI (show i0 + 2 < 2147483648 by omega), true_and]
  rw [c_step h.1]
  simp only [SS, List.cons_append, List.nil_append, B_Law_law_587, h.2.1.1.1, j1, j2, nI_add, x1, x2, cl_nI (show i0 + 1 < 2147483648 by omega), cl_nI (show i0 + 2 < 2147483648 by omega), true_and]
  refine m_step h.2.1 h.2.2.1 ?_
  intro M2 V2 Y2
  simp only [SS, List.cons_append, List.nil_append, B_Law_law_587, if_true]
  exact K M2 σ (LwV.mk h.1 h.2.2.1 hsb h.2.2.2.2 V2 Y2)
theorem L_same (h : LwV M b L x s0 σ) (hi : i0 + 4 ≤ L) (hL : L ≤ 2048) (K : ∀ M2 σ2, LwV M2 b L x s0 σ2 → wp F_Law_law 882 [.ref b, .ref x, .ref (x + 1064), .int (nI i0)] [] M2 Q) : wp F_Law_law 620 [.ref b, .ref x, .ref (x + 1064), .int (nI i0)] [] M Q := by
  have hsb := h.2.2.2.1
  have hcx := h.1.1.1.1.1
  have j1 : (1 : Int32) = nI 1 := rfl
  have x1 : ixI M b (nI (i0 + 1)) := ix9 hsb (by omega) (by omega)
  have j2 : (2 : Int32) = nI 2 := rfl
  have x2 : ixI M b (nI (i0 + 2)) := ix9 hsb (by omega) (by omega)
  simp only [B_Law_law_620, SS, hcx, j1, j2, nI_add, x1, x2, cl_nI (show i0 + 1 < 2147483648 by omega), cl_nI (show i0 + 2 < 2147483648 by omega), true_and]
  refine c_same h.1 h.2.2.1 ?_
  intro M1 C1 X1
  obtain ⟨V1, s1, g1⟩ := h.cl X1
  have y1 : ixI M1 b (nI (i0 + 1)) := ix9 s1 (by omega) (by omega)
  have y2 : ixI M1 b (nI (i0 + 2)) := ix9 s1 (by omega) (by omega)
  simp only [SS, List.cons_append, List.nil_append, B_Law_law_620, V1.1.1, j1, j2, nI_add, y1, y2, cl_nI (show i0 + 1 < 2147483648 by omega), cl_nI (show i0 + 2 < 2147483648 by omega), g1, true_and]
  refine m_same V1 h.2.2.1 ?_
  intro M2 V2 Y2
  simp only [SS, List.cons_append, List.nil_append, B_Law_law_620, if_true]
  exact K M2 _ (LwV.mk C1 h.2.2.1 s1 h.2.2.2.2 V2 Y2)
theorem L_compare (h : LwV M b L x s0 σ) (hi : i0 + 4 ≤ L) (hL : L ≤ 2048) (K : ∀ M2 σ2, LwV M2 b L x s0 σ2 → wp F_Law_law 882 [.ref b, .ref x, .ref (x + 1064), .int (nI i0)] [] M2 Q) : wp F_Law_law 653 [.ref b, .ref x, .ref (x + 1064), .int (nI i0)] [] M Q := by
  have hsb := h.2.2.2.1
  have hcx := h.1.1.1.1.1
  have j1 : (1 : Int32) = nI 1 := rfl
  have x1 : ixI M b (nI (i0 + 1)) := ix9 hsb (by omega) (by omega)
  have j2 : (2 : Int32) = nI 2 := rfl
  have x2 : ixI M b (nI (i0 + 2)) := ix9 hsb (by omega) (by omega)
  simp only [B_Law_law_653, SS, hcx, j1, j2, nI_add, x1, x2, cl_nI (show i0 + 1 < 2147483648 by omega), cl_nI (show i0 + 2 < 2147483648 by omega), true_and]
  rw [c_compare h.1]
  simp only [SS, List.cons_append, List.nil_append, B_Law_law_653, h.2.1.1.1, j1, j2, nI_add, x1, x2, cl_nI (show i0 + 1 < 2147483648 by omega), cl_nI (show i0 + 2 < 2147483648 by omega), true_and]
  refine m_compare h.2.1 h.2.2.1 ?_
  intro M2 V2 Y2
  simp only [SS, List.cons_append, List.nil_append, B_Law_law_653, if_true]
  exact K M2 σ (LwV.mk h.1 h.2.2.1 hsb h.2.2.2.2 V2 Y2)
theorem L_many (h : LwV M b L x s0 σ) (hi : i0 + 4 ≤ L) (hL : L ≤ 2048) (K : ∀ M2 σ2, LwV M2 b L x s0 σ2 → wp F_Law_law 882 [.ref b, .ref x, .ref (x + 1064), .int (nI i0)] [] M2 Q) : wp F_Law_law 686 [.ref b, .ref x, .ref (x + 1064), .int (nI i0)] [] M Q := by
  have hsb := h.2.2.2.1
  have hcx := h.1.1.1.1.1
  have j1 : (1 : Int32) = nI 1 := rfl
  have x1 : ixI M b (nI (i0 + 1)) := ix9 hsb (by omega) (by omega)
  simp only [B_Law_law_686, SS, hcx, j1, nI_add, x1, cl_nI (show i0 + 1 < 2147483648 by omega), true_and]
  refine c_many h.1 ?_
  intro M1 C1 X1
  obtain ⟨V1, s1, g1⟩ := h.cl X1
  have y1 : ixI M1 b (nI (i0 + 1)) := ix9 s1 (by omega) (by omega)
  simp only [SS, List.cons_append, List.nil_append, B_Law_law_686, V1.1.1, j1, nI_add, y1, cl_nI (show i0 + 1 < 2147483648 by omega), g1, true_and]
  refine m_many V1 h.2.2.1 ?_
  intro M2 V2 Y2
  simp only [SS, List.cons_append, List.nil_append, B_Law_law_686, if_true, lg_cmp_eq]
  exact K M2 _ (LwV.mk C1 h.2.2.1 s1 h.2.2.2.2 V2 Y2)
theorem L_size (h : LwV M b L x s0 σ) (hi : i0 + 4 ≤ L) (hL : L ≤ 2048) (K : ∀ M2 σ2, LwV M2 b L x s0 σ2 → wp F_Law_law 882 [.ref b, .ref x, .ref (x + 1064), .int (nI i0)] [] M2 Q) : wp F_Law_law 710 [.ref b, .ref x, .ref (x + 1064), .int (nI i0)] [] M Q := by
  have hsb := h.2.2.2.1
  have hcx := h.1.1.1.1.1
  simp only [B_Law_law_710, SS, hcx, nI_add, true_and]
  refine c_size h.1 h.2.2.1 ?_
  intro M1 C1 X1
  obtain ⟨V1, s1, g1⟩ := h.cl X1
  simp only [SS, List.cons_append, List.nil_append, B_Law_law_710, V1.1.1, nI_add, g1, true_and]
  refine m_size V1 h.2.2.1 ?_
  intro M2 V2 Y2
  simp only [SS, List.cons_append, List.nil_append, B_Law_law_710, if_true, lg_cmp_eq]
  exact K M2 _ (LwV.mk C1 h.2.2.1 s1 h.2.2.2.2 V2 Y2)
theorem L_element (h : LwV M b L x s0 σ) (hi : i0 + 4 ≤ L) (hL : L ≤ 2048) (K : ∀ M2 σ2, LwV M2 b L x s0 σ2 → wp F_Law_law 882 [.ref b, .ref x, .ref (x + 1064), .int (nI i0)] [] M2 Q) : wp F_Law_law 724 [.ref b, .ref x, .ref (x + 1064), .int (nI i0)] [] M Q := by
  have hsb := h.2.2.2.1
  have hcx := h.1.1.1.1.1
  have j1 : (1 : Int32) = nI 1 := rfl
  have x1 : ixI M b (nI (i0 + 1)) := ix9 hsb (by omega) (by omega)
  have j2 : (2 : Int32) = nI 2 := rfl
  have x2 : ixI M b (nI (i0 + 2)) := ix9 hsb (by omega) (by omega)
  simp only [B_Law_law_724, SS, hcx, j1, j2, nI_add, x1, x2, cl_nI (show i0 + 1 < 2147483648 by omega), cl_nI (show i0 + 2 < 2147483648 by omega), true_and]
  refine c_element h.1 h.2.2.1 ?_
  intro M1 C1 X1
  obtain ⟨V1, s1, g1⟩ := h.cl X1
  have y1 : ixI M1 b (nI (i0 + 1)) := ix9 s1 (by omega) (by omega)
  have y2 : ixI M1 b (nI (i0 + 2)) := ix9 s1 (by omega) (by omega)
  simp only [SS, List.cons_append, List.nil_append, B_Law_law_724, V1.1.1, j1, j2, nI_add, y1, y2, cl_nI (show i0 + 1 < 2147483648 by omega), cl_nI (show i0 + 2 < 2147483648 by omega), g1, true_and]
  refine m_element V1 h.2.2.1 ?_
  intro M2 V2 Y2
  simp only [SS, List.cons_append, List.nil_append, B_Law_law_724, if_true]
  exact K M2 _ (LwV.mk C1 (elG_ok h.2.2.1) s1 h.2.2.2.2 V2 Y2)
theorem L_number (h : LwV M b L x s0 σ) (hi : i0 + 4 ≤ L) (hL : L ≤ 2048) (K : ∀ M2 σ2, LwV M2 b L x s0 σ2 → wp F_Law_law 882 [.ref b, .ref x, .ref (x + 1064), .int (nI i0)] [] M2 Q) : wp F_Law_law 757 [.ref b, .ref x, .ref (x + 1064), .int (nI i0)] [] M Q := by
  have hsb := h.2.2.2.1
  have hcx := h.1.1.1.1.1
  have j1 : (1 : Int32) = nI 1 := rfl
  have x1 : ixI M b (nI (i0 + 1)) := ix9 hsb (by omega) (by omega)
  simp only [B_Law_law_757, SS, hcx, j1, nI_add, x1, cl_nI (show i0 + 1 < 2147483648 by omega), true_and]
  refine c_number h.1 h.2.2.1 ?_
  intro M1 C1 X1
  obtain ⟨V1, s1, g1⟩ := h.cl X1
  have y1 : ixI M1 b (nI (i0 + 1)) := ix9 s1 (by omega) (by omega)
  simp only [SS, List.cons_append, List.nil_append, B_Law_law_757, V1.1.1, j1, nI_add, y1, cl_nI (show i0 + 1 < 2147483648 by omega), g1, true_and]
  refine m_number V1 h.2.2.1 ?_
  intro M2 V2 Y2
  simp only [SS, List.cons_append, List.nil_append, B_Law_law_757, if_true]
  exact K M2 _ (LwV.mk C1 h.2.2.1 s1 h.2.2.2.2 V2 Y2)
theorem L_product (h : LwV M b L x s0 σ) (hi : i0 + 4 ≤ L) (hL : L ≤ 2048) (K : ∀ M2 σ2, LwV M2 b L x s0 σ2 → wp F_Law_law 882 [.ref b, .ref x, .ref (x + 1064), .int (nI i0)] [] M2 Q) : wp F_Law_law 780 [.ref b, .ref x, .ref (x + 1064), .int (nI i0)] [] M Q := by
  have hsb := h.2.2.2.1
  have hcx := h.1.1.1.1.1
  have j1 : (1 : Int32) = nI 1 := rfl
  have x1 : ixI M b (nI (i0 + 1)) := ix9 hsb (by omega) (by omega)
  have j2 : (2 : Int32) = nI 2 := rfl
  have x2 : ixI M b (nI (i0 + 2)) := ix9 hsb (by omega) (by omega)
  simp only [B_Law_law_780, SS, hcx, j1, j2, nI_add, x1, x2, cl_nI (show i0 + 1 < 2147483648 by omega), cl_nI (show i0 + 2 < 2147483648 by omega), true_and]
  refine c_product h.1 h.2.2.1 ?_
  intro M1 C1 X1
  obtain ⟨V1, s1, g1⟩ := h.cl X1
  have y1 : ixI M1 b (nI (i0 + 1)) := ix9 s1 (by omega) (by omega)
  have y2 : ixI M1 b (nI (i0 + 2)) := ix9 s1 (by omega) (by omega)
  simp only [SS, List.cons_append, List.nil_append, B_Law_law_780, V1.1.1, j1, j2, nI_add, y1, y2, cl_nI (show i0 + 1 < 2147483648 by omega), cl_nI (show i0 + 2 < 2147483648 by omega), g1, true_and]
  refine m_product V1 h.2.2.1 ?_
  intro M2 V2 Y2
  simp only [SS, List.cons_append, List.nil_append, B_Law_law_780, if_true]
  exact K M2 _ (LwV.mk C1 h.2.2.1 s1 h.2.2.2.2 V2 Y2)
theorem L_power (h : LwV M b L x s0 σ) (hi : i0 + 4 ≤ L) (hL : L ≤ 2048) (K : ∀ M2 σ2, LwV M2 b L x s0 σ2 → wp F_Law_law 882 [.ref b, .ref x, .ref (x + 1064), .int (nI i0)] [] M2 Q) : wp F_Law_law 813 [.ref b, .ref x, .ref (x + 1064), .int (nI i0)] [] M Q := by
  have hsb := h.2.2.2.1
  have hcx := h.1.1.1.1.1
  have j1 : (1 : Int32) = nI 1 := rfl
  have x1 : ixI M b (nI (i0 + 1)) := ix9 hsb (by omega) (by omega)
  have j2 : (2 : Int32) = nI 2 := rfl
  have x2 : ixI M b (nI (i0 + 2)) := ix9 hsb (by omega) (by omega)
  simp only [B_Law_law_813, SS, hcx, j1, j2, nI_add, x1, x2, cl_nI (show i0 + 1 < 2147483648 by omega), cl_nI (show i0 + 2 < 2147483648 by omega), true_and]
  refine c_power h.1 h.2.2.1 ?_
  intro M1 C1 X1
  obtain ⟨V1, s1, g1⟩ := h.cl X1
  have y1 : ixI M1 b (nI (i0 + 1)) := ix9 s1 (by omega) (by omega)
  have y2 : ixI M1 b (nI (i0 + 2)) := ix9 s1 (by omega) (by omega)
  simp only [SS, List.cons_append, List.nil_append, B_Law_law_813, V1.1.1, j1, j2, nI_add, y1, y2, cl_nI (show i0 + 1 < 2147483648 by omega), cl_nI (show i0 + 2 < 2147483648 by omega), g1, true_and]
  refine m_power V1 h.2.2.1 ?_
  intro M2 V2 Y2
  simp only [SS, List.cons_append, List.nil_append, B_Law_law_813, if_true]
  exact K M2 _ (LwV.mk C1 h.2.2.1 s1 h.2.2.2.2 V2 Y2)
theorem L_inverse (h : LwV M b L x s0 σ) (hi : i0 + 4 ≤ L) (hL : L ≤ 2048) (K : ∀ M2 σ2, LwV M2 b L x s0 σ2 → wp F_Law_law 882 [.ref b, .ref x, .ref (x + 1064), .int (nI i0)] [] M2 Q) : wp F_Law_law 846 [.ref b, .ref x, .ref (x + 1064), .int (nI i0)] [] M Q := by
  have hsb := h.2.2.2.1
  have hcx := h.1.1.1.1.1
  have j1 : (1 : Int32) = nI 1 := rfl
  have x1 : ixI M b (nI (i0 + 1)) := ix9 hsb (by omega) (by omega)
  simp only [B_Law_law_846, SS, hcx, j1, nI_add, x1, cl_nI (show i0 + 1 < 2147483648 by omega), true_and]
  refine c_inverse h.1 h.2.2.1 ?_
  intro M1 C1 X1
  obtain ⟨V1, s1, g1⟩ := h.cl X1
  have y1 : ixI M1 b (nI (i0 + 1)) := ix9 s1 (by omega) (by omega)
  simp only [SS, List.cons_append, List.nil_append, B_Law_law_846, V1.1.1, j1, nI_add, y1, cl_nI (show i0 + 1 < 2147483648 by omega), g1, true_and]
  refine m_inverse V1 h.2.2.1 ?_
  intro M2 V2 Y2
  simp only [SS, List.cons_append, List.nil_append, B_Law_law_846, if_true]
  exact K M2 _ (LwV.mk C1 h.2.2.1 s1 h.2.2.2.2 V2 Y2)
theorem L_commutes (h : LwV M b L x s0 σ) (hi : i0 + 4 ≤ L) (hL : L ≤ 2048) (K : ∀ M2 σ2, LwV M2 b L x s0 σ2 → wp F_Law_law 882 [.ref b, .ref x, .ref (x + 1064), .int (nI i0)] [] M2 Q) : wp F_Law_law 869 [.ref b, .ref x, .ref (x + 1064), .int (nI i0)] [] M Q := by
  have hsb := h.2.2.2.1
  have hcx := h.1.1.1.1.1
  simp only [B_Law_law_869, SS, hcx, nI_add, true_and]
  refine c_commutes h.1 ?_
  intro M1 C1 X1
  obtain ⟨V1, s1, g1⟩ := h.cl X1
  simp only [SS, List.cons_append, List.nil_append, B_Law_law_869, V1.1.1, nI_add, g1, true_and]
  refine m_commutes V1 h.2.2.1 ?_
  intro M2 V2 Y2
  simp only [SS, List.cons_append, List.nil_append, B_Law_law_869, if_true]
  exact K M2 _ (LwV.mk C1 h.2.2.1 s1 h.2.2.2.2 V2 Y2)
theorem L_feed (h : LwV M b L x s0 σ) (hi : i0 + 4 ≤ L) (hL : L ≤ 2048) (K : ∀ M2 σ2, LwV M2 b L x s0 σ2 → wp F_Law_law 882 [.ref b, .ref x, .ref (x + 1064), .int (nI i0)] [] M2 Q) : wp F_Law_law 152 [.ref b, .ref x, .ref (x + 1064), .int (nI i0)] [] M Q := by
  have hsb := h.2.2.2.1
  have hcx := h.1.1.1.1.1
  have j1 : nI i0 + 1 = nI (i0 + 1) := nI_i1 i0
  have j2 : nI i0 + 2 = nI (i0 + 2) := nI_add i0 2
  have j3 : nI i0 + 3 = nI (i0 + 3) := nI_add i0 3
  have x1 : ixI M b (nI (i0 + 1)) := ix9 hsb (by omega) (by omega)
  have x2 : ixI M b (nI (i0 + 2)) := ix9 hsb (by omega) (by omega)
  have x3 : ixI M b (nI (i0 + 3)) := ix9 hsb (by omega) (by omega)
  have c1 := cl_nI (show i0 + 1 < 2147483648 by omega)
  have c2 := cl_nI (show i0 + 2 < 2147483648 by omega)
  have c3 := cl_nI (show i0 + 3 < 2147483648 by omega)
  simp only [B_Law_law_152, B_Law_law_152_1, SS, hcx, j1, j2, j3, x1, x2, x3, c1, c2, c3, true_and]
  refine c_feed h.1 ?_
  intro M1 C1 X1
  obtain ⟨V1, s1, g1⟩ := h.cl X1
  have y1 : ixI M1 b (nI (i0 + 1)) := ix9 s1 (by omega) (by omega)
  have y2 : ixI M1 b (nI (i0 + 2)) := ix9 s1 (by omega) (by omega)
  have y3 : ixI M1 b (nI (i0 + 3)) := ix9 s1 (by omega) (by omega)
  simp only [SS, List.cons_append, List.nil_append, B_Law_law_152, B_Law_law_152_1, V1.1.1, j1, j2, j3, y1, y2, y3, c1, c2, c3, g1, true_and]
  refine m_feed V1 h.2.2.1 ?_
  intro M2 V2 Y2
  simp only [SS, List.cons_append, List.nil_append, B_Law_law_152, B_Law_law_152_1, if_true]
  exact K M2 _ (LwV.mk C1 (fdG_ok h.2.2.1) s1 h.2.2.2.2 V2 Y2)
end LW
