theorem k_renewE {M : Mm} {rd z mc lo k : Nat} {rs : List Ru} {Q : Option Value → Mm → Prop} (hE : Eng M rd z mc rs k lo) (hQ : ∀ M', TfN M M' rd z mc lo rs k → gI M' z 3 = 0 → (gI M z 3 = 0 → M' = M) → (∀ b, b = z ∨ b = mc ∨ (mA mc lo b ∧ ∃ n, sh M b = some (.inr (0, n))) ∨ nxt M ≤ b ∨ ((∀ j, gI M' b j = gI M b j) ∧ ∀ j, gJ M' b j = gJ M b j)) → Q none M') : wp F_Machine_renew 0 [.ref mc, .ref z, jk] [] M Q := by
  obtain ⟨A, B, C, D, cap, h1, ⟨mA1, mA2, mA3, mA4⟩, h3, h4, h5, h6, h7, h8, h9, h10, h11, h12⟩ := hE
  have hmA : ∀ b, mA mc lo b → ¬ ruS z b ∧ ¬ rdS rd b := fun b hb => by
    rcases hb with q | q
    · exact ⟨fun y => by omega, fun y => by omega⟩
    · exact ⟨fun y => by omega, fun y => by omega⟩
  refine k_renew' h1 h4 h5 (by omega) h6 h7 h8 ⟨fun q => by omega, (hmA A mA1).1, (hmA B mA2).1, (hmA C mA3).1, (hmA D mA4).1⟩ ?_
  intro A' B' C' D' cap' M1 R r9
  have new1 := R.new h1
  obtain ⟨r1, r2, r3, r4, r5, r6, r7, r8⟩ := R
  obtain ⟨mB1, mB2, mB3, mB4⟩ : mA mc lo A' ∧ mA mc lo B' ∧ mA mc lo C' ∧ mA mc lo D' := by
    rcases r8 with ⟨-, rfl, rfl, rfl, rfl, -⟩ | ⟨-, -, rfl, rfl, rfl, rfl, -⟩
    · exact ⟨mA1, mA2, mA3, mA4⟩
    · exact ⟨Or.inr h12, Or.inr (by omega), Or.inr (by omega), Or.inr (by omega)⟩
  have hsub0 : ∀ b, (b = z ∨ b = mc ∨ b = A ∨ b = B ∨ b = C ∨ b = D) → b = z ∨ b = mc ∨ (mA mc lo b ∧ ∃ n, sh M b = some (.inr (0, n))) := fun b q => by
    rcases q with q | q | rfl | rfl | rfl | rfl
    · exact Or.inl q
    · exact Or.inr (Or.inl q)
    · exact Or.inr (Or.inr ⟨mA1, _, h1.2.2.2.1.1⟩)
    · exact Or.inr (Or.inr ⟨mA2, _, h1.2.2.2.1.2.1⟩)
    · exact Or.inr (Or.inr ⟨mA3, _, h1.2.2.2.1.2.2.1⟩)
    · exact Or.inr (Or.inr ⟨mA4, _, h1.2.2.2.1.2.2.2⟩)
  have hsub : ∀ b, (b = z ∨ b = mc ∨ b = A ∨ b = B ∨ b = C ∨ b = D) → eS M rd z mc lo b := fun b q => by
    rcases hsub0 b q with q | q | q
    · exact Or.inl q
    · exact Or.inr (Or.inl q)
    · exact Or.inr (Or.inr (Or.inl q))
  have r7' : FrX (eS M rd z mc lo) (fun b => b = mc) M M1 := r7.weaken (fun b _ q => hsub b q) (fun _ _ q => q)
  have hz2 : gI M1 z 2 = nI k := (r4 2 (by omega)).trans h7
  have hE1 : Eng M1 rd z mc rs k lo := ⟨A', B', C', D', cap', r1, ⟨mB1, mB2, mB3, mB4⟩, h3.frx r7 (by omega) (by omega), r5, r6, h6, hz2, Or.inl ⟨r3, r2⟩, h9, h10, h11, by have := r7.1; omega⟩
  have pot1 : Pot M M1 mc := by
    have e1 := h1.cap_eq
    have e2 := r1.cap_eq
    have c1 := r1.2.2.2.2.2.2.1
    rcases r8 with ⟨q1, -, -, -, -, q2, q3⟩ | ⟨q1, q2, -, -, -, -, q3, q4⟩
    · exact ⟨by rw [e1, e2, q1, q2]; omega, by rw [e1, e2, q1, q3]; omega, by rw [e1, e2, q1]; omega, by rw [e2]; exact c1⟩
    · have := phi_mono q1 c1 q2
      exact ⟨by rw [e1, e2, q3]; omega, by rw [e1, e2, q4]; omega, by rw [e1, e2]; omega, by rw [e2]; exact c1⟩
  refine hQ M1 ⟨hE1, r7', pot1, new1, fun y => by rw [r9 y]; exact FrS.rfl⟩ r3 r9 (fun b => ?_)
  by_cases q : b = z ∨ b = mc ∨ b = A ∨ b = B ∨ b = C ∨ b = D
  · rcases hsub0 b q with w | w | w
    · exact Or.inl w
    · exact Or.inr (Or.inl w)
    · exact Or.inr (Or.inr (Or.inl w))
  · rcases Nat.lt_or_ge b (nxt M) with w | w
    · exact Or.inr (Or.inr (Or.inr (Or.inr ⟨(r7.2.2.2.1 b w q).1, (r7.2.2.2.1 b w q).2⟩)))
    · exact Or.inr (Or.inr (Or.inr (Or.inl w)))
/-! room, with the Elements' rows -/
def aL (M : Mm) (a : Option Nat) : Nat := match a with
  | some b => (match sh M b with
    | some (.inr (_, n)) => n
    | _ => 0)
  | none => 0
def wlM (M : Mm) (x : Nat) : Nat := aL M (gR M (x + 1034) 2)
def qlM (M : Mm) (x : Nat) : Nat := aL M (gR M (x + 1034) 7)
def phiW (w : Nat) : Nat := 2 * w + (if w = 972081 then 972081 else 0)
def phiQ (c : Nat) : Nat := 6 * c + (if c = 12001 then 36003 else 0)
def Pg (M M' : Mm) (x : Nat) : Prop := nxt M' + (4 * capM M (x + 1013) + 5 * rgN M (x + 1011) + wlM M x / 81 + 3 * qlM M x) ≤ nxt M + (4 * capM M' (x + 1013) + 5 * rgN M' (x + 1011) + wlM M' x / 81 + 3 * qlM M' x) ∧
  slo M' + (phi (capM M (x + 1013)) + 246 * rgN M (x + 1011) + phiW (wlM M x) + phiQ (qlM M x)) ≤ slo M + (phi (capM M' (x + 1013)) + 246 * rgN M' (x + 1011) + phiW (wlM M' x) + phiQ (qlM M' x))
theorem Pg.trans {M M1 M2 : Mm} {x : Nat} (h : Pg M M1 x) (h2 : Pg M1 M2 x) : Pg M M2 x := by
  unfold Pg at *
  omega
theorem Pg.rfl {M : Mm} {x : Nat} : Pg M M x := by unfold Pg; omega
theorem ElS.wl {M : Mm} {x W I Qa P wl ql : Nat} (h : ElS M x W I Qa P wl ql) : wlM M x = wl ∧ qlM M x = ql := by
  obtain ⟨a1, ⟨b1, b2, b3, b4, b5, b6⟩, ⟨c1, c2, c3, c4⟩, -⟩ := h
  constructor
  · simp only [wlM, b3, aL, c1]
  · simp only [qlM, b5, aL, c3]
theorem Pt.g {M M' : Mm} {x : Nat} (h : Pt M M' x) (h1 : wlM M' x = wlM M x) (h2 : qlM M' x = qlM M x) : Pg M M' x := by
  obtain ⟨h3, h4, -⟩ := h
  unfold Pg
  rw [h1, h2]
  omega
theorem ElS.frx {M M1 : Mm} {S T : Nat → Prop} {x W I Qa P wl ql : Nat} (h : ElS M x W I Qa P wl ql) (hf : FrX S T M M1) (hx : x + 1034 < nxt M) (ht : ¬ T (x + 1034)) (hn : NewA M M1 (x + 1013)) : ElS M1 x W I Qa P wl ql := by
  obtain ⟨a1, ⟨b1, b2, b3, b4, b5, b6⟩, ⟨c1, c2, c3, c4⟩, d, ⟨e1, e2, e3, e4⟩, f, g⟩ := h
  have t2 : ∀ j, gR M1 (x + 1034) j = gR M (x + 1034) j := fun j => hf.2.2.2.2 _ hx ht j
  have := hf.1
  refine ⟨(hf.2.2.1 _ hx).trans a1, ⟨(t2 _).trans b1, (t2 _).trans b2, (t2 _).trans b3, (t2 _).trans b4, (t2 _).trans b5, (t2 _).trans b6⟩, ⟨(hf.2.2.1 _ e1.2).trans c1, (hf.2.2.1 _ e2.2).trans c2, (hf.2.2.1 _ e3.2).trans c3, (hf.2.2.1 _ e4.2).trans c4⟩, d, ⟨⟨e1.1, by omega⟩, ⟨e2.1, by omega⟩, ⟨e3.1, by omega⟩, ⟨e4.1, by omega⟩⟩, fun j h1 hj => ⟨fun q => ?_, fun q => ?_⟩, g⟩
  · rcases hn j _ h1 hj q with w | w
    · exact (f j h1 hj).1 w
    · omega
  · rcases hn j _ h1 hj q with w | w
    · exact (f j h1 hj).2 w
    · omega
noncomputable def totJ (rs : List Ru) (k : Nat) : Int64 := match tot rs k with
  | none => -5
  | some v => if 1000000000000000 < v then -4 else lN v
/-- the Elements' state: how many rows are counted, whether the sum is known -/
def ElV (M : Mm) (x : Nat) (rs : List Ru) (k cr : Nat) (tk : Bool) : Prop := ∃ W I Qa P wl ql, ElS M x W I Qa P wl ql ∧ gI M (x + 1034) 3 = nI cr ∧ cr ≤ 81 ∧ gI M (x + 1034) 4 = bI tk ∧ ((0 < cr ∨ tk = true) → gI M (x + 9) 3 = 0) ∧
  (0 < cr → ∀ A D cap N str, cap ≤ 12001 → gR M (x + 1013) 1 = some A → gR M (x + 1013) 4 = some D → AutN M (x + 1013) A D cap rs k N str → 81 * N ≤ wl ∧ WyV M W N rs k str cr) ∧ (tk = true → gJ M (x + 1034) 5 = totJ rs k)
def yS (x b : Nat) : Prop := b = x + 9 ∨ (x + 1013 ≤ b ∧ b < x + 1018) ∨ (x + 1034 ≤ b ∧ b < x + 1039) ∨ x + 1094 ≤ b
def yT (x b : Nat) : Prop := b = x + 1013 ∨ b = x + 1034
def Efr (M M' : Mm) (x : Nat) : Prop := FrX (yS x) (yT x) M M' ∧ Pg M M' x
theorem Efr.rfl {M : Mm} {x : Nat} : Efr M M x := ⟨FrX.rfl, Pg.rfl⟩
theorem Efr.trans {M M1 M2 : Mm} {x : Nat} (h : Efr M M1 x) (h2 : Efr M1 M2 x) : Efr M M2 x := ⟨h.1.trans h2.1, h.2.trans h2.2⟩
/-- a COMPLETE system through the Elements' ways -/
theorem Cmp.el {M M1 : Mm} {S T : Nat → Prop} {x k f : Nat} {rs : List Ru} (h : Cmp M x rs k f []) (hE : Eng M1 (x + 1018) (x + 9) (x + 1013) rs k (x + 1094)) (hf : FrX S T M M1) (hs : ∀ b, S b → yS x b) (ht : ∀ b, T b → yT x b) : Cmp M1 x rs k f [] ∧ rgN M1 (x + 1011) = rgN M (x + 1011) := by
  have hlo := h.1.lo.1
  have hsx : ¬ S (x + 1011) := fun q => by have := hs _ q; unfold yS at this; omega
  have htx : ∀ b, b ≠ x + 1013 → b ≠ x + 1034 → ¬ T b := fun b h1 h2 q => by have := ht _ q; unfold yT at this; omega
  obtain ⟨a1, a2, a3, a4, a5, a6⟩ := h.2.1
  have er : ∀ i, gR M1 (x + 1011 + 1) i = gR M (x + 1011 + 1) i := fun i => hf.2.2.2.2 _ (by omega) (htx _ (by omega) (by omega)) i
  have ei : ∀ j, gI M1 (x + 1011) j = gI M (x + 1011) j := fun j => (hf.2.2.2.1 _ (by omega) hsx).1 j
  have hn := hf.1
  refine ⟨⟨hE, ⟨(hf.2.2.1 _ (by omega)).trans a1, (hf.2.2.2.2 _ (by omega) (htx _ (by omega) (by omega)) _).trans a2, (hf.2.2.1 _ (by omega)).trans a3, by omega, fun i p hi hp => ?_, fun i j p q hi hj hne hp hq => a6 i j p q hi hj hne ((er i).symm.trans hp) ((er j).symm.trans hq)⟩, ⟨(ei 1).trans h.2.2.1.1, h.2.2.1.2.1, (ei 2).trans h.2.2.1.2.2.1, by simp, fun k hk => by simp at hk⟩, h.2.2.2.frx hf hlo (fun b h1 h2 => htx b (by omega) (by omega))⟩, ?_⟩
  · obtain ⟨b1, b2, b3⟩ := a5 i p hi ((er i).symm.trans hp)
    exact ⟨b1.frx hf b3 (fun b y1 y2 => htx b (by omega) (by omega)), b2, by omega⟩
  · unfold rgN
    exact List.countP_congr (fun i _ => by rw [er])
theorem k_countRows {M : Mm} {x k f cr n : Nat} {rs : List Ru} {tk : Bool} {Q : Option Value → Mm → Prop} (h : Cmp M x rs k f []) (hV : ElV M x rs k cr tk) (hn : n ≤ 80)
    (hQ : ∀ M' cr', Cmp M' x rs k f [] → ElV M' x rs k cr' tk → gI M' (x + 9) 3 = 0 → n < cr' → Efr M M' x → Q none M') : wp F_Elements_countRows 0 [.ref (x + 1034), .int (nI n), jk, jk] [] M Q := by
  obtain ⟨hlo, hwf, hRU, hRV⟩ := h.1.lo
  obtain ⟨W, I, Qa, P, wl, ql, eS0, g3, hcr, g4, hz, hwy, htk⟩ := hV
  simp only [B_Elements_countRows_0, SS, eS0.1, eS0.2.1.1, eS0.2.1.2.1, h.1.mcS, true_and]
  refine k_renewE h.1 ?_
  intro M1 T z0 same unch
  obtain ⟨t1, t2, t3, t4, t5⟩ := T
  have eS1 := eS0.frx t2 (by omega) (by omega) t4
  have nx1 := t2.1
  -- the object itself, and long rows, are as they were
  have kept : ∀ b, (b = x + 1034 ∨ (b < nxt M ∧ ∃ q, sh M b = some (.inr (1, q)))) → (∀ j, gI M1 b j = gI M b j) ∧ ∀ j, gJ M1 b j = gJ M b j := fun b hb => by
    have hne : ¬ (b = x + 9 ∨ b = x + 1013 ∨ (mA (x + 1013) (x + 1094) b ∧ ∃ n, sh M b = some (.inr (0, n))) ∨ nxt M ≤ b) := by
      intro q
      rcases hb with rfl | ⟨hb1, q1, hq1⟩
      · rcases q with q | q | ⟨-, n, q⟩ | q
        · omega
        · omega
        · rw [eS0.1] at q; cases q
        · omega
      · rcases q with q | q | ⟨-, n, q⟩ | q
        · rw [q, hRU.1] at hq1; cases hq1
        · rw [q, h.1.mcS] at hq1; cases hq1
        · rw [hq1] at q; cases q
        · omega
    rcases unch b with q | q | q | q | q
    · exact absurd (Or.inl q) hne
    · exact absurd (Or.inr (Or.inl q)) hne
    · exact absurd (Or.inr (Or.inr (Or.inl q))) hne
    · exact absurd (Or.inr (Or.inr (Or.inr q))) hne
    · exact q
  have k34 := kept (x + 1034) (Or.inl rfl)
  have f1 : FrX (yS x) (yT x) M M1 := ⟨t2.1, t2.2.1, t2.2.2.1, fun b hb hs => by
    rcases unch b with q | q | q | q | q
    · exact absurd (Or.inl q) hs
    · exact absurd (Or.inr (Or.inl ⟨by omega, by omega⟩)) hs
    · rcases q.1 with w | w
      · exact absurd (Or.inr (Or.inl ⟨by omega, by omega⟩)) hs
      · exact absurd (Or.inr (Or.inr (Or.inr w))) hs
    · omega
    · exact q, fun b hb hs => t2.2.2.2.2 b hb (fun q => hs (Or.inl q))⟩
  obtain ⟨C1, rg1⟩ := h.el t1 f1 (fun _ q => q) (fun _ q => q)
  have P1 : Pg M M1 x := (t3.pt rg1 t4).g (by rw [eS1.wl.1, eS0.wl.1]) (by rw [eS1.wl.2, eS0.wl.2])
  have t1' := t1
  obtain ⟨A, B, C, D, cap, m1, m2, m3, m4, m5, m6, m7, m8, m9, m10, m11, m12⟩ := t1
  have aut : AutV M1 (x + 1013) A D cap rs k := by
    rcases m8 with q | q
    · exact q.2
    · rw [z0] at q; exact absurd q (by decide)
  obtain ⟨N, str, hA⟩ := aut.n
  have hcap := m1.2.2.2.2.2.2.1
  have hN := hA.1
  have hN1 := hA.2.2.2.1
  -- the rows that are there
  have hwy1 : 0 < cr → 81 * N ≤ wl ∧ WyV M1 W N rs k str cr := fun hc => by
    have e := same (hz (Or.inl hc))
    rw [e] at hA m1 ⊢
    exact hwy hc A D cap N str hcap m1.2.1.1 m1.2.1.2.2.2 hA
  -- the rows that are still to be counted
  have rows : ∀ W wl M2, ElS M2 x W I Qa P wl ql → Cmp M2 x rs k f [] → MCS M2 (x + 1013) A B C D cap → AutN M2 (x + 1013) A D cap rs k N str → gI M2 (x + 9) 3 = 0 → gI M2 (x + 1034) 4 = bI tk → (tk = true → gJ M2 (x + 1034) 5 = totJ rs k) → 81 * N ≤ wl → Efr M M2 x → ∀ cr2, cr2 ≤ 81 → gI M2 (x + 1034) 3 = nI cr2 → WyV M2 W N rs k str cr2 → ∀ l2 l3, wp F_Elements_countRows 58 [.ref (x + 1034), .int (nI n), .int l2, l3] [] M2 Q := by
    intro W wl M2 e2 C2 mc2 A2 z2 q4 qt hwl F2 cr2 hcr2 q3 wv2 l2 l3
    have k80 : (80 : Int32) = nI 80 := rfl
    have loop : ∀ d M3 c, c + d = 81 → cr2 ≤ c → ElS M3 x W I Qa P wl ql → Cmp M3 x rs k f [] → MCS M3 (x + 1013) A B C D cap → AutN M3 (x + 1013) A D cap rs k N str → gI M3 (x + 9) 3 = 0 → gI M3 (x + 1034) 4 = bI tk → (tk = true → gJ M3 (x + 1034) 5 = totJ rs k) → Efr M M3 x → gI M3 (x + 1034) 3 = nI c → WyV M3 W N rs k str c → wp F_Elements_countRows 63 [.ref (x + 1034), .int (nI n), .int l2, .int (nI c)] [] M3 Q := by
      intro d
      induction d with
      | zero =>
        intro M3 c hc hle e3 C3 mc3 A3 z3 p4 pt F3 p3 wv3
        have e1 : nI n < nI c := nI_lt (by omega) (by omega)
        simp only [B_Elements_countRows_63, B_Elements_countRows_92, e1, if_true]
        refine hQ M3 c C3 ⟨W, I, Qa, P, wl, ql, e3, p3, by omega, p4, fun _ => z3, fun _ A' D' cap' N' str' hc' hA' hD' hAut => ?_, pt⟩ z3 (by omega) F3
        cases mc3.2.1.1.symm.trans hA'
        cases mc3.2.1.2.2.2.symm.trans hD'
        obtain ⟨u1, u2⟩ := A3.uniq hAut hwf hcap hc'
        subst u1
        exact ⟨hwl, fun r m hr hm => by rw [← u2 m hm]; exact wv3 r m hr hm⟩
      | succ d ih =>
        intro M3 c hc hle e3 C3 mc3 A3 z3 p4 pt F3 p3 wv3
        by_cases hnc : n < c
        · have e1 : nI n < nI c := nI_lt (by omega) (by omega)
          simp only [B_Elements_countRows_63, B_Elements_countRows_92, e1, if_true]
          refine hQ M3 c C3 ⟨W, I, Qa, P, wl, ql, e3, p3, by omega, p4, fun _ => z3, fun _ A' D' cap' N' str' hc' hA' hD' hAut => ?_, pt⟩ z3 (by omega) F3
          cases mc3.2.1.1.symm.trans hA'
          cases mc3.2.1.2.2.2.symm.trans hD'
          obtain ⟨u1, u2⟩ := A3.uniq hAut hwf hcap hc'
          subst u1
          exact ⟨hwl, fun r m hr hm => by rw [← u2 m hm]; exact wv3 r m hr hm⟩
        · have e1 : ¬ nI n < nI c := nI_nlt (by omega) (by omega)
          have e2 : ¬ nI 80 < nI c := nI_nlt (by omega) (by omega)
          simp only [B_Elements_countRows_63, e1, e2, k80, if_false, e3.1, true_and]
          refine k_countRow e3 mc3 A3 hwf (by omega) hwl wv3 ?_
          intro M4 f4 wv4
          have e4 := e3.frJ f4
          have f5 : FrX (fun b => b = W ∨ b = x + 1034) (fun _ => False) M3 (sI M4 (x + 1034) 3 (nI (c + 1))) := (f4.x.weaken (fun b _ q => Or.inl q) (fun _ _ q => q)).trans' (FrS.sI (S := fun b => b = x + 1034) rfl).x (fun b _ q => Or.inr q) (fun _ _ q => q)
          have hyW : ∀ b, (b = W ∨ b = x + 1034) → yS x b := fun b q => by
            rcases q with rfl | rfl
            · rcases e3.2.2.2.2.1.1.1 with w | w
              · exact Or.inr (Or.inr (Or.inl ⟨by omega, by omega⟩))
              · exact Or.inr (Or.inr (Or.inr w))
            · exact Or.inr (Or.inr (Or.inl ⟨by omega, by omega⟩))
          have hlo3 := C3.1.lo.1
          have shp : ∀ b q, sh M3 b = some (.inr (0, q)) → ¬ (b = W ∨ b = x + 1034) := fun b q hb w => by
            rcases w with rfl | rfl
            · rw [e3.2.2.1.1] at hb; cases hb
            · rw [e3.1] at hb; cases hb
          have nz : ∀ b, ruS (x + 9) b → ¬ (b = W ∨ b = x + 1034) := fun b hb w => by have := hyW b w; unfold yS at this; have w2 := e3.2.2.2.2.1.1.1; unfold eA at w2; omega
          have nmc : ¬ (x + 1013 = W ∨ x + 1013 = x + 1034) := fun w => by have w2 := e3.2.2.2.2.1.1.1; unfold eA at w2; omega
          have E5 : Eng (sI M4 (x + 1034) 3 (nI (c + 1))) (x + 1018) (x + 9) (x + 1013) rs k (x + 1094) := C3.1.frx f5 (fun b hb => ⟨nz b hb, fun q => q⟩) ⟨nmc, fun q => q⟩ (fun b q j _ _ _ _ hs => shp b q hs) (fun q => q)
          obtain ⟨C5, rg5⟩ := C3.el E5 f5 hyW (fun _ q => q.elim)
          have e5 : ElS (sI M4 (x + 1034) 3 (nI (c + 1))) x W I Qa P wl ql := e3.frx f5 (by omega) (fun q => q) (fun j a _ _ hh => Or.inl (by rw [gR_sI, f4.gR] at hh; exact hh))
          have mc5 : MCS (sI M4 (x + 1034) 3 (nI (c + 1))) (x + 1013) A B C D cap := mc3.frx f5 ((f5.2.2.2.1 _ mc3.2.2.2.2.2.2.2.1 nmc).1 0) (fun q => q)
          have A5 := A3.frx f5 mc3.2.2.2.2.2.2.2.1 mc3.2.2.2.2.2.2.2.2.1 mc3.2.2.2.2.2.2.2.2.2.2.2 nmc (shp _ _ mc3.2.2.2.1.1) (shp _ _ mc3.2.2.2.1.2.2.2)
          have F5 : Efr M (sI M4 (x + 1034) 3 (nI (c + 1))) x := F3.trans ⟨f5.weaken (fun b _ q => hyW b q) (fun _ _ q => q.elim), by
            have hcp : capM (sI M4 (x + 1034) 3 (nI (c + 1))) (x + 1013) = capM M3 (x + 1013) := by rw [mc5.cap_eq, mc3.cap_eq]
            unfold Pg
            rw [hcp, rg5, e5.wl.1, e5.wl.2, e3.wl.1, e3.wl.2, nxt_sI, slo_sI, f4.nxt, f4.slo]
            omega⟩
          have s4 : sh M4 (x + 1034) = some (.inl 1) := (f4.sh _).trans e3.1
          simp only [Option.toList_none, List.nil_append, B_Elements_countRows_63, s4, SS, nI_i1, true_and]
          rw [G_Elements_countRows_89]
          refine ih _ (c + 1) (by omega) (by omega) e5 C5 mc5 A5 ?_ ?_ (fun ht => ?_) F5 ?_ (fun r m hr hm => ?_)
          · rw [gI_sI, if_neg (by omega), f4.gI]; exact z3
          · rw [gI_sI, if_neg (by omega), f4.gI]; exact p4
          · rw [gJ_sI, f4.gJ (fun q => by have w2 := e3.2.2.2.2.1.1.1; unfold eA at w2; omega)]; exact pt ht
          · rw [gI_sI, if_pos ⟨rfl, rfl⟩]
          · rw [gJ_sI]; exact wv4 r m hr hm
    simp only [B_Elements_countRows_58, SS, e2.1, q3, true_and]
    exact loop (81 - cr2) M2 cr2 (by omega) (by omega) e2 C2 mc2 A2 z2 q4 qt F2 q3 wv2
  have k81 : (81 : Int32) = nI 81 := rfl
  have k2 : (2 : Int32) = nI 2 := rfl
  have k97 : (972081 : Int32) = nI 972081 := rfl
  have hwl1 := eS1.2.2.2.2.2.2.2.1
  have c1 := nI_leI (show 81 * N < 2 ^ 31 by omega) (show wl < 2 ^ 31 by omega)
  simp only [Option.toList_none, List.nil_append, B_Elements_countRows_0, SS, eS1.1, eS1.2.1.2.1, eS1.2.1.2.2.1, eS1.2.2.1.1, m1.1, hA.2.1, k81, pk_mul, c1, true_and]
  by_cases hg : 81 * N ≤ wl
  · simp only [hg, if_true]
    refine rows W wl M1 eS1 C1 m1 hA z0 (by rw [k34.1]; exact g4) (fun q => by rw [k34.2]; exact htk q) hg ⟨f1, P1⟩ cr hcr (by rw [k34.1]; exact g3) ?_ _ _
    intro r m hr hm
    exact (hwy1 (by omega)).2 r m hr hm
  · have e1 : (if nI 972081 < nI (2 * wl) then nI 972081 else nI (2 * wl)) = nI (min (2 * wl) 972081) := min_nI (by omega) (by omega)
    have e2 : (if nI (81 * N) < nI (min (2 * wl) 972081) then nI (min (2 * wl) 972081) else nI (81 * N)) = nI (max (81 * N) (min (2 * wl) 972081)) := max_nI (by omega) (by omega)
    have hL1 : max (81 * N) (min (2 * wl) 972081) ≤ 972081 := by omega
    have hL2 : 81 * N ≤ max (81 * N) (min (2 * wl) 972081) := by omega
    have hL3 : max (81 * N) (min (2 * wl) 972081) % 81 = 0 := by have := eS1.2.2.2.2.2.2.1; omega
    have hL4 : min (2 * wl) 972081 ≤ max (81 * N) (min (2 * wl) 972081) := by omega
    generalize hL : max (81 * N) (min (2 * wl) 972081) = L at *
    have e3 : ¬ nI L < 0 := nI_pos (by omega)
    have e4 : cl (nI L) = L := cl_nI (by omega)
    have e5 : L ≤ 16777216 := by omega
    simp only [hg, if_false, k2, k97, pk_mul, SS, eS1.1, eS1.2.1.2.2.1, eS1.2.2.1.1, e1, e2, e3, e4, e5, true_and, B_Elements_countRows_0, not_false_eq_true]
    have hlo1 := t1'.lo.1
    have s34 : sh (nw M1 (.inr (1, L)) L) (x + 1034) = some (.inl 1) := by rw [sh_nw, if_neg (by omega)]; exact eS1.1
    refine ⟨s34, s34, ?_⟩
    have f2 : FrX (fun b => b = x + 1034) (fun b => b = x + 1034) M1 (sI (sR (nw M1 (.inr (1, L)) L) (x + 1034) 2 (some (nxt M1))) (x + 1034) 3 0) := ⟨by rw [nxt_sI, nxt_sR, nxt_nw]; omega, by rw [slo_sI, slo_sR, slo_nw]; omega, fun b hb => by rw [sh_sI, sh_sR, sh_nw, if_neg (by omega)], fun b hb hs => ⟨fun j => by rw [gI_sI, if_neg (fun q => hs q.1), gI_sR, gI_nw, if_neg (by omega)], fun j => by rw [gJ_sI, gJ_sR, gJ_nw, if_neg (by omega)]⟩, fun b hb hs j => by rw [gR_sI, gR_sR, if_neg (fun q => hs q.1), gR_nw, if_neg (by omega)]⟩
    have nA : NewA M1 (sI (sR (nw M1 (.inr (1, L)) L) (x + 1034) 2 (some (nxt M1))) (x + 1034) 3 0) (x + 1013) := fun j a _ _ hh => Or.inl (by rw [gR_sI, gR_sR, if_neg (by omega), gR_nw, if_neg (by omega)] at hh; exact hh)
    have r34 : ∀ j, gR (sI (sR (nw M1 (.inr (1, L)) L) (x + 1034) 2 (some (nxt M1))) (x + 1034) 3 0) (x + 1034) j = if j = 2 then some (nxt M1) else gR M1 (x + 1034) j := fun j => by
      rw [gR_sI, gR_sR]
      by_cases q : j = 2
      · rw [if_pos ⟨rfl, q⟩, if_pos q]
      · rw [if_neg (fun w => q w.2), if_neg q, gR_nw, if_neg (by omega)]
    have nx2 : nxt (sI (sR (nw M1 (.inr (1, L)) L) (x + 1034) 2 (some (nxt M1))) (x + 1034) 3 0) = nxt M1 + 1 := rfl
    have sl2 : slo (sI (sR (nw M1 (.inr (1, L)) L) (x + 1034) 2 (some (nxt M1))) (x + 1034) 3 0) = slo M1 + L := rfl
    have sW : sh (sI (sR (nw M1 (.inr (1, L)) L) (x + 1034) 2 (some (nxt M1))) (x + 1034) 3 0) (nxt M1) = some (.inr (1, L)) := by rw [sh_sI, sh_sR, sh_nw, if_pos rfl]
    have g2 : ∀ j, gI (sI (sR (nw M1 (.inr (1, L)) L) (x + 1034) 2 (some (nxt M1))) (x + 1034) 3 0) (x + 1034) j = if j = 3 then 0 else gI M1 (x + 1034) j := fun j => by
      rw [gI_sI]
      by_cases q : j = 3
      · rw [if_pos ⟨rfl, q⟩, if_pos q]
      · rw [if_neg (fun w => q w.2), if_neg q, gI_sR, gI_nw, if_neg (by omega)]
    have j2 : ∀ j, gJ (sI (sR (nw M1 (.inr (1, L)) L) (x + 1034) 2 (some (nxt M1))) (x + 1034) 3 0) (x + 1034) j = gJ M1 (x + 1034) j := fun j => by rw [gJ_sI, gJ_sR, gJ_nw, if_neg (by omega)]
    generalize sI (sR (nw M1 (.inr (1, L)) L) (x + 1034) 2 (some (nxt M1))) (x + 1034) 3 0 = M2 at *
    have eS2 : ElS M2 x (nxt M1) I Qa P L ql := by
      obtain ⟨a1, ⟨b1, b2, b3, b4, b5, b6⟩, ⟨c1, c2, c3, c4⟩, d, ⟨e1, e2, e3, e4⟩, f, g⟩ := eS1
      refine ⟨(f2.2.2.1 _ (by omega)).trans a1, ⟨by rw [r34]; exact b1, by rw [r34]; exact b2, by rw [r34]; rfl, by rw [r34]; exact b4, by rw [r34]; exact b5, by rw [r34]; exact b6⟩, ⟨sW, (f2.2.2.1 _ e2.2).trans c2, (f2.2.2.1 _ e3.2).trans c3, (f2.2.2.1 _ e4.2).trans c4⟩, ⟨by omega, d.2⟩, ⟨⟨Or.inr (by omega), by omega⟩, ⟨e2.1, by omega⟩, ⟨e3.1, by omega⟩, ⟨e4.1, by omega⟩⟩, fun j h1 hj => ⟨fun q => ?_, fun q => ?_⟩, hL3, hL1, g.2.2⟩
      · rcases nA j _ h1 hj q with w | w
        · exact (f j h1 hj).1 w
        · omega
      · rcases nA j _ h1 hj q with w | w
        · exact (f j h1 hj).2 w
        · omega
    have shp : ∀ b q, sh M1 b = some (.inr (0, q)) → ¬ b = x + 1034 := fun b q hb w => by subst w; rw [eS1.1] at hb; cases hb
    have E2 : Eng M2 (x + 1018) (x + 9) (x + 1013) rs k (x + 1094) := t1'.frx f2 (fun b hb => ⟨fun w => by omega, fun w => by omega⟩) ⟨by omega, by omega⟩ (fun b q j _ _ _ _ hs => shp b q hs) (by omega)
    obtain ⟨C2, rg2⟩ := C1.el E2 f2 (fun b q => Or.inr (Or.inr (Or.inl ⟨by omega, by omega⟩))) (fun b q => Or.inr q)
    have mc2 : MCS M2 (x + 1013) A B C D cap := m1.frx f2 ((f2.2.2.2.1 _ (by omega) (by omega)).1 0) (by omega)
    have A2 := hA.frx f2 m1.2.2.2.2.2.2.2.1 m1.2.2.2.2.2.2.2.2.1 m1.2.2.2.2.2.2.2.2.2.2.2 (by omega) (shp _ _ m1.2.2.2.1.1) (shp _ _ m1.2.2.2.1.2.2.2)
    have F2 : Efr M M2 x := Efr.trans ⟨f1, P1⟩ ⟨f2.weaken (fun b _ q => Or.inr (Or.inr (Or.inl ⟨by omega, by omega⟩))) (fun b _ q => Or.inr q), by
      have hcp : capM M2 (x + 1013) = capM M1 (x + 1013) := by rw [mc2.cap_eq, m1.cap_eq]
      have hw81 := eS1.2.2.2.2.2.2.1
      unfold Pg
      rw [hcp, rg2, eS2.wl.1, eS2.wl.2, eS1.wl.1, eS1.wl.2, nx2, sl2]
      constructor
      · omega
      · have : phiW wl + L ≤ phiW L := by
          unfold phiW
          split <;> split <;> omega
        omega⟩
    exact rows (nxt M1) L M2 eS2 C2 mc2 A2 (((f2.2.2.2.1 (x + 9) (by omega) (by omega)).1 3).trans z0) (by rw [g2, if_neg (by omega), k34.1]; exact g4) (fun q => by rw [j2, k34.2]; exact htk q) hL2 F2 0 (by omega) (by rw [g2, if_pos rfl]; rfl) (fun r m hr hm => by omega) _ _

theorem ElV.openW {M : Mm} {x k f cr : Nat} {rs : List Ru} {row : List Pr} {tk : Bool} (h : Cmp M x rs k f row) (hz : gI M (x + 9) 3 = 0) (hV : ElV M x rs k cr tk) (hcr : 0 < cr) : ∃ W I Qa P wl ql A B C D cap N str, ElS M x W I Qa P wl ql ∧ MCS M (x + 1013) A B C D cap ∧ AutN M (x + 1013) A D cap rs k N str ∧ 81 * N ≤ wl ∧ WyV M W N rs k str cr := by
  obtain ⟨A, B, C, D, cap, m1, m2, m3, m4, m5, m6, m7, m8, m9, m10, m11, m12⟩ := h.1
  have aut : AutV M (x + 1013) A D cap rs k := by
    rcases m8 with q | q
    · exact q.2
    · rw [hz] at q; exact absurd q (by decide)
  obtain ⟨N, str, hA⟩ := aut.n
  obtain ⟨W, I, Qa, P, wl, ql, eS0, g3, hc, g4, hz2, hwy, htk⟩ := hV
  obtain ⟨w1, w2⟩ := hwy hcr A D cap N str m1.2.2.2.2.2.2.1 m1.2.1.1 m1.2.1.2.2.2 hA
  exact ⟨W, I, Qa, P, wl, ql, A, B, C, D, cap, N, str, eS0, m1, hA, w1, w2⟩
theorem k_ofLength {M : Mm} {x k f cr n : Nat} {rs : List Ru} {tk : Bool} {Q : Option Value → Mm → Prop} (h : Cmp M x rs k f []) (hV : ElV M x rs k cr tk) (hn : n ≤ 80)
    (hQ : ∀ M' cr', Cmp M' x rs k f [] → ElV M' x rs k cr' tk → gI M' (x + 9) 3 = 0 → n < cr' → Efr M M' x → Q (some (.long (lN (cp (wy rs k n []))))) M') : wp F_Elements_ofLength 0 [.ref (x + 1034), .int (nI n)] [] M Q := by
  have s34 : sh M (x + 1034) = some (.inl 1) := by obtain ⟨W, I, Qa, P, wl, ql, eS0, -⟩ := hV; exact eS0.1
  simp only [B_Elements_ofLength_0, s34, true_and]
  refine k_countRows h hV hn ?_
  intro M1 cr1 C1 V1 z1 hc1 F1
  obtain ⟨W, I, Qa, P, wl, ql, A, B, C, D, cap, N, str, e1, mc1, A1, w1, w2⟩ := V1.openW C1 z1 (by omega)
  have hN1 := A1.2.2.2.1
  have z0 : (0 : Int32) = nI 0 := rfl
  simp only [Option.toList_none, List.nil_append, B_Elements_ofLength_0, e1.1, true_and]
  rw [z0, k_waysOn e1 mc1.1 A1.2.1 (Nat.lt_of_lt_of_le (ix2 (show n < 81 by omega) (show 0 < N by omega)) w1), w2 n 0 hc1 (by omega), A1.2.2.2.2.1]
  simp only [SS, List.cons_append, List.nil_append, B_Elements_ofLength_0]
  exact hQ M1 cr1 C1 V1 z1 hc1 F1
