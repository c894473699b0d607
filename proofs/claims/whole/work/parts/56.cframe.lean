/-! the class's cells at fixed places behind x; what completing may write; what comes new -/
def zS (M : Mm) (x b : Nat) : Prop := (x + 9 ≤ b ∧ b < x + 1029) ∨ (x + 1094 ≤ b ∧ ∀ n, sh M b ≠ some (.inr (1, n)))
def zT (x b : Nat) : Prop := b = x + 1012 ∨ b = x + 1013
def Pt (M M' : Mm) (x : Nat) : Prop := nxt M' + 4 * capM M (x + 1013) + 5 * rgN M (x + 1011) ≤ nxt M + 4 * capM M' (x + 1013) + 5 * rgN M' (x + 1011) ∧ slo M' + phi (capM M (x + 1013)) + 246 * rgN M (x + 1011) ≤ slo M + phi (capM M' (x + 1013)) + 246 * rgN M' (x + 1011) ∧ NewA M M' (x + 1013)
theorem Pt.same {M M' : Mm} {x : Nat} (h1 : nxt M' = nxt M) (h2 : slo M' = slo M) (h3 : capM M' (x + 1013) = capM M (x + 1013)) (h4 : rgN M' (x + 1011) = rgN M (x + 1011)) (h5 : ∀ j, gR M' (x + 1013) j = gR M (x + 1013) j) : Pt M M' x := ⟨by rw [h1, h3, h4]; omega, by rw [h2, h3, h4]; omega, fun j a _ _ h => Or.inl ((h5 j).symm.trans h)⟩
theorem Pt.rfl {M : Mm} {x : Nat} : Pt M M x := Pt.same (Eq.refl _) (Eq.refl _) (Eq.refl _) (Eq.refl _) (fun _ => Eq.refl _)
theorem Pt.trans {M M1 M2 : Mm} {x : Nat} (h : Pt M M1 x) (h2 : Pt M1 M2 x) (hn : nxt M ≤ nxt M1) : Pt M M2 x := ⟨by have := h.1; have := h2.1; omega, by have := h.2.1; have := h2.2.1; omega, fun j a h1 h5 ha => by
  rcases h2.2.2 j a h1 h5 ha with q | q
  · exact h.2.2 j a h1 h5 q
  · exact Or.inr (by omega)⟩
def Cfr (M M' : Mm) (x : Nat) : Prop := FrX (zS M x) (zT x) M M' ∧ Pt M M' x
theorem zS_back {M M1 : Mm} {S T : Nat → Prop} {x b : Nat} (h : FrX S T M M1) (hb : b < nxt M) (q : zS M1 x b) : zS M x b := by
  rcases q with q | ⟨q1, q2⟩
  · exact Or.inl q
  · exact Or.inr ⟨q1, fun n => by rw [← h.2.2.1 b hb]; exact q2 n⟩
theorem Cfr.rfl {M : Mm} {x : Nat} : Cfr M M x := ⟨FrX.rfl, Pt.rfl⟩
theorem Cfr.trans {M M1 M2 : Mm} {x : Nat} (h : Cfr M M1 x) (h2 : Cfr M1 M2 x) : Cfr M M2 x := ⟨h.1.trans' h2.1 (fun _ hb q => zS_back h.1 hb q) (fun _ _ q => q), h.2.trans h2.2 h.1.1⟩
theorem MCS.frx {M M1 : Mm} {S T : Nat → Prop} {mc A B C D cap : Nat} (h : MCS M mc A B C D cap) (hf : FrX S T M M1) (h0 : gI M1 mc 0 = gI M mc 0) (ht : ¬ T mc) : MCS M1 mc A B C D cap := by
  obtain ⟨a1, ⟨b1, b2, b3, b4⟩, a3, ⟨c1, c2, c3, c4⟩, a5, a6, a7, d0, d1, d2, d3, d4⟩ := h
  have := hf.1
  exact ⟨(hf.2.2.1 _ d0).trans a1, ⟨(hf.2.2.2.2 _ d0 ht _).trans b1, (hf.2.2.2.2 _ d0 ht _).trans b2, (hf.2.2.2.2 _ d0 ht _).trans b3, (hf.2.2.2.2 _ d0 ht _).trans b4⟩, h0.trans a3, ⟨(hf.2.2.1 _ d1).trans c1, (hf.2.2.1 _ d2).trans c2, (hf.2.2.1 _ d3).trans c3, (hf.2.2.1 _ d4).trans c4⟩, a5, a6, a7, by omega, by omega, by omega, by omega, by omega⟩
theorem AutV.frx {M M1 : Mm} {S T : Nat → Prop} {mc A D cap : Nat} {rs : List Ru} {k : Nat} (h : AutV M mc A D cap rs k) (hf : FrX S T M M1) (b0 : mc < nxt M) (b1 : A < nxt M) (b2 : D < nxt M) (h1 : ¬ S mc) (h2 : ¬ S A) (h3 : ¬ S D) : AutV M1 mc A D cap rs k := by
  obtain ⟨N, str, a1, a2, a3, a4, a5, a6, a7, a8, a9, a10⟩ := h
  have e : ∀ b, b < nxt M → ¬ S b → ∀ j, gI M1 b j = gI M b j := fun b x y j => (hf.2.2.2.1 b x y).1 j
  exact ⟨N, str, a1, (e _ b0 h1 _).trans a2, (e _ b0 h1 _).trans a3, a4, a5, a6, a7, a8, fun n c hn he => by obtain ⟨m, y1, y2, y3⟩ := a9 n c hn he; exact ⟨m, y1, (e _ b1 h2 _).trans y2, y3⟩, fun n hn => (e _ b2 h3 _).trans (a10 n hn)⟩
theorem RDS.frx {M M1 : Mm} {S T : Nat → Prop} {rd z mc : Nat} (h : RDS M rd z mc) (hf : FrX S T M M1) (hb : rd + 6 ≤ nxt M) (ht : ¬ T rd) : RDS M1 rd z mc := by
  have t : ∀ b, rdS rd b → sh M1 b = sh M b := fun b hb => hf.2.2.1 b (by omega)
  have t2 : ∀ j, gR M1 rd j = gR M rd j := fun j => hf.2.2.2.2 rd (by omega) ht j
  exact ⟨(t _ ⟨by omega, by omega⟩).trans h.1, ⟨(t2 _).trans h.2.1.1, (t2 _).trans h.2.1.2.1, (t2 _).trans h.2.1.2.2.1, (t2 _).trans h.2.1.2.2.2.1, (t2 _).trans h.2.1.2.2.2.2.1, (t2 _).trans h.2.1.2.2.2.2.2.1, (t2 _).trans h.2.1.2.2.2.2.2.2⟩, (t _ ⟨by omega, by omega⟩).trans h.2.2.1, (t _ ⟨by omega, by omega⟩).trans h.2.2.2.1, (t _ ⟨by omega, by omega⟩).trans h.2.2.2.2.1, (t _ ⟨by omega, by omega⟩).trans h.2.2.2.2.2.1, (t _ ⟨by omega, by omega⟩).trans h.2.2.2.2.2.2⟩
theorem Eng.frx {M M1 : Mm} {S T : Nat → Prop} {rd z mc lo : Nat} {rs : List Ru} {k : Nat} (h : Eng M rd z mc rs k lo) (hf : FrX S T M M1) (hs : ∀ b, ruS z b → ¬ S b ∧ ¬ T b) (h1 : ¬ S mc ∧ ¬ T mc) (h2 : ∀ b n j, 1 ≤ j → j < 5 → gR M mc j = some b → mA mc lo b → sh M b = some (.inr (0, n)) → ¬ S b) (h3 : ¬ T rd) : Eng M1 rd z mc rs k lo := by
  obtain ⟨A, B, C, D, cap, a1, a2, a3, a4, a5, a6, a7, a8, a9, a10, a11, a12⟩ := h
  have zz : ruS z z := ⟨by omega, by omega⟩
  have ez : ∀ j, gI M1 z j = gI M z j := fun j => (hf.2.2.2.1 z (by omega) (hs z zz).1).1 j
  refine ⟨A, B, C, D, cap, a1.frx hf ((hf.2.2.2.1 mc (by omega) h1.1).1 0) h1.2, a2, a3.frx hf (by omega) h3, a4.frx hf (by omega) (fun b hb => (hs b hb).2), a5.frx hf (by omega) (ez 1) (fun b y1 y2 => (hs b ⟨by omega, y2⟩).1), a6, (ez 2).trans a7, ?_, a9, a10, a11, by have := hf.1; omega⟩
  rcases a8 with ⟨q1, q2⟩ | q
  · exact Or.inl ⟨(ez 3).trans q1, q2.frx hf (by omega) a1.2.2.2.2.2.2.2.2.1 a1.2.2.2.2.2.2.2.2.2.2.2 h1.1 (h2 _ _ 1 (by omega) (by omega) a1.2.1.1 a2.1 a1.2.2.2.1.1) (h2 _ _ 4 (by omega) (by omega) a1.2.1.2.2.2 a2.2.2.2 a1.2.2.2.1.2.2.2)⟩
  · exact Or.inr ((ez 3).trans q)
theorem Row.frx {M M1 : Mm} {S T : Nat → Prop} {z lo f : Nat} {row : List Pr} (h : RWS M z lo) (v : RWV M z f row) (hf : FrX S T M M1) (hz : ¬ S z ∧ ¬ T z ∧ ¬ T (z + 1)) (hS : ∀ v rv, lo ≤ v → WS M v rv → ¬ S v ∧ ¬ S (v + 1)) (hT : ∀ b, lo ≤ b → ¬ T b) : RWS M1 z lo ∧ RWV M1 z f row ∧ rgN M1 z = rgN M z := by
  obtain ⟨a1, a2, a3, a4, a5, a6⟩ := h
  have er : ∀ i, gR M1 (z + 1) i = gR M (z + 1) i := fun i => hf.2.2.2.2 _ (by omega) hz.2.2 i
  have ei : ∀ j, gI M1 z j = gI M z j := fun j => (hf.2.2.2.1 z (by omega) hz.1).1 j
  refine ⟨⟨(hf.2.2.1 _ (by omega)).trans a1, (hf.2.2.2.2 _ (by omega) hz.2.1 _).trans a2, (hf.2.2.1 _ (by omega)).trans a3, by have := hf.1; omega, fun i p hi hp => ?_, fun i j p q hi hj hne hp hq => a6 i j p q hi hj hne ((er i).symm.trans hp) ((er j).symm.trans hq)⟩, ⟨(ei 1).trans v.1, v.2.1, (ei 2).trans v.2.2.1, v.2.2.2.1, fun k hk => ?_⟩, ?_⟩
  · obtain ⟨b1, b2, b3⟩ := a5 i p hi ((er i).symm.trans hp)
    exact ⟨b1.frx hf b3 (fun b y1 y2 => hT b (by omega)), b2, by have := hf.1; omega⟩
  · obtain ⟨p, c1, c2⟩ := v.2.2.2.2 k hk
    obtain ⟨b1, b2, b3⟩ := a5 _ p (Nat.mod_lt _ (by omega)) c1
    have q1 := hS (p + 1) _ (by omega) b1.2.2.2.1
    have q2 := hS (p + 3) _ (by omega) b1.2.2.2.2
    exact ⟨p, (er _).trans c1, c2.1.frx hf (by omega) q1.1 q1.2, c2.2.1.frx hf (by omega) q2.1 q2.2, c2.2.2⟩
  · unfold rgN
    exact List.countP_congr (fun i _ => by rw [er])
/-- the Completion's own cells -/
def CPS (M : Mm) (x : Nat) : Prop := sh M (x + 1024) = some (.inl 0) ∧ (gR M (x + 1024) 0 = some (x + 9) ∧ gR M (x + 1024) 1 = some (x + 1011) ∧ gR M (x + 1024) 2 = some (x + 1018) ∧ gR M (x + 1024) 3 = some (x + 1025) ∧ gR M (x + 1024) 4 = some (x + 1027)) ∧ WS M (x + 1025) 120 ∧ WS M (x + 1027) 120
theorem CPS.frx {M M1 : Mm} {S T : Nat → Prop} {x : Nat} (h : CPS M x) (hf : FrX S T M M1) (hx : x + 1094 ≤ nxt M) (ht : ∀ b, x + 1024 ≤ b → b < x + 1029 → ¬ T b) : CPS M1 x := by
  have t2 : ∀ j, gR M1 (x + 1024) j = gR M (x + 1024) j := fun j => hf.2.2.2.2 _ (by omega) (ht _ (by omega) (by omega)) j
  exact ⟨(hf.2.2.1 _ (by omega)).trans h.1, ⟨(t2 _).trans h.2.1.1, (t2 _).trans h.2.1.2.1, (t2 _).trans h.2.1.2.2.1, (t2 _).trans h.2.1.2.2.2.1, (t2 _).trans h.2.1.2.2.2.2⟩, h.2.2.1.frx hf (by omega) (ht _ (by omega) (by omega)), h.2.2.2.frx hf (by omega) (ht _ (by omega) (by omega))⟩
def Cmp (M : Mm) (x : Nat) (rs : List Ru) (k f : Nat) (row : List Pr) : Prop := Eng M (x + 1018) (x + 9) (x + 1013) rs k (x + 1094) ∧ RWS M (x + 1011) (x + 1094) ∧ RWV M (x + 1011) f row ∧ CPS M x
theorem Eng.lo {M : Mm} {rd z mc lo : Nat} {rs : List Ru} {k : Nat} (h : Eng M rd z mc rs k lo) : lo ≤ nxt M ∧ RWf rs k ∧ RUS M z ∧ RUV M z rs := by
  obtain ⟨A, B, C, D, cap, a1, a2, a3, a4, a5, a6, a7, a8, a9, a10, a11, a12⟩ := h
  exact ⟨a12, a6, a4, a5⟩
theorem Eng.mcS {M : Mm} {rd z mc lo : Nat} {rs : List Ru} {k : Nat} (h : Eng M rd z mc rs k lo) : sh M mc = some (.inl 3) := by
  obtain ⟨A, B, C, D, cap, a1, a2, a3, a4, a5, a6, a7, a8, a9, a10, a11, a12⟩ := h
  exact a1.1
/-- a PAIR has come behind the row and is written -/
theorem push_row {M M1 M2 : Mm} {x : Nat} {rs : List Ru} {k f p d : Nat} {row : List Pr} {u : Pr} (h : Cmp M x rs k f row) (hb : Bhd M M1 (x + 1011) (x + 1094) f row.length p d) (hl : row.length < 1000) (hf : FrS (fun b => wS (p + 1) b ∨ wS (p + 3) b) M1 M2) (v1 : WV M2 (p + 1) u.1) (v2 : WV M2 (p + 3) u.2) (l1 : u.1.length ≤ 120) (l2 : u.2.length ≤ 120) :
    Cmp M2 x rs k f (row ++ [u]) ∧ Cfr M M2 x ∧ ∀ b j, x + 1013 ≤ b → b < x + 1094 → gI M2 b j = gI M b j := by
  obtain ⟨hE, hS, hV, hC⟩ := h
  obtain ⟨b1, b2, b3, b4, b5, b6, b7, b8, b9, b10, b11, b12, b13⟩ := hb
  have hlo := hE.lo.1
  have hmc := hE.mcS
  have hsx : ∀ b, (wS (p + 1) b ∨ wS (p + 3) b) → x + 1094 ≤ b := fun b q => by rcases q with (q | q) | (q | q) <;> omega
  have hsh : ∀ b n, (wS (p + 1) b ∨ wS (p + 3) b) → sh M1 b ≠ some (.inr (0, n)) ∧ sh M1 b ≠ some (.inr (1, n)) := fun b n q => by
    rcases q with (q | q) | (q | q)
    · rw [q, b11.2.2.2.1.1]; simp
    · rw [q, b11.2.2.2.1.2.2]; simp
    · rw [q, b11.2.2.2.2.1]; simp
    · rw [q, b11.2.2.2.2.2.2]; simp
  have hE1 : Eng M1 (x + 1018) (x + 9) (x + 1013) rs k (x + 1094) := hE.frx b6 (fun b hb => ⟨fun q => by omega, fun q => by omega⟩) ⟨fun q => by omega, fun q => by omega⟩ (fun b n j _ _ _ hb hn q => by
    subst q
    rw [hS.1] at hn
    cases hn) (fun q => by omega)
  have hE2 : Eng M2 (x + 1018) (x + 9) (x + 1013) rs k (x + 1094) := hE1.fr hf (fun b hb q => by have := hsx b q; omega) (fun q => by have := hsx _ q; omega) (fun b n _ hn q => (hsh b n q).1 hn)
  have hlo1 := b6.1
  refine ⟨⟨hE2, ?_, ?_, ?_⟩, ⟨?_, ?_⟩, ?_⟩
  · obtain ⟨c1, c2, c3, c4, c5, c6⟩ := b1
    refine ⟨(hf.sh _).trans c1, (hf.gR _ _).trans c2, (hf.sh _).trans c3, by rw [hf.nxt]; exact c4, fun i q hi hq => ?_, fun i j q q' hi hj hne hq hq' => c6 i j q q' hi hj hne ((hf.gR _ _).symm.trans hq) ((hf.gR _ _).symm.trans hq')⟩
    obtain ⟨y1, y2, y3⟩ := c5 i q hi ((hf.gR _ _).symm.trans hq)
    exact ⟨y1.frx hf.x y3 (fun _ _ _ q => q), y2, by rw [hf.nxt]; exact y3⟩
  · refine ⟨(hf.gI (fun q => by have := hsx _ q; omega) 1).trans b3, hV.2.1, ?_, by simp; omega, fun j hj => ?_⟩
    · rw [hf.gI (fun q => by have := hsx _ q; omega) 2, b4]
      simp
    · simp only [List.length_append, List.length_cons, List.length_nil] at hj
      by_cases e : j < row.length
      · obtain ⟨q, c1, c2⟩ := hV.2.2.2.2 j e
        have ap := b10 j q e c1
        obtain ⟨y1, y2, y3⟩ := hS.2.2.2.2.1 _ q (Nat.mod_lt _ (by omega)) c1
        have g : ∀ b, q ≤ b → b < q + 5 → ¬ (wS (p + 1) b ∨ wS (p + 3) b) := fun b z1 z2 z => by rcases z with (z | z) | (z | z) <;> omega
        have gx : ∀ b, q ≤ b → b < q + 5 → b ≠ x + 1011 := fun b z1 z2 z => by omega
        refine ⟨q, ?_, ?_⟩
        · rw [hf.gR, b5 j e]; exact c1
        · rw [List.getD_eq_getElem?_getD, List.getElem?_append_left e, ← List.getD_eq_getElem?_getD]
          exact ⟨(c2.1.frx b6 (by omega) (gx _ (by omega) (by omega)) (gx _ (by omega) (by omega))).fr hf (g _ (by omega) (by omega)) (g _ (by omega) (by omega)), (c2.2.1.frx b6 (by omega) (gx _ (by omega) (by omega)) (gx _ (by omega) (by omega))).fr hf (g _ (by omega) (by omega)) (g _ (by omega) (by omega)), c2.2.2⟩
      · have e2 : j = row.length := by omega
        subst e2
        refine ⟨p, by rw [hf.gR]; exact b2, ?_⟩
        have : (row ++ [u]).getD row.length dP = u := by simp
        rw [this]
        exact ⟨v1, v2, l1, l2⟩
  · exact (hC.frx b6 hlo (fun b y1 y2 q => by omega)).frx hf.x (by omega) (fun _ _ _ q => q)
  · refine (b6.weaken (S' := zS M x) (T' := zT x) (fun b hb q => Or.inl ⟨by omega, by omega⟩) (fun b hb q => Or.inl q)).trans' hf.x (fun b hb q => ?_) (fun _ _ q => q.elim)
    refine Or.inr ⟨hsx b q, fun n => ?_⟩
    rw [← b6.2.2.1 b hb]
    exact (hsh b n q).2
  · have e1 : capM M2 (x + 1013) = capM M (x + 1013) := by
      unfold capM
      rw [hf.gI (fun q => by have := hsx _ q; omega), (b6.2.2.2.1 (x + 1013) (by omega) (by omega)).1]
    have e2 : rgN M2 (x + 1011) = rgN M (x + 1011) + d := by
      rw [← b9]
      unfold rgN
      exact List.countP_congr (fun i _ => by rw [hf.gR])
    refine ⟨?_, ?_, fun j a _ _ ha => Or.inl ?_⟩
    · rw [e1, e2, hf.nxt, b7]; omega
    · rw [e1, e2, hf.slo, b8]; omega
    · rw [hf.gR, b6.2.2.2.2 _ (by omega) (by omega)] at ha; exact ha
  · intro b j q1 q2
    rw [hf.gI (fun q => by have := hsx _ q; omega), (b6.2.2.2.1 b (by omega) (by omega)).1]
