/-! RULES, machine and reducer together -/
def mA (mc lo a : Nat) : Prop := (mc < a ∧ a ≤ mc + 4) ∨ lo ≤ a
def Eng (M : Mm) (rd z mc : Nat) (rs : List Ru) (k lo : Nat) : Prop := ∃ A B C D cap, MCS M mc A B C D cap ∧ (mA mc lo A ∧ mA mc lo B ∧ mA mc lo C ∧ mA mc lo D) ∧ RDS M rd z mc ∧ RUS M z ∧ RUV M z rs ∧ RWf rs k ∧ gI M z 2 = nI k ∧ ((gI M z 3 = 0 ∧ AutV M mc A D cap rs k) ∨ gI M z 3 = 1) ∧ z + 1002 ≤ mc ∧ mc + 5 ≤ rd ∧ rd + 6 ≤ lo ∧ lo ≤ nxt M
/-- the cells that they write -/
def eS (M : Mm) (rd z mc lo : Nat) (b : Nat) : Prop := b = z ∨ b = mc ∨ (mA mc lo b ∧ ∃ n, sh M b = some (.inr (0, n))) ∨ rdS rd b
def capM (M : Mm) (mc : Nat) : Nat := cl (gI M mc 0)
def phi (c : Nat) : Nat := 22 * c + (if c = 12001 then 132011 else 0)
/-- what comes new is paid by the machine's growth -/
def Pot (M M' : Mm) (mc : Nat) : Prop := nxt M' + 4 * capM M mc ≤ nxt M + 4 * capM M' mc ∧ slo M' + phi (capM M mc) ≤ slo M + phi (capM M' mc) ∧ capM M mc ≤ capM M' mc ∧ capM M' mc ≤ 12001
theorem Pot.refl {M M' : Mm} {mc : Nat} (h1 : nxt M' = nxt M) (h2 : slo M' = slo M) (h3 : gI M' mc 0 = gI M mc 0) (h4 : capM M mc ≤ 12001) : Pot M M' mc := by
  have : capM M' mc = capM M mc := by unfold capM; rw [h3]
  exact ⟨by rw [h1, this]; omega, by rw [h2, this]; omega, by omega, by omega⟩
theorem Pot.trans {M M1 M2 : Mm} {mc : Nat} (h : Pot M M1 mc) (h2 : Pot M1 M2 mc) : Pot M M2 mc := ⟨by have := h.1; have := h2.1; omega, by have := h.2.1; have := h2.2.1; omega, Nat.le_trans h.2.2.1 h2.2.2.1, h2.2.2.2⟩
theorem phi_mono {a b : Nat} (h : a < b) (hb : b ≤ 12001) (hm : min (2 * a) 12001 ≤ b) : phi a + 11 * b ≤ phi b := by
  unfold phi
  by_cases e : b = 12001
  · rw [if_pos e, if_neg (by omega)]; omega
  · rw [if_neg e, if_neg (by omega)]; omega
theorem MCS.cap_eq {M : Mm} {mc A B C D cap : Nat} (h : MCS M mc A B C D cap) : capM M mc = cap := by
  unfold capM
  rw [h.2.2.1]
  exact cl_nI (by have := h.2.2.2.2.2.2.1; omega)
theorem red_len {rs : List Ru} {k : Nat} (hw : RWf rs k) : ∀ (n : Nat) (d t : List Nat) (tr : List (Nat × Nat)) (w : List Nat) (tr' : List (Nat × Nat)), red rs n d t tr = some (some (w, tr')) → w.length ≤ d.length + t.length ∧ tr'.length ≤ tr.length + (1000 - tr.length) := by
  intro n
  induction n with
  | zero =>
    intro d t tr w tr' h
    cases t with
    | nil => cases h; exact ⟨by simp, by omega⟩
    | cons c t => cases h
  | succ n ih =>
    intro d t tr w tr' h
    cases t with
    | nil => cases h; exact ⟨by simp, by omega⟩
    | cons c t =>
      unfold red at h
      cases he : endAt rs (d ++ [c]) with
      | none =>
        rw [he] at h
        have := ih _ _ _ _ _ h
        simp only [List.length_append, List.length_cons, List.length_nil] at this ⊢
        omega
      | some r =>
        rw [he] at h
        dsimp only at h
        by_cases hl : 1000 ≤ tr.length
        · rw [if_pos hl] at h; cases h
        · rw [if_neg hl] at h
          obtain ⟨q1, q2, q3⟩ := endAt_some he
          have hu := hw.1 _ (getD_mem q1)
          have hl3 := q3.length_le
          have := ih _ _ _ _ _ h
          simp only [List.length_append, List.length_cons, List.length_nil, List.length_take] at this hl3 ⊢
          omega
theorem form_len {rs : List Ru} {k : Nat} (hw : RWf rs k) {l w : List Nat} {tr : List (Nat × Nat)} (hl : l.length ≤ 120) (h : form rs l = some (w, tr)) : w.length ≤ l.length := by
  have := form_red hw hl
  rw [h] at this
  simpa using (red_len hw _ _ _ _ _ _ this).1
theorem form_steps {rs : List Ru} {k : Nat} (hw : RWf rs k) {l w : List Nat} {tr : List (Nat × Nat)} (hl : l.length ≤ 120) (h : form rs l = some (w, tr)) : tr.length ≤ 1000 := by
  have := form_red hw hl
  rw [h] at this
  simpa using (red_len hw _ _ _ _ _ _ this).2
theorem word_apart {M : Mm} {rd z mc lo v rv : Nat} {rs : List Ru} {k : Nat} (hE : Eng M rd z mc rs k lo) (sv : WS M v rv) : ¬ eS M rd z mc lo v ∧ ¬ eS M rd z mc lo (v + 1) := by
  obtain ⟨A, B, C, D, cap, h1, -, h3, h4, -⟩ := hE
  have s0 := sv.1
  have s1 := sv.2.2
  constructor
  · rintro (e | e | ⟨-, n, e⟩ | e)
    · rw [e, h4.1] at s0; cases s0
    · rw [e, h1.1] at s0; cases s0
    · rw [e] at s0; cases s0
    · rcases (show v = rd ∨ v = rd + 1 ∨ v = rd + 2 ∨ v = rd + 3 ∨ v = rd + 4 ∨ v = rd + 5 by omega) with e | e | e | e | e | e <;> rw [e] at s0
      · rw [h3.1] at s0; cases s0
      · rw [h3.2.2.1] at s0; cases s0
      · rw [h3.2.2.2.1] at s0; cases s0
      · rw [h3.2.2.2.2.1] at s0; cases s0
      · rw [h3.2.2.2.2.2.1] at s0; cases s0
      · rw [h3.2.2.2.2.2.2] at s0; cases s0
  · rintro (e | e | ⟨-, n, e⟩ | e)
    · rw [e, h4.1] at s1; cases s1
    · rw [e, h1.1] at s1; cases s1
    · rw [e] at s1; cases s1
    · rcases (show v + 1 = rd ∨ v = rd ∨ v = rd + 1 ∨ v + 1 = rd + 3 ∨ v + 1 = rd + 4 ∨ v + 1 = rd + 5 by omega) with e | e | e | e | e | e
      · rw [e, h3.1] at s1; cases s1
      · rw [e, h3.1] at s0; cases s0
      · rw [e, h3.2.2.1] at s0; cases s0
      · rw [e, h3.2.2.2.2.1] at s1; cases s1
      · rw [e, h3.2.2.2.2.2.1] at s1; cases s1
      · rw [e, h3.2.2.2.2.2.2] at s1; cases s1
/-- what toForm leaves: TOO LONG, or the FORM in the word u -/
def NewA (M M' : Mm) (mc : Nat) : Prop := ∀ j a, 1 ≤ j → j < 5 → gR M' mc j = some a → gR M mc j = some a ∨ nxt M ≤ a
def TfN (M M' : Mm) (rd z mc lo : Nat) (rs : List Ru) (k : Nat) : Prop := Eng M' rd z mc rs k lo ∧ FrX (eS M rd z mc lo) (fun b => b = mc) M M' ∧ Pot M M' mc ∧ NewA M M' mc ∧ (gI M z 3 = 0 → FrS (rdS rd) M M')
theorem k_renew' {M : Mm} {mc z A B C D cap k : Nat} {rs : List Ru} {Q : Option Value → Mm → Prop} (h : MCS M mc A B C D cap) (hR : RUS M z) (hV : RUV M z rs) (hz : z + 1002 ≤ nxt M) (hwf : RWf rs k) (hk2 : gI M z 2 = nI k) (hch : (gI M z 3 = 0 ∧ AutV M mc A D cap rs k) ∨ gI M z 3 = 1)
    (hd : ¬ ruS z mc ∧ ¬ ruS z A ∧ ¬ ruS z B ∧ ¬ ruS z C ∧ ¬ ruS z D) (hQ : ∀ A' B' C' D' cap' M', Ren M M' mc z A B C D cap A' B' C' D' cap' rs k → (gI M z 3 = 0 → M' = M) → Q none M') : wp F_Machine_renew 0 [.ref mc, .ref z, jk] [] M Q := by
  rcases hch with ⟨h0, ha⟩ | h1
  · simp only [B_Machine_renew_0, hR.1, h0, if_true, true_and]
    exact hQ A B C D cap M ⟨h, ha, h0, fun _ _ => rfl, hR, hV, FrX.rfl, Or.inl ⟨rfl, rfl, rfl, rfl, rfl, rfl, rfl⟩⟩ (fun _ => rfl)
  · refine k_renew h hR hV hz hwf hk2 (Or.inr h1) hd ?_
    intro A' B' C' D' cap' M' R
    exact hQ A' B' C' D' cap' M' R (fun q => by rw [h1] at q; exact absurd q (by decide))
theorem Ren.new {M M' : Mm} {mc z A B C D cap A' B' C' D' cap' : Nat} {rs : List Ru} {k : Nat} (h : MCS M mc A B C D cap) (R : Ren M M' mc z A B C D cap A' B' C' D' cap' rs k) : NewA M M' mc := by
  obtain ⟨r1, r2, r3, r4, r5, r6, r7, r8⟩ := R
  intro j a h1 h5 ha
  rcases r8 with ⟨-, e1, e2, e3, e4, -⟩ | ⟨-, -, e1, e2, e3, e4, -⟩
  · rcases (show j = 1 ∨ j = 2 ∨ j = 3 ∨ j = 4 by omega) with q | q | q | q <;> rw [q] at ha ⊢
    · rw [r1.2.1.1, e1] at ha; exact Or.inl (h.2.1.1.trans ha)
    · rw [r1.2.1.2.1, e2] at ha; exact Or.inl (h.2.1.2.1.trans ha)
    · rw [r1.2.1.2.2.1, e3] at ha; exact Or.inl (h.2.1.2.2.1.trans ha)
    · rw [r1.2.1.2.2.2, e4] at ha; exact Or.inl (h.2.1.2.2.2.trans ha)
  · right
    rcases (show j = 1 ∨ j = 2 ∨ j = 3 ∨ j = 4 by omega) with q | q | q | q <;> rw [q] at ha
    · rw [r1.2.1.1, e1] at ha; cases ha; omega
    · rw [r1.2.1.2.1, e2] at ha; cases ha; omega
    · rw [r1.2.1.2.2.1, e3] at ha; cases ha; omega
    · rw [r1.2.1.2.2.2, e4] at ha; cases ha; omega
def TfY (M M' : Mm) (rd z mc lo u : Nat) (rs : List Ru) (k : Nat) (w : List Nat) (tr : List (Nat × Nat)) : Prop := (∃ M4, TfN M M4 rd z mc lo rs k ∧ FrS (wS u) M4 M') ∧ WV M' u w ∧ gI M' rd 7 = nI tr.length ∧ TRv M' (rd + 4) (rd + 5) tr
theorem AutV.fr {M M1 : Mm} {S : Nat → Prop} {mc A D cap : Nat} {rs : List Ru} {k : Nat} (h : AutV M mc A D cap rs k) (hf : FrS S M M1) (h1 : ¬ S mc) (h2 : ¬ S A) (h3 : ¬ S D) : AutV M1 mc A D cap rs k := by
  obtain ⟨N, str, a1, a2, a3, a4, a5, a6, a7, a8, a9, a10⟩ := h
  exact ⟨N, str, a1, (hf.gI h1 _).trans a2, (hf.gI h1 _).trans a3, a4, a5, a6, a7, a8, fun n e hn he => by obtain ⟨m, b1, b2, b3⟩ := a9 n e hn he; exact ⟨m, b1, (hf.gI h2 _).trans b2, b3⟩, fun n hn => (hf.gI h3 _).trans (a10 n hn)⟩
theorem Eng.fr {M M1 : Mm} {S : Nat → Prop} {rd z mc lo : Nat} {rs : List Ru} {k : Nat} (h : Eng M rd z mc rs k lo) (hf : FrS S M M1) (hs : ∀ b, ruS z b → ¬ S b) (h1 : ¬ S mc) (h2 : ∀ b n, mA mc lo b → sh M b = some (.inr (0, n)) → ¬ S b) : Eng M1 rd z mc rs k lo := by
  obtain ⟨A, B, C, D, cap, a1, a2, a3, a4, a5, a6, a7, a8, a9, a10, a11, a12⟩ := h
  have zz : ruS z z := ⟨by omega, by omega⟩
  refine ⟨A, B, C, D, cap, a1.fr hf (hf.gI h1 0), a2, a3.fr hf, a4.fr hf, a5.fr hf hs, a6, (hf.gI (hs z zz) 2).trans a7, ?_, a9, a10, a11, by rw [hf.nxt]; exact a12⟩
  rcases a8 with ⟨q1, q2⟩ | q
  · exact Or.inl ⟨(hf.gI (hs z zz) 3).trans q1, q2.fr hf h1 (h2 _ _ a2.1 a1.2.2.2.1.1) (h2 _ _ a2.2.2.2 a1.2.2.2.1.2.2.2)⟩
  · exact Or.inr ((hf.gI (hs z zz) 3).trans q)
theorem k_toForm {M : Mm} {rd z mc lo v u rv ru k : Nat} {rs : List Ru} {l : List Nat} {Q : Option Value → Mm → Prop} (hE : Eng M rd z mc rs k lo) (sv : WS M v rv) (su : WS M u ru) (vv : WV M v l) (hl : l.length ≤ 120) (hlv : l.length ≤ rv) (hlk : ∀ c ∈ l, c < k) (b1 : rv < 2147483648) (b2 : ru < 2147483648) (hru : l.length ≤ ru) (hv : v + 1 < nxt M) (hu : u + 1 < nxt M)
    (hQ0 : form rs l = none → ∀ M', TfN M M' rd z mc lo rs k → Q (some (.int 0)) M') (hQ1 : ∀ w tr, form rs l = some (w, tr) → w.length ≤ l.length → (∀ c ∈ w, c < k) → ∀ M', TfY M M' rd z mc lo u rs k w tr → Q (some (.int 1)) M') : wp F_Reducer_toForm 0 [.ref rd, .ref v, .ref u, jk, jk, jk, jk, jk, jk] [] M Q := by
  have hap := word_apart hE sv
  have hap2 := word_apart hE su
  obtain ⟨A, B, C, D, cap, h1, ⟨mA1, mA2, mA3, mA4⟩, h3, h4, h5, h6, h7, h8, h9, h10, h11, h12⟩ := hE
  have hmA : ∀ b, mA mc lo b → ¬ ruS z b ∧ ¬ rdS rd b := fun b hb => by
    rcases hb with q | q
    · exact ⟨fun y => by omega, fun y => by omega⟩
    · exact ⟨fun y => by omega, fun y => by omega⟩
  simp only [B_Reducer_toForm_0, SS, h3.1, h3.2.1.1, h3.2.1.2.1, h1.1, true_and]
  refine k_renew' h1 h4 h5 (by omega) h6 h7 h8 ⟨fun q => by omega, (hmA A mA1).1, (hmA B mA2).1, (hmA C mA3).1, (hmA D mA4).1⟩ ?_
  intro A' B' C' D' cap' M1 R r9
  have new1 := R.new h1
  obtain ⟨r1, r2, r3, r4, r5, r6, r7, r8⟩ := R
  obtain ⟨mB1, mB2, mB3, mB4⟩ : mA mc lo A' ∧ mA mc lo B' ∧ mA mc lo C' ∧ mA mc lo D' := by
    rcases r8 with ⟨-, rfl, rfl, rfl, rfl, -⟩ | ⟨-, -, rfl, rfl, rfl, rfl, -⟩
    · exact ⟨mA1, mA2, mA3, mA4⟩
    · exact ⟨Or.inr h12, Or.inr (by omega), Or.inr (by omega), Or.inr (by omega)⟩
  have hsub : ∀ b, (b = z ∨ b = mc ∨ b = A ∨ b = B ∨ b = C ∨ b = D) → eS M rd z mc lo b := fun b q => by
    rcases q with q | q | rfl | rfl | rfl | rfl
    · exact Or.inl q
    · exact Or.inr (Or.inl q)
    · exact Or.inr (Or.inr (Or.inl ⟨mA1, _, h1.2.2.2.1.1⟩))
    · exact Or.inr (Or.inr (Or.inl ⟨mA2, _, h1.2.2.2.1.2.1⟩))
    · exact Or.inr (Or.inr (Or.inl ⟨mA3, _, h1.2.2.2.1.2.2.1⟩))
    · exact Or.inr (Or.inr (Or.inl ⟨mA4, _, h1.2.2.2.1.2.2.2⟩))
  have r7' : FrX (eS M rd z mc lo) (fun b => b = mc) M M1 := r7.weaken (fun b _ q => hsub b q) (fun _ _ q => q)
  have nvm : v ≠ mc := fun e => by have := sv.1; rw [e, h1.1] at this; cases this
  have num : u ≠ mc := fun e => by have := su.1; rw [e, h1.1] at this; cases this
  have sv1 := sv.frx r7 hv nvm
  have su1 := su.frx r7 hu num
  have vv1 := vv.frx r7' hv hap.1 hap.2
  have h31 : RDS M1 rd z mc := by
    have t : ∀ b, rdS rd b → sh M1 b = sh M b := fun b hb => r7.2.2.1 b (by omega)
    have t2 : ∀ j, gR M1 rd j = gR M rd j := fun j => r7.2.2.2.2 rd (by omega) (by omega) j
    refine ⟨(t _ ⟨by omega, by omega⟩).trans h3.1, ⟨(t2 _).trans h3.2.1.1, (t2 _).trans h3.2.1.2.1, (t2 _).trans h3.2.1.2.2.1, (t2 _).trans h3.2.1.2.2.2.1, (t2 _).trans h3.2.1.2.2.2.2.1, (t2 _).trans h3.2.1.2.2.2.2.2.1, (t2 _).trans h3.2.1.2.2.2.2.2.2⟩, (t _ ⟨by omega, by omega⟩).trans h3.2.2.1, (t _ ⟨by omega, by omega⟩).trans h3.2.2.2.1, (t _ ⟨by omega, by omega⟩).trans h3.2.2.2.2.1, (t _ ⟨by omega, by omega⟩).trans h3.2.2.2.2.2.1, (t _ ⟨by omega, by omega⟩).trans h3.2.2.2.2.2.2⟩
  have hz2 : gI M1 z 2 = nI k := (r4 2 (by omega)).trans h7
  have hE1 : Eng M1 rd z mc rs k lo := ⟨A', B', C', D', cap', r1, ⟨mB1, mB2, mB3, mB4⟩, h31, r5, r6, h6, hz2, Or.inl ⟨r3, r2⟩, h9, h10, h11, by have := r7.1; omega⟩
  have pot1 : Pot M M1 mc := by
    have e1 := h1.cap_eq
    have e2 := r1.cap_eq
    have c1 := r1.2.2.2.2.2.2.1
    rcases r8 with ⟨q1, -, -, -, -, q2, q3⟩ | ⟨q1, q2, -, -, -, -, q3, q4⟩
    · exact ⟨by rw [e1, e2, q1, q2]; omega, by rw [e1, e2, q1, q3]; omega, by rw [e1, e2, q1]; omega, by rw [e2]; exact c1⟩
    · have := phi_mono q1 c1 q2
      exact ⟨by rw [e1, e2, q3]; omega, by rw [e1, e2, q4]; omega, by rw [e1, e2]; omega, by rw [e2]; exact c1⟩
  obtain ⟨N, str, n1, n2, n3, n4, n5, n6, n7, n8, n9, n10⟩ := r2
  have i1 : ixW (sI M1 rd 7 0) (rd + 3) 0 := by
    have := ixW_of (M := sI M1 rd 7 0) (j := 0) h31.2.2.2.2.1 (by omega) (by omega)
    rw [nI_0] at this; exact this
  have c0 : cl 0 = 0 := rfl
  simp only [Option.toList_none, List.nil_append, B_Reducer_toForm_0, SS, h31.1, h31.2.1.2.2.2.2.1, true_and, i1, c0]
  have f2 : FrS (rdS rd) M1 (sI (sI M1 rd 7 0) (rd + 3) 0 0) := (FrS.sI ⟨by omega, by omega⟩).trans (FrS.sI ⟨by omega, by omega⟩)
  have nrd : ∀ b, ¬ eS M rd z mc lo b → ¬ rdS rd b := fun b hb q => hb (Or.inr (Or.inr (Or.inr q)))
  have vv2 := vv1.fr f2 (nrd _ hap.1) (nrd _ hap.2)
  have g7 : gI (sI (sI M1 rd 7 0) (rd + 3) 0 0) rd 7 = nI 0 := by rw [gI_sI, if_neg (by omega), gI_sI, if_pos ⟨rfl, rfl⟩, nI_0]
  have gn0 : gI (sI (sI M1 rd 7 0) (rd + 3) 0 0) (rd + 3) 0 = nI 0 := by rw [gI_sI, if_pos ⟨rfl, rfl⟩, nI_0]
  generalize hM2 : sI (sI M1 rd 7 0) (rd + 3) 0 0 = M2 at f2 vv2 g7 gn0 ⊢
  have hpb := k_putBack (t := []) (Q := fun r M' => wp F_Reducer_toForm 31 [.ref rd, .ref v, .ref u, .int 0, jk, jk, jk, jk, jk] (r.toList ++ []) M' Q) (h31.fr f2) (sv1.fr f2) vv2 hlv b1 (fun j hj => by simp at hj) (by simp; omega) ⟨fun e => nrd _ hap.1 ⟨by omega, by omega⟩, fun e => nrd _ hap.2 ⟨by omega, by omega⟩⟩ ?_
  · rw [show nI ([] : List Nat).length = 0 from nI_0] at hpb
    exact hpb
  intro M3 f3 g3
  have f3' : FrS (rdS rd) M1 M3 := f2.trans (f3.weaken (fun b q => by subst q; exact ⟨by omega, by omega⟩))
  rw [List.append_nil] at g3
  simp only [SS, List.cons_append, List.nil_append, List.append_nil, B_Reducer_toForm_0]
  have hrdE : ∀ b, ruS z b → ¬ rdS rd b := fun b hb q => by omega
  have r1' := r1.fr f3' (f3'.gI (by omega) 0)
  have key := k_reading (M := M3) (v := v) (u := u) (Q := Q) (res := form rs l) r1' (h31.fr f3') (r5.fr f3') (r6.fr f3' hrdE) h6 n1 (fun n e hn he => by obtain ⟨m, y1, y2, y3⟩ := n9 n e hn he; exact ⟨m, y1, (f3'.gI (hmA _ mB1).2 _).trans y2, y3⟩) (fun n hn => (f3'.gI (hmA _ mB4).2 _).trans (n10 n hn)) ⟨fun q => by omega, (hmA _ mB1).2, (hmA _ mB4).2⟩ hrdE ?_ ?_ 100000 0 [] l [] M3 jk jk jk (form_red h6 hl) (by omega) (by simp; omega) (fun c hc => by simp at hc) hlk (by simp) FrS.rfl ⟨g3, fun j hj => by simp at hj, fun j hj => ⟨0, n4, ?_, ?_⟩, ?_, fun j hj => by simp at hj⟩
  · simp only [nI_0] at key
    rw [show nI ([] : List Nat).length = 0 from nI_0] at key
    exact key
  · intro hres M4 f4
    have f4' := f3'.trans f4
    refine hQ0 hres M4 ⟨hE1.fr f4' hrdE (fun q => by omega) (fun b n hb _ => (hmA b hb).2), r7'.trans' f4'.x (fun b _ q => Or.inr (Or.inr (Or.inr q))) (fun _ _ q => q.elim), pot1.trans (Pot.refl f4'.nxt f4'.slo (f4'.gI (by omega) 0) (by rw [r1.cap_eq]; exact r1.2.2.2.2.2.2.1)), fun j a y1 y2 y3 => new1 j a y1 y2 (by rw [← f4'.gR]; exact y3), fun y => by have := f4'; rw [r9 y] at this; exact this⟩
  · intro w tr hres hw1 hw2 M4 y1 y2 y3 y4 y5 f4 sg st7 stv
    have f4' := f3'.trans f4
    have h34 := h31.fr f4'
    have hwl : w.length ≤ l.length := form_len h6 hl hres
    simp only [B_Reducer_toForm_197, h34.1, true_and]
    have hnu := hap2
    refine k_write h34 (su1.fr f4') sg hw1 (fun c hc => by have := hw2 c hc; have := h6.2.1; omega) (by omega) b2 ⟨fun e => hnu.1 (Or.inr (Or.inr (Or.inr ⟨by omega, by omega⟩))), fun e => hnu.2 (Or.inr (Or.inr (Or.inr ⟨by omega, by omega⟩)))⟩ ?_
    intro M5 f5 w5
    simp only [Option.toList_none, List.nil_append, B_Reducer_toForm_197, or_true, true_and]
    have wsE : ∀ b, wS u b → ¬ eS M rd z mc lo b := fun b hb => by rcases hb with rfl | rfl; exact hap2.1; exact hap2.2
    have hE4 : Eng M4 rd z mc rs k lo := hE1.fr f4' hrdE (fun q => by omega) (fun b n hb _ => (hmA b hb).2)
    refine hQ1 w tr hres hwl hw2 M5 ⟨⟨M4, ⟨hE4, r7'.trans' f4'.x (fun b _ q => Or.inr (Or.inr (Or.inr q))) (fun _ _ q => q.elim), pot1.trans (Pot.refl f4'.nxt f4'.slo (f4'.gI (by omega) 0) (by rw [r1.cap_eq]; exact r1.2.2.2.2.2.2.1)), fun j a y1 y2 y3 => new1 j a y1 y2 (by rw [← f4'.gR]; exact y3), fun y => by have := f4'; rw [r9 y] at this; exact this⟩, f5⟩, w5, ?_, ?_⟩
    · rw [f5.gI (fun q => wsE rd q (Or.inr (Or.inr (Or.inr ⟨by omega, by omega⟩))))]; exact st7
    · exact stv.fr f5 (fun q => wsE _ q (Or.inr (Or.inr (Or.inr ⟨by omega, by omega⟩)))) (fun q => wsE _ q (Or.inr (Or.inr (Or.inr ⟨by omega, by omega⟩))))
  · rw [show j = 0 by simpa using hj, f3.gI (by omega)]; exact gn0
  · rw [n5]; simp [lsuf]
  · rw [f3.gI (by omega)]; exact g7

/-- LEFTS and LIVE ones alone matter to the machine -/
theorem aut_congr {rs rs' : List Ru} (h : rs.map (fun u => (u.1, u.2.2)) = rs'.map (fun u => (u.1, u.2.2))) : (∀ s, pf rs s = pf rs' s) ∧ (∀ s, lsuf rs s = lsuf rs' s) ∧ ∀ s, endAt rs s = endAt rs' s := by
  have h1 : ∀ s, pf rs s = pf rs' s := fun s => by
    have e : ∀ l : List Ru, l.any (fun u => u.2.2 && s.isPrefixOf u.1) = (l.map (fun u => (u.1, u.2.2))).any (fun q => q.2 && s.isPrefixOf q.1) := fun l => by rw [List.any_map]; rfl
    unfold pf
    rw [e, e, h]
  refine ⟨h1, fun s => ?_, fun s => ?_⟩
  · induction s with
    | nil => rfl
    | cons a t ih => unfold lsuf; rw [h1, ih]
  · have e : ∀ l : List Ru, l.findIdx? (fun u => u.2.2 && u.1.isSuffixOf s) = (l.map (fun u => (u.1, u.2.2))).findIdx? (fun q => q.2 && q.1.isSuffixOf s) := fun l => by rw [List.findIdx?_map]; rfl
    unfold endAt
    rw [e, e, h]
theorem AutV.congr {M : Mm} {mc A D cap : Nat} {rs rs' : List Ru} {k : Nat} (h : AutV M mc A D cap rs k) (e : rs.map (fun u => (u.1, u.2.2)) = rs'.map (fun u => (u.1, u.2.2))) : AutV M mc A D cap rs' k := by
  obtain ⟨q1, q2, q3⟩ := aut_congr e
  obtain ⟨N, str, a1, a2, a3, a4, a5, a6, a7, a8, a9, a10⟩ := h
  exact ⟨N, str, a1, a2, a3, a4, a5, fun n hn => by rw [← q1]; exact a6 n hn, fun s hs => a7 s (by rw [q1]; exact hs), a8, fun n e hn he => by obtain ⟨m, b1, b2, b3⟩ := a9 n e hn he; exact ⟨m, b1, b2, by rw [← q2]; exact b3⟩, fun n hn => by rw [← q3]; exact a10 n hn⟩
theorem TfY.frx {M M' : Mm} {rd z mc lo u : Nat} {rs : List Ru} {k : Nat} {w : List Nat} {tr : List (Nat × Nat)} (h : TfY M M' rd z mc lo u rs k w tr) : FrX (fun b => eS M rd z mc lo b ∨ wS u b) (fun b => b = mc) M M' := by
  obtain ⟨⟨M4, ⟨-, h2, -⟩, h4⟩, -⟩ := h
  exact (h2.weaken (fun b _ q => Or.inl q) (fun _ _ q => q)).trans' h4.x (fun b _ q => Or.inr q) (fun _ _ q => q.elim)
theorem ws_mc {M : Mm} {rd z mc lo u ru : Nat} {rs : List Ru} {k : Nat} (hE : Eng M rd z mc rs k lo) (su : WS M u ru) : ¬ wS u mc := fun q => by
  have := word_apart hE su
  rcases q with q | q
  · exact this.1 (Or.inr (Or.inl q.symm))
  · exact this.2 (Or.inr (Or.inl q.symm))
theorem TfY.pot {M M' : Mm} {rd z mc lo u ru : Nat} {rs : List Ru} {k : Nat} {w : List Nat} {tr : List (Nat × Nat)} (h : TfY M M' rd z mc lo u rs k w tr) (su : WS M u ru) (hu : u + 1 < nxt M) (hE : Eng M rd z mc rs k lo) : Pot M M' mc := by
  obtain ⟨⟨M4, ⟨h1, h2, h3⟩, h4⟩, -⟩ := h
  have num := ws_mc hE su
  obtain ⟨A, B, C, D, cap, a1, -⟩ := h1
  exact h3.1.trans (Pot.refl h4.nxt h4.slo (h4.gI num 0) (by rw [a1.cap_eq]; exact a1.2.2.2.2.2.2.1))
/-- the word isn't a RULE's -/
theorem TfY.eng {M M' : Mm} {rd z mc lo u ru : Nat} {rs : List Ru} {k : Nat} {w : List Nat} {tr : List (Nat × Nat)} (h : TfY M M' rd z mc lo u rs k w tr) (su : WS M u ru) (hu : u + 1 < nxt M) (hE : Eng M rd z mc rs k lo) (h1 : ¬ ruS z u) (h2 : ¬ ruS z (u + 1)) : Eng M' rd z mc rs k lo := by
  obtain ⟨⟨M4, ⟨q1, q2, q3⟩, q4⟩, -⟩ := h
  have num := ws_mc hE su
  have su4 : WS M4 u ru := su.frx q2 hu (fun e => num (Or.inl e.symm))
  have hap4 := word_apart q1 su4
  refine q1.fr q4 (fun b hb q => by rcases q with rfl | rfl; exact h1 hb; exact h2 hb) num (fun b n hb hs q => ?_)
  rcases q with rfl | rfl
  · exact hap4.1 (Or.inr (Or.inr (Or.inl ⟨hb, n, hs⟩)))
  · exact hap4.2 (Or.inr (Or.inr (Or.inl ⟨hb, n, hs⟩)))
/-- the word is RULE i's RIGHT -/
theorem TfY.engR {M M' : Mm} {rd z mc lo i : Nat} {rs : List Ru} {k : Nat} {w : List Nat} {tr : List (Nat × Nat)} (hi : i < rs.length) (h : TfY M M' rd z mc lo (z + 2 + 5 * i + 3) rs k w tr) (hE : Eng M rd z mc rs k lo) (hw1 : w.length ≤ (rs.getD i dR).2.1.length) (hw2 : ∀ c ∈ w, c < k) : Eng M' rd z mc (rs.set i ((rs.getD i dR).1, w, (rs.getD i dR).2.2)) k lo := by
  have hE0 := hE
  obtain ⟨A0, B0, C0, D0, cap0, -, -, -, z4, z5, z6, -, -, z9, z10, z11, z12⟩ := hE
  have su := (z4.2.2.2 i (by have := z5.2.1; omega)).2.2.2.2.2
  have hi200 : i < 200 := by have := z5.2.1; omega
  obtain ⟨⟨M4, ⟨q1, q2, q3⟩, q4⟩, w5, -⟩ := h
  have num := ws_mc hE0 su
  have su4 : WS M4 (z + 2 + 5 * i + 3) 60 := su.frx q2 (by omega) (fun e => num (Or.inl e.symm))
  have hap4 := word_apart q1 su4
  obtain ⟨A, B, C, D, cap, a1, a2, a3, a4, a5, a6, a7, a8, a9, a10, a11, a12⟩ := q1
  have hnA : ∀ b n, mA mc lo b → sh M4 b = some (.inr (0, n)) → ¬ wS (z + 2 + 5 * i + 3) b := fun b n hb hs q => by
    rcases q with rfl | rfl
    · exact hap4.1 (Or.inr (Or.inr (Or.inl ⟨hb, n, hs⟩)))
    · exact hap4.2 (Or.inr (Or.inr (Or.inl ⟨hb, n, hs⟩)))
  have hz : ¬ wS (z + 2 + 5 * i + 3) z := fun q => by rcases q with q | q <;> omega
  have emap : rs.map (fun u => (u.1, u.2.2)) = (rs.set i ((rs.getD i dR).1, w, (rs.getD i dR).2.2)).map (fun u => (u.1, u.2.2)) := by
    rw [List.map_set]
    apply List.ext_getElem?
    intro j
    rw [List.getElem?_set]
    by_cases e : i = j
    · subst e
      rw [if_pos rfl]
      simp [hi, List.getD_eq_getElem?_getD]
    · rw [if_neg e]
  have hgm := a6.1 _ (getD_mem hi)
  refine ⟨A, B, C, D, cap, a1.fr q4 (q4.gI num 0), a2, a3.fr q4, a4.fr q4, ⟨(q4.gI hz 1).trans (by rw [List.length_set]; exact a5.1), by rw [List.length_set]; exact a5.2.1, fun j hj => ?_⟩, ⟨fun v hv => ?_, a6.2.1, by rw [List.length_set]; exact a6.2.2⟩, (q4.gI hz 2).trans a7, ?_, a9, a10, a11, by rw [q4.nxt]; exact a12⟩
  · rw [List.length_set] at hj
    rw [getD_set hi]
    have vj := a5.2.2 j hj
    by_cases e : j = i
    · subst e
      rw [if_pos rfl]
      refine ⟨vj.1.fr q4 (fun q => by rcases q with q | q <;> omega) (fun q => by rcases q with q | q <;> omega), w5, (q4.gI (fun q => by rcases q with q | q <;> omega) 2).trans vj.2.2.1, vj.2.2.2.1, ?_⟩
      have := vj.2.2.2.2
      show w.length ≤ 60
      omega
    · rw [if_neg e]
      exact vj.fr q4 (fun b x y q => by rcases q with q | q <;> omega)
  · rcases List.mem_or_eq_of_mem_set hv with hv | rfl
    · exact a6.1 v hv
    · exact ⟨hgm.1, hgm.2.1, Nat.le_trans hw1 hgm.2.2.1, hgm.2.2.2.1, hw2⟩
  · rcases a8 with ⟨y1, y2⟩ | y
    · exact Or.inl ⟨(q4.gI hz 3).trans y1, (y2.fr q4 num (hnA _ _ a2.1 a1.2.2.2.1.1) (hnA _ _ a2.2.2.2 a1.2.2.2.1.2.2.2)).congr emap⟩
    · exact Or.inr ((q4.gI hz 3).trans y)
