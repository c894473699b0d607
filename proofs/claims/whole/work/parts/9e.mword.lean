/-! the reference: a word's TEXT into a SLOT -/
section MC
variable {M : Mm} {m : Nat} {σ : Sg} {Q : Option Value → Mm → Prop} {tp : List Nat} {S : Nat → Prop}
theorem RdN.scr {M M1 : Mm} (h : RdN S M M1 m) (hs : ∀ b, S b → scC m b) : Scr M M1 m := scr_of h.1 (fun b q => q.elim (fun e => Or.inl e) (hs b)) (fun j hj => h.2 j (fun e => hj (by unfold scF; omega)) (fun e => hj (by unfold scF; omega)) (fun e => hj (by unfold scF; omega)))
theorem k_begin (h : MdV M m σ) (hQ : ∀ M', MdV M' m (([], sLf σ, sNm σ), σ.2) → TX M' m (sTp σ) 0 0 0 → Yfr M M' m → Q none M') : wp F_Md_begin 0 [.ref m] [] M Q := by
  obtain ⟨t1, t2⟩ := h.2.1
  simp only [B_Md_begin_0, SS, h.1.1, t1, true_and]
  have F1 : FrS (fun b => b = m ∨ b = m + 1) M (sI M m 2 0) := FrS.sI (Or.inl rfl)
  have V1 : MdV (sI M m 2 0) m (([], sLf σ, sNm σ), σ.2) := h.tape F1 (fun j hj => by rw [gI_sI, if_neg (fun z => hj z.2)]) ⟨by simp [SS, nI_0], AR.nil⟩
  have F2 : FrS (fun b => b = m) M (sI (sI (sI (sI (sI M m 4 (nI (sTp σ).length)) m 2 0) m 3 0) m 5 0) m 6 0) := ((((FrS.sI (S := fun b => b = m) rfl).trans (FrS.sI rfl)).trans (FrS.sI rfl)).trans (FrS.sI rfl)).trans (FrS.sI rfl)
  have F3 : FrS (fun b => b = m) (sI M m 2 0) (sI (sI (sI (sI (sI M m 4 (nI (sTp σ).length)) m 2 0) m 3 0) m 5 0) m 6 0) := ⟨gI (sI (sI (sI (sI (sI M m 4 (nI (sTp σ).length)) m 2 0) m 3 0) m 5 0) m 6 0), rfl, fun b k hb => by simp [SS, hb]⟩
  have s : Scr (sI M m 2 0) (sI (sI (sI (sI (sI M m 4 (nI (sTp σ).length)) m 2 0) m 3 0) m 5 0) m 6 0) m := scr_of F3 (fun b q => Or.inl q) (fun j hj => by
    have : j ≠ 3 ∧ j ≠ 4 ∧ j ≠ 5 ∧ j ≠ 6 := ⟨fun e => hj (by unfold scF; omega), fun e => hj (by unfold scF; omega), fun e => hj (by unfold scF; omega), fun e => hj (by unfold scF; omega)⟩
    simp [SS, this.1, this.2.1, this.2.2.1, this.2.2.2])
  refine hQ _ (V1.scr s) ⟨h.1.fr F2, t2.fr F2 (by omega), ?_, ?_, ?_, ?_⟩ (F2.z.weaken (T := fun b => m ≤ b ∧ b < m + 30) (fun b q => by omega))
  · simp [SS]
  · simp [SS, nI_0]
  · simp [SS, nI_0]
  · simp [SS, nI_0]
theorem MdV.late {M1 : Mm} {n : Nat} (h : MdV M m σ) (hf : FrS (fun b => b = m) M M1) (hg : ∀ j, j ≠ 7 → gI M1 m j = gI M m j) (h7 : gI M1 m 7 = nI n) : MdV M1 m ((sTp σ, n, sNm σ), σ.2) := by
  obtain ⟨a1, a2, ⟨a3, a4, a5⟩, a6, ⟨f, a7⟩, a8, a9, a10, a11, a12⟩ := h
  have c : ∀ b, b ≠ m → ∀ j, gI M1 b j = gI M b j := fun b h1 j => hf.gI h1 j
  have g : ∀ j, j ≤ 6 ∨ 8 ≤ j → gI M1 m j = gI M m j := fun j hj => hg j (by omega)
  refine ⟨a1.fr hf, a2.eq (g _ (by omega)) (c _ (by omega)), ⟨h7, (g _ (by omega)).trans a4, fun j hj => (c _ (by omega) _).trans (a5 j hj)⟩, a6.eq (g _ (by omega)) (fun b h1 h2 => c b (by omega)), ⟨f, a7.eq (g _ (by omega)) (g _ (by omega)) (c _ (by omega)) (c _ (by omega))⟩, a8.eq (g _ (by omega)) (g _ (by omega)) (g _ (by omega)), a9.eq (g _ (by omega)) (g _ (by omega)) (g _ (by omega)), a10.eq (c _ (by omega)) (c _ (by omega)), a11.eq (g _ (by omega)) (c _ (by omega)) (c _ (by omega)), ?_⟩
  obtain ⟨cd, b1, b2⟩ := a12
  refine ⟨cd, (g _ (by omega)).trans b1, fun hcd => ?_⟩
  obtain ⟨b3, b4, b5⟩ := b2 hcd
  exact ⟨b3, b4, b5.eq (g _ (by omega)) (fun j => hf.gJ _ j) (c _ (by omega)) (fun j => hf.gJ _ j)⟩
theorem k_faulty {i n p : Nat} (h : MdV M m σ) (hT : TX M m tp i n p) (hQ : ∀ M', MdV M' m ((sTp σ, n, sNm σ), σ.2) → Yfr M M' m → Q (some (.int (-1000 - nI p))) M') : wp F_Md_faulty 0 [.ref m] [] M Q := by
  simp only [B_Md_faulty_0, SS, h.1.1, hT.2.2.2.2.1, hT.2.2.2.2.2, true_and, show ¬ (6 : Nat) = 7 by omega, and_false, if_false]
  have F : FrS (fun b => b = m) M (sI M m 7 (nI n)) := FrS.sI rfl
  exact hQ _ (h.late F (fun j hj => by rw [gI_sI, if_neg (fun z => hj z.2)]) (by simp [SS])) (F.z.weaken (T := fun b => m ≤ b ∧ b < m + 30) (fun b q => by omega))
theorem nI_npos {n : Nat} (h1 : 1 ≤ n) (h2 : n ≤ 3) : ¬ nI n ≤ 0 ∧ ¬ nI n = 0 := by
  have : n = 1 ∨ n = 2 ∨ n = 3 := by omega
  rcases this with rfl | rfl | rfl <;> decide
theorem hvI_end {tp : List Nat} (hc : ∀ c ∈ tp, c < 256) (i : Nat) : (hvI tp i = -1) = (tp.length ≤ i) := by
  unfold hvI
  by_cases q : i < tp.length
  · rw [if_pos q]
    have := getD_lt256 hc i
    exact propext ⟨fun z => absurd z (nI_ne1 (by omega)), fun z => by omega⟩
  · rw [if_neg q]
    exact propext ⟨fun _ => by omega, fun _ => rfl⟩
theorem m_word {v : Int32} (h : MdV M m σ) (hI : SgI σ) (hQ : ∀ M', MdV M' m (wdG σ v).2 → Yfr M M' m → Q (some (.int (wdG σ v).1)) M') : wp F_Md_word 0 [.ref m, .int v, jk, jk] [] M Q := by
  have s : Scr M (sI M m 0 0) m := scr_0 (Or.inl rfl)
  have h' := h.scr s
  have sy := s.y
  have hl := hI.2.2.2.2.2.2.2.1
  have hc := hI.2.2.2.2.2.2.2.2.1
  simp only [B_Md_word_0, h.1.1, true_and]
  generalize sI M m 0 0 = M0 at h' sy
  rw [k_mSlot]
  rcases oix_cases (n := 8) (by omega) v with ⟨j, hj, rfl, e⟩ | ⟨e, -⟩
  · simp only [wdG, e] at hQ
    simp only [SS, List.cons_append, List.nil_append, e, Option.isSome_some, bI, if_true, i10, if_false, B_Md_word_0, B_Md_word_15, h'.1.1, true_and]
    refine k_begin h' ?_
    intro M1 V1 T1 Y1
    have S1 := V1.1
    have y1 := sy.trans Y1
    have c80 : (80 : Int32) = nI 80 := rfl
    have z0 : (0 : Int32) = nI 0 := rfl
    simp only [SS, Option.toList_none, List.nil_append, B_Md_word_15, S1.1, S1.number0.1, S1.newWord.1, true_and, c80]
    rw [z0]
    have nmb : ∀ j a, sNm σ j = some a → a < 256 := fun j a q => by
      have := hI.1 j a q
      have := hI.2.2.1.2.1
      omega
    have fault : ∀ n p i M2 (l2 : Value), wrun (sNm σ) [] 0 (sTp σ) = .inl (n, p) → 1 ≤ n → n ≤ 3 → TX M2 m (sTp σ) i n p → Scr M1 M2 m → wp F_Md_word 55 [.ref m, .int (nI j), l2, jk] [] M2 Q := by
      intro n p i M2 l2 hw n1 n3 T2 F2
      obtain ⟨p1, p2⟩ := nI_npos n1 n3
      simp only [B_Md_word_55, T2.1.1, T2.2.2.2.2.1, p1, if_false, true_and]
      have V2 := V1.scr F2
      refine k_faulty V2 T2 ?_
      intro M3 V3 Y3
      simp only [SS, List.cons_append, List.nil_append, B_Md_word_55]
      rw [hw] at hQ
      exact hQ M3 V3 ((y1.trans F2.y).trans Y3)
    refine k_readWord (X := wrun (sNm σ)) (err := Sum.inl) (nm := sNm σ) (tp := sTp σ) (nd := 80) (fun cur i c t hs => by rw [wrun, if_pos hs]) (fun cur i c t hs hlt => by rw [wrun, if_neg (by rw [hs]; decide), if_pos hlt]; cases wlet (sNm σ (c - 97)) 80 cur <;> rfl) hl hc T1 V1.2.2.1.2.2 S1.number0.2 S1.newWord.2 (by omega) (by omega) (by omega) (by omega) (by omega) (by omega) (by omega) nmb ?_ ?_
    · intro n p i' M2 v2 he n1 n3 p6 i6 T2 F2 O2
      obtain ⟨p1, p2⟩ := nI_npos n1 n3
      rw [List.drop_zero] at he
      simp only [SS, List.cons_append, List.nil_append, B_Md_word_15, T2.1.1, T2.2.2.2.2.1, p2, not_false_eq_true, ne_eq, if_true, if_false, true_and]
      exact fault n p i' M2 _ he n1 n3 T2 (F2.scr (fun b q => by unfold scC; omega))
    · intro cur i' M2 he hcl hi0 hi1 hns hnil T2 F2 A2 O2
      have s2 := F2.scr (fun b q => by unfold scC; omega)
      rw [List.drop_zero] at he
      simp only [SS, List.cons_append, List.nil_append, B_Md_word_15, T2.1.1, T2.2.2.2.2.1, show nI 0 = 0 from rfl, not_true_eq_false, ne_eq, if_true, if_false, true_and]
      rw [k_here0 T2 hl hc hi1 (fun q => (hns q).1)]
      simp only [SS, List.cons_append, List.nil_append, B_Md_word_15, hvI_end hc]
      by_cases q : (sTp σ).length ≤ i'
      · rw [List.drop_eq_nil_of_le q, wrun] at he
        rw [he] at hQ
        rw [if_pos q]
        have V2 := V1.scr s2
        have S2 := V2.1
        simp only [B_Md_word_55, T2.1.1, T2.2.2.2.2.1, show nI 0 ≤ 0 from by decide, if_true, true_and, B_Md_word_67, SS]
        have hs := V2.2.2.2.2.2.2.2.1
        have clj := cl_nI (show j < 2147483648 by omega)
        have loop : ∀ d i M', i + d = cur.length → FrS (fun b => b = m + 20) M2 M' → AR M' (m + 20) (80 * j) (cur.take i) → (∀ q, q < 80 * j ∨ 80 * j + 80 ≤ q → gI M' (m + 20) q = gI M2 (m + 20) q) → wp F_Md_word 69 [.ref m, .int (nI j), .int (nI cur.length), .int (nI i)] [] M' Q := by
          intro d
          induction d with
          | zero =>
            intro i M' hi F hA' ho
            have hS' := S2.fr F
            have x1 : ixW M' (m + 21) (nI j) := ixW_of hS'.slotSize.2 hj (by omega)
            have e1 : nI cur.length ≤ nI i := nI_le (by omega) (by omega)
            simp only [B_Md_word_69, B_Md_word_97, SS, hS'.1, hS'.slotSize.1, x1, clj, e1, if_true, true_and]
            rw [List.take_of_length_le (by omega)] at hA'
            have FF : FrS (fun b => b = m + 20 ∨ b = m + 21) M2 (sI M' (m + 21) j (nI cur.length)) := (F.weaken (fun _ q => Or.inl q)).trans (FrS.sI (Or.inr rfl))
            refine hQ _ (V2.slot (j := j) (w := cur) FF (fun i hi => ?_)) ((y1.trans s2.y).trans (FF.z.weaken (T := fun b => m ≤ b ∧ b < m + 30) (fun b q => by omega)))
            have n1 : ¬ m + 20 = m + 21 := by omega
            have hsi := (hI.2.1 i hi).1
            by_cases e : i = j
            · subst e
              simp only [upd1, if_true]
              exact ⟨by simp [SS], fun q hq => by simp only [SS, n1, false_and, if_false]; exact hA' q hq⟩
            · simp only [upd1, if_neg e]
              refine ⟨?_, fun q hq => ?_⟩
              · rw [gI_sI, if_neg (fun z => e z.2), F.gI (by omega)]; exact (hs i hi).1
              · have hq' : q < (sSl σ i).length := hq
                rw [gI_sI, if_neg (fun z => n1 z.1), ho _ (by omega)]; exact (hs i hi).2 q hq
          | succ d ih =>
            intro i M' hi F hA' ho
            have hS' := S2.fr F
            have x2 : ixI M' (m + 6) (nI i) := ixI_of hS'.newWord.2 (by omega) (by omega)
            have x3 : ixW M' (m + 20) (nI (80 * j + i)) := ixW_of hS'.slots.2 (by omega) (by omega)
            have e1 : ¬ nI cur.length ≤ nI i := nI_ge (by omega) (by omega)
            have ga : gI M' (m + 6) i = nI (cur.getD i 0) := by
              have := A2 i (by omega)
              rw [Nat.zero_add] at this
              rw [F.gI (by omega)]; exact this
            simp only [B_Md_word_69, SS, hS'.1, hS'.slots.1, hS'.newWord.1, x2, x3, e1, if_false, true_and, nI_add, c80, pk_mul, cl_nI (show 80 * j + i < 2147483648 by omega), cl_nI (show i < 2147483648 by omega), ga, nI_i1]
            rw [G_Md_word_94]
            refine ih (i + 1) _ (by omega) (F.trans (FrS.sI rfl)) ?_ (fun q hq => ?_)
            · rw [take_succ_getD 0 (by omega)]
              have hlen : (cur.take i).length = i := by rw [List.length_take]; omega
              refine AR.app (fun q hq => ?_) ?_
              · rw [gI_sI, if_neg (fun z => by omega)]; exact hA' q hq
              · rw [gI_sI, if_pos ⟨rfl, by omega⟩]
            · rw [gI_sI, if_neg (fun z => by omega)]; exact ho q hq
        exact loop cur.length 0 M2 (by omega) FrS.rfl AR.nil (fun _ _ => rfl)
      · obtain ⟨h1, h2⟩ := hns (by omega)
        rw [drop_getD (show i' < (sTp σ).length by omega), wrun, if_neg (by rw [h1]; decide), if_neg (by rw [h2]; decide)] at he
        rw [if_neg q]
        have i1 : (1 : Int32) = nI 1 := rfl
        simp only [B_Md_word_15, T2.1.1, true_and, i1]
        refine k_bad (S := fun _ => False) T2 ?_
        intro M3 T3 F3
        simp only [SS, Option.toList_none, List.nil_append, B_Md_word_15]
        exact fault 1 i' i' M3 _ he (by omega) (by omega) T3 (s2.trans (F3.scr (fun b q => q.elim)))
  · simp only [wdG, e] at hQ
    simp only [SS, List.cons_append, List.nil_append, e, Option.isSome_none, bI, Bool.false_eq_true, if_false, if_true, B_Md_word_0]
    exact hQ M0 h' sy
end MC
