/-! the reference's tree: the links -/
abbrev lkC (m b : Nat) : Prop := b = m + 22 ∨ b = m + 23 ∨ b = m + 24 ∨ b = m + 25
def LkMm (M : Mm) (m k N q : Nat) (full : Nat → Nat → Option Nat) (fl od : Nat → Nat) : Prop := (∀ n e, n < N → e < k → gI M (m + 22) (8 * n + e) = oI (full n e)) ∧ (∀ j, 1 ≤ j → j < q → gI M (m + 23) (od j) = nI (fl (od j))) ∧ (∀ j, j < q → gI M (m + 24) j = nI (od j)) ∧ ∀ n e a, n < N → full n e = some a → a < N
def EdM (M : Mm) (m : Nat) (rs : List Ru) (N h : Nat) (str : Nat → List Nat) (od : Nat → Nat) : Prop := (∀ j, j < h → gI M (m + 25) (od j) = bI (endAt rs (str (od j))).isSome) ∧ ∀ n, n < N → (∀ j, j < h → od j ≠ n) → gI M (m + 25) n = bI (exAt rs (str n)).isSome
theorem omin_isSome (a b : Option Nat) : (omin a b).isSome = (a.isSome || b.isSome) := by cases a <;> cases b <;> rfl
section MC
variable {M : Mm} {m : Nat} {Q : Option Value → Mm → Prop}
set_option maxHeartbeats 2000000 in
theorem k_mLink {rs : List Ru} {k N : Nat} {str : Nat → List Nat} {nx : Nat → Nat → Option Nat} {l2 l3 l4 l5 l6 l7 : Value} (hS : MdS M m) (h11 : gI M m 11 = nI k) (hk : k ≤ 8) (hN : N ≤ 12001) (T : TrR rs k N str nx) (hA : TrMm M m N nx k) (hD : ∀ n, n < N → gI M (m + 25) n = bI (exAt rs (str n)).isSome)
    (hQ : ∀ M', FrS (lkC m) M M' → (∀ n e, n < N → e < k → ∃ q, q < N ∧ gI M' (m + 22) (8 * n + e) = nI q ∧ str q = lsuf rs (str n ++ [e])) → (∀ n, n < N → gI M' (m + 25) n = bI (endAt rs (str n)).isSome) → Q none M') : wp F_Md_layTree 135 [.ref m, .int (nI 0), l2, l3, l4, l5, l6, l7] [] M Q := by
  have hN1 := T.1.1
  have c8 : (8 : Int32) = nI 8 := rfl
  have inner : ∀ d c, c + d = k → ∀ (hd q : Nat) (full : Nat → Nat → Option Nat) (fl od : Nat → Nat) (en : Nat → Option Nat) (M1 : Mm) (z6 z7 : Value), hd < q → LkI rs k N str nx full fl od en hd q c → LkMm M1 m k N q full fl od → EdM M1 m rs N (hd + 1) str od → FrS (lkC m) M M1 →
      (∀ (q : Nat) (full : Nat → Nat → Option Nat) (fl od : Nat → Nat) (en : Nat → Option Nat) (M1 : Mm) (z4 z5 z6 z7 : Value), hd < q → LkI rs k N str nx full fl od en hd q k → LkMm M1 m k N q full fl od → EdM M1 m rs N (hd + 1) str od → FrS (lkC m) M M1 → wp F_Md_layTree 309 [.ref m, .int (nI 0), .int (nI q), .int (nI hd), z4, z5, z6, z7] [] M1 Q) →
      wp F_Md_layTree 205 [.ref m, .int (nI 0), .int (nI q), .int (nI hd), .int (nI (od hd)), .int (nI c), z6, z7] [] M1 Q := by
    intro d
    induction d with
    | zero =>
      intro c hc hd q full fl od en M1 z6 z7 hq I R E f kk
      have S1 := hS.fr f
      have e11 : gI M1 m 11 = nI k := (f.gI (by unfold lkC; omega) _).trans h11
      have e1 : nI k ≤ nI c := nI_le (by omega) (by omega)
      simp only [B_Md_layTree_205, S1.1, e11, e1, if_true, true_and]
      rw [show c = k by omega] at I
      exact kk q full fl od en M1 _ _ _ _ hq I R E f
    | succ d ih =>
      intro c hc hd q full fl od en M1 z6 z7 hq I R E f kk
      have S1 := hS.fr f
      obtain ⟨R1, R2, R3, R6⟩ := R
      have e11 : gI M1 m 11 = nI k := (f.gI (by unfold lkC; omega) _).trans h11
      have e1 : ¬ nI k ≤ nI c := nI_ge (by omega) (by omega)
      have odN : od hd < N := I.2.1.1 hd hq
      have flN : fl (od hd) < N := (I.2.2.2.2.2.2.2.2.1 hd hq).1
      have qN : q ≤ N := I.1.2.1
      obtain ⟨sN, sN1, sN2, sN3, sN4, sN5⟩ := I.shorter T hq (show c < k by omega)
      have i1 : ixI M1 (m + 22) (nI (8 * od hd + c)) := ixI_of S1.go.2 (by omega) (by omega)
      have i2 : ixW M1 (m + 22) (nI (8 * od hd + c)) := ixW_of S1.go.2 (by omega) (by omega)
      have i3 : ixI M1 (m + 23) (nI (od hd)) := ixI_of S1.back.2 (by omega) (by omega)
      have i4 : ixI M1 (m + 22) (nI (8 * fl (od hd) + c)) := ixI_of S1.go.2 (by omega) (by omega)
      have cA : cl (nI (8 * od hd + c)) = 8 * od hd + c := cl_nI (by omega)
      have cB : cl (nI (8 * fl (od hd) + c)) = 8 * fl (od hd) + c := cl_nI (by omega)
      have cO : cl (nI (od hd)) = od hd := cl_nI (by omega)
      have gA : gI M1 (m + 22) (8 * od hd + c) = oI (full (od hd) c) := R1 _ c odN (by omega)
      have hraw : full (od hd) c = nx (od hd) c := I.2.2.2.2.2.2.2.1 (od hd) c odN (fun j hj e => by have := I.2.1.2 j hd (by omega) hq e; omega) (fun y => by omega)
      have od0 : od 0 = 0 := I.1.2.2.1
      -- to the place where 'shorter' is known
      have mid : (wp F_Md_layTree 257 [.ref m, .int (nI 0), .int (nI q), .int (nI hd), .int (nI (od hd)), .int (nI c), .int (oI (full (od hd) c)), z7] [.int (nI sN)] M1 Q) → wp F_Md_layTree 205 [.ref m, .int (nI 0), .int (nI q), .int (nI hd), .int (nI (od hd)), .int (nI c), z6, z7] [] M1 Q := by
        intro hm
        have q0 := nI_eq (show od hd < 2 ^ 31 by omega) (show 0 < 2 ^ 31 by omega)
        simp only [B_Md_layTree_205, SS, S1.1, S1.go.1, e11, e1, if_false, true_and, c8, pk_mul, nI_add, i1, cA, gA, q0]
        by_cases z : od hd = 0
        · rw [sN2 z] at hm
          simp only [z, not_true_eq_false, ne_eq, if_true, if_false, B_Md_layTree_205]
          rw [z] at hm
          exact hm
        · have h1 : 1 ≤ hd := by
            by_cases y : hd = 0
            · rw [y] at z; exact absurd od0 z
            · omega
          have gB : gI M1 (m + 22) (8 * fl (od hd) + c) = nI sN := by rw [R1 _ c flN (by omega), sN3 z]; rfl
          simp only [z, not_false_eq_true, ne_eq, if_true, if_false, B_Md_layTree_239, SS, S1.1, S1.go.1, S1.back.1, true_and, i3, cO, R2 hd h1 hq, c8, pk_mul, nI_add, i4, cB, gB]
          exact hm
      refine mid ?_
      simp only [B_Md_layTree_257, SS]
      cases hnx : nx (od hd) c with
      | none =>
        rw [hraw, hnx]
        simp only [oI, not_true_eq_false, ne_eq, if_true, if_false, SS, S1.1, S1.go.1, true_and, c8, pk_mul, nI_add, i2, cA, B_Md_layTree_257, B_Md_layTree_303, nI_i1]
        rw [G_Md_layTree_306]
        refine ih (c + 1) (by omega) hd q (upd2 full (od hd) c (some sN)) fl od en _ _ _ hq (I.stay T hq hnx sN1 sN4) ⟨fun n e hn he => ?_, fun j h1 hj => ?_, fun j hj => ?_, fun n e a hn he => ?_⟩ ⟨fun j hj => ?_, fun n hn hj => ?_⟩ (f.trans (FrS.sI (Or.inl rfl))) kk
        · rw [gI_sI]
          unfold upd2
          by_cases y : n = od hd ∧ e = c
          · rw [if_pos ⟨rfl, by rw [y.1, y.2]⟩, if_pos y]; rfl
          · rw [if_neg (fun u => y (by omega)), if_neg y]; exact R1 n e hn he
        · rw [gI_sI, if_neg (by omega)]; exact R2 j h1 hj
        · rw [gI_sI, if_neg (by omega)]; exact R3 j hj
        · unfold upd2 at he
          split at he
          · cases he; omega
          · exact R6 n e a hn he
        · rw [gI_sI, if_neg (by omega)]; exact E.1 j hj
        · rw [gI_sI, if_neg (by omega)]; exact E.2 n hn hj
      | some mm =>
        obtain ⟨I2, qN2, hfm, mN⟩ := I.child T hq hnx sN1 sN4 sN5
        rw [hfm]
        have i5 : ixW M1 (m + 23) (nI mm) := ixW_of S1.back.2 (by omega) (by omega)
        have i6 : ixW (sI M1 (m + 23) mm (nI sN)) (m + 24) (nI q) := ixW_of S1.row.2 (by omega) (by omega)
        have cm : cl (nI mm) = mm := cl_nI (by omega)
        simp only [oI, nI_ne1 (show mm < 2147483648 by omega), not_false_eq_true, ne_eq, if_true, if_false, B_Md_layTree_283, B_Md_layTree_303, SS, S1.1, S1.back.1, S1.row.1, true_and, i5, i6, cm, cl_nI (show q < 2147483648 by omega), nI_i1]
        rw [G_Md_layTree_306]
        have odO : ∀ j, j < q → upd1 od q mm j = od j := fun j hj => by unfold upd1; rw [if_neg (by omega)]
        have odQ : upd1 od q mm q = mm := by unfold upd1; rw [if_pos rfl]
        have hodh : od hd = upd1 od q mm hd := (odO hd hq).symm
        have fresh : ∀ j, j < q → od j ≠ mm := fun j hj e => by
          have := I2.2.1.2 j q (by omega) (by omega) (by rw [odO j hj, odQ]; exact e)
          omega
        have key := ih (c + 1) (by omega) hd (q + 1) full (upd1 fl mm sN) (upd1 od q mm) (upd1 en mm (omin (en mm) (en sN))) (sI (sI M1 (m + 23) mm (nI sN)) (m + 24) q (nI mm)) (.int (nI mm)) (.int (nI sN)) (by omega) I2 ⟨fun n e hn he => ?_, fun j h1 hj => ?_, fun j hj => ?_, R6⟩ ⟨fun j hj => ?_, fun n hn hj => ?_⟩ ((f.trans (FrS.sI (Or.inr (Or.inl rfl)))).trans (FrS.sI (Or.inr (Or.inr (Or.inl rfl))))) kk
        · rw [← hodh] at key
          exact key
        · rw [gI_sI, if_neg (by omega), gI_sI, if_neg (by omega)]; exact R1 n e hn he
        · rw [gI_sI, if_neg (by omega), gI_sI]
          by_cases y : j = q
          · rw [y, odQ, if_pos ⟨rfl, rfl⟩]; unfold upd1; rw [if_pos rfl]
          · rw [odO j (by omega), if_neg (fun u => fresh j (by omega) u.2)]
            unfold upd1
            rw [if_neg (fresh j (by omega))]
            exact R2 j h1 (by omega)
        · rw [gI_sI]
          by_cases y : j = q
          · rw [if_pos ⟨rfl, y⟩, y, odQ]
          · rw [if_neg (fun u => y u.2), gI_sI, if_neg (by omega), odO j (by omega)]
            exact R3 j (by omega)
        · rw [gI_sI, if_neg (by omega), gI_sI, if_neg (by omega), odO j (by omega)]; exact E.1 j hj
        · rw [gI_sI, if_neg (by omega), gI_sI, if_neg (by omega)]
          exact E.2 n hn (fun j hj2 => by have := hj j hj2; rw [odO j (by omega)] at this; exact this)
  have outer : ∀ d hd, hd + d = N → ∀ (q : Nat) (full : Nat → Nat → Option Nat) (fl od : Nat → Nat) (en : Nat → Option Nat) (M1 : Mm) (z4 z5 z6 z7 : Value), LkI rs k N str nx full fl od en hd q 0 → LkMm M1 m k N q full fl od → EdM M1 m rs N hd str od → FrS (lkC m) M M1 → wp F_Md_layTree 146 [.ref m, .int (nI 0), .int (nI q), .int (nI hd), z4, z5, z6, z7] [] M1 Q := by
    intro d
    have fin : ∀ hd q full fl od en M1 (z4 z5 z6 z7 : Value), q ≤ hd → LkI rs k N str nx full fl od en hd q 0 → LkMm M1 m k N q full fl od → EdM M1 m rs N hd str od → FrS (lkC m) M M1 → wp F_Md_layTree 146 [.ref m, .int (nI 0), .int (nI q), .int (nI hd), z4, z5, z6, z7] [] M1 Q := by
      intro hd q full fl od en M1 z4 z5 z6 z7 hqq I R E f
      have qN : q ≤ N := I.1.2.1
      have hq2 : hd = q := by have := I.1.2.2.2; omega
      rw [hq2] at I E
      have e1 : nI q ≤ nI hd := nI_le (by omega) (by omega)
      obtain ⟨x1, x2⟩ := I.fin T
      simp only [B_Md_layTree_146, B_Md_layTree_315, e1, if_true]
      refine hQ M1 f (fun n e hn he => by obtain ⟨p, y1, y2, y3⟩ := x1 n e hn he; exact ⟨p, y1, by rw [R.1 n e hn he, y2]; rfl, y3⟩) (fun n hn => ?_)
      by_cases y : ∃ j, j < q ∧ od j = n
      · obtain ⟨j, hj, e⟩ := y
        rw [← e]; exact E.1 j hj
      · rw [E.2 n hn (fun j hj e => y ⟨j, hj, e⟩), ← x2 n hn]
        rw [I.2.2.2.2.2.2.2.2.2.2 n hn (fun j hj e => y ⟨j, hj, e⟩)]
    induction d with
    | zero =>
      intro hd hde q full fl od en M1 z4 z5 z6 z7 I R E f
      exact fin hd q full fl od en M1 _ _ _ _ (by have := I.1.2.1; omega) I R E f
    | succ d ih =>
      intro hd hde q full fl od en M1 z4 z5 z6 z7 I R E f
      have S1 := hS.fr f
      have qN : q ≤ N := I.1.2.1
      by_cases hqq : q ≤ hd
      · exact fin hd q full fl od en M1 _ _ _ _ hqq I R E f
      have hq : hd < q := by omega
      have e1 : ¬ nI q ≤ nI hd := nI_ge (by omega) (by omega)
      have odN : od hd < N := I.2.1.1 hd hq
      have od0 : od 0 = 0 := I.1.2.2.1
      have i1 : ixI M1 (m + 24) (nI hd) := ixI_of S1.row.2 (by omega) (by omega)
      have cH : cl (nI hd) = hd := cl_nI (by omega)
      have cO : cl (nI (od hd)) = od hd := cl_nI (by omega)
      have x3 : ixB M1 (m + 25) (nI (od hd)) := ixZ_of S1.isEnd.2 (by omega) (by omega)
      have bs : ∀ v K, bsW M1 (m + 25) (nI (od hd)) v K = K (sI M1 (m + 25) (od hd) (vp_nar .boolean v)) := fun v K => bsW_z S1.isEnd.2 (by omega) (by omega)
      have z0 : vp_nar .boolean 0 = 0 := by decide
      have z1 : vp_nar .boolean 1 = 1 := by decide
      have inj : ∀ j, j < hd → od j ≠ od hd := fun j hj e => by have := I.2.1.2 j hd (by omega) hq e; omega
      have ge : gI M1 (m + 25) (od hd) = bI (exAt rs (str (od hd))).isSome := E.2 _ odN inj
      have go : wp F_Md_layTree 201 [.ref m, .int (nI 0), .int (nI q), .int (nI hd), .int (nI (od hd)), z5, z6, z7] [.int (bI (endAt rs (str (od hd))).isSome), .int (nI (od hd)), .ref (m + 25)] M1 Q := by
        have zz : ∀ b, vp_nar .boolean (bI b) = bI b := fun b => by cases b <;> decide
        simp only [B_Md_layTree_201, SS, bs, zz, ← nI_0]
        have F2 : FrS (fun b => b = m + 25) M1 (sI M1 (m + 25) (od hd) (bI (endAt rs (str (od hd))).isSome)) := FrS.sI rfl
        refine inner k 0 (by omega) hd q full fl od en _ _ _ hq I ⟨fun n e hn he => (F2.gI (by omega) _).trans (R.1 n e hn he), fun j h1 hj => (F2.gI (by omega) _).trans (R.2.1 j h1 hj), fun j hj => (F2.gI (by omega) _).trans (R.2.2.1 j hj), R.2.2.2⟩ ⟨fun j hj => ?_, fun n hn hj => ?_⟩ (f.trans (F2.weaken (fun b q => Or.inr (Or.inr (Or.inr q))))) ?_
        · rw [gI_sI]
          by_cases y : j = hd
          · rw [y, if_pos ⟨rfl, rfl⟩]
          · rw [if_neg (fun u => inj j (by omega) u.2)]; exact E.1 j (by omega)
        · rw [gI_sI, if_neg (fun u => hj hd (by omega) u.2.symm)]
          exact E.2 n hn (fun j hj2 => hj j (by omega))
        · intro q' full' fl' od' en' M2 y4 y5 y6 y7 hq' I' R' E' f'
          simp only [B_Md_layTree_309, SS, nI_i1]
          rw [G_Md_layTree_312]
          exact ih (hd + 1) (by omega) q' full' fl' od' en' M2 _ _ _ _ (I'.next T hq') R' E' f'
      have q0 := nI_eq (show od hd < 2 ^ 31 by omega) (show 0 < 2 ^ 31 by omega)
      simp only [B_Md_layTree_146, SS, e1, if_false, S1.1, S1.row.1, S1.isEnd.1, true_and, i1, cH, R.2.2.1 hd hq, x3, cO, ge]
      by_cases z : od hd = 0
      · have es : str (od hd) = [] := by rw [z, T.1.2.1]
        have en0 : endAt rs [] = none := endAt_nil (fun u hu hl => (T.2.2.2 u hu hl).1)
        have ex0 : exAt rs [] = none := by
          unfold exAt
          rw [List.findIdx?_eq_none_iff]
          intro u hu
          cases hl : u.2.2 with
          | false => rfl
          | true =>
            rw [Bool.true_and, beq_eq_false_iff_ne]
            exact (T.2.2.2 u hu hl).1
        rw [es, en0] at go
        rw [es, ex0]
        simp only [Option.isSome_none, bI_f, not_true_eq_false, ne_eq, if_true, if_false, q0, z, B_Md_layTree_200]
        rw [z] at go
        exact go
      · have h1 : 1 ≤ hd := by
          by_cases y : hd = 0
          · rw [y] at z; exact absurd od0 z
          · omega
        obtain ⟨flN, flS⟩ := I.2.2.2.2.2.2.2.2.1 hd hq
        have hne : str (od hd) ≠ [] := fun e => z (T.1.2.2.2.2 _ 0 odN hN1 (by rw [e, T.1.2.1]))
        obtain ⟨a, t, hat⟩ : ∃ a t, str (od hd) = a :: t := by
          cases hx : str (od hd) with
          | nil => exact absurd hx hne
          | cons a t => exact ⟨a, t, rfl⟩
        have hlen : (str (fl (od hd))).length < (str (od hd)).length := by
          rw [flS]
          have := (lsuf_suf rs (str (od hd)).tail).length_le
          rw [hat] at this ⊢
          simp at this ⊢
          omega
        obtain ⟨j, hj, ej⟩ := I.short T hq _ (fl (od hd)) flN rfl hlen
        have gf : gI M1 (m + 25) (fl (od hd)) = bI (endAt rs (str (fl (od hd)))).isSome := by rw [← ej]; exact E.1 j hj
        have hsome : (endAt rs (str (od hd))).isSome = ((exAt rs (str (od hd))).isSome || (endAt rs (str (fl (od hd)))).isSome) := by
          rw [flS, hat, endAt_cons, omin_isSome]
          rfl
        have i3 : ixI M1 (m + 23) (nI (od hd)) := ixI_of S1.back.2 (by omega) (by omega)
        have x4 : ixB M1 (m + 25) (nI (fl (od hd))) := ixZ_of S1.isEnd.2 (by omega) (by omega)
        rw [hsome] at go
        cases hx : (exAt rs (str (od hd))).isSome with
        | true =>
          rw [hx, Bool.true_or] at go
          simp only [bI_t, i10, not_false_eq_true, ne_eq, if_true, if_false, B_Md_layTree_196]
          exact go
        | false =>
          rw [hx, Bool.false_or] at go
          simp only [bI_f, not_true_eq_false, ne_eq, if_true, if_false, q0, z, B_Md_layTree_146, SS, S1.1, S1.isEnd.1, S1.back.1, true_and, i3, cO, R.2.1 hd h1 hq, x4, cl_nI (show fl (od hd) < 2147483648 by omega), gf]
          cases hy : (endAt rs (str (fl (od hd)))).isSome with
          | true =>
            rw [hy] at go
            simp only [bI_t, i10, not_false_eq_true, ne_eq, if_true, if_false, B_Md_layTree_196]
            exact go
          | false =>
            rw [hy] at go
            simp only [bI_f, not_true_eq_false, ne_eq, if_true, if_false, B_Md_layTree_200]
            exact go
  have j2 : ixW M (m + 24) (nI 0) := ixW_of hS.row.2 (by omega) (by omega)
  have k1 : (1 : Int32) = nI 1 := rfl
  simp only [B_Md_layTree_135, SS, hS.1, hS.row.1, true_and, ← nI_0, cl_nI (show 0 < 2147483648 by omega), j2, k1]
  have F0 : FrS (fun b => b = m + 24) M (sI M (m + 24) 0 (nI 0)) := FrS.sI rfl
  have en0 : endAt rs [] = none := endAt_nil (fun u hu hl => (T.2.2.2 u hu hl).1)
  have ex0 : exAt rs [] = none := by
    unfold exAt
    rw [List.findIdx?_eq_none_iff]
    intro u hu
    cases hl : u.2.2 with
    | false => rfl
    | true =>
      rw [Bool.true_and, beq_eq_false_iff_ne]
      exact (T.2.2.2 u hu hl).1
  refine outer N 0 (by omega) 1 nx (fun _ => 0) (fun _ => 0) (fun n => exAt rs (str n)) _ _ _ _ _ ⟨⟨by omega, hN1, rfl, by omega⟩, ⟨fun j hj => hN1, fun i j hi hj _ => by omega⟩, fun i j _ _ => Nat.le_refl _, fun _ j _ => Nat.le_succ _, fun j e hj => by omega, fun j e m hj _ => by omega, fun i i1 i2 => by omega, fun n e _ _ _ => rfl, fun j hj => ⟨hN1, ?_⟩, fun j hj => ?_, fun n hn _ => rfl⟩ ⟨fun n e hn he => (F0.gI (by omega) _).trans (hA.1 n e hn he), fun j h1 hj => by omega, fun j hj => ?_, fun n e a hn he => (T.1.2.2.1 n e a hn he).1⟩ ⟨fun j hj => by omega, fun n hn _ => (F0.gI (by omega) _).trans (hD n hn)⟩ (F0.weaken (fun b q => Or.inr (Or.inr (Or.inl q))))
  · show str 0 = lsuf rs (str 0).tail
    rw [T.1.2.1]; rfl
  · show exAt rs (str 0) = endAt rs (str 0)
    rw [T.1.2.1, en0, ex0]
  · rw [gI_sI, if_pos ⟨rfl, by omega⟩]
end MC
