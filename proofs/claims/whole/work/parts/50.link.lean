/-- as many as there are in a set, if all differ -/
theorem nodup_le : ∀ {l : List Nat} {m : List Nat}, l.Nodup → (∀ x ∈ l, x ∈ m) → l.length ≤ m.length := by
  intro l
  induction l with
  | nil => intro m _ _; simp
  | cons a l ih =>
    intro m hn hs
    rw [List.nodup_cons] at hn
    have ha := hs a List.mem_cons_self
    have h2 : l.length ≤ (m.erase a).length := ih hn.2 (fun x hx => by
      refine (List.mem_erase_of_ne (fun (e : x = a) => hn.1 (e ▸ hx))).mpr (hs x (List.mem_cons_of_mem _ hx)))
    rw [List.length_erase_of_mem ha] at h2
    have := List.length_pos_of_mem ha
    simp only [List.length_cons]
    omega
/-- the trie has the beginnings of the LIVE LEFTS, whose letters are below k -/
def TrR (rs : List Ru) (k N : Nat) (str : Nat → List Nat) (nx : Nat → Nat → Option Nat) : Prop := Trie N str nx ∧ (∀ n, n < N → pf rs (str n) = true) ∧ (∀ s, pf rs s = true → ∃ n, n < N ∧ str n = s) ∧ (∀ u ∈ rs, u.2.2 = true → u.1 ≠ [] ∧ ∀ c ∈ u.1, c < k)
theorem TrR.lt {rs : List Ru} {k N : Nat} {str : Nat → List Nat} {nx : Nat → Nat → Option Nat} (h : TrR rs k N str nx) {n c m : Nat} (hn : n < N) (e : nx n c = some m) : c < k := by
  obtain ⟨hm, hs⟩ := h.1.2.2.1 n c m hn e
  have hp := h.2.1 m hm
  rw [hs] at hp
  obtain ⟨u, hu, hl, hpre⟩ := (pf_iff (by simp)).mp hp
  exact (h.2.2.2 u hu hl).2 c (hpre.subset (List.mem_append_right _ List.mem_cons_self))
theorem TrR.pf_nx {rs : List Ru} {k N : Nat} {str : Nat → List Nat} {nx : Nat → Nat → Option Nat} (h : TrR rs k N str nx) {n c : Nat} (hn : n < N) (e : nx n c = none) : pf rs (str n ++ [c]) = false := by
  cases hp : pf rs (str n ++ [c]) with
  | false => rfl
  | true =>
    obtain ⟨m, hm, hs⟩ := h.2.2.1 _ hp
    rw [h.1.nx_of hn hm hs] at e
    cases e
/-- the linking, node od h at letter c; q are ordered -/
def LkI (rs : List Ru) (k N : Nat) (str : Nat → List Nat) (nx full : Nat → Nat → Option Nat) (fl od : Nat → Nat) (en : Nat → Option Nat) (h q c : Nat) : Prop :=
  (1 ≤ q ∧ q ≤ N ∧ od 0 = 0 ∧ h ≤ q) ∧
  ((∀ j, j < q → od j < N) ∧ ∀ i j, i < q → j < q → od i = od j → i = j) ∧
  (∀ i j, i ≤ j → j < q → (str (od i)).length ≤ (str (od j)).length) ∧
  (h < q → ∀ j, j < q → (str (od j)).length ≤ (str (od h)).length + 1) ∧
  (∀ j e, (j < h ∧ e < k) ∨ (j = h ∧ h < q ∧ e < c) → ∃ m, m < N ∧ full (od j) e = some m ∧ str m = lsuf rs (str (od j) ++ [e])) ∧
  (∀ j e m, j < h ∨ (j = h ∧ h < q ∧ e < c) → nx (od j) e = some m → ∃ i, i < q ∧ od i = m) ∧
  (∀ i, 1 ≤ i → i < q → ∃ j e, (j < h ∨ (j = h ∧ e < c)) ∧ j < q ∧ nx (od j) e = some (od i)) ∧
  (∀ n e, n < N → (∀ j, j < h → od j ≠ n) → ¬ (h < q ∧ od h = n ∧ e < c) → full n e = nx n e) ∧
  (∀ j, j < q → fl (od j) < N ∧ str (fl (od j)) = lsuf rs (str (od j)).tail) ∧
  ((∀ j, j < q → en (od j) = endAt rs (str (od j))) ∧ ∀ n, n < N → (∀ j, j < q → od j ≠ n) → en n = exAt rs (str n))
section LKI
variable {rs : List Ru} {k N : Nat} {str : Nat → List Nat} {nx full : Nat → Nat → Option Nat} {fl od : Nat → Nat} {en : Nat → Option Nat} {h q c : Nat}
theorem LkI.short (T : TrR rs k N str nx) (I : LkI rs k N str nx full fl od en h q c) (hq : h < q) : ∀ n m, m < N → (str m).length = n → n < (str (od h)).length → ∃ j, j < h ∧ od j = m := by
  obtain ⟨⟨a1, a2, a3, a4⟩, ⟨b1, b2⟩, s1, s2, p1, p2, p3, r1, f1, e1, e2⟩ := I
  intro n
  induction n with
  | zero =>
    intro m hm hl hlt
    have : str m = [] := List.length_eq_zero_iff.mp hl
    have hm0 : m = 0 := T.1.2.2.2.2 m 0 hm T.1.1 (by rw [this, T.1.2.1])
    refine ⟨0, ?_, by rw [a3, hm0]⟩
    rcases Nat.eq_zero_or_pos h with h0 | h0
    · rw [h0, a3, T.1.2.1] at hlt
      simp at hlt
    · exact h0
  | succ n ih =>
    intro m hm hl hlt
    have hm0 : m ≠ 0 := fun q => by rw [q, T.1.2.1] at hl; simp at hl
    obtain ⟨p, e, hp, hpe⟩ := T.1.2.2.2.1 m hm hm0
    have hs := (T.1.2.2.1 p e m hp hpe).2
    have hlp : (str p).length = n := by rw [hs] at hl; simpa using hl
    obtain ⟨j, hj, ej⟩ := ih p hp hlp (by omega)
    obtain ⟨i, hi, ei⟩ := p2 j e m (Or.inl hj) (by rw [ej]; exact hpe)
    refine ⟨i, ?_, ei⟩
    rcases Nat.lt_or_ge i h with q1 | q1
    · exact q1
    · have := s1 h i q1 hi
      rw [ei] at this
      omega
theorem LkI.leq (T : TrR rs k N str nx) (I : LkI rs k N str nx full fl od en h q c) (hq : h < q) {m : Nat} (hm : m < N) (hl : (str m).length ≤ (str (od h)).length) : ∃ j, j < q ∧ od j = m := by
  have I0 := I
  obtain ⟨⟨a1, a2, a3, a4⟩, ⟨b1, b2⟩, s1, s2, p1, p2, p3, r1, f1, e1, e2⟩ := I
  by_cases hm0 : m = 0
  · exact ⟨0, by omega, by rw [a3, hm0]⟩
  · obtain ⟨p, e, hp, hpe⟩ := T.1.2.2.2.1 m hm hm0
    have hs := (T.1.2.2.1 p e m hp hpe).2
    have hlp : (str m).length = (str p).length + 1 := by rw [hs]; simp
    obtain ⟨j, hj, ej⟩ := LkI.short T I0 hq _ p hp rfl (by omega)
    exact p2 j e m (Or.inl hj) (by rw [ej]; exact hpe)
/-- what falls back -/
theorem LkI.shorter (T : TrR rs k N str nx) (I : LkI rs k N str nx full fl od en h q c) (hq : h < q) (hc : c < k) : ∃ m, m < N ∧ (od h = 0 → m = 0) ∧ (od h ≠ 0 → full (fl (od h)) c = some m) ∧ str m = lsuf rs (str (od h) ++ [c]).tail ∧ (str m).length ≤ (str (od h)).length := by
  have I0 := I
  obtain ⟨⟨a1, a2, a3, a4⟩, ⟨b1, b2⟩, s1, s2, p1, p2, p3, r1, f1, e1, e2⟩ := I
  by_cases h0 : od h = 0
  · refine ⟨0, T.1.1, fun _ => rfl, fun z => absurd h0 z, ?_, ?_⟩
    · rw [h0, T.1.2.1]; rfl
    · rw [T.1.2.1]; simp
  · obtain ⟨fN, fs⟩ := f1 h hq
    have hne : str (od h) ≠ [] := fun z => h0 (T.1.2.2.2.2 _ 0 (b1 h hq) T.1.1 (by rw [z, T.1.2.1]))
    have hlt : (str (fl (od h))).length < (str (od h)).length := by
      rw [fs]
      have := (lsuf_suf rs (str (od h)).tail).length_le
      have h2 : (str (od h)).tail.length = (str (od h)).length - 1 := List.length_tail
      have h3 : 0 < (str (od h)).length := List.length_pos_iff.mpr hne
      omega
    obtain ⟨j, hj, ej⟩ := LkI.short T I0 hq _ _ fN rfl hlt
    obtain ⟨m, hm, hfm, hsm⟩ := p1 j c (Or.inl ⟨hj, hc⟩)
    rw [ej] at hfm hsm
    have e9 : str m = lsuf rs (str (od h) ++ [c]).tail := by
      rw [hsm, fs, ← lsuf_snoc, List.tail_append_of_ne_nil hne]
    refine ⟨m, hm, fun z => absurd z h0, fun _ => hfm, e9, ?_⟩
    rw [e9]
    have := (lsuf_suf rs (str (od h) ++ [c]).tail).length_le
    simp at this
    omega
/-- a letter that doesn't go on -/
theorem LkI.stay (T : TrR rs k N str nx) (I : LkI rs k N str nx full fl od en h q c) (hq : h < q) (hn : nx (od h) c = none) {m : Nat} (hm : m < N) (hs : str m = lsuf rs (str (od h) ++ [c]).tail) : LkI rs k N str nx (upd2 full (od h) c (some m)) fl od en h q (c + 1) := by
  obtain ⟨⟨a1, a2, a3, a4⟩, ⟨b1, b2⟩, s1, s2, p1, p2, p3, r1, f1, e1, e2⟩ := I
  refine ⟨⟨a1, a2, a3, a4⟩, ⟨b1, b2⟩, s1, s2, fun j e hj => ?_, fun j e m' hj he => ?_, fun i i1 i2 => ?_, fun n e hnN hj hz => ?_, f1, e1, e2⟩
  · by_cases z : j = h ∧ e = c
    · obtain ⟨rfl, rfl⟩ := z
      refine ⟨m, hm, by unfold upd2; rw [if_pos ⟨rfl, rfl⟩], ?_⟩
      have hp := T.pf_nx (b1 j hq) hn
      rw [hs]
      cases hl : str (od j) ++ [e] with
      | nil => simp at hl
      | cons a t =>
        rw [hl] at hp
        show lsuf rs t = lsuf rs (a :: t)
        conv => rhs; unfold lsuf
        rw [if_neg (by rw [hp]; decide)]
    · obtain ⟨m', h1, h2, h3⟩ := p1 j e (by omega)
      refine ⟨m', h1, ?_, h3⟩
      unfold upd2
      rw [if_neg]
      · exact h2
      · intro y
        have : j = h := b2 j h (by omega) hq y.1
        exact z ⟨this, y.2⟩
  · by_cases z : j = h ∧ e = c
    · obtain ⟨rfl, rfl⟩ := z
      rw [hn] at he; cases he
    · exact p2 j e m' (by omega) he
  · obtain ⟨j, e, h1, h2, h3⟩ := p3 i i1 i2
    exact ⟨j, e, by omega, h2, h3⟩
  · unfold upd2
    rw [if_neg (fun y => hz ⟨hq, y.1.symm, by omega⟩)]
    exact r1 n e hnN hj (fun y => hz ⟨y.1, y.2.1, by omega⟩)
/-- a letter that goes on: the child is ordered -/
theorem LkI.child (T : TrR rs k N str nx) (I : LkI rs k N str nx full fl od en h q c) (hq : h < q) {m sN : Nat} (hn : nx (od h) c = some m) (hm : sN < N) (hs : str sN = lsuf rs (str (od h) ++ [c]).tail) (hl : (str sN).length ≤ (str (od h)).length) :
    LkI rs k N str nx full (upd1 fl m sN) (upd1 od q m) (upd1 en m (omin (en m) (en sN))) h (q + 1) (c + 1) ∧ q < N ∧ full (od h) c = some m ∧ m < N := by
  have I0 := I
  obtain ⟨⟨a1, a2, a3, a4⟩, ⟨b1, b2⟩, s1, s2, p1, p2, p3, r1, f1, e1, e2⟩ := I
  obtain ⟨mN, ms⟩ := T.1.2.2.1 _ c m (b1 h hq) hn
  have hlm : (str m).length = (str (od h)).length + 1 := by rw [ms]; simp
  have fresh : ∀ j, j < q → od j ≠ m := by
    intro j hj e
    by_cases j0 : j = 0
    · rw [j0, a3] at e
      rw [← e, T.1.2.1] at hlm
      simp at hlm
    · obtain ⟨j', e', h1, h2, h3⟩ := p3 j (by omega) hj
      rw [e] at h3
      have hs' := (T.1.2.2.1 _ e' m (b1 j' h2) h3).2
      rw [ms] at hs'
      obtain ⟨x1, x2⟩ := List.append_inj' hs' rfl
      cases x2
      have := T.1.2.2.2.2 _ _ (b1 h hq) (b1 j' h2) x1
      have := b2 h j' hq h2 this
      omega
  have hqN : q < N := by
    rcases Nat.lt_or_ge q N with x | x
    · exact x
    · exfalso
      have hq2 : q = N := by omega
      have hnd : ((List.range q).map od).Nodup := by
        rw [List.nodup_iff_pairwise_ne] 
        rw [List.pairwise_map]
        refine List.Pairwise.imp_of_mem ?_ (List.pairwise_lt_range)
        intro a b ha hb hab e
        have := b2 a b (List.mem_range.mp ha) (List.mem_range.mp hb) e
        omega
      have hnd2 : (m :: (List.range q).map od).Nodup := by
        rw [List.nodup_cons]
        refine ⟨fun hm2 => ?_, hnd⟩
        obtain ⟨j, hj, e⟩ := List.mem_map.mp hm2
        exact fresh j (List.mem_range.mp hj) e
      have hsub : ∀ x ∈ (m :: (List.range q).map od), x ∈ List.range N := by
        intro x hx
        rcases List.mem_cons.mp hx with rfl | hx
        · exact List.mem_range.mpr mN
        · obtain ⟨j, hj, rfl⟩ := List.mem_map.mp hx
          exact List.mem_range.mpr (b1 j (List.mem_range.mp hj))
      have := nodup_le hnd2 hsub
      simp at this
      omega
  have odO : ∀ j, j < q → upd1 od q m j = od j := fun j hj => by unfold upd1; rw [if_neg (by omega)]
  have odN : upd1 od q m q = m := by unfold upd1; rw [if_pos rfl]
  have hfull : full (od h) c = some m := by
    rw [r1 (od h) c (b1 h hq) (fun j hj e => by have := b2 j h (by omega) hq e; omega) (fun y => by omega)]
    exact hn
  refine ⟨⟨⟨by omega, by omega, by rw [odO 0 (by omega)]; exact a3, by omega⟩, ⟨fun j hj => ?_, fun i j hi hj e => ?_⟩, fun i j hij hj => ?_, fun _ j hj => ?_, fun j e hj => ?_, fun j e m' hj he => ?_, fun i i1 i2 => ?_, fun n e hnN hj hz => ?_, fun j hj => ?_, fun j hj => ?_, fun n hnN hj => ?_⟩, hqN, hfull, mN⟩
  · by_cases z : j = q
    · rw [z, odN]; exact mN
    · rw [odO j (by omega)]; exact b1 j (by omega)
  · by_cases z1 : i = q
    · by_cases z2 : j = q
      · omega
      · rw [z1, odN, odO j (by omega)] at e
        exact absurd e.symm (fresh j (by omega))
    · by_cases z2 : j = q
      · rw [z2, odN, odO i (by omega)] at e
        exact absurd e (fresh i (by omega))
      · rw [odO i (by omega), odO j (by omega)] at e
        exact b2 i j (by omega) (by omega) e
  · by_cases z2 : j = q
    · rw [z2, odN]
      by_cases z1 : i = q
      · rw [z1, odN]; exact Nat.le_refl _
      · rw [odO i (by omega), hlm]
        exact s2 hq i (by omega)
    · rw [odO i (by omega), odO j (by omega)]
      exact s1 i j hij (by omega)
  · rw [odO h hq]
    by_cases z : j = q
    · rw [z, odN]; omega
    · rw [odO j (by omega)]; exact s2 hq j (by omega)
  · have hj2 : j < q := by omega
    rw [odO j hj2]
    by_cases z : j = h ∧ e = c
    · obtain ⟨rfl, rfl⟩ := z
      exact ⟨m, mN, hfull, by rw [lsuf_self (by rw [← ms]; exact T.2.1 m mN), ms]⟩
    · exact p1 j e (by omega)
  · have hj2 : j < q := by omega
    rw [odO j hj2] at he
    by_cases z : j = h ∧ e = c
    · obtain ⟨rfl, rfl⟩ := z
      rw [hn] at he
      cases he
      exact ⟨q, by omega, odN⟩
    · obtain ⟨i, hi, ei⟩ := p2 j e m' (by omega) he
      exact ⟨i, by omega, by rw [odO i hi]; exact ei⟩
  · by_cases z : i = q
    · exact ⟨h, c, by omega, by omega, by rw [z, odN, odO h hq]; exact hn⟩
    · obtain ⟨j, e, h1, h2, h3⟩ := p3 i i1 (by omega)
      exact ⟨j, e, by omega, by omega, by rw [odO j h2, odO i (by omega)]; exact h3⟩
  · rw [odO h hq] at hz
    exact r1 n e hnN (fun j hj2 => by have := hj j hj2; rw [odO j (by omega)] at this; exact this) (fun y => hz ⟨by omega, y.2.1, by omega⟩)
  · by_cases z : j = q
    · rw [z, odN]
      unfold upd1
      rw [if_pos rfl]
      exact ⟨hm, by rw [hs, ms]⟩
    · rw [odO j (by omega)]
      unfold upd1
      rw [if_neg (fresh j (by omega))]
      exact f1 j (by omega)
  · by_cases z : j = q
    · rw [z, odN]
      unfold upd1
      rw [if_pos rfl]
      obtain ⟨js, hjs, ejs⟩ := LkI.leq T I0 hq hm hl
      have e3 : en sN = endAt rs (str sN) := by rw [← ejs]; exact e1 js hjs
      rw [e2 m mN fresh, e3, ms, hs]
      cases hl2 : str (od h) ++ [c] with
      | nil => simp at hl2
      | cons a t => exact (endAt_cons rs a t).symm
    · rw [odO j (by omega)]
      unfold upd1
      rw [if_neg (fresh j (by omega))]
      exact e1 j (by omega)
  · have hnm : n ≠ m := fun y => hj q (by omega) (by rw [odN, y])
    unfold upd1
    rw [if_neg hnm]
    exact e2 n hnN (fun j hj2 => by have := hj j (by omega); rw [odO j hj2] at this; exact this)
/-- a node is done -/
theorem LkI.next (T : TrR rs k N str nx) (I : LkI rs k N str nx full fl od en h q k) (hq : h < q) : LkI rs k N str nx full fl od en (h + 1) q 0 := by
  obtain ⟨⟨a1, a2, a3, a4⟩, ⟨b1, b2⟩, s1, s2, p1, p2, p3, r1, f1, e1, e2⟩ := I
  refine ⟨⟨a1, a2, a3, by omega⟩, ⟨b1, b2⟩, s1, fun h2 j hj => ?_, fun j e hj => p1 j e (by omega), fun j e m hj he => ?_, fun i i1 i2 => ?_, fun n e hnN hj hz => ?_, f1, e1, e2⟩
  · have := s2 hq j hj
    have h3 := s1 h (h + 1) (by omega) h2
    omega
  · by_cases z : j = h
    · subst z
      exact p2 j e m (Or.inr ⟨rfl, hq, T.lt (b1 j hq) he⟩) he
    · exact p2 j e m (by omega) he
  · obtain ⟨j, e, h1, h2, h3⟩ := p3 i i1 i2
    exact ⟨j, e, by omega, h2, h3⟩
  · refine r1 n e hnN (fun j hj2 => hj j (by omega)) (fun y => hj h (by omega) y.2.1)
/-- all are done -/
theorem LkI.fin (T : TrR rs k N str nx) (I : LkI rs k N str nx full fl od en q q c) : (∀ n e, n < N → e < k → ∃ m, m < N ∧ full n e = some m ∧ str m = lsuf rs (str n ++ [e])) ∧ ∀ n, n < N → en n = endAt rs (str n) := by
  obtain ⟨⟨a1, a2, a3, a4⟩, ⟨b1, b2⟩, s1, s2, p1, p2, p3, r1, f1, e1, e2⟩ := I
  have cov : ∀ d m, m < N → (str m).length = d → ∃ j, j < q ∧ od j = m := by
    intro d
    induction d with
    | zero =>
      intro m hm hl
      have : str m = [] := List.length_eq_zero_iff.mp hl
      have hm0 : m = 0 := T.1.2.2.2.2 m 0 hm T.1.1 (by rw [this, T.1.2.1])
      exact ⟨0, by omega, by rw [a3, hm0]⟩
    | succ d ih =>
      intro m hm hl
      have hm0 : m ≠ 0 := fun q => by rw [q, T.1.2.1] at hl; simp at hl
      obtain ⟨p, e, hp, hpe⟩ := T.1.2.2.2.1 m hm hm0
      have hs := (T.1.2.2.1 p e m hp hpe).2
      have hlp : (str p).length = d := by rw [hs] at hl; simpa using hl
      obtain ⟨j, hj, ej⟩ := ih p hp hlp
      exact p2 j e m (Or.inl hj) (by rw [ej]; exact hpe)
  refine ⟨fun n e hn he => ?_, fun n hn => ?_⟩
  · obtain ⟨j, hj, ej⟩ := cov _ n hn rfl
    obtain ⟨m, h1, h2, h3⟩ := p1 j e (Or.inl ⟨hj, he⟩)
    rw [ej] at h2 h3
    exact ⟨m, h1, h2, h3⟩
  · obtain ⟨j, hj, ej⟩ := cov _ n hn rfl
    rw [← ej]
    exact e1 j hj
end LKI
