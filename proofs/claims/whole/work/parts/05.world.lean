theorem s1i_some {st : List Value} {k : Int32 → List Value → Option Out} {o : Out} (h : s1i st k = some o) : ∃ x r, st = .int x :: r ∧ k x r = some o := by
  unfold s1i at h; split at h
  · exact ⟨_, _, rfl, h⟩
  · cases h
theorem s2i_some {st : List Value} {k : Int32 → Int32 → List Value → Option Out} {o : Out} (h : s2i st k = some o) : ∃ x y r, st = .int y :: .int x :: r ∧ k x y r = some o := by
  unfold s2i at h; split at h
  · exact ⟨_, _, _, rfl, h⟩
  · cases h
theorem s1l_some {st : List Value} {k : Int64 → List Value → Option Out} {o : Out} (h : s1l st k = some o) : ∃ x r, st = .long x :: r ∧ k x r = some o := by
  unfold s1l at h; split at h
  · exact ⟨_, _, rfl, h⟩
  · cases h
theorem s2l_some {st : List Value} {k : Int64 → Int64 → List Value → Option Out} {o : Out} (h : s2l st k = some o) : ∃ x y r, st = .long y :: .long x :: r ∧ k x y r = some o := by
  unfold s2l at h; split at h
  · exact ⟨_, _, _, rfl, h⟩
  · cases h
theorem sli_some {st : List Value} {k : Int64 → Int32 → List Value → Option Out} {o : Out} (h : sli st k = some o) : ∃ x y r, st = .int y :: .long x :: r ∧ k x y r = some o := by
  unfold sli at h; split at h
  · exact ⟨_, _, _, rfl, h⟩
  · cases h
theorem s1r_some {st : List Value} {k : Nat → List Value → Option Out} {o : Out} (h : s1r st k = some o) : ∃ a r, st = .ref a :: r ∧ k a r = some o := by
  unfold s1r at h; split at h
  · exact ⟨_, _, rfl, h⟩
  · cases h
theorem sri_some {st : List Value} {k : Nat → Int32 → List Value → Option Out} {o : Out} (h : sri st k = some o) : ∃ a j r, st = .int j :: .ref a :: r ∧ k a j r = some o := by
  unfold sri at h; split at h
  · exact ⟨_, _, _, rfl, h⟩
  · cases h
theorem srii_some {st : List Value} {k : Nat → Int32 → Int32 → List Value → Option Out} {o : Out} (h : srii st k = some o) : ∃ a j x r, st = .int x :: .int j :: .ref a :: r ∧ k a j x r = some o := by
  unfold srii at h; split at h
  · exact ⟨_, _, _, _, rfl, h⟩
  · cases h
theorem sril_some {st : List Value} {k : Nat → Int32 → Int64 → List Value → Option Out} {o : Out} (h : sril st k = some o) : ∃ a j x r, st = .long x :: .int j :: .ref a :: r ∧ k a j x r = some o := by
  unfold sril at h; split at h
  · exact ⟨_, _, _, _, rfl, h⟩
  · cases h
theorem gd_some {b : Bool} {k : Option Out} {o : Out} (h : gd b k = some o) : b = true ∧ k = some o := by
  unfold gd at h; split at h
  · exact ⟨by assumption, h⟩
  · cases h
theorem tg_some {pc : Nat} {off : Int} {k : Nat → Option Out} {o : Out} (h : tg pc off k = some o) : ∃ t : Nat, (pc : Int) + off = (t : Int) ∧ k t = some o := by
  unfold tg at h; split at h
  · rename_i n e
    exact ⟨n, e, h⟩
  · cases h
theorem ldI_some {L : List Value} {i : Nat} {k : Int32 → Option Out} {o : Out} (h : ldI L i k = some o) : ∃ x, L[i]? = some (.int x) ∧ k x = some o := by
  unfold ldI at h; split at h
  · rename_i e
    exact ⟨_, e, h⟩
  · cases h
theorem ldJ_some {L : List Value} {i : Nat} {k : Int64 → Option Out} {o : Out} (h : ldJ L i k = some o) : ∃ x, L[i]? = some (.long x) ∧ k x = some o := by
  unfold ldJ at h; split at h
  · rename_i e
    exact ⟨_, e, h⟩
  · cases h
theorem ldA_some {L : List Value} {i : Nat} {k : Value → Option Out} {o : Out} (h : ldA L i k = some o) : (∃ a, L[i]? = some (.ref a) ∧ k (.ref a) = some o) ∨ (L[i]? = some .null ∧ k .null = some o) := by
  unfold ldA at h; split at h
  · rename_i e
    exact Or.inl ⟨_, e, h⟩
  · rename_i e
    exact Or.inr ⟨e, h⟩
  · cases h
theorem c1_cat {v : Value} (h : c1 v = true) : v.category = 1 := by
  cases v <;> first | rfl | (simp [c1] at h)
theorem st1_some {st : List Value} {k : Value → List Value → Option Out} {o : Out} (h : st1 st k = some o) : ∃ v r, st = v :: r ∧ v.category = 1 ∧ k v r = some o := by
  unfold st1 at h; split at h
  · obtain ⟨h1, h2⟩ := gd_some h
    exact ⟨_, _, rfl, c1_cat h1, h2⟩
  · cases h
theorem isR_or {v : Value} (h : isR v = true) : v = .null ∨ ∃ a, v = .ref a := by
  cases v <;> first | exact Or.inl rfl | exact Or.inr ⟨_, rfl⟩ | (simp [isR] at h)
theorem stR_some {st : List Value} {k : Value → List Value → Option Out} {o : Out} (h : stR st k = some o) : ∃ v r, st = v :: r ∧ (v = .null ∨ ∃ a, v = .ref a) ∧ k v r = some o := by
  unfold stR at h; split at h
  · obtain ⟨h1, h2⟩ := gd_some h
    exact ⟨_, _, rfl, isR_or h1, h2⟩
  · cases h
theorem ar_some {M : Mm} {a : Nat} {k : Nat → Nat → Option Out} {o : Out} (h : ar M a k = some o) : ∃ kd n, sh M a = some (.inr (kd, n)) ∧ k kd n = some o := by
  unfold ar at h; split at h
  · rename_i e
    exact ⟨_, _, e, h⟩
  · cases h
theorem ob_some {M : Mm} {a : Nat} {k : Nat → Option Out} {o : Out} (h : ob M a k = some o) : ∃ ci, sh M a = some (.inl ci) ∧ k ci = some o := by
  unfold ob at h; split at h
  · rename_i e
    exact ⟨_, e, h⟩
  · cases h
theorem nx_some {pc : Nat} {L st : List Value} {M : Mm} {o : Out} (h : nx pc L st M = some o) : o = .inl (pc, L, st, M) := (Option.some.inj h).symm
theorem lk_mem {β : Type} {t : List ((Nat × Nat) × β)} {c i : Nat} {v : β} (h : lk t c i = some v) : ((c, i), v) ∈ t := by
  induction t with
  | nil => cases h
  | cons q r ih =>
    unfold lk at h
    split at h
    · rename_i e
      obtain ⟨⟨a, b⟩, w⟩ := q
      obtain ⟨rfl, rfl⟩ := e
      cases h
      exact List.mem_cons_self
    · exact List.mem_cons_of_mem _ (ih h)
theorem inb_in {j : Int32} {n : Nat} (h : inb j n = true) : vp_in j n := by
  simp only [inb, Bool.and_eq_true, Bool.not_eq_true', decide_eq_false_iff_not, decide_eq_true_eq] at h
  rintro (q | q)
  · exact h.1 q
  · omega
/-! places -/
def Lr (ls : Array Slot) (L : List Value) : Prop := ls.size = L.length ∧ lv_wf ls ∧ ∀ (i : Nat) (v : Value), L[i]? = some v → v ≠ jk → ls[i]? = some (Slot.val v)
def lvL (L : List Value) : List (Nat × Value) := (L.zipIdx.filter (fun q => decide (q.1 ≠ jk))).map (fun q => (q.2, q.1))
theorem mem_lvL {L : List Value} {i : Nat} {v : Value} : (i, v) ∈ lvL L ↔ L[i]? = some v ∧ v ≠ jk := by
  unfold lvL
  rw [List.mem_map]
  constructor
  · rintro ⟨⟨w, j⟩, h, e⟩
    cases e
    rw [List.mem_filter] at h
    exact ⟨List.mem_zipIdx_iff_getElem?.mp h.1, by simpa using h.2⟩
  · rintro ⟨h1, h2⟩
    exact ⟨(v, i), List.mem_filter.mpr ⟨List.mem_zipIdx_iff_getElem?.mpr h1, by simpa using h2⟩, rfl⟩
theorem Lr.has {ls : Array Slot} {L : List Value} (h : Lr ls L) : lv_has ls L.length (lvL L) := ⟨h.1, h.2.1, fun q hq => by
  obtain ⟨i, v⟩ := q
  obtain ⟨h1, h2⟩ := mem_lvL.mp hq
  exact h.2.2 i v h1 h2⟩
theorem Lr.val {ls : Array Slot} {L : List Value} (h : Lr ls L) {i : Nat} {v : Value} (hi : L[i]? = some v) (hv : v ≠ jk) : ls[i]? = some (Slot.val v) := h.2.2 i v hi hv
theorem ls1_len (L : List Value) (i : Nat) (v : Value) : (ls1 L i v).length = L.length := by
  cases i <;> simp [ls1]
theorem ls1_get {L : List Value} {i : Nat} {v : Value} (hi : i < L.length) {j : Nat} {w : Value} (h : (ls1 L i v)[j]? = some w) (hw : w ≠ jk) : (j = i ∧ w = v) ∨ (j ≠ i ∧ L[j]? = some w ∧ ¬ (j + 1 = i ∧ w.category = 2)) := by
  cases i with
  | zero =>
    by_cases e : j = 0
    · subst e
      simp [ls1, hi] at h
      exact Or.inl ⟨rfl, h.symm⟩
    · have e2 : ¬ 0 = j := fun q => e q.symm
      simp only [ls1, List.getElem?_set, e2, if_false] at h
      exact Or.inr ⟨e, h, fun q => by omega⟩
  | succ i =>
    by_cases e : j = i + 1
    · subst e
      simp [ls1, hi] at h
      exact Or.inl ⟨rfl, h.symm⟩
    · have e2 : ¬ i + 1 = j := fun q => e q.symm
      simp only [ls1, List.getElem?_set, e2, if_false, List.getElem?_modify] at h
      refine Or.inr ⟨e, ?_⟩
      cases hj : L[j]? with
      | none => rw [hj] at h; simp at h
      | some u =>
        rw [hj] at h
        by_cases q : i = j
        · cases u <;> simp [q, clr] at h <;> first
            | (subst h; exact ⟨rfl, fun z => by cases z.2⟩)
            | exact absurd h.symm hw
        · simp [q] at h
          subst h
          exact ⟨rfl, fun z => q (by omega)⟩
theorem Lr.st1 {ls' : Array Slot} {L : List Value} {i : Nat} {v : Value} (hi : i < L.length) (h : lv_has ls' L.length ((i, v) :: (lvL L).filter (fun q => !(q.1 == i) && !(q.1 + 1 == i && q.2.category == 2)))) : Lr ls' (ls1 L i v) := by
  refine ⟨by rw [ls1_len]; exact h.1, h.2.1, fun j w hj hw => ?_⟩
  rcases ls1_get hi hj hw with ⟨rfl, rfl⟩ | ⟨h1, h2, h3⟩
  · exact h.2.2 (j, w) List.mem_cons_self
  · refine h.2.2 (j, w) (List.mem_cons_of_mem _ (List.mem_filter.mpr ⟨mem_lvL.mpr ⟨h2, hw⟩, ?_⟩))
    simp only [Bool.and_eq_true, Bool.not_eq_true', beq_eq_false_iff_ne, ne_eq, Bool.and_eq_false_iff]
    refine ⟨h1, ?_⟩
    by_cases q : j + 1 = i
    · exact Or.inr fun z => h3 ⟨q, z⟩
    · exact Or.inl q
theorem Lr.st2 {ls' : Array Slot} {L : List Value} {i : Nat} {v : Value} (hi : i + 1 < L.length) (h : lv_has ls' L.length ((i, v) :: (lvL L).filter (fun q => !(q.1 == i) && (!(q.1 == i + 1) && !(q.1 + 1 == i && q.2.category == 2))))) : Lr ls' (ls2 L i v) := by
  refine ⟨by simp only [ls2, List.length_set, ls1_len]; exact h.1, h.2.1, fun j w hj hw => ?_⟩
  by_cases e : i + 1 = j
  · subst e
    have hlt : i + 1 < (ls1 L i v).length := by rw [ls1_len]; omega
    simp [ls2, hlt] at hj
    exact absurd hj.symm hw
  · simp only [ls2, List.getElem?_set, e, if_false] at hj
    rcases ls1_get (by omega) hj hw with ⟨rfl, rfl⟩ | ⟨h1, h2, h3⟩
    · exact h.2.2 (j, w) List.mem_cons_self
    · refine h.2.2 (j, w) (List.mem_cons_of_mem _ (List.mem_filter.mpr ⟨mem_lvL.mpr ⟨h2, hw⟩, ?_⟩))
      simp only [Bool.and_eq_true, Bool.not_eq_true', beq_eq_false_iff_ne, ne_eq, Bool.and_eq_false_iff]
      refine ⟨h1, fun q => e q.symm, ?_⟩
      by_cases q : j + 1 = i
      · exact Or.inr fun z => h3 ⟨q, z⟩
      · exact Or.inl q
theorem lg_len (vs : List Value) : (lg_sl vs).length = (expd vs).length := by
  induction vs with
  | nil => rfl
  | cons v vs ih =>
    have e : lg_sl (v :: vs) = (if v.category = 2 then [.val v, .second] else [.val v]) ++ lg_sl vs := rfl
    rw [e]
    cases v <;> simp [expd, Value.category, ih] <;> omega
theorem expd_args : ∀ (vs : List Value) (i j : Nat) (v : Value), (expd vs)[j]? = some v → v ≠ jk → (i + j, v) ∈ lv_args i vs := by
  intro vs
  induction vs with
  | nil => intro i j v h; simp [expd] at h
  | cons w vs ih =>
    intro i j v h hv
    have one : expd (w :: vs) = w :: expd vs → lv_args i (w :: vs) = (i, w) :: lv_args (i + 1) vs → (i + j, v) ∈ lv_args i (w :: vs) := by
      intro e1 e2
      rw [e1] at h
      rw [e2]
      cases j with
      | zero =>
        simp only [List.getElem?_cons_zero, Option.some.injEq] at h
        subst h
        exact List.mem_cons_self
      | succ j =>
        simp only [List.getElem?_cons_succ] at h
        have := ih (i + 1) j v h hv
        rw [show i + 1 + j = i + (j + 1) by omega] at this
        exact List.mem_cons_of_mem _ this
    have two : expd (w :: vs) = w :: jk :: expd vs → lv_args i (w :: vs) = (i, w) :: lv_args (i + 2) vs → (i + j, v) ∈ lv_args i (w :: vs) := by
      intro e1 e2
      rw [e1] at h
      rw [e2]
      match j, h with
      | 0, h =>
        simp only [List.getElem?_cons_zero, Option.some.injEq] at h
        subst h
        exact List.mem_cons_self
      | 1, h =>
        simp only [List.getElem?_cons_succ, List.getElem?_cons_zero, Option.some.injEq] at h
        exact absurd h.symm hv
      | j + 2, h =>
        simp only [List.getElem?_cons_succ] at h
        have := ih (i + 2) j v h hv
        rw [show i + 2 + j = i + (j + 2) by omega] at this
        exact List.mem_cons_of_mem _ this
    cases w with
    | long x => exact two rfl rfl
    | double x => exact two rfl rfl
    | int x => exact one rfl rfl
    | float x => exact one rfl rfl
    | null => exact one rfl rfl
    | ref x => exact one rfl rfl
    | retAddr x => exact one rfl rfl
theorem Lr_ent (vs : List Value) {n : Nat} (h : (expd vs).length ≤ n) : Lr ((lg_sl vs ++ List.replicate (n - (lg_sl vs).length) Slot.unset).toArray) (ent n vs) := by
  have h0 : (lg_sl vs).length ≤ n := by rw [lg_len]; exact h
  obtain ⟨h1, h2, h3⟩ := lv_entry vs h0
  refine ⟨by rw [h1]; simp [ent]; omega, h2, fun i v hi hv => ?_⟩
  unfold ent at hi
  rw [List.getElem?_append] at hi
  split at hi
  · have := expd_args vs 0 i v hi hv
    rw [Nat.zero_add] at this
    exact h3 (i, v) this
  · rw [List.getElem?_replicate] at hi
    split at hi
    · exact absurd (Option.some.inj hi).symm hv
    · cases hi
/-! the world: G = (classes' numbers and slots, classes of arrays, the script's cell, how much there was before) -/
abbrev Gp : Type := va_G × (Nat → ClassId) × Cell × Nat
def aTy (k : Nat) : Option FieldType := match k with
  | 0 => some .int
  | 1 => some .long
  | 2 => some .byte
  | 3 => some .boolean
  | 10 => some (.object (cN 10))
  | 11 => some (.object (cN 8))
  | 12 => some (.object (cN 4))
  | _ => none
def KK (G : Gp) (U : State) : Prop := va_K G.1 classes [] U ∧ (∀ k ty, aTy k = some ty → ArrOfT U (G.2.1 k) ty ∧ va_RA U (G.2.1 k) ty ∧ ∀ C, ty = .object C → va_AO C U) ∧ U.isArrayOf G.2.2.1 .int ∧ G.2.2.1.vm ≠ .unknown ∧ ∀ w ∈ nests, va_Nw w U
theorem KK.moved {G : Gp} {u U : State} (hW : u.WarmedH U.vm) (h : KK G u) : KK G U := by
  have hvm := hW.alike
  refine ⟨va_K.moved hvm h.1, fun k ty hk => ⟨arrOfT_moved hvm (h.2.1 k ty hk).1, (h.2.1 k ty hk).2.1.moved hvm, fun C e => va_AO.moved hvm ((h.2.1 k ty hk).2.2 C e)⟩, State.isArrayOf_alike hvm h.2.2.1, h.2.2.2.1, fun w hw => ?_⟩
  have := h.2.2.2.2 w hw
  obtain ⟨a, i, x, z, rfl⟩ := nests_form w hw
  exact va_Nw.warmM hW this
theorem KK.same {G : Gp} {u U : State} (e : u.vm = U.vm) (h : KK G u) : KK G U := by
  have hvm : u.vm.Alike U.vm := by rw [e]; exact Vm.Alike.refl _
  refine ⟨va_K.moved hvm h.1, fun k ty hk => ⟨arrOfT_moved hvm (h.2.1 k ty hk).1, (h.2.1 k ty hk).2.1.moved hvm, fun C e => va_AO.moved hvm ((h.2.1 k ty hk).2.2 C e)⟩, State.isArrayOf_alike hvm h.2.2.1, h.2.2.2.1, fun w hw => ?_⟩
  have := h.2.2.2.2 w hw
  obtain ⟨a, i, x, z, rfl⟩ := nests_form w hw
  exact va_Nw.same rfl e this
/-- what a field holds, what a place of an array holds -/
def fV (M : Mm) (ci a k : Nat) : Value := match tk (cY ci k) with
  | 0 => .int (gI M a k)
  | 1 => .long (gJ M a k)
  | _ => va_rf (gR M a k)
def eV (M : Mm) (kd a j : Nat) : Value := match kd with
  | 0 => .int (gI M a j)
  | 1 => .long (gJ M a j)
  | 2 => .int (gI M a j)
  | 3 => .int (gI M a j)
  | _ => va_rf (gR M a j)
def iv1 (G : Gp) (M : Mm) (a : Nat) (t : Tg) (H : Heap) : Prop := match t with
  | .inr (k, n) => (k ≠ 9 ∧ (aTy k).isSome = true ∧ G.2.2.2 ≤ a ∧ H[a]? = some (arrV (G.2.1 k) n (eV M k a))) ∨ (k = 9 ∧ a < G.2.2.2 ∧ H[a]? = some G.2.2.1 ∧ n = G.2.2.1.slots.size ∧ ∀ j, j < n → G.2.2.1.slots[j]? = some (.int (gI M a j)))
  | .inl ci => G.2.2.2 ≤ a ∧ ∃ r, classes[ci]? = some r ∧ t_OB a (G.1.1 ci) r.2.2 (G.1.2 ci) H (fV M ci a)
def Iv (G : Gp) (M : Mm) (H : Heap) : Prop := H.size = nxt M ∧ G.2.2.2 ≤ nxt M ∧ ∀ a t, sh M a = some t → iv1 G M a t H
theorem iv1.lt {G : Gp} {M : Mm} {a : Nat} {t : Tg} {H : Heap} (h : iv1 G M a t H) : a < H.size := by
  rcases t with ci | ⟨k, n⟩
  · obtain ⟨h1, r, h2, cell, h4, -⟩ := h
    exact (Array.getElem?_eq_some_iff.mp h4).1
  · rcases h with ⟨h1, h2, h3, h4⟩ | ⟨h1, h2, h3, h4⟩
    · exact (Array.getElem?_eq_some_iff.mp h4).1
    · exact (Array.getElem?_eq_some_iff.mp h3).1
/-- a cell whose contents are as they were -/
theorem iv1.kept {G : Gp} {M M1 : Mm} {a : Nat} {t : Tg} {H H1 : Heap} (h : iv1 G M a t H) (e : H1[a]? = H[a]?) (hI : ∀ j, gI M1 a j = gI M a j) (hJ : ∀ j, gJ M1 a j = gJ M a j) (hR : ∀ j, gR M1 a j = gR M a j) : iv1 G M1 a t H1 := by
  have e1 : ∀ ci, fV M1 ci a = fV M ci a := fun ci => by funext k; simp only [fV, hI, hJ, hR]
  have e2 : ∀ kd, eV M1 kd a = eV M kd a := fun kd => by funext k; simp only [eV, hI, hJ, hR]
  rcases t with ci | ⟨k, n⟩
  · obtain ⟨h1, r, h2, h4⟩ := h
    exact ⟨h1, r, h2, by rw [e1]; exact h4.kept e⟩
  · rcases h with ⟨h1, h2, h3, h4⟩ | ⟨h1, h2, h3, h4, h5⟩
    · exact Or.inl ⟨h1, h2, h3, by rw [e2]; exact e.trans h4⟩
    · exact Or.inr ⟨h1, h2, e.trans h3, h4, fun j hj => by rw [hI]; exact h5 j hj⟩
/-- one cell has changed -/
theorem Iv.put {G : Gp} {M M1 : Mm} {H H1 : Heap} {a : Nat} (h : Iv G M H) (hs : M1.1 = M.1) (hn : nxt M1 = nxt M) (hx : ∀ t, sh M a = some t → iv1 G M1 a t H1) (z : H1.size = H.size) (oq : ∀ q : Nat, q ≠ a → H1[q]? = H[q]?)
    (hI : ∀ b j, b ≠ a → gI M1 b j = gI M b j) (hJ : ∀ b j, b ≠ a → gJ M1 b j = gJ M b j) (hR : ∀ b j, b ≠ a → gR M1 b j = gR M b j) : Iv G M1 H1 := by
  refine ⟨by rw [z, hn]; exact h.1, by rw [hn]; exact h.2.1, fun q t hq => ?_⟩
  have hq' : sh M q = some t := by rw [← hq]; simp only [sh, hs]
  by_cases e : q = a
  · subst e
    exact hx t hq'
  · exact (h.2.2 q t hq').kept (oq q e) (fun j => hI q j e) (fun j => hJ q j e) (fun j => hR q j e)
theorem Iv.new {G : Gp} {M : Mm} {H H1 : Heap} {t : Tg} {n : Nat} (h : Iv G M H) (hx : iv1 G (nw M t n) H.size t H1) (z : H1.size = H.size + 1) (oq : ∀ q : Nat, q < H.size → H1[q]? = H[q]?) : Iv G (nw M t n) H1 := by
  refine ⟨by rw [z, h.1]; rfl, Nat.le_succ_of_le h.2.1, fun q y hq => ?_⟩
  by_cases e : q = nxt M
  · have : y = t := by
      simp only [sh, nw, e, if_true, Option.some.injEq] at hq
      exact hq.symm
    subst this
    rw [e, ← h.1]
    exact hx
  · have hq' : sh M q = some y := by
      simp only [sh, nw, e, if_false] at hq
      exact hq
    have h2 := h.2.2 q y hq'
    exact h2.kept (oq q h2.lt) (fun j => by simp [gI, nw, e]) (fun j => by simp [gJ, nw, e]) (fun j => by simp [gR, nw, e])
