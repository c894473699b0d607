/-! counting ways in a graph, and the counting by nodes whose ways in are all counted -/
theorem sum_le_mem {f : Nat → Nat} : ∀ {l : List Nat} {a : Nat}, a ∈ l → f a ≤ (l.map f).sum := by
  intro l
  induction l with
  | nil => intro a h; simp at h
  | cons b l ih =>
    intro a h
    rw [List.map_cons, List.sum_cons]
    rcases List.mem_cons.mp h with rfl | h
    · omega
    · have := ih h; omega
theorem sum_zero {f : Nat → Nat} : ∀ {l : List Nat}, (l.map f).sum = 0 → ∀ a ∈ l, f a = 0 := by
  intro l h a ha
  have := sum_le_mem (f := f) ha
  omega
theorem sum_zero' {f : Nat → Nat} : ∀ {l : List Nat}, (∀ a ∈ l, f a = 0) → (l.map f).sum = 0 := by
  intro l
  induction l with
  | nil => intro _; rfl
  | cons b l ih =>
    intro h
    rw [List.map_cons, List.sum_cons, h b List.mem_cons_self, ih (fun a ha => h a (List.mem_cons_of_mem _ ha))]
theorem sum_congr {f g : Nat → Nat} : ∀ {l : List Nat}, (∀ a ∈ l, f a = g a) → (l.map f).sum = (l.map g).sum := by
  intro l h
  rw [List.map_congr_left h]
theorem sum_upd {val T : Nat → Nat} {t v : Nat} : ∀ {U : List Nat}, U.Nodup → t ∈ U → (U.map (fun n => upd1 val t (val t + v) n * T n)).sum = (U.map (fun n => val n * T n)).sum + v * T t := by
  intro U
  induction U with
  | nil => intro _ h; simp at h
  | cons b U ih =>
    intro hn ht
    rw [List.map_cons, List.sum_cons, List.map_cons, List.sum_cons]
    obtain ⟨h1, h2⟩ := List.nodup_cons.mp hn
    rcases List.mem_cons.mp ht with rfl | ht
    · have e : (U.map (fun n => upd1 val t (val t + v) n * T n)).sum = (U.map (fun n => val n * T n)).sum := sum_congr (fun a ha => by
        have hq : ¬ a = t := fun q => by subst q; exact h1 ha
        unfold upd1
        rw [if_neg hq])
      rw [e]
      unfold upd1
      rw [if_pos rfl, Nat.add_mul]
      omega
    · have hb : b ≠ t := fun q => h1 (q ▸ ht)
      rw [ih h2 ht]
      unfold upd1
      rw [if_neg hb]
      omega
theorem sum_erase {f : Nat → Nat} {t : Nat} : ∀ {U : List Nat}, t ∈ U → (U.map f).sum = f t + ((U.erase t).map f).sum := by
  intro U
  induction U with
  | nil => intro h; simp at h
  | cons b U ih =>
    intro ht
    by_cases hb : b = t
    · subst hb
      rw [List.erase_cons_head, List.map_cons, List.sum_cons]
    · rcases List.mem_cons.mp ht with q | ht
      · exact absurd q.symm hb
      · rw [List.erase_cons_tail (by simpa using hb), List.map_cons, List.sum_cons, List.map_cons, List.sum_cons, ih ht]
        omega
theorem cP_erase {p : Nat × Nat → Bool} {a : Nat × Nat} : ∀ {l : List (Nat × Nat)}, a ∈ l → l.countP p = (if p a = true then 1 else 0) + (l.erase a).countP p := by
  intro l
  induction l with
  | nil => intro h; simp at h
  | cons b l ih =>
    intro h
    by_cases hb : b = a
    · subst hb
      rw [List.erase_cons_head, List.countP_cons]
      omega
    · rcases List.mem_cons.mp h with q | h
      · exact absurd q.symm hb
      · rw [List.erase_cons_tail (by simpa using hb), List.countP_cons, List.countP_cons, ih h]
        omega
theorem nd_edges {k : Nat} : ∀ {U : List Nat}, U.Nodup → (U.flatMap (fun m => (List.range k).map (fun l => (m, l)))).Nodup := by
  intro U
  induction U with
  | nil => intro _; simp
  | cons b U ih =>
    intro h
    obtain ⟨h1, h2⟩ := List.nodup_cons.mp h
    rw [List.flatMap_cons]
    refine List.nodup_append.mpr ⟨?_, ih h2, fun x hx y hy z => ?_⟩
    · refine List.Pairwise.map _ (fun a c hac => ?_) (List.nodup_range (n := k))
      intro z
      exact hac (congrArg Prod.snd z)
    · subst z
      obtain ⟨l, -, rfl⟩ := List.mem_map.mp hx
      obtain ⟨m, hm, hy2⟩ := List.mem_flatMap.mp hy
      obtain ⟨l2, -, e⟩ := List.mem_map.mp hy2
      have : m = b := congrArg Prod.fst e
      exact h1 (this ▸ hm)
/-- with how many words of so many letters a node goes on -/
def wyG (k : Nat) (to : Nat → Nat → Nat) (ok : Nat → Bool) : Nat → Nat → Nat
  | 0, n => if ok n = true then 1 else 0
  | m + 1, n => if ok n = true then ((List.range k).map (fun l => wyG k to ok m (to n l))).sum else 0
section GR
variable {k : Nat} {to : Nat → Nat → Nat} {ok : Nat → Bool}
theorem wyG_bad {m n : Nat} (h : ok n = false) : wyG k to ok m n = 0 := by
  cases m <;> simp [wyG, h]
theorem wyG_mono0 : ∀ (m n : Nat), wyG k to ok m n = 0 → wyG k to ok (m + 1) n = 0 := by
  intro m
  induction m with
  | zero =>
    intro n h
    cases hn : ok n with
    | false => exact wyG_bad hn
    | true => simp [wyG, hn] at h
  | succ m ih =>
    intro n h
    cases hn : ok n with
    | false => exact wyG_bad hn
    | true =>
      rw [wyG, if_pos hn] at h ⊢
      exact sum_zero' (fun a ha => ih _ (sum_zero h a ha))
theorem wyG_zero_le {m m' n : Nat} (h : wyG k to ok m n = 0) (hm : m ≤ m') : wyG k to ok m' n = 0 := by
  induction m' with
  | zero => rw [show m = 0 by omega] at h; exact h
  | succ m' ih =>
    by_cases e : m = m' + 1
    · rw [← e]; exact h
    · exact wyG_mono0 _ _ (ih (by omega))
theorem sum_add {f g : Nat → Nat} : ∀ {l : List Nat}, (l.map (fun a => f a + g a)).sum = (l.map f).sum + (l.map g).sum := by
  intro l
  induction l with
  | nil => rfl
  | cons b l ih => rw [List.map_cons, List.sum_cons, List.map_cons, List.sum_cons, List.map_cons, List.sum_cons, ih]; omega
theorem sumG {n : Nat} (hn : ok n = true) : ∀ L, ((List.range (L + 1)).map (fun a => wyG k to ok a n)).sum = 1 + ((List.range k).map (fun l => if ok (to n l) = true then ((List.range L).map (fun a => wyG k to ok a (to n l))).sum else 0)).sum := by
  intro L
  induction L with
  | zero =>
    have : ((List.range k).map (fun l => if ok (to n l) = true then ((List.range 0).map (fun a => wyG k to ok a (to n l))).sum else 0)).sum = 0 := sum_zero' (fun a _ => by split <;> rfl)
    rw [this]
    simp [wyG, hn]
  | succ L ih =>
    rw [List.range_succ, List.map_append, List.sum_append, ih, List.map_cons, List.map_nil, List.sum_cons, List.sum_nil, wyG, if_pos hn, Nat.add_zero, Nat.add_assoc, ← sum_add]
    congr 1
    refine sum_congr (fun c _ => ?_)
    cases hok : ok (to n c) with
    | false => simp [wyG_bad hok]
    | true => simp only [if_true]; rw [List.range_succ, List.map_append, List.sum_append]; simp
variable {R : Nat → Prop}
/-- R: nodes that go on, with the first, closed under going on -/
def GrR (k : Nat) (to : Nat → Nat → Nat) (ok : Nat → Bool) (R : Nat → Prop) : Prop := R 0 ∧ (∀ n, R n → ok n = true) ∧ ∀ n l, R n → l < k → ok (to n l) = true → R (to n l)
def pth (k : Nat) (to : Nat → Nat → Nat) (R : Nat → Prop) : Nat → Nat → Nat → Prop
  | u, 0, t => R u ∧ u = t
  | u, m + 1, t => R u ∧ ∃ l, l < k ∧ pth k to R (to u l) m t
theorem pth_wy (hR : GrR k to ok R) {t : Nat} : ∀ (m u : Nat), pth k to R u m t → 0 < wyG k to ok m u := by
  intro m
  induction m with
  | zero => intro u h; simp [wyG, hR.2.1 u h.1]
  | succ m ih =>
    intro u ⟨h1, l, h2, h3⟩
    have := sum_le_mem (f := fun l => wyG k to ok m (to u l)) (List.mem_range.mpr h2)
    have := ih _ h3
    rw [wyG, if_pos (hR.2.1 u h1)]
    exact Nat.lt_of_lt_of_le (ih _ h3) (sum_le_mem (f := fun l => wyG k to ok m (to u l)) (List.mem_range.mpr h2))
theorem pth_app {u v t : Nat} : ∀ (a : Nat) {b : Nat} (u : Nat), pth k to R u a v → pth k to R v b t → pth k to R u (a + b) t := by
  intro a
  induction a with
  | zero => intro b u h h2; obtain ⟨-, rfl⟩ := h; rw [Nat.zero_add]; exact h2
  | succ a ih =>
    intro b u ⟨h1, l, h2, h3⟩ h4
    rw [show a + 1 + b = a + b + 1 by omega]
    exact ⟨h1, l, h2, ih _ h3 h4⟩
def sufS (k : Nat) (f : Nat → Nat) (l : Nat) : Nat := ((List.range' l (k - l)).map f).sum
theorem sufS_step {f : Nat → Nat} {l : Nat} (h : l < k) : sufS k f l = f l + sufS k f (l + 1) := by
  unfold sufS
  rw [show k - l = (k - (l + 1)) + 1 by omega, List.range'_succ, List.map_cons, List.sum_cons]
theorem sufS_zero {f : Nat → Nat} : sufS k f 0 = ((List.range k).map f).sum := by
  unfold sufS
  rw [Nat.sub_zero, List.range_eq_range']
theorem sufS_end {f : Nat → Nat} : sufS k f k = 0 := by
  unfold sufS
  rw [Nat.sub_self]
  rfl
/-- the state in the midst of node n's letters, from l on; h nodes were begun -/
def KN (k : Nat) (to : Nat → Nat → Nat) (ok : Nat → Bool) (R : Nat → Prop) (rem : List (Nat × Nat)) (come val : Nat → Nat) (q U : List Nat) (h n l tot : Nat) : Prop :=
  (q.Nodup ∧ (∀ t ∈ q, R t) ∧ h ≤ q.length ∧ l ≤ k) ∧ (U.Nodup ∧ ∀ t, t ∈ U ↔ R t ∧ t ∉ q.take h) ∧
  (rem.Nodup ∧ ∀ e, e ∈ rem ↔ R e.1 ∧ e.2 < k ∧ (e.1 ∈ U ∨ (e.1 = n ∧ l ≤ e.2))) ∧ (∀ t, R t → come t = rem.countP (fun e => to e.1 e.2 == t)) ∧
  (∀ t ∈ U, t ∉ q → 0 < come t) ∧ (∀ t ∈ U, t ∈ q → come t = 0) ∧
  (∀ (j : Nat) (t : Nat), q[j]? = some t → ∀ m a, R m → a < k → to m a = t → ∃ i, i < j ∧ q[i]? = some m) ∧
  (l < k → 1 ≤ h ∧ q[h - 1]? = some n) ∧
  ∀ T : Nat → Nat, (∀ n, R n → T n = 1 + ((List.range k).map (fun l => if ok (to n l) = true then T (to n l) else 0)).sum) → tot + (U.map (fun n => val n * T n)).sum + val n * sufS k (fun l => if ok (to n l) = true then T (to n l) else 0) l = T 0
variable {rem : List (Nat × Nat)} {come val : Nat → Nat} {q U : List Nat} {h n l tot : Nat}
theorem KN.cur (K : KN k to ok R rem come val q U h n l tot) (hl : l < k) : R n ∧ n ∉ U ∧ n ∈ q.take h := by
  obtain ⟨⟨a1, a2, a3, a4⟩, ⟨b1, b2⟩, -, -, -, -, -, g, -⟩ := K
  obtain ⟨g1, g2⟩ := g hl
  have hm : n ∈ q.take h := by
    have : (q.take h)[h - 1]? = some n := by rw [List.getElem?_take, if_pos (by omega)]; exact g2
    exact List.mem_of_getElem? this
  exact ⟨a2 n (List.mem_of_mem_take hm), fun z => ((b2 n).mp z).2 hm, hm⟩
/-- a letter that doesn't go on -/
theorem KN.skip (K : KN k to ok R rem come val q U h n l tot) (hR : GrR k to ok R) (hl : l < k) (hb : ok (to n l) = false) : KN k to ok R (rem.erase (n, l)) come val q U h n (l + 1) tot := by
  obtain ⟨c1, c2, c3⟩ := K.cur hl
  obtain ⟨⟨a1, a2, a3, a4⟩, ⟨b1, b2⟩, ⟨r1, r2⟩, cm, d1, d2, e, g, pot⟩ := K
  refine ⟨⟨a1, a2, a3, hl⟩, ⟨b1, b2⟩, ⟨r1.erase _, fun x => ?_⟩, fun t ht => ?_, d1, d2, e, fun _ => g hl, fun T hT => ?_⟩
  · rw [r1.mem_erase_iff, r2]
    constructor
    · rintro ⟨x1, x2, x3, x4⟩
      refine ⟨x2, x3, x4.imp id (fun y => ⟨y.1, ?_⟩)⟩
      have : x.2 ≠ l := fun z => x1 (Prod.ext y.1 z)
      omega
    · rintro ⟨x2, x3, x4⟩
      refine ⟨fun z => ?_, x2, x3, x4.imp id (fun y => ⟨y.1, by omega⟩)⟩
      subst z
      rcases x4 with y | y
      · exact c2 y
      · simp at y; omega
  · have hin : (n, l) ∈ rem := (r2 _).mpr ⟨c1, hl, Or.inr ⟨rfl, Nat.le_refl _⟩⟩
    rw [cm t ht, cP_erase hin, if_neg, Nat.zero_add]
    intro z
    have : to n l = t := by simpa using z
    rw [this, hR.2.1 t ht] at hb
    cases hb
  · have := pot T hT
    rw [sufS_step hl] at this
    simp only [hb, Bool.false_eq_true, if_false] at this
    simpa using this
/-- a letter that goes on: the node is counted once less; at none it comes behind -/
theorem KN.edge (K : KN k to ok R rem come val q U h n l tot) (hR : GrR k to ok R) (hl : l < k) (hb : ok (to n l) = true) : 0 < come (to n l) ∧ R (to n l) ∧ to n l ≠ n ∧ to n l ∉ q ∧
    KN k to ok R (rem.erase (n, l)) (upd1 come (to n l) (come (to n l) - 1)) (upd1 val (to n l) (val (to n l) + val n)) (if come (to n l) = 1 then q ++ [to n l] else q) U h n (l + 1) tot := by
  obtain ⟨c1, c2, c3⟩ := K.cur hl
  obtain ⟨⟨a1, a2, a3, a4⟩, ⟨b1, b2⟩, ⟨r1, r2⟩, cm, d1, d2, e, g, pot⟩ := K
  have hin : (n, l) ∈ rem := (r2 _).mpr ⟨c1, hl, Or.inr ⟨rfl, Nat.le_refl _⟩⟩
  have hRt := hR.2.2 n l c1 hl hb
  generalize ht : to n l = t at *
  have hpos : 0 < come t := by
    rw [cm t hRt]
    exact List.countP_pos_iff.mpr ⟨(n, l), hin, by simp [ht]⟩
  have htU : t ∈ U := by
    refine (b2 t).mpr ⟨hRt, fun z => ?_⟩
    obtain ⟨j, hj⟩ := List.mem_iff_getElem?.mp z
    rw [List.getElem?_take] at hj
    split at hj
    · rename_i hjh
      obtain ⟨i, hi, hqi⟩ := e j t hj n l c1 hl ht
      obtain ⟨g1, g2⟩ := g hl
      have hlen : i < q.length := (List.getElem?_eq_some_iff.mp hqi).1
      have := (List.getElem?_inj hlen a1).mp (hqi.trans g2.symm)
      omega
    · cases hj
  have htq : t ∉ q := fun z => by have := d2 t htU z; omega
  have htn : t ≠ n := fun z => c2 (z ▸ htU)
  refine ⟨hpos, hRt, htn, htq, ⟨?_, ?_, ?_, hl⟩, ⟨b1, fun u => ?_⟩, ⟨r1.erase _, fun x => ?_⟩, fun u hu => ?_, fun u hu hq => ?_, fun u hu hq => ?_, fun j u hj m a hm ha hto => ?_, fun _ => ?_, fun T hT => ?_⟩
  · split
    · exact List.nodup_append.mpr ⟨a1, by simp, fun x hx y hy => by
        rw [List.mem_singleton.mp hy]
        exact fun z => htq (z ▸ hx)⟩
    · exact a1
  · intro u hu
    split at hu
    · rcases List.mem_append.mp hu with z | z
      · exact a2 u z
      · rw [List.mem_singleton.mp z]; exact hRt
    · exact a2 u hu
  · split
    · rw [List.length_append]; omega
    · exact a3
  · have : (if come t = 1 then q ++ [t] else q).take h = q.take h := by
      split
      · exact List.take_append_of_le_length a3
      · rfl
    rw [this]
    exact b2 u
  · rw [r1.mem_erase_iff, r2]
    constructor
    · rintro ⟨x1, x2, x3, x4⟩
      refine ⟨x2, x3, x4.imp id (fun y => ⟨y.1, ?_⟩)⟩
      have : x.2 ≠ l := fun z => x1 (Prod.ext y.1 z)
      omega
    · rintro ⟨x2, x3, x4⟩
      refine ⟨fun z => ?_, x2, x3, x4.imp id (fun y => ⟨y.1, by omega⟩)⟩
      subst z
      rcases x4 with y | y
      · exact c2 y
      · simp at y; omega
  · unfold upd1
    by_cases z : u = t
    · subst z
      have := cP_erase (p := fun e => to e.1 e.2 == u) hin
      rw [if_pos (by simp [ht])] at this
      rw [if_pos rfl, cm u hRt, this]
      omega
    · have := cP_erase (p := fun e => to e.1 e.2 == u) hin
      rw [if_neg (fun y => z (by
        have y2 : to n l = u := by simpa using y
        rw [← y2, ht]))] at this
      rw [if_neg z, cm u hu, this]
      omega
  · unfold upd1
    by_cases z : u = t
    · rw [if_pos z]
      by_cases y : come t = 1
      · rw [if_pos y] at hq
        exact absurd (by simp [z]) hq
      · omega
    · rw [if_neg z]
      refine d1 u hu (fun y => hq ?_)
      split
      · exact List.mem_append_left _ y
      · exact y
  · unfold upd1
    by_cases z : u = t
    · rw [if_pos z]
      by_cases y : come t = 1
      · omega
      · rw [if_neg y] at hq
        exact absurd (z ▸ hq) htq
    · rw [if_neg z]
      refine d2 u hu ?_
      split at hq
      · rcases List.mem_append.mp hq with y | y
        · exact y
        · exact absurd (List.mem_singleton.mp y) z
      · exact hq
  · have hold : q[j]? = some u → ∃ i, i < j ∧ (if come t = 1 then q ++ [t] else q)[i]? = some m := by
      intro hj
      obtain ⟨i, hi, hqi⟩ := e j u hj m a hm ha hto
      refine ⟨i, hi, ?_⟩
      split
      · rw [List.getElem?_append_left (List.getElem?_eq_some_iff.mp hqi).1]; exact hqi
      · exact hqi
    by_cases y : come t = 1
    · rw [if_pos y] at hj
      rw [List.getElem?_append] at hj
      split at hj
      · exact hold hj
      · rename_i hjl
        have hj2 : j = q.length ∧ u = t := by
          have := List.getElem?_eq_some_iff.mp hj
          obtain ⟨w1, w2⟩ := this
          simp at w1
          have w3 : j - q.length = 0 := by omega
          simp only [w3, List.getElem_cons_zero] at w2
          exact ⟨by omega, w2.symm⟩
        obtain ⟨rfl, rfl⟩ := hj2
        have hz : (rem.erase (n, l)).countP (fun e => to e.1 e.2 == u) = 0 := by
          have := cP_erase (p := fun e => to e.1 e.2 == u) hin
          rw [if_pos (by simp [ht]), ← cm u hRt, y] at this
          omega
        have hnot := List.countP_eq_zero.mp hz
        have hnr : (m, a) ∉ rem.erase (n, l) := fun w => hnot _ w (by simp [hto])
        have hmU : m ∉ U := fun w => by
          refine hnr (r1.mem_erase_iff.mpr ⟨fun v => ?_, (r2 _).mpr ⟨hm, ha, Or.inl w⟩⟩)
          cases v
          exact c2 w
        have hmq : m ∈ q.take h := by
          cases Classical.em (m ∈ q.take h) with
          | inl w => exact w
          | inr w => exact absurd ((b2 m).mpr ⟨hm, w⟩) hmU
        obtain ⟨i, hi⟩ := List.mem_iff_getElem?.mp hmq
        rw [List.getElem?_take] at hi
        split at hi
        · rename_i hih
          refine ⟨i, by omega, ?_⟩
          rw [if_pos y, List.getElem?_append_left (by omega)]
          exact hi
        · cases hi
    · rw [if_neg y] at hj
      exact hold hj
  · obtain ⟨g1, g2⟩ := g hl
    refine ⟨g1, ?_⟩
    split
    · rw [List.getElem?_append_left (by omega)]; exact g2
    · exact g2
  · have := pot T hT
    rw [sufS_step hl] at this
    simp only [ht, hb, if_true, Nat.mul_add] at this
    have e2 : upd1 val t (val t + val n) n = val n := by unfold upd1; rw [if_neg (fun z => htn z.symm)]
    rw [sum_upd b1 htU, e2]
    omega
/-- the next node of the row is begun -/
theorem KN.next (K : KN k to ok R rem come val q U h n k tot) {m : Nat} (hm : q[h]? = some m) : KN k to ok R rem come val q (U.erase m) (h + 1) m 0 (tot + val m) ∧ R m := by
  obtain ⟨⟨a1, a2, a3, a4⟩, ⟨b1, b2⟩, ⟨r1, r2⟩, cm, d1, d2, e, g, pot⟩ := K
  have hhl : h < q.length := (List.getElem?_eq_some_iff.mp hm).1
  have hRm : R m := a2 m (List.mem_of_getElem? hm)
  have hnt : m ∉ q.take h := fun z => by
    obtain ⟨i, hi⟩ := List.mem_iff_getElem?.mp z
    rw [List.getElem?_take] at hi
    split at hi
    · have := (List.getElem?_inj (by omega) a1).mp (hi.trans hm.symm)
      omega
    · cases hi
  have hmU : m ∈ U := (b2 m).mpr ⟨hRm, hnt⟩
  have htk : q.take (h + 1) = q.take h ++ [m] := by
    rw [List.take_add_one, hm]
    rfl
  refine ⟨⟨⟨a1, a2, hhl, Nat.zero_le _⟩, ⟨b1.erase _, fun t => ?_⟩, ⟨r1, fun x => ?_⟩, cm, fun t ht hq => d1 t (List.mem_of_mem_erase ht) hq, fun t ht hq => d2 t (List.mem_of_mem_erase ht) hq, e, fun _ => ⟨by omega, by rw [Nat.add_sub_cancel]; exact hm⟩, fun T hT => ?_⟩, hRm⟩
  · rw [b1.mem_erase_iff, b2, htk, List.mem_append, List.mem_singleton]
    constructor
    · rintro ⟨x1, x2, x3⟩
      exact ⟨x2, fun z => z.elim x3 x1⟩
    · rintro ⟨x1, x2⟩
      exact ⟨fun z => x2 (Or.inr z), x1, fun z => x2 (Or.inl z)⟩
  · rw [r2, b1.mem_erase_iff]
    constructor
    · rintro ⟨x1, x2, x3⟩
      refine ⟨x1, x2, ?_⟩
      rcases x3 with y | y
      · by_cases z : x.1 = m
        · exact Or.inr ⟨z, Nat.zero_le _⟩
        · exact Or.inl ⟨z, y⟩
      · omega
    · rintro ⟨x1, x2, x3⟩
      refine ⟨x1, x2, Or.inl ?_⟩
      rcases x3 with y | y
      · exact y.2
      · rw [y.1]; exact hmU
  · have := pot T hT
    rw [sufS_end, sum_erase hmU, hT m hRm] at this
    rw [sufS_zero]
    simp only [Nat.mul_add, Nat.mul_one, Nat.mul_zero] at this
    omega
/-- all were come to: no circle, and the sum is that of all words -/
theorem KN.fin (K : KN k to ok R rem come val q U q.length n k tot) (hR : GrR k to ok R) (hall : ∀ t, R t → t ∈ q) : wyG k to ok q.length 0 = 0 ∧ tot = ((List.range q.length).map (fun a => wyG k to ok a 0)).sum := by
  obtain ⟨⟨a1, a2, a3, a4⟩, ⟨b1, b2⟩, -, -, -, -, e, -, pot⟩ := K
  have hU : U = [] := List.eq_nil_iff_forall_not_mem.mpr (fun t ht => by
    have := (b2 t).mp ht
    rw [List.take_length] at this
    exact this.2 (hall t this.1))
  have hz : ∀ (d j t : Nat), q.length - j ≤ d → q[j]? = some t → wyG k to ok d t = 0 := by
    intro d
    induction d with
    | zero => intro j t hj ht; have := (List.getElem?_eq_some_iff.mp ht).1; omega
    | succ d ih =>
      intro j t hj ht
      have hRt : R t := a2 t (List.mem_of_getElem? ht)
      rw [wyG, if_pos (hR.2.1 t hRt)]
      refine sum_zero' (fun c hc => ?_)
      cases hok : ok (to t c) with
      | false => exact wyG_bad hok
      | true =>
        have hRc := hR.2.2 t c hRt (List.mem_range.mp hc) hok
        obtain ⟨j2, hj2⟩ := List.mem_iff_getElem?.mp (hall _ hRc)
        obtain ⟨i, hi, hqi⟩ := e j2 _ hj2 t c hRt (List.mem_range.mp hc) rfl
        have hij : i = j := (List.getElem?_inj (List.getElem?_eq_some_iff.mp hqi).1 a1).mp (hqi.trans ht.symm)
        exact ih j2 _ (by omega) hj2
  have hzR : ∀ t, R t → wyG k to ok q.length t = 0 := fun t ht => by
    obtain ⟨j, hj⟩ := List.mem_iff_getElem?.mp (hall t ht)
    exact hz _ j t (by omega) hj
  refine ⟨hzR 0 hR.1, ?_⟩
  have := pot (fun n => ((List.range q.length).map (fun a => wyG k to ok a n)).sum) (fun n hn => by
    have p1 := sumG (k := k) (to := to) (ok := ok) (hR.2.1 n hn) q.length
    rw [List.range_succ, List.map_append, List.sum_append, List.map_cons, List.map_nil, List.sum_cons, List.sum_nil, hzR n hn] at p1
    simpa using p1)
  rw [hU, sufS_end] at this
  simpa using this
/-- some was not come to: there is a circle, and words of any length -/
theorem KN.endless (K : KN k to ok R rem come val q U q.length n k tot) (hR : GrR k to ok R) (hre : ∀ t, R t → ∃ a, pth k to R 0 a t) {t0 : Nat} (h0 : R t0) (hn0 : t0 ∉ q) : ∀ m, 0 < wyG k to ok m 0 := by
  obtain ⟨⟨a1, a2, a3, a4⟩, ⟨b1, b2⟩, ⟨r1, r2⟩, cm, d1, d2, e, g, pot⟩ := K
  rw [List.take_length] at b2
  have back : ∀ t ∈ U, ∃ m ∈ U, ∃ l, l < k ∧ to m l = t := fun t ht => by
    have hRt := ((b2 t).mp ht).1
    have hc := d1 t ht ((b2 t).mp ht).2
    rw [cm t hRt] at hc
    obtain ⟨x, hx, hxt⟩ := List.countP_pos_iff.mp hc
    obtain ⟨x1, x2, x3⟩ := (r2 x).mp hx
    refine ⟨x.1, ?_, x.2, x2, by simpa using hxt⟩
    rcases x3 with y | y
    · exact y
    · omega
  have hu : ∀ m, ∃ u ∈ U, pth k to R u m t0 := by
    intro m
    induction m with
    | zero => exact ⟨t0, (b2 t0).mpr ⟨h0, hn0⟩, h0, rfl⟩
    | succ m ih =>
      obtain ⟨u, hu, hp⟩ := ih
      obtain ⟨m2, hm2, l, hl, hto⟩ := back u hu
      exact ⟨m2, hm2, ((b2 m2).mp hm2).1, l, hl, by rw [hto]; exact hp⟩
  intro m
  obtain ⟨u, hu, hp⟩ := hu m
  obtain ⟨a, ha⟩ := hre u ((b2 u).mp hu).1
  have := pth_wy hR _ _ (pth_app (u := 0) a 0 ha hp)
  rcases Nat.eq_zero_or_pos (wyG k to ok m 0) with z | z
  · have := wyG_zero_le z (show m ≤ a + m by omega)
    omega
  · exact z
/-- the beginning -/
theorem KN.start (hR : GrR k to ok R) {U : List Nat} (hU : U.Nodup ∧ ∀ t, t ∈ U ↔ R t) {come : Nat → Nat} (hre : ∀ t, R t → t ≠ 0 → ∃ m l, R m ∧ l < k ∧ to m l = t) (hc : ∀ t, R t → come t = ((U.flatMap (fun m => (List.range k).map (fun l => (m, l)))).countP (fun e => to e.1 e.2 == t))) (n : Nat) :
    KN k to ok R (U.flatMap (fun m => (List.range k).map (fun l => (m, l)))) come (upd1 (fun _ => 0) 0 1) (if come 0 = 0 then [0] else []) U 0 n k 0 := by
  have mem : ∀ x : Nat × Nat, x ∈ U.flatMap (fun m => (List.range k).map (fun l => (m, l))) ↔ R x.1 ∧ x.2 < k := fun x => by
    rw [List.mem_flatMap]
    constructor
    · rintro ⟨m, hm, hx⟩
      obtain ⟨l, hl, rfl⟩ := List.mem_map.mp hx
      exact ⟨(hU.2 m).mp hm, List.mem_range.mp hl⟩
    · rintro ⟨h1, h2⟩
      exact ⟨x.1, (hU.2 _).mpr h1, List.mem_map.mpr ⟨x.2, List.mem_range.mpr h2, rfl⟩⟩
  have hq : ∀ t ∈ (if come 0 = 0 then [0] else []), t = 0 ∧ come 0 = 0 := fun t ht => by
    split at ht
    · exact ⟨List.mem_singleton.mp ht, by assumption⟩
    · simp at ht
  refine ⟨⟨?_, fun t ht => (hq t ht).1 ▸ hR.1, Nat.zero_le _, Nat.le_refl _⟩, ⟨hU.1, fun t => ?_⟩, ⟨?_, fun x => ?_⟩, hc, fun t ht hn => ?_, fun t ht hn => ?_, fun j t hj m a hm ha hto => ?_, fun hl => absurd hl (by omega), fun T hT => ?_⟩
  · split <;> simp
  · rw [hU.2]; simp
  · exact nd_edges hU.1
  · rw [mem]
    constructor
    · rintro ⟨h1, h2⟩
      exact ⟨h1, h2, Or.inl ((hU.2 _).mpr h1)⟩
    · rintro ⟨h1, h2, -⟩
      exact ⟨h1, h2⟩
  · have hRt := (hU.2 t).mp ht
    by_cases z : t = 0
    · subst z
      rcases Nat.eq_zero_or_pos (come 0) with y | y
      · rw [if_pos y] at hn; simp at hn
      · exact y
    · obtain ⟨m, l, h1, h2, h3⟩ := hre t hRt z
      rw [hc t hRt]
      exact List.countP_pos_iff.mpr ⟨(m, l), (mem _).mpr ⟨h1, h2⟩, by simp [h3]⟩
  · obtain ⟨rfl, h2⟩ := hq t hn
    exact h2
  · have ht := List.mem_of_getElem? hj
    obtain ⟨rfl, h2⟩ := hq t ht
    rw [hc 0 hR.1] at h2
    exact absurd (by simp [hto]) (List.countP_eq_zero.mp h2 (m, a) ((mem _).mpr ⟨hm, ha⟩))
  · have h0 := (hU.2 0).mpr hR.1
    rw [sum_erase h0, sufS_end]
    have : ((U.erase 0).map (fun n => upd1 (fun _ => 0) 0 1 n * T n)).sum = 0 := sum_zero' (fun a ha => by
      have : a ≠ 0 := (hU.1.mem_erase_iff.mp ha).1
      unfold upd1
      rw [if_neg this, Nat.zero_mul])
    rw [this]
    simp [upd1]
end GR
