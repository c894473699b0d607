set_option maxRecDepth 100000 in
theorem ins_ok : ∀ (ci : Nat) (r : vw_C), classes[ci]? = some r → Cond.instantiable r.1 r.2.2 ∈ ALL
  | 0, _, h => by cases h; exact inA 308 rfl rfl
  | 1, _, h => by cases h; exact inA 387 rfl rfl
  | 2, _, h => by cases h; exact inA 344 rfl rfl
  | 3, _, h => by cases h; exact inA 243 rfl rfl
  | 4, _, h => by cases h; exact inA 553 rfl rfl
  | 5, _, h => by cases h; exact inA 89 rfl rfl
  | 6, _, h => by cases h; exact inA 273 rfl rfl
  | 7, _, h => by cases h; exact inA 223 rfl rfl
  | 8, _, h => by cases h; exact inA 169 rfl rfl
  | 9, _, h => by cases h; exact inA 162 rfl rfl
  | 10, _, h => by cases h; exact inA 95 rfl rfl
  | 11, _, h => by cases h; exact inA 81 rfl rfl
  | 12, _, h => by cases h; exact inA 984 rfl rfl
  | k + 13, _, h => by
    have : classes[k + 13]? = none := List.getElem?_eq_none (by show 13 ≤ k + 13; omega)
    rw [this] at h; cases h
set_option maxRecDepth 100000 in
theorem ov_Word : Cond.arrayOver (.object "MonoidRules$Word") ∈ lw_tbl := List.mem_of_getElem? (i := 160) rfl
set_option maxRecDepth 100000 in
theorem ov_Rule : Cond.arrayOver (.object "MonoidRules$Rule") ∈ lw_tbl := List.mem_of_getElem? (i := 168) rfl
set_option maxRecDepth 100000 in
theorem ov_Pair : Cond.arrayOver (.object "MonoidRules$Pair") ∈ lw_tbl := List.mem_of_getElem? (i := 229) rfl
/-! THE CLAIM OUT OF ONE WALK OF THE LAW'S BODY. Your part is whole_start (and what it stands on); all else here is the same for every law, but numbers. -/
def R_law : String := "MonoidRulesLaw"
def lw_P (b : Addr) (xs : List Int32) (args : Array Value) (s : State) : Prop := args = #[.ref b] ∧ s.IntsAt b xs ∧ xs.length ≤ 2048 ∧ (Jvm.Cond.and given_1 narrow_1).before args s = true
def lw_Q (_ : Array Value) (s : State) (o : Outcome) (t : State) : Prop := o = .returned (some (.int 1)) ∧ Framed s o t [] 600000 7302249
def lw_Z (below : List Frame) (a : Array Value) (s : State) : State → Prop := fun t => ∃ o, t.status = .running ∧ Ended t below o ∧ lw_Q a s o t
/-- the law's own end, with 1 on the stack, nothing written that was there before, its room as the claim has it -/
theorem lw_ret {p : Program} {l : Launch} {e : Env} {s : State} {m : MethodId} {below : List Frame} {meth : Method} {c : Code} {b : Nat} (hx : p.tables.exec = Jvm.exec) (hb : c.code = code) (hr : meth.sig.returnType = ret) (hlocks : meth.locks = false) {pc : Nat} {H : Heap} {ls : Array Slot} (hdg : decode code pc = .ok (.ireturn, 1)) : W p l e room_1 s m #[Value.ref b] below meth c H [] 600000 7302249 (lw_Z below #[Value.ref b] s) (F0 m pc ls [.int 1]) := by
  intro T hT X
  obtain ⟨fs, hret, hrun, hended, hW, hframe⟩ := X.leave (v := some (.int 1)) (hlocks := hlocks) (fun h => by rw [hr] at h; cases h)
  have hmeth' : T.vm.method? m = some meth := X.method'
  refine ⟨T.setFrames fs, ?_, .returned (some (.int 1)), hrun, hended, rfl, ⟨_, rfl⟩, hW, hframe⟩
  jvm_step X.here [X.here.top, hx, hb, hdg, hmeth', hr, ret, narrow_b1]
  (try refine ⟨rfl, ?_⟩); (try refine ⟨rfl, ?_⟩)
  first | (intro acts; rw [hret _ acts rfl rfl rfl]) | rw [hret _ _ rfl rfl rfl]
  exact Steps.refl _
/-- what holds at the law's entry: the machine, the code, the tables' words (any of lw_tbl by 'hts w (by decide +kernel)'), the script of L ints xs at the cell b, what the Statement gives of the start (any of its parts by flat_of_before) -/
def lw_At (p : Program) (s : State) (m : MethodId) (meth : Method) (c : Code) (b L : Nat) (xs : Nat → Int32) : Prop :=
  p.tables.exec = Jvm.exec ∧ c.code = code ∧ meth.sig.returnType = ret ∧ c.maxLocals = 4 ∧ s.vm.findClass R_law = some m.cls ∧ (∀ w ∈ lw_tbl, w.before #[Value.ref b] s = true) ∧ va_X b L xs s s.heap ∧ b < s.heap.size ∧ meth.locks = false ∧ (Jvm.Cond.and given_1 narrow_1).before #[Value.ref b] s = true
/-- the store at the law's entry: the script alone -/
def M0 (b L B0 : Nat) (xs : Nat → Int32) : Mm := (fun q => if q = b then some (.inr (9, L)) else none, fun q j => if q = b then xs j else 0, fun _ _ => 0, fun _ _ => none, B0, 0)
/-- what is left to show: the law's run in the small machine -/
def LawRuns : Prop := ∀ (b L B0 : Nat) (xs : Nat → Int32), L ≤ 2048 → b < B0 → wp F_Law_law 0 [.ref b, jk, jk, jk] [] (M0 b L B0 xs) (fun r M' => r = some (.int 1) ∧ nxt M' ≤ B0 + 600000 ∧ slo M' ≤ 7302249)
theorem exC {s : State} {A : Array Value} (hts : ∀ w ∈ ALL, w.before A s = true) : ∃ D : va_G, va_K D classes [] s := by
  have h : ∀ ci : Nat, ∃ q : ClassId × (Nat → Nat), ∀ r, classes[ci]? = some r → u_Kn s r.1 r.2.1 r.2.2 q.1 q.2 := by
    intro ci
    cases hr : classes[ci]? with
    | none => exact ⟨(0, fun _ => 0), fun r h => by cases h⟩
    | some r =>
      obtain ⟨hws, -⟩ := cls_ok _ _ hr
      obtain ⟨cC, iS, hK⟩ := u_known (C := r.1) (T := r.2.1) (N := r.2.2) (n := r.2.2) hts hws (hts _ (ins_ok ci r hr))
      exact ⟨(cC, iS), fun r' h => by cases h; exact hK⟩
  refine ⟨(fun ci => (Classical.choose (h ci)).1, fun ci => (Classical.choose (h ci)).2), fun ci r hr => Classical.choose_spec (h ci) r hr, fun k q hk => ?_⟩
  cases hk
theorem exA {s : State} {A : Array Value} (hts : ∀ w ∈ ALL, w.before A s = true) (hov : ∀ w ∈ lw_tbl, w.before A s = true) : ∃ aC : Nat → ClassId, ∀ k ty, aTy k = some ty → ArrOfT s (aC k) ty ∧ va_RA s (aC k) ty ∧ ∀ C, ty = .object C → va_AO C s := by
  have hp : ∀ (ty : FieldType), (∀ C, ty ≠ .object C) → Cond.arrayClass ty ∈ ALL → ∃ c : ClassId, ArrOfT s c ty ∧ va_RA s c ty ∧ ∀ C, ty = .object C → va_AO C s := by
    intro ty hty hw
    obtain ⟨c, k, comp, h1, h2, h3⟩ := Cond.arrayClass_spec (hts _ hw)
    refine ⟨c, fun n z => ⟨fun k h => (by cases h), k, h2, comp, h3⟩, ?_, fun C e => absurd e (hty C)⟩
    cases ty with
    | object C => exact absurd rfl (hty C)
    | _ => exact h1
  have ho : ∀ C : String, Cond.arrayOver (.object C) ∈ lw_tbl → ∃ c : ClassId, ArrOfT s c (.object C) ∧ va_RA s c (.object C) ∧ ∀ C', FieldType.object C = .object C' → va_AO C' s := by
    intro C hw
    obtain ⟨comp, c, k, h1, h2, h3, h4, h5⟩ := Cond.arrayOver_spec (hov _ hw)
    exact ⟨c, fun n z => ⟨fun k h => (by cases h), k, h3, comp, h4⟩, ⟨k, comp, h3, h4, h1, h5⟩, fun C' e => by cases e; exact va_AO.of (hov _ hw)⟩
  have h : ∀ k : Nat, ∃ c : ClassId, ∀ ty, aTy k = some ty → ArrOfT s c ty ∧ va_RA s c ty ∧ ∀ C, ty = .object C → va_AO C s := by
    intro k
    cases hk : aTy k with
    | none => exact ⟨0, fun ty h => by cases h⟩
    | some ty =>
      have key : ∃ c : ClassId, ArrOfT s c ty ∧ va_RA s c ty ∧ ∀ C, ty = .object C → va_AO C s := by
        unfold aTy at hk
        split at hk
        · cases hk; exact hp _ (fun C e => by cases e) arw_int
        · cases hk; exact hp _ (fun C e => by cases e) arw_long
        · cases hk; exact hp _ (fun C e => by cases e) arw_byte
        · cases hk; exact hp _ (fun C e => by cases e) arw_bool
        · cases hk; exact ho _ ov_Word
        · cases hk; exact ho _ ov_Rule
        · cases hk; exact ho _ ov_Pair
        · cases hk
      obtain ⟨c, hc⟩ := key
      exact ⟨c, fun ty' e => by cases e; exact hc⟩
  exact ⟨fun k => Classical.choose (h k), fun k ty hk => Classical.choose_spec (h k) ty hk⟩
set_option maxHeartbeats 4000000 in
/-- open until LawRuns is shown -/
theorem whole_start_open (hrun : LawRuns) {p : Program} {e : Env} {s : State} {m : MethodId} {below : List Frame} {meth : Method} {c : Code} (l : Launch) {b L : Nat} {xs : Nat → Int32} (hL : L ≤ 2048) (C0 : lw_At p s m meth c b L xs) : W p l e room_1 s m #[Value.ref b] below meth c s.heap [] 0 0 (lw_Z below #[Value.ref b] s) (entryFrame m ([Value.ref b] : List Value).toArray 4) := by
  obtain ⟨hx, hb, hr, hml, hown, hts0, ⟨scr, x1, x2, x3, x4, x5⟩, hbl, hlocks, hgv⟩ := C0
  have hts : ∀ w ∈ ALL, w.before #[Value.ref b] s = true := fun w hw => hts0 w (List.mem_filter.mp hw).1
  obtain ⟨D, hD⟩ := exC hts
  obtain ⟨aC, hA⟩ := exA hts hts0
  obtain ⟨n, r, M', hex, rfl, hc, hs⟩ := hrun b L s.heap.size xs hL hbl
  have hK : KK (D, aC, scr, s.heap.size) s := ⟨hD, hA, x2, x3, fun w hw => by
    have h := hts0 w (nests_in w hw)
    obtain ⟨a, i, x, z, rfl⟩ := nests_form w hw
    exact va_Nw.of rfl h⟩
  have hI : Iv (D, aC, scr, s.heap.size) (M0 b L s.heap.size xs) s.heap := by
    refine ⟨rfl, Nat.le_refl _, fun a t ht => ?_⟩
    simp only [sh, M0] at ht
    split at ht
    · rename_i ea
      cases ht
      rw [ea]
      refine Or.inr ⟨rfl, hbl, x1, x4.symm, fun j hj => ?_⟩
      rw [x5 j hj]
      simp only [gI, M0, if_true]
    · cases ht
  rw [lg_entry_eq]
  refine sound (D, aC, scr, s.heap.size) n F_Law_law 0 _ [] _ _ M' hex rfl p l e room_1 s m _ below meth c s.heap [] 0 0 _ _ ⟨hx, hb, hml, hown, hts, hK, hr, hlocks, (fun h => absurd h (by decide)), by decide⟩ (Lr_ent [.ref b] (show 1 ≤ 4 by decide)) hI (fun _ h => absurd h List.not_mem_nil) (by decide) (by decide) (by show 0 + (nxt M' - s.heap.size) ≤ 600000; omega) (by show 0 + (slo M' - 0) ≤ 7302249; omega) ?_
  intro H' locs' pc' L' ls' i len hd hl hst hI' hlo
  obtain ⟨-, ⟨rfl, h0, -⟩ | ⟨v, ty, rfl, h0, -, -⟩ | ⟨v, rfl, h0, -⟩ | ⟨v, rt, rfl, h0, -⟩⟩ := ret_cases hst
  · cases h0
  · cases h0
    cases beq_iff_eq.mp hl
    have hw := lw_ret (l := l) (e := e) (m := m) (b := b) (s := s) (below := below) (H := H') (ls := ls') hx hb hr hlocks (pc := pc') hd
    refine W.widen (k := 600000) (n := 7302249) (by show 0 + (nxt M' - s.heap.size) ≤ 600000; omega) (by show 0 + (slo M' - 0) ≤ 7302249; omega) ?_
    have := W.forget (L := locs') (locs := []) (fun q hq => hlo q hq) hw
    exact this
  · cases h0
  · cases h0
    obtain ⟨-, hz⟩ := ret_cases hst
    rcases hz with ⟨e1, -⟩ | ⟨_, _, e1, -⟩ | ⟨_, e1, -⟩ | ⟨_, _, e1, e2, e3, e4, e5⟩
    · cases e1
    · cases e1
    · cases e1
    · cases e2
      rcases e5 with e5 | ⟨_, e5⟩ <;> cases e5
