theorem ret_cases {f : Fn} {i : Instr} {pc : Nat} {L st : List Value} {M : Mm} {r : Option Value} (h : step f i pc L st M = some (.inr (.inl r))) : st = r.toList ∧
    ((i = .return_ ∧ r = none ∧ fnR f = none) ∨ (∃ v ty, i = .ireturn ∧ r = some (.int v) ∧ fnR f = some ty ∧ narrow ty (.int v) = .int v) ∨ (∃ v, i = .lreturn ∧ r = some (.long v) ∧ fnR f = some .long) ∨
     (∃ v rt, i = .areturn ∧ r = some v ∧ fnR f = some rt ∧ ((∃ n, rt = .object n) ∨ ∃ t, rt = .array t) ∧ (v = .null ∨ ∃ a, v = .ref a))) := by
  have nn : ∀ {q : Nat} {A B : List Value} {N : Mm}, ¬ nx q A B N = some (.inr (.inl r)) := fun h => by cases nx_some h
  cases i <;> simp only [step, s1i, s2i, s1l, s2l, sli, s1r, sri, srii, sril, gd, tg, ldI, ldJ, ldA, st1, stR, ar, ob, mk] at h
  case return_ =>
    split at h
    · rename_i e; cases h; exact ⟨rfl, Or.inl ⟨rfl, rfl, e⟩⟩
    · cases h
  case ireturn =>
    split at h
    · rename_i v ty e
      split at h
      · rename_i e2
        cases h
        exact ⟨rfl, Or.inr (Or.inl ⟨v, ty, rfl, rfl, e, of_decide_eq_true e2⟩)⟩
      · cases h
    · cases h
  case lreturn =>
    split at h
    · rename_i v e; cases h; exact ⟨rfl, Or.inr (Or.inr (Or.inl ⟨v, rfl, rfl, e⟩))⟩
    · cases h
  case areturn =>
    split at h
    · rename_i v n e
      split at h
      · rename_i e2
        cases h
        exact ⟨rfl, Or.inr (Or.inr (Or.inr ⟨v, _, rfl, rfl, e, Or.inl ⟨n, rfl⟩, isR_or e2⟩))⟩
      · cases h
    · rename_i v n e
      split at h
      · rename_i e2
        cases h
        exact ⟨rfl, Or.inr (Or.inr (Or.inr ⟨v, _, rfl, rfl, e, Or.inr ⟨n, rfl⟩, isR_or e2⟩))⟩
      · cases h
    · cases h
  all_goals (repeat' split at h)
  all_goals first
    | exact absurd h nn
    | cases h
theorem mk_some {f g g' : Fn} {as as' rest rest' : List Value} (h : mk f g as rest = some (.inr (.inr (g', as', rest')))) : g' = g ∧ as' = as ∧ rest' = rest ∧ fnK g < fnK f ∧ rest.length ≤ 4 ∧ (expd as).length ≤ fnL g ∧ 19 + fnL g + fnS g ≤ fnS f := by
  unfold mk at h
  obtain ⟨hc, h⟩ := gd_some h
  cases h
  simp only [Bool.and_eq_true, decide_eq_true_eq] at hc
  exact ⟨rfl, rfl, rfl, hc.1.1.1, hc.1.1.2, hc.1.2, hc.2⟩
theorem take_drop {n : Nat} {st rest : List Value} {b : Nat} (e : st.drop n = .ref b :: rest) : st = (st.take n).reverse.reverse ++ .ref b :: rest ∧ (st.take n).reverse.length = n := by
  have h1 : n < st.length := by
    have : (st.drop n).length = (Value.ref b :: rest).length := by rw [e]
    simp only [List.length_drop, List.length_cons] at this
    omega
  refine ⟨?_, by rw [List.length_reverse, List.length_take]; omega⟩
  rw [List.reverse_reverse, ← e, List.take_append_drop]
theorem call_cases {f g : Fn} {i : Instr} {pc : Nat} {L st as rest : List Value} {M : Mm} (h : step f i pc L st M = some (.inr (.inr (g, as, rest)))) : (fnK g < fnK f ∧ rest.length ≤ 4 ∧ (expd as).length ≤ fnL g ∧ 19 + fnL g + fnS g ≤ fnS f) ∧
    ((∃ k, i = .invokestatic k ∧ lk mT (fnC f) k = some (0, g) ∧ st = as.reverse ++ rest ∧ as.length = fnP g) ∨
     (∃ k b As, i = .invokevirtual k ∧ lk mT (fnC f) k = some (1, g) ∧ as = .ref b :: As ∧ st = As.reverse ++ .ref b :: rest ∧ As.length = fnP g ∧ sh M b = some (.inl (fnC g))) ∨
     (∃ k b As, i = .invokespecial k ∧ (lk mT (fnC f) k = some (2, g) ∨ lk mT (fnC f) k = some (7, g)) ∧ as = .ref b :: As ∧ st = As.reverse ++ .ref b :: rest ∧ As.length = fnP g)) := by
  have nn : ∀ {q : Nat} {A B : List Value} {N : Mm}, ¬ nx q A B N = some (.inr (.inr (g, as, rest))) := fun h => by cases nx_some h
  cases i
  case invokestatic k =>
    simp only [step] at h
    split at h
    · rename_i g' hk
      obtain ⟨hc, h⟩ := gd_some h
      have hc := of_decide_eq_true hc
      obtain ⟨rfl, rfl, rfl, h1, h2, h3, h4⟩ := mk_some h
      exact ⟨⟨h1, h2, h3, h4⟩, Or.inl ⟨k, rfl, hk, by rw [List.reverse_reverse, List.take_append_drop], by rw [List.length_reverse, List.length_take]; omega⟩⟩
    all_goals try simp only [s2i, gd, ar] at h
    all_goals (repeat' split at h)
    all_goals first
      | exact absurd h nn
      | cases h
  case invokevirtual k =>
    simp only [step] at h
    split at h
    · rename_i g' hk
      split at h
      · rename_i b rest' e
        obtain ⟨c, hb, h⟩ := ob_some h
        obtain ⟨hc, h⟩ := gd_some h
        have hc := of_decide_eq_true hc
        obtain ⟨rfl, rfl, rfl, h1, h2, h3, h4⟩ := mk_some h
        obtain ⟨t1, t2⟩ := take_drop e
        exact ⟨⟨h1, h2, h3, h4⟩, Or.inr (Or.inl ⟨k, b, _, rfl, hk, rfl, t1, t2, by rw [← hc]; exact hb⟩)⟩
      · cases h
    · cases h
  case invokespecial k =>
    simp only [step] at h
    split at h
    · rename_i g' hk
      split at h
      · rename_i b rest' e
        obtain ⟨rfl, rfl, rfl, h1, h2, h3, h4⟩ := mk_some h
        obtain ⟨t1, t2⟩ := take_drop e
        exact ⟨⟨h1, h2, h3, h4⟩, Or.inr (Or.inr ⟨k, b, _, rfl, Or.inl hk, rfl, t1, t2⟩)⟩
      · cases h
    · rename_i g' hk
      split at h
      · rename_i b rest' e
        obtain ⟨rfl, rfl, rfl, h1, h2, h3, h4⟩ := mk_some h
        obtain ⟨t1, t2⟩ := take_drop e
        exact ⟨⟨h1, h2, h3, h4⟩, Or.inr (Or.inr ⟨k, b, _, rfl, Or.inr hk, rfl, t1, t2⟩)⟩
      · cases h
    · simp only [s1r, gd] at h
      repeat' split at h
      all_goals first
        | exact absurd h nn
        | cases h
    · cases h
  all_goals simp only [step, s1i, s2i, s1l, s2l, sli, s1r, sri, srii, sril, gd, tg, ldI, ldJ, ldA, st1, stR, ar, ob, mk] at h
  all_goals (repeat' split at h)
  all_goals first
    | exact absurd h nn
    | cases h
theorem good_all {w : Cond} (hw : w ∈ ALL) : GoodIn ALL (w :: ALL) := by
  intro v hv
  have : v ∈ ALL := (List.mem_cons.mp hv).elim (fun e => e ▸ hw) id
  exact ⟨this, good_of_word (List.mem_filter.mp this).2⟩
def Pcc (G : Gp) (as : List Value) (M : Mm) : Array Value → State → Prop := fun a U => a = as.toArray ∧ Iv G M U.heap ∧ KK G U
def Qcc (G : Gp) (r : Option Value) (M1 : Mm) : Array Value → State → Outcome → State → Prop := fun _ _ o t => o = .returned r ∧ Iv G M1 t.heap
def rmm (g : Fn) (M M1 : Mm) : Room := { frames := fnK g, cells := nxt M1 - nxt M, slots := slo M1 - slo M, locals := fnS g }
theorem blind {G : Gp} {as : List Value} {M : Mm} : FrameBlind (Pcc G as M) := fun a U g mk h => ⟨h.1, h.2.1, KK.same (u := U) rfl h.2.2⟩
theorem run_on {p : Program} {l : Launch} {e : Env} {R : Room} {s : State} {m : MethodId} {args : Array Value} {below : List Frame} {meth : Method} {c : Code} {H : Heap} {locs : List Loc} {cells slots mc ms : Nat} {Q : State → Prop} {pc : Nat} {ls : Array Slot} {st0 rest : List Value} {Qa : State → Outcome → State → Prop} {free : Addr → Prop}
    (hr : va_Run p l e R s m args below meth c H locs cells slots mc ms (F0 m pc ls st0) rest Qa free)
    (kk : ∀ (v : Option Value) (st₀ t : State) (L1 : List Loc), (∀ q ∈ L1, free q.base) → Qa st₀ (.returned v) t → W p l e R s m args below meth c t.heap (locs ++ L1) (cells + mc) (slots + ms) Q (F0 m (pc + 3) ls (v.toList ++ rest))) : W p l e R s m args below meth c H locs cells slots Q (F0 m pc ls st0) := by
  intro T hT X
  obtain ⟨v, st₀, t, T', L, h0, X', hL, e1, e2, hq, st⟩ := hr T hT X
  obtain ⟨t2, a1, b1⟩ := kk v st₀ t L hL hq T' e1 X'
  exact ⟨t2, st t2 a1, b1⟩
/-- n steps of the small machine are the machine's -/
def Snd (G : Gp) (n : Nat) : Prop := ∀ (f : Fn) (pc : Nat) (L st : List Value) (M : Mm) (r : Option Value) (M' : Mm), exec n f pc L st M = some (r, M') → L.length = fnL f →
  ∀ (p : Program) (l : Launch) (e : Env) (R : Room) (s : State) (m : MethodId) (args : Array Value) (below : List Frame) (meth : Method) (c : Code) (H : Heap) (locs : List Loc) (cells slots : Nat) (Q : State → Prop) (ls : Array Slot),
    Cx G f p s m args meth c → Lr ls L → Iv G M H → (∀ q ∈ locs, G.2.2.2 ≤ q.base) → fnK f ≤ R.frames → fnS f ≤ R.locals → cells + (nxt M' - nxt M) ≤ R.cells → slots + (slo M' - slo M) ≤ R.slots →
    (∀ (H' : Heap) (locs' : List Loc) (pc' : Nat) (L' : List Value) (ls' : Array Slot) (i : Instr) (len : Nat), decode (fnB f) pc' = .ok (i, len) → okL i len = true → step f i pc' L' r.toList M' = some (.inr (.inl r)) → Iv G M' H' → (∀ q ∈ locs', G.2.2.2 ≤ q.base) →
      W p l e R s m args below meth c H' locs' (cells + (nxt M' - nxt M)) (slots + (slo M' - slo M)) Q (F0 m pc' ls' r.toList)) →
    W p l e R s m args below meth c H locs cells slots Q (F0 m pc ls st)
theorem ent_len {n : Nat} {as : List Value} (h : (expd as).length ≤ n) : (ent n as).length = n := by
  unfold ent
  rw [List.length_append, List.length_replicate]
  omega
set_option maxHeartbeats 4000000 in
theorem met_of {G : Gp} {n : Nat} (ih : Snd G n) {g : Fn} {as : List Value} {M M1 : Mm} {r : Option Value} (hok : Fok g) (h : exec n g 0 (ent (fnL g) as) [] M = some (r, M1)) (hexp : (expd as).length ≤ fnL g) (l : Launch) :
    Met l (fnY g) (Cond.code (fnY g) (fnB g) (fnL g) (fnR g) :: ALL) (rmm g M M1) (Pcc G as M) (Qcc G r M1) (nxt M1 - nxt M) (slo M1 - slo M) (fun q => G.2.2.2 ≤ q) := by
  refine Met.ofW (cc := fnB g) (maxL := fnL g) (ret := fnR g) hok.1 rfl ?_
  intro p e s m args below meth c s₁ B hml hv
  obtain ⟨rfl, hI, hK⟩ := hv
  have hts := atoms_spec (ws := Cond.code (fnY g) (fnB g) (fnL g) (fnR g) :: ALL) B.pre
  have hown : s.vm.findClass (fnY g).cls = some m.cls := findClass_of_methodNamed B.named
  rw [hok.2.2.1] at hown
  have hlocks := B.notSynchronized
  rw [lg_entry_eq]
  refine ih g 0 _ [] M r M1 h (ent_len hexp) p l e _ s m _ below meth c s.heap [] 0 0 _ _ ⟨B.exec, B.bytes, hml, hown, fun w hw => hts w (List.mem_cons_of_mem _ hw), hK, B.returns, hlocks, fun hn => (name_of_methodNamed B.named B.method).1.trans hn, hok.2.2.2.1⟩ (Lr_ent as hexp) hI (fun _ h => absurd h List.not_mem_nil) (Nat.le_refl _) (Nat.le_refl _) (by show 0 + (nxt M1 - nxt M) ≤ nxt M1 - nxt M; omega) (by show 0 + (slo M1 - slo M) ≤ slo M1 - slo M; omega) ?_
  intro H' locs' pc' L' ls' i len hd hl hs hI' hlo
  rw [Nat.zero_add, Nat.zero_add]
  obtain ⟨-, ⟨rfl, rfl, hr⟩ | ⟨v, ty, rfl, rfl, hr, hn⟩ | ⟨v, rfl, rfl, hr⟩ | ⟨v, rt, rfl, rfl, hr, hrt, hv⟩⟩ := ret_cases hs
  · cases beq_iff_eq.mp hl
    exact W.vret B.exec B.bytes (B.returns.trans hr) (fun t ht _ => ⟨rfl, by rw [ht]; exact hI'⟩) hlo hd
  · cases beq_iff_eq.mp hl
    exact W.zret B.exec B.bytes (B.returns.trans hr) hn (fun t ht _ => ⟨rfl, by rw [ht]; exact hI'⟩) hlo hd
  · cases beq_iff_eq.mp hl
    exact W.lret B.exec B.bytes (B.returns.trans hr) (fun t ht _ => ⟨rfl, by rw [ht]; exact hI'⟩) hlo hd
  · cases beq_iff_eq.mp hl
    exact W.aret B.exec B.bytes (B.returns.trans hr) hrt hv (fun t ht _ => ⟨rfl, by rw [ht]; exact hI'⟩) hlo hd
set_option maxHeartbeats 4000000 in
theorem sound (G : Gp) : ∀ n, Snd G n := by
  intro n
  induction n with
  | zero => intro f pc L st M r M' h; cases h
  | succ n ih =>
    intro f pc L st M r M' h hL p l e R s m args below meth c H locs cells slots Q ls hC hl hI hlo hfr hlc hcl hsl hret
    obtain ⟨n', i, len, en, hd, hln, hc⟩ := exec_cases h
    have en : n' = n := by omega
    subst en
    rcases hc with ⟨pc', L', st', M1, hs, h2⟩ | ⟨r', hs, e2⟩ | ⟨g, as, rest, r', M1, hs, h2, h3⟩
    · have m1 := step_mono hs
      have m2 := exec_mono h2
      refine step_pure hd hln hs hC hl hI hlo hfr hlc (by omega) (by omega) hL ?_
      intro H' locs' ls' hl' hI' hlo'
      refine ih f pc' L' st' M1 r M' h2 (m1.2.2.trans hL) p l e R s m args below meth c H' locs' (cells + (nxt M1 - nxt M)) (slots + (slo M1 - slo M)) Q ls' hC hl' hI' hlo' hfr hlc (by omega) (by omega) ?_
      intro H2 locs2 pc2 L2 ls2 i2 len2 b1 b2 b3 b4 b5
      exact W.cs (by omega) (by omega) (hret H2 locs2 pc2 L2 ls2 i2 len2 b1 b2 b3 b4 b5)
    · cases e2
      have hst := (ret_cases hs).1
      subst hst
      have := hret H locs pc L ls i len hd hln hs hI hlo
      rw [Nat.sub_self, Nat.sub_self, Nat.add_zero, Nat.add_zero] at this
      exact this
    · have m1 := exec_mono h2
      have m2 := exec_mono h3
      have q1 : cells + (nxt M1 - nxt M) + (nxt M' - nxt M1) = cells + (nxt M' - nxt M) := by omega
      have q2 : slots + (slo M1 - slo M) + (slo M' - slo M1) = slots + (slo M' - slo M) := by omega
      obtain ⟨⟨hk, hr4, hexp, hroom⟩, hcc⟩ := call_cases hs
      have hcat := cat_le rest
      have hml : ls.size = fnL f := hl.1.trans hL
      have fin : ∀ (Qa : State → Outcome → State → Prop), (∀ st₀ o t, Qa st₀ o t → o = .returned r' ∧ Iv G M1 t.heap) → va_Run p l e R s m args below meth c H locs cells slots (nxt M1 - nxt M) (slo M1 - slo M) (F0 m pc ls st) rest Qa (fun q => G.2.2.2 ≤ q) → W p l e R s m args below meth c H locs cells slots Q (F0 m pc ls st) := by
        intro Qa hQ hrun
        refine run_on hrun ?_
        intro v st₀ t L1 hL1 hq
        obtain ⟨ev, hI1⟩ := hQ _ _ _ hq
        cases ev
        refine ih f (pc + 3) L (r'.toList ++ rest) M1 r M' h3 hL p l e R s m args below meth c t.heap (locs ++ L1) (cells + (nxt M1 - nxt M)) (slots + (slo M1 - slo M)) Q ls hC hl hI1 (fun q hq => (List.mem_append.mp hq).elim (hlo q) (hL1 q)) hfr hlc (by omega) (by omega) ?_
        intro H2 locs2 pc2 L2 ls2 i2 len2 b1 b2 b3 b4 b5
        exact W.cs q1 q2 (hret H2 locs2 pc2 L2 ls2 i2 len2 b1 b2 b3 b4 b5)
      obtain ⟨hx, hb, hmx, hown, hts, hK, -⟩ := hC
      have hR : (rmm g M M1).frames + 1 ≤ R.frames ∧ 8 + (fnL g + 11) + (rmm g M M1).locals ≤ R.locals := ⟨by show fnK g + 1 ≤ _; omega, by show 8 + (fnL g + 11) + fnS g ≤ _; omega⟩
      have hf : cells + (nxt M1 - nxt M) ≤ R.cells ∧ slots + (slo M1 - slo M) ≤ R.slots := ⟨by omega, by omega⟩
      rcases hcc with ⟨k, rfl, hkk, rfl, hlen⟩ | ⟨k, b, As, rfl, hkk, rfl, rfl, hlen, hsh⟩ | ⟨k, b, As, rfl, hkk, rfl, rfl, hlen⟩
      · cases beq_iff_eq.mp hln
        obtain ⟨hok, w1, w2⟩ := mT_ok _ (lk_mem hkk)
        have cb := callB_of (R := R) (own := cN (fnC f)) (index := k) (fnP g) hts (good_all hok.2.1) rfl (rm := rmm g M M1) rfl rfl (hts _ hok.2.2.2.2.2) (hts _ w1) hok.2.2.2.2.1 hR
        exact fin _ (fun _ _ _ q => q) (va_runS (As := as) (rest := rest) ⟨hx, hb, hmx, hown, hts⟩ (met_of ih hok h2 hexp l) ⟨cb, hts _ w2⟩ ⟨blind, fun U hU hW => ⟨rfl, by rw [hU]; exact hI, hK.moved hW⟩⟩ rfl hlen hml rfl (lv_room (by omega)) hd hf)
      · cases beq_iff_eq.mp hln
        obtain ⟨hok, w1, w2, w3, r9, hr9, hcn⟩ := mT_ok _ (lk_mem hkk)
        have cb := callB_of (R := R) (own := cN (fnC f)) (index := k) (fnP g) hts (good_all hok.2.1) rfl (rm := rmm g M M1) rfl rfl (hts _ hok.2.2.2.2.2) (hts _ w1) hok.2.2.2.2.1 hR
        have hrec : ∃ cellB : Cell, H[b]? = some cellB ∧ cellB.vm.isStatics = false ∧ s.vm.findClass (fnY g).cls = some cellB.cls := by
          obtain ⟨-, r8, hr8, cell, q1, q2, q3, -⟩ := hI.2.2 b _ hsh
          cases hr8.symm.trans hr9
          exact ⟨cell, q1, by rw [q3]; rfl, by rw [q2, ← hcn]; exact (hK.1.1 _ _ hr9).2.1⟩
        exact fin _ (fun _ _ _ q => q) (va_runV (C := (fnY g).cls) (As := As) (rest := rest) ⟨hx, hb, hmx, hown, hts⟩ (met_of ih hok h2 hexp l) ⟨cb, hts _ w2, hts _ w3⟩ ⟨blind, hrec, fun U hU hW => ⟨rfl, by rw [hU]; exact hI, hK.moved hW⟩⟩ rfl hlen hml rfl (lv_room (by omega)) hd hf)
      · cases beq_iff_eq.mp hln
        rcases hkk with hkk | hkk
        · obtain ⟨hok, w1, w2, hin, hrn⟩ := mT_ok _ (lk_mem hkk)
          have cb := callB_of (R := R) (own := cN (fnC f)) (index := k) (fnP g) hts (good_all hok.2.1) rfl (rm := rmm g M M1) rfl rfl (hts _ hok.2.2.2.2.2) (hts _ w1) hok.2.2.2.2.1 hR
          have hrn : fnR g = none := hrn
          rw [hrn] at cb
          exact fin _ (fun _ _ _ q => q) (va_runI (As := As) (rest := rest) ⟨hx, hb, hmx, hown, hts⟩ (by have := met_of ih hok h2 hexp l; rw [hrn] at this; exact this) ⟨cb, hin, hts _ w2⟩ ⟨blind, fun U hU hW => ⟨rfl, by rw [hU]; exact hI, hK.moved hW⟩⟩ rfl hlen hml rfl (lv_room (by omega)) hd hf)
        · obtain ⟨hok, ⟨hst, w1⟩, w2, hin, hrn⟩ := mT_ok _ (lk_mem hkk)
          have cb := va_cnB (R := R) (own := cN (fnC f)) (host := hst) (index := k) (fnP g) hts (good_all hok.2.1) rfl (rm := rmm g M M1) rfl rfl (hK.2.2.2.2 _ w1) (hts _ hok.2.2.2.2.2) hok.2.2.2.2.1 hR
          have hrn : fnR g = none := hrn
          rw [hrn] at cb
          exact fin _ (fun _ _ _ q => q) (va_runIN (As := As) (rest := rest) ⟨hx, hb, hmx, hown, hts⟩ (by have := met_of ih hok h2 hexp l; rw [hrn] at this; exact this) ⟨cb, hin, hts _ w2⟩ ⟨blind, fun U hU hW => ⟨rfl, by rw [hU]; exact hI, hK.moved hW⟩⟩ rfl hlen hml rfl (lv_room (by omega)) hd hf)
