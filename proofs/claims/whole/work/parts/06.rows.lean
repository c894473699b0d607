theorem cls_tk {ci : Nat} {r : vw_C} (h : classes[ci]? = some r) : ∀ i, i < r.2.2 → tk (cY ci i) ≠ 3 := by
  have key : ∀ ci, ci < 13 → ∀ i, i < cS ci → tk (cY ci i) ≠ 3 := by decide +kernel
  obtain ⟨-, -, -, -, -, hs⟩ := cls_ok _ _ h
  have hci : ci < 13 := (List.getElem?_eq_some_iff.mp h).1
  intro i hi
  exact key ci hci i (by rw [hs]; exact hi)
theorem aTy_ob {k : Nat} {ty : FieldType} (h : aTy (k + 10) = some ty) : ∃ C, ty = .object C := by
  match k, h with
  | 0, h => cases h; exact ⟨_, rfl⟩
  | 1, h => cases h; exact ⟨_, rfl⟩
  | 2, h => cases h; exact ⟨_, rfl⟩
  | k + 3, h => cases h
theorem aO_ok {kd ci : Nat} (h : lk aO 0 kd = some ci) : 10 ≤ kd ∧ aTy kd = some (.object (cN ci)) ∧ ∀ M a q, eV M kd a q = va_rf (gR M a q) := by
  have := lk_mem h
  simp only [aO, List.mem_cons, Prod.mk.injEq, true_and, List.not_mem_nil, or_false] at this
  rcases this with ⟨rfl, rfl⟩ | ⟨rfl, rfl⟩ | ⟨rfl, rfl⟩
  · exact ⟨by decide, rfl, fun _ _ _ => rfl⟩
  · exact ⟨by decide, rfl, fun _ _ _ => rfl⟩
  · exact ⟨by decide, rfl, fun _ _ _ => rfl⟩
/-- what holds of the method that runs -/
def Cx (G : Gp) (f : Fn) (p : Program) (s : State) (m : MethodId) (args : Array Value) (meth : Method) (c : Code) : Prop :=
  p.tables.exec = Jvm.exec ∧ c.code = fnB f ∧ c.maxLocals = fnL f ∧ s.vm.findClass (cN (fnC f)) = some m.cls ∧ (∀ w ∈ ALL, w.before args s = true) ∧ KK G s ∧ meth.sig.returnType = fnR f ∧ meth.locks = false ∧ ((fnY f).name = "<init>" → meth.name = "<init>") ∧ 1 ≤ fnK f
section SND
variable {p : Program} {l : Launch} {e : Env} {R : Room} {s : State} {m : MethodId} {args : Array Value} {below : List Frame} {meth : Method} {c : Code} {H : Heap} {locs : List Loc} {cells slots : Nat} {Q : State → Prop}
variable {pc : Nat} {ls : Array Slot} {rest : List Value} {G : Gp} {f : Fn} {M : Mm} {L : List Value}
theorem lo_put {a k : Nat} (hlo : ∀ q ∈ locs, G.2.2.2 ≤ q.base) (ha : G.2.2.2 ≤ a) : ∀ q ∈ locs ++ [(⟨a, k⟩ : Loc)], G.2.2.2 ≤ q.base := by
  intro q hq
  rcases List.mem_append.mp hq with h | h
  · exact hlo q h
  · rw [List.mem_singleton.mp h]; exact ha
theorem fld_get (hC : Cx G f p s m args meth c) (hI : Iv G M H) {a ci j k : Nat} (ha : sh M a = some (.inl ci)) (hk : lk fT (fnC f) k = some (ci, j)) (hdg : decode (fnB f) pc = .ok (.getfield k, 3))
    (kk : W p l e R s m args below meth c H locs cells slots Q (F0 m (pc + 3) ls (fV M ci a j :: rest))) : W p l e R s m args below meth c H locs cells slots Q (F0 m pc ls (.ref a :: rest)) := by
  obtain ⟨hx, hb, -, hown, hts, hK, -⟩ := hC
  obtain ⟨r, hr, hj, hlink⟩ := fT_ok _ (lk_mem hk)
  obtain ⟨hws, -⟩ := cls_ok _ _ hr
  obtain ⟨-, r', hr', hO⟩ := hI.2.2 a _ ha
  cases hr.symm.trans hr'
  obtain ⟨C, T, N⟩ := r
  obtain ⟨cell, q1, q2, q3, q4⟩ := hO
  obtain ⟨hS, hfc, kC, hkC, hkind⟩ := hK.1.1 ci _ hr
  obtain ⟨cf, kf, fi, fd, hi, hsl⟩ := hS j hj
  refine W.getf hx hb hown (hts _ hlink) hi (u_facts hfc hkC (u_lays hts hws hj) hi).1 q1 (by rw [q3]; exact fun h => by cases h) (v := fV M ci a j) ?_ rfl rfl hdg kk
  rw [hsl, q4 j hj]
theorem fld_put (hC : Cx G f p s m args meth c) (hI : Iv G M H) {M1 : Mm} {a ci j k : Nat} {v : Value} (ha : sh M a = some (.inl ci)) (hk : lk fT (fnC f) k = some (ci, j)) (hn : narrow (cY ci j) v = v) (hf : fits (cY ci j) v = true) (hfin : cF ci j = false ∨ (fnC f = ci ∧ (fnY f).name = "<init>")) (hdg : decode (fnB f) pc = .ok (.putfield k, 3)) (hlo : ∀ q ∈ locs, G.2.2.2 ≤ q.base)
    (hs : M1.1 = M.1) (hnx : nxt M1 = nxt M) (hv : fV M1 ci a = updV (fV M ci a) j v) (hI1 : ∀ b j, b ≠ a → gI M1 b j = gI M b j) (hJ1 : ∀ b j, b ≠ a → gJ M1 b j = gJ M b j) (hR1 : ∀ b j, b ≠ a → gR M1 b j = gR M b j)
    (kk : ∀ (H1 : Heap) (locs1 : List Loc), Iv G M1 H1 → (∀ q ∈ locs1, G.2.2.2 ≤ q.base) → W p l e R s m args below meth c H1 locs1 cells slots Q (F0 m (pc + 3) ls rest)) : W p l e R s m args below meth c H locs cells slots Q (F0 m pc ls (v :: .ref a :: rest)) := by
  obtain ⟨hx, hb, -, hown, hts, hK, -, -, hin, -⟩ := hC
  obtain ⟨r, hr, hjN, hlink⟩ := fT_ok _ (lk_mem hk)
  obtain ⟨hws, hty, hnm, hfl, hcn, -⟩ := cls_ok _ _ hr
  obtain ⟨hB, r', hr', hO⟩ := hI.2.2 a _ ha
  cases hr.symm.trans hr'
  obtain ⟨C, T, N⟩ := r
  have hap := va_apart (D := G.1) (own := C) (tys := []) hts hws (cY ci) hty hnm hK.1 hr
  obtain ⟨cell, q1, q2, q3, q4⟩ := hO
  obtain ⟨hS, hfc, kC, hkC, hkind⟩ := hK.1.1 ci _ hr
  obtain ⟨cf, kf, fi, fd, hi, hsl⟩ := hS j hjN
  have hlay := hts _ (hws _ (u_in_lay hjN))
  unfold u_lay at hlay
  have hst := (u_facts hfc hkC (u_lays hts hws hjN) hi).1
  have fin : ∀ H' : Heap, H'[a]? = some (cell.setSlot fd.slot v) → H'.size = H.size → (∀ q, q ≠ a → H'[q]? = H[q]?) → Iv G M1 H' := by
    intro H' e1 e2 e3
    rw [hsl] at e1
    refine hI.put hs hnx (fun t ht => ?_) e2 e3 hI1 hJ1 hR1
    cases ha.symm.trans ht
    exact ⟨hB, _, hr, by rw [hv]; exact ⟨_, e1, q2, q3, t_set q4 hap hjN v⟩⟩
  have lo := lo_put (k := fd.slot) hlo hB
  by_cases hb2 : (T j).2.2.2 = true
  · rw [if_pos hb2] at hlay
    have hcF : cF ci j = true := (hfl j hjN).1.trans hb2
    obtain ⟨hci, hini⟩ := hfin.resolve_left (by rw [hcF]; decide)
    have hdecl : (T j).1 = cN (fnC f) := by rw [hci]; exact (hfl j hjN).2
    have hcf : m.cls = cf := by
      obtain ⟨_, _, c', _, _, _, -, -, hf', -, -, -, hown2, -⟩ := Cond.laysFinal_spec hlay
      have e1 : c' = cf := by have := hi.symm.trans hf'; simp at this; exact this.1.symm
      rw [hdecl] at hown2
      rw [← e1]; exact Option.some.inj (hown.symm.trans hown2)
    have h6 := u_fits hfc hkC hkind (Or.inr hlay) hi (hty j hjN) hn hf
    exact W.putFinK hx hb hown (hts _ hlink) hi hst hcf (hin hini) (by rw [q2]; exact h6) q1 q3 (by rw [hsl]; exact k2_hasslot (q4 j hjN)) rfl rfl hdg fun H' e1 e2 e3 => kk H' _ (fin H' e1 e2 e3) lo
  · rw [if_neg hb2] at hlay
    have h6 := u_store hfc hkC hkind hlay hi (hty j hjN) hn hf
    exact W.putK hx hb (f := fd) ⟨hown, hts _ hlink, ⟨_, _, _, hi⟩, hst⟩ (by rw [q2]; exact h6) q1 q3 (by rw [hsl]; exact k2_hasslot (q4 j hjN)) rfl rfl hdg fun H' e1 e2 e3 => kk H' _ (fin H' e1 e2 e3) lo
theorem tk_def (ty : FieldType) (h : tk ty ≠ 3) (M : Mm) (ci k : Nat) (e : cY ci k = ty) (n : Tg) (z : Nat) : fV (nw M n z) ci (nxt M) k = defaultValue ty := by
  simp only [fV, e, gI, gJ, gR, nw, if_true]
  cases ty <;> first | rfl | exact absurd rfl h
theorem obj_new (hC : Cx G f p s m args meth c) (hI : Iv G M H) {ci k : Nat} (hk : lk nT (fnC f) k = some ci) (hdg : decode (fnB f) pc = .ok (.new k, 3)) (hc : cells + 1 ≤ R.cells) (hs : slots + cS ci ≤ R.slots)
    (kk : ∀ H1 : Heap, Iv G (nw M (.inl ci) (cS ci)) H1 → W p l e R s m args below meth c H1 locs (cells + 1) (slots + cS ci) Q (F0 m (pc + 3) ls (.ref (nxt M) :: rest))) : W p l e R s m args below meth c H locs cells slots Q (F0 m pc ls rest) := by
  obtain ⟨hx, hb, -, hown, hts, hK, -, -, hin, -⟩ := hC
  obtain ⟨r, hr, h1, h2, h3⟩ := nT_ok _ (lk_mem hk)
  obtain ⟨hws, hty, hnm, hfl, hcn, hcs⟩ := cls_ok _ _ hr
  obtain ⟨C, T, N⟩ := r
  have hcs : cS ci = N := hcs
  have hKn := hK.1.1 ci _ hr
  rw [hcs] at hs kk
  refine W.newcK hx hb hown (hts _ h1) (hts _ h2) (hts _ h3) rfl hdg hc hs hKn.2.1 hI.1 fun H1 kC a1 a2 a3 a4 => ?_
  have hO := u_born (cY ci) hts hws hKn a1 a2 hty
  refine kk H1 (hI.new ?_ (by rw [a3, hI.1]) (fun q hq => a4 q (by rw [← hI.1]; exact hq)))
  rw [hI.1]
  exact ⟨hI.2.1, _, hr, hO.to fun i hi => (tk_def _ (cls_tk hr i hi) M ci i rfl _ _).symm⟩
theorem arr_new_iv (hI : Iv G M H) {kd n : Nat} {ty : FieldType} {cA : ClassId} (hkd : aTy kd = some ty) (h9 : kd ≠ 9) (hcA : G.2.1 kd = cA) (hd : ∀ j, eV (nw M (.inr (kd, n)) n) kd (nxt M) j = defaultValue ty) : Iv G (nw M (.inr (kd, n)) n) (H.push { cls := cA, slots := Array.replicate n (defaultValue ty), vm := .none }) := by
  refine hI.new (Or.inl ⟨h9, by rw [hkd]; rfl, by rw [hI.1]; exact hI.2.1, ?_⟩) (by simp) (fun q hq => by rw [Array.getElem?_push, if_neg (Nat.ne_of_lt hq)])
  rw [show eV (nw M (.inr (kd, n)) n) kd H.size = fun _ => defaultValue ty from funext (by rw [hI.1]; exact hd), hcA, ← arrV_new]
  simp
theorem prim_new (hC : Cx G f p s m args meth c) (hI : Iv G M H) {n : Int32} {atype : ArrayType} {kd : Nat} {ty : FieldType} (hty : newarray.typeOf atype = ty) (hp : ∀ C, ty ≠ .object C) (hkd : aTy kd = some ty) (h9 : kd ≠ 9) (hw : Cond.arrayClass ty ∈ ALL) (hd : ∀ j, eV (nw M (.inr (kd, n.toNatClampNeg)) n.toNatClampNeg) kd (nxt M) j = defaultValue ty) (hn : ¬ n < 0) (hb8 : n.toNatClampNeg * componentBytes ty ≤ 536870912) (hdg : decode (fnB f) pc = .ok (.newarray atype, 2)) (hc : cells + 1 ≤ R.cells) (hs : slots + n.toNatClampNeg ≤ R.slots)
    (kk : ∀ H1 : Heap, Iv G (nw M (.inr (kd, n.toNatClampNeg)) n.toNatClampNeg) H1 → W p l e R s m args below meth c H1 locs (cells + 1) (slots + n.toNatClampNeg) Q (F0 m (pc + 2) ls (.ref (nxt M) :: rest))) : W p l e R s m args below meth c H locs cells slots Q (F0 m pc ls (.int n :: rest)) := by
  obtain ⟨hx, hb, -, hown, hts, hK, -, -, hin, -⟩ := hC
  subst hty
  refine W.newa hx hb (hts _ hw) rfl hdg rfl hn hb8 hc hs fun cA kA comp h1 h2 h3 => ?_
  obtain ⟨-, hra, -⟩ := hK.2.1 kd _ hkd
  have hcA : G.2.1 kd = cA := by
    cases hx9 : newarray.typeOf atype with
    | object C => exact absurd hx9 (hp C)
    | _ => rw [hx9] at hra h1; exact Option.some.inj (hra.symm.trans h1)
  have := kk _ (arr_new_iv hI hkd h9 hcA hd)
  rw [hI.1]
  exact this
theorem ref_new (hC : Cx G f p s m args meth c) (hI : Iv G M H) {n : Int32} {k kd : Nat} (hk : lk aT (fnC f) k = some kd) (hn : ¬ n < 0) (hb8 : n.toNatClampNeg ≤ 16777216) (hdg : decode (fnB f) pc = .ok (.anewarray k, 3)) (hc : cells + 1 ≤ R.cells) (hs : slots + n.toNatClampNeg ≤ R.slots)
    (kk : ∀ H1 : Heap, Iv G (nw M (.inr (kd, n.toNatClampNeg)) n.toNatClampNeg) H1 → W p l e R s m args below meth c H1 locs (cells + 1) (slots + n.toNatClampNeg) Q (F0 m (pc + 3) ls (.ref (nxt M) :: rest))) : W p l e R s m args below meth c H locs cells slots Q (F0 m pc ls (.int n :: rest)) := by
  obtain ⟨hx, hb, -, hown, hts, hK, -, -, hin, -⟩ := hC
  obtain ⟨C, h10, h13, hw, hcn⟩ := aT_ok _ (lk_mem hk)
  have h10 : 10 ≤ kd := h10
  have h13 : kd < 13 := h13
  have hkd : aTy kd = some (.object C) := by
    rcases (show kd = 10 ∨ kd = 11 ∨ kd = 12 by omega) with rfl | rfl | rfl
    · exact congrArg (fun z => some (FieldType.object z)) hcn
    · exact congrArg (fun z => some (FieldType.object z)) hcn
    · exact congrArg (fun z => some (FieldType.object z)) hcn
  obtain ⟨-, hra, hao⟩ := hK.2.1 kd _ hkd
  refine W.anew hx hb hown (hts _ hw) ((hao C rfl).use) rfl hdg rfl hn (by omega) hc hs fun cA kA comp h1 h2 h3 h4 => ?_
  obtain ⟨kA', comp', -, -, -, h5⟩ := hra
  have hcA : G.2.1 kd = cA := Option.some.inj (h5.symm.trans h1)
  have := kk _ (arr_new_iv hI hkd (by omega) hcA (fun j => by
    rcases (show kd = 10 ∨ kd = 11 ∨ kd = 12 by omega) with rfl | rfl | rfl <;> simp [eV, gR, nw, va_rf, defaultValue]))
  rw [hI.1]
  exact this
theorem arr_at {a kd n : Nat} (hK : KK G s) (hI : Iv G M H) (ha : sh M a = some (.inr (kd, n))) (h9 : kd ≠ 9) : ∃ ty, aTy kd = some ty ∧ ArrOfT s (G.2.1 kd) ty ∧ va_RA s (G.2.1 kd) ty ∧ G.2.2.2 ≤ a ∧ H[a]? = some (arrV (G.2.1 kd) n (eV M kd a)) := by
  rcases hI.2.2 a _ ha with ⟨h1, h2, h3, h4⟩ | ⟨h1, -⟩
  · obtain ⟨ty, hty⟩ := Option.isSome_iff_exists.mp h2
    exact ⟨ty, hty, (hK.2.1 kd ty hty).1, (hK.2.1 kd ty hty).2.1, h3, h4⟩
  · exact absurd h1 h9
theorem arr_len (hC : Cx G f p s m args meth c) (hI : Iv G M H) {a kd n : Nat} (ha : sh M a = some (.inr (kd, n))) (hdg : decode (fnB f) pc = .ok (.arraylength, 1))
    (kk : W p l e R s m args below meth c H locs cells slots Q (F0 m (pc + 1) ls (.int (Int32.ofNat n) :: rest))) : W p l e R s m args below meth c H locs cells slots Q (F0 m pc ls (.ref a :: rest)) := by
  obtain ⟨hx, hb, -, hown, hts, hK, -⟩ := hC
  by_cases h9 : kd = 9
  · rcases hI.2.2 a _ ha with ⟨h1, -⟩ | ⟨h1, h2, h3, h4, h5⟩
    · exact absurd h9 h1
    · subst h4
      exact W.alen hx hb h3 hK.2.2.1 rfl rfl rfl hdg kk
  · obtain ⟨ty, h1, h2, h3, h4, h5⟩ := arr_at hK hI ha h9
    exact W.alen hx hb h5 (h2 n _) (by rw [arrV_size]) rfl rfl hdg kk
theorem arr_iald (hC : Cx G f p s m args meth c) (hI : Iv G M H) {a n : Nat} {j : Int32} (ha : sh M a = some (.inr (0, n))) (hj : vp_in j n) (hdg : decode (fnB f) pc = .ok (.iaload, 1))
    (kk : W p l e R s m args below meth c H locs cells slots Q (F0 m (pc + 1) ls (.int (gI M a j.toNatClampNeg) :: rest))) : W p l e R s m args below meth c H locs cells slots Q (F0 m pc ls (.int j :: .ref a :: rest)) := by
  obtain ⟨hx, hb, -, hown, hts, hK, -⟩ := hC
  have hlt : j.toNatClampNeg < n := Nat.not_le.mp fun q => hj (Or.inr q)
  obtain ⟨ty, h1, h2, h3, h4, h5⟩ := arr_at hK hI ha (by decide)
  cases h1
  exact W.iald (v := .int (gI M a j.toNatClampNeg)) hx hb h5 (h2 n _) (fun q => by cases q) (by show ¬ (j < 0 ∨ (arrV _ _ _).slots.size ≤ _); rw [arrV_size]; exact hj) (by show (arrV _ _ _).slots[_]? = _; rw [arrV_read _ _ hlt]; rfl) rfl rfl hdg kk
theorem scr_iald (hC : Cx G f p s m args meth c) (hI : Iv G M H) {a n : Nat} {j : Int32} (ha : sh M a = some (.inr (9, n))) (hj : vp_in j n) (hdg : decode (fnB f) pc = .ok (.iaload, 1))
    (kk : W p l e R s m args below meth c H locs cells slots Q (F0 m (pc + 1) ls (.int (gI M a j.toNatClampNeg) :: rest))) : W p l e R s m args below meth c H locs cells slots Q (F0 m pc ls (.int j :: .ref a :: rest)) := by
  obtain ⟨hx, hb, -, hown, hts, hK, -⟩ := hC
  have hlt : j.toNatClampNeg < n := Nat.not_le.mp fun q => hj (Or.inr q)
  rcases hI.2.2 a _ ha with ⟨h1, -⟩ | ⟨h1, h2, h3, h4, h5⟩
  · exact absurd rfl h1
  · subst h4
    exact W.iald hx hb h3 hK.2.2.1 hK.2.2.2.1 hj (h5 _ hlt) rfl rfl hdg kk
theorem arr_bald (hC : Cx G f p s m args meth c) (hI : Iv G M H) {a n : Nat} {j : Int32} (ha : sh M a = some (.inr (2, n))) (hj : vp_in j n) (hdg : decode (fnB f) pc = .ok (.baload, 1))
    (kk : W p l e R s m args below meth c H locs cells slots Q (F0 m (pc + 1) ls (.int (gI M a j.toNatClampNeg) :: rest))) : W p l e R s m args below meth c H locs cells slots Q (F0 m pc ls (.int j :: .ref a :: rest)) := by
  obtain ⟨hx, hb, -, hown, hts, hK, -⟩ := hC
  have hlt : j.toNatClampNeg < n := Nat.not_le.mp fun q => hj (Or.inr q)
  obtain ⟨ty, h1, h2, h3, h4, h5⟩ := arr_at hK hI ha (by decide)
  cases h1
  exact W.bald (v := .int (gI M a j.toNatClampNeg)) hx hb h5 (h2 n _) (fun q => by cases q) (by show ¬ (j < 0 ∨ (arrV _ _ _).slots.size ≤ _); rw [arrV_size]; exact hj) (by show (arrV _ _ _).slots[_]? = _; rw [arrV_read _ _ hlt]; rfl) rfl rfl hdg kk
theorem arr_zald (hC : Cx G f p s m args meth c) (hI : Iv G M H) {a n : Nat} {j : Int32} (ha : sh M a = some (.inr (3, n))) (hj : vp_in j n) (hdg : decode (fnB f) pc = .ok (.baload, 1))
    (kk : W p l e R s m args below meth c H locs cells slots Q (F0 m (pc + 1) ls (.int (gI M a j.toNatClampNeg) :: rest))) : W p l e R s m args below meth c H locs cells slots Q (F0 m pc ls (.int j :: .ref a :: rest)) := by
  obtain ⟨hx, hb, -, hown, hts, hK, -⟩ := hC
  have hlt : j.toNatClampNeg < n := Nat.not_le.mp fun q => hj (Or.inr q)
  obtain ⟨ty, h1, h2, h3, h4, h5⟩ := arr_at hK hI ha (by decide)
  cases h1
  exact W.zald (v := .int (gI M a j.toNatClampNeg)) hx hb h5 (h2 n _) (fun q => by cases q) (by show ¬ (j < 0 ∨ (arrV _ _ _).slots.size ≤ _); rw [arrV_size]; exact hj) (by show (arrV _ _ _).slots[_]? = _; rw [arrV_read _ _ hlt]; rfl) rfl rfl hdg kk
theorem arr_lald (hC : Cx G f p s m args meth c) (hI : Iv G M H) {a n : Nat} {j : Int32} (ha : sh M a = some (.inr (1, n))) (hj : vp_in j n) (hdg : decode (fnB f) pc = .ok (.laload, 1))
    (kk : W p l e R s m args below meth c H locs cells slots Q (F0 m (pc + 1) ls (.long (gJ M a j.toNatClampNeg) :: rest))) : W p l e R s m args below meth c H locs cells slots Q (F0 m pc ls (.int j :: .ref a :: rest)) := by
  obtain ⟨hx, hb, -, hown, hts, hK, -⟩ := hC
  have hlt : j.toNatClampNeg < n := Nat.not_le.mp fun q => hj (Or.inr q)
  obtain ⟨ty, h1, h2, h3, h4, h5⟩ := arr_at hK hI ha (by decide)
  cases h1
  exact W.lald (v := .long (gJ M a j.toNatClampNeg)) hx hb h5 (h2 n _) (fun q => by cases q) (by show ¬ (j < 0 ∨ (arrV _ _ _).slots.size ≤ _); rw [arrV_size]; exact hj) (by show (arrV _ _ _).slots[_]? = _; rw [arrV_read _ _ hlt]; rfl) rfl rfl hdg kk
theorem arr_aald (hC : Cx G f p s m args meth c) (hI : Iv G M H) {a kd n : Nat} {j : Int32} (ha : sh M a = some (.inr (kd, n))) (h10 : 10 ≤ kd) (hj : vp_in j n) (hdg : decode (fnB f) pc = .ok (.aaload, 1))
    (kk : W p l e R s m args below meth c H locs cells slots Q (F0 m (pc + 1) ls (va_rf (gR M a j.toNatClampNeg) :: rest))) : W p l e R s m args below meth c H locs cells slots Q (F0 m pc ls (.int j :: .ref a :: rest)) := by
  obtain ⟨hx, hb, -, hown, hts, hK, -⟩ := hC
  have hlt : j.toNatClampNeg < n := Nat.not_le.mp fun q => hj (Or.inr q)
  obtain ⟨ty, h1, h2, h3, h4, h5⟩ := arr_at hK hI ha (by omega)
  have hob : (∃ C, ty = .object C) ∧ ∀ q, eV M kd a q = va_rf (gR M a q) := by
    match kd, h10, h1 with
    | kd + 10, _, h1 => exact ⟨aTy_ob h1, fun q => rfl⟩
  obtain ⟨⟨C, rfl⟩, he⟩ := hob
  exact W.aald (v := va_rf (gR M a j.toNatClampNeg)) (ty := .object C) hx hb h5 (h2 n _) rfl (fun q => by cases q) (by show ¬ (j < 0 ∨ (arrV _ _ _).slots.size ≤ _); rw [arrV_size]; exact hj) (by show (arrV _ _ _).slots[_]? = _; rw [arrV_read _ _ hlt, he]) rfl rfl hdg kk
theorem arr_iast (hC : Cx G f p s m args meth c) (hI : Iv G M H) {a n : Nat} {j : Int32} {x : Int32} (ha : sh M a = some (.inr (0, n))) (hj : vp_in j n) (hdg : decode (fnB f) pc = .ok (.iastore, 1)) (hlo : ∀ q ∈ locs, G.2.2.2 ≤ q.base)
    (kk : ∀ (H1 : Heap) (locs1 : List Loc), Iv G (sI M a j.toNatClampNeg x) H1 → (∀ q ∈ locs1, G.2.2.2 ≤ q.base) → W p l e R s m args below meth c H1 locs1 cells slots Q (F0 m (pc + 1) ls rest)) : W p l e R s m args below meth c H locs cells slots Q (F0 m pc ls (.int x :: .int j :: .ref a :: rest)) := by
  obtain ⟨hx, hb, -, hown, hts, hK, -⟩ := hC
  obtain ⟨ty, h1, h2, h3, h4, h5⟩ := arr_at hK hI ha (by decide)
  cases h1
  refine W.iast hx hb h5 (h2 n _) (fun q => by cases q) (by show ¬ (j < 0 ∨ (arrV _ _ _).slots.size ≤ _); rw [arrV_size]; exact hj) rfl rfl hdg fun H1 e z oq => ?_
  refine kk H1 _ (hI.put (M1 := sI M a j.toNatClampNeg x) rfl rfl (fun t ht => ?_) z oq (fun b q hb => by simp [gI, sI, wI, up2, hb]) (fun _ _ _ => rfl) (fun _ _ _ => rfl)) (lo_put hlo h4)
  cases ha.symm.trans ht
  refine Or.inl ⟨by decide, rfl, h4, ?_⟩
  rw [e, arrV_store]
  congr 2
  funext q
  simp only [updV, eV, gI, sI, wI, up2, true_and, vp_nar, narrow]
  split <;> rfl
theorem arr_bast (hC : Cx G f p s m args meth c) (hI : Iv G M H) {a n : Nat} {j : Int32} {x : Int32} (ha : sh M a = some (.inr (2, n))) (hj : vp_in j n) (hdg : decode (fnB f) pc = .ok (.bastore, 1)) (hlo : ∀ q ∈ locs, G.2.2.2 ≤ q.base)
    (kk : ∀ (H1 : Heap) (locs1 : List Loc), Iv G (sI M a j.toNatClampNeg (vp_nar .byte x)) H1 → (∀ q ∈ locs1, G.2.2.2 ≤ q.base) → W p l e R s m args below meth c H1 locs1 cells slots Q (F0 m (pc + 1) ls rest)) : W p l e R s m args below meth c H locs cells slots Q (F0 m pc ls (.int x :: .int j :: .ref a :: rest)) := by
  obtain ⟨hx, hb, -, hown, hts, hK, -⟩ := hC
  obtain ⟨ty, h1, h2, h3, h4, h5⟩ := arr_at hK hI ha (by decide)
  cases h1
  refine W.bast hx hb h5 (h2 n _) (fun q => by cases q) (by show ¬ (j < 0 ∨ (arrV _ _ _).slots.size ≤ _); rw [arrV_size]; exact hj) rfl rfl hdg fun H1 e z oq => ?_
  refine kk H1 _ (hI.put (M1 := sI M a j.toNatClampNeg (vp_nar .byte x)) rfl rfl (fun t ht => ?_) z oq (fun b q hb => by simp [gI, sI, wI, up2, hb]) (fun _ _ _ => rfl) (fun _ _ _ => rfl)) (lo_put hlo h4)
  cases ha.symm.trans ht
  refine Or.inl ⟨by decide, rfl, h4, ?_⟩
  rw [e, arrV_store]
  congr 2
  funext q
  simp only [updV, eV, gI, sI, wI, up2, true_and, vp_nar, narrow]
  split <;> rfl
theorem arr_zast (hC : Cx G f p s m args meth c) (hI : Iv G M H) {a n : Nat} {j : Int32} {x : Int32} (ha : sh M a = some (.inr (3, n))) (hj : vp_in j n) (hdg : decode (fnB f) pc = .ok (.bastore, 1)) (hlo : ∀ q ∈ locs, G.2.2.2 ≤ q.base)
    (kk : ∀ (H1 : Heap) (locs1 : List Loc), Iv G (sI M a j.toNatClampNeg (vp_nar .boolean x)) H1 → (∀ q ∈ locs1, G.2.2.2 ≤ q.base) → W p l e R s m args below meth c H1 locs1 cells slots Q (F0 m (pc + 1) ls rest)) : W p l e R s m args below meth c H locs cells slots Q (F0 m pc ls (.int x :: .int j :: .ref a :: rest)) := by
  obtain ⟨hx, hb, -, hown, hts, hK, -⟩ := hC
  obtain ⟨ty, h1, h2, h3, h4, h5⟩ := arr_at hK hI ha (by decide)
  cases h1
  refine W.zast hx hb h5 (h2 n _) (fun q => by cases q) (by show ¬ (j < 0 ∨ (arrV _ _ _).slots.size ≤ _); rw [arrV_size]; exact hj) rfl rfl hdg fun H1 e z oq => ?_
  refine kk H1 _ (hI.put (M1 := sI M a j.toNatClampNeg (vp_nar .boolean x)) rfl rfl (fun t ht => ?_) z oq (fun b q hb => by simp [gI, sI, wI, up2, hb]) (fun _ _ _ => rfl) (fun _ _ _ => rfl)) (lo_put hlo h4)
  cases ha.symm.trans ht
  refine Or.inl ⟨by decide, rfl, h4, ?_⟩
  rw [e, arrV_store]
  congr 2
  funext q
  simp only [updV, eV, gI, sI, wI, up2, true_and, vp_nar, narrow]
  split <;> rfl
theorem arr_last (hC : Cx G f p s m args meth c) (hI : Iv G M H) {a n : Nat} {j : Int32} {x : Int64} (ha : sh M a = some (.inr (1, n))) (hj : vp_in j n) (hdg : decode (fnB f) pc = .ok (.lastore, 1)) (hlo : ∀ q ∈ locs, G.2.2.2 ≤ q.base)
    (kk : ∀ (H1 : Heap) (locs1 : List Loc), Iv G (sJ M a j.toNatClampNeg x) H1 → (∀ q ∈ locs1, G.2.2.2 ≤ q.base) → W p l e R s m args below meth c H1 locs1 cells slots Q (F0 m (pc + 1) ls rest)) : W p l e R s m args below meth c H locs cells slots Q (F0 m pc ls (.long x :: .int j :: .ref a :: rest)) := by
  obtain ⟨hx, hb, -, hown, hts, hK, -⟩ := hC
  obtain ⟨ty, h1, h2, h3, h4, h5⟩ := arr_at hK hI ha (by decide)
  cases h1
  refine W.last hx hb h5 (h2 n _) (fun q => by cases q) (by show ¬ (j < 0 ∨ (arrV _ _ _).slots.size ≤ _); rw [arrV_size]; exact hj) rfl rfl hdg fun H1 e z oq => ?_
  refine kk H1 _ (hI.put (M1 := sJ M a j.toNatClampNeg x) rfl rfl (fun t ht => ?_) z oq (fun _ _ _ => rfl) (fun b q hb => by simp [gJ, sJ, wJ, up2, hb]) (fun _ _ _ => rfl)) (lo_put hlo h4)
  cases ha.symm.trans ht
  refine Or.inl ⟨by decide, rfl, h4, ?_⟩
  rw [e, arrV_store]
  congr 2
  funext q
  simp only [updV, eV, gJ, sJ, wJ, up2, true_and, vp_nar, narrow]
  split <;> rfl
theorem arr_aast (hC : Cx G f p s m args meth c) (hI : Iv G M H) {a v kd n ci : Nat} {j : Int32} (ha : sh M a = some (.inr (kd, n))) (hv : sh M v = some (.inl ci)) (hk : lk aO 0 kd = some ci) (hj : vp_in j n) (hdg : decode (fnB f) pc = .ok (.aastore, 1)) (hlo : ∀ q ∈ locs, G.2.2.2 ≤ q.base)
    (kk : ∀ (H1 : Heap) (locs1 : List Loc), Iv G (sR M a j.toNatClampNeg (some v)) H1 → (∀ q ∈ locs1, G.2.2.2 ≤ q.base) → W p l e R s m args below meth c H1 locs1 cells slots Q (F0 m (pc + 1) ls rest)) : W p l e R s m args below meth c H locs cells slots Q (F0 m pc ls (.ref v :: .int j :: .ref a :: rest)) := by
  obtain ⟨hx, hb, -, hown, hts, hK, -⟩ := hC
  obtain ⟨h10, hcn, hev⟩ := aO_ok hk
  obtain ⟨ty, h1, h2, h3, h4, h5⟩ := arr_at hK hI ha (by omega)
  obtain ⟨-, r, hr, cellV, g1, g2, g3, -⟩ := hI.2.2 v _ hv
  obtain ⟨-, -, -, -, hcr, -⟩ := cls_ok _ _ hr
  have hty : ty = .object r.1 := by
    rw [hcn] at h1
    rw [← hcr]
    exact (Option.some.inj h1).symm
  subst hty
  have hsome : (aTy kd).isSome = true := by rw [h1]; rfl
  have hcls := (hK.1.1 ci r hr).2
  obtain ⟨kA, comp, k1, k2, k3, -⟩ := h3
  have hcomp : comp = G.1.1 ci := Option.some.inj (k3.symm.trans hcls.1)
  subst hcomp
  obtain ⟨kC, hkC, hkk⟩ := hcls.2
  have hlt : j.toNatClampNeg < n := Nat.not_le.mp fun q => hj (Or.inr q)
  have h0 : ¬ j < 0 := fun q => hj (Or.inl q)
  refine W.aast hx hb h5 (fun q h => by cases h) (fun h => by cases h) k1 k2 rfl hkC ⟨h0, by show _ < (arrV _ _ _).slots.size; rw [arrV_size]; exact hlt⟩ g1 (fun q h => by rw [g3] at h; cases h) (by rw [g2]; exact hkC) (by rw [g2]; exact va_assign ⟨hcls.1, kC, hkC, hkk⟩) rfl rfl hdg fun H1 e z oq => ?_
  refine kk H1 _ (hI.put (M1 := sR M a j.toNatClampNeg (some v)) rfl rfl (fun t ht => ?_) z oq (fun _ _ _ => rfl) (fun _ _ _ => rfl) (fun b q hb => by simp [gR, sR, wR, up2, hb])) (lo_put hlo h4)
  cases ha.symm.trans ht
  refine Or.inl ⟨by omega, hsome, h4, ?_⟩
  rw [e, arrV_store]
  congr 2
  funext q
  rw [hev]
  simp only [updV, hev, gR, sR, wR, up2, true_and]
  split <;> rfl
theorem arr_copy (hC : Cx G f p s m args meth c) (hI : Iv G M H) (hml : c.maxLocals = ls.size) {index a b n0 n1 : Nat} {sp dp n : Int32} (ha : sh M a = some (.inr (0, n0))) (hb0 : sh M b = some (.inr (0, n1))) (w1 : Cond.methodLink (cN (fnC f)) index arraycopyName ∈ ALL) (w2 : Cond.native arraycopyName ∈ ALL) (w3 : Cond.static arraycopyName ∈ ALL) (w4 : Cond.initialized "java/lang/System" ∈ ALL)
    (h1 : ¬ sp < 0) (h2 : ¬ dp < 0) (h3 : ¬ n < 0) (h4 : sp.toNatClampNeg + n.toNatClampNeg ≤ n0) (h5 : dp.toNatClampNeg + n.toNatClampNeg ≤ n1) (hframes : 1 ≤ R.frames) (hlocals : (rest.map fun v => v.category).sum + (nativeFrameWords "java/lang/System" "arraycopy" 5 + 11) ≤ R.locals) (hdg : decode (fnB f) pc = .ok (.invokestatic index, 3)) (hlo : ∀ q ∈ locs, G.2.2.2 ≤ q.base)
    (kk : ∀ (H1 : Heap) (locs1 : List Loc), Iv G (cpI M a b sp.toNatClampNeg dp.toNatClampNeg n.toNatClampNeg) H1 → (∀ q ∈ locs1, G.2.2.2 ≤ q.base) → W p l e R s m args below meth c H1 locs1 cells slots Q (F0 m (pc + 3) ls rest)) : W p l e R s m args below meth c H locs cells slots Q (F0 m pc ls (.int n :: .int dp :: .ref b :: .int sp :: .ref a :: rest)) := by
  obtain ⟨hx, hbc, -, hown, hts, hK, -⟩ := hC
  have nn : ∀ z : Int32, ¬ z < 0 → z.toInt = (z.toNatClampNeg : Int) := by
    intro z hz
    have hz0 : (0 : Int) ≤ z.toInt := by
      have := Int32.not_lt.mp hz
      simpa using Int32.le_iff_toInt_le.mp this
    show z.toInt = ((z.toInt.toNat : Nat) : Int)
    omega
  intro T hT X
  obtain ⟨ty0, t0, a2, -, -, hc0⟩ := arr_at hK hI ha (by decide)
  obtain ⟨ty1, t1, b2, -, hB, hc1⟩ := arr_at hK hI hb0 (by decide)
  cases t0
  cases t1
  have f0 : arrV (G.2.1 0) n0 (eV M 0 a) = vp_cell (G.2.1 0) (n0, .inl (gI M a)) := rfl
  have f1 : arrV (G.2.1 0) n1 (eV M 0 b) = vp_cell (G.2.1 0) (n1, .inl (gI M b)) := rfl
  rw [f0] at hc0
  rw [f1] at hc1
  obtain ⟨-, k0, hk0, cm0, hkk0⟩ := a2 n0 (fun j => .int (gI M a j))
  obtain ⟨-, k1, hk1, cm1, hkk1⟩ := b2 n1 (fun j => .int (gI M b j))
  obtain ⟨vm', X', step⟩ := X.arraycopy hx hown (hts _ w1) (hts _ w2) (hts _ w3) (hts _ w4) (src := a) (dst := b) (cs := vp_cell (G.2.1 0) (n0, .inl (gI M a))) (cd := vp_cell (G.2.1 0) (n1, .inl (gI M b))) (srcPos := sp) (destPos := dp) (n := n) (by rw [hT]; exact hc0) (by rw [hT]; exact hc1)
    (fun _ h => by cases h) (fun _ h => by cases h) (fun h => by cases h) (fun h => by cases h) hk0 hk1 hkk0 hkk1 (by simp [refKind]) h1 h2 h3
    (by rw [nn sp h1, nn n h3]; show ¬ _ > ((arrV (G.2.1 0) n0 (fun j => .int (gI M a j))).slots.size : Int); rw [arrV_size]; omega)
    (by rw [nn dp h2, nn n h3]; show ¬ _ > ((arrV (G.2.1 0) n1 (fun j => .int (gI M b j))).slots.size : Int); rw [arrV_size]; omega)
    (fun vm₁ _ i hi => by
      have e : (vp_cell (G.2.1 0) (n0, .inl (gI M a))).slots.getD (sp.toNatClampNeg + i) .null = .int (gI M a (sp.toNatClampNeg + i)) := by
        show (arrV (G.2.1 0) n0 (fun j => .int (gI M a j))).slots.getD _ _ = _
        rw [Array.getD_eq_getD_getElem?, arrV_read _ _ (by omega)]
        rfl
      refine ⟨?_, ?_⟩
      · rw [e]
        rfl
      · rw [e]
        exact trivial)
    (g := F0 m pc ls (.int n :: .int dp :: .ref b :: .int sp :: .ref a :: rest)) rfl (by rw [hml]) (rest := rest) rfl (by rw [hbc]; exact hdg) hframes (by show 2 * 0 + _ + _ ≤ _; omega)
  have e1 : copied (vp_cell (G.2.1 0) (n0, .inl (gI M a))) (vp_cell (G.2.1 0) (n1, .inl (gI M b))) sp dp n = vp_cell (G.2.1 0) (n1, .inl (va_cpy (gI M a) (gI M b) sp.toNatClampNeg dp.toNatClampNeg n.toNatClampNeg)) := va_copied (fun z => .int z) (G.2.1 0) (G.2.1 0) (gI M a) (gI M b) h4
  rw [e1] at X' step
  have hl : b < H.size := (Array.getElem?_eq_some_iff.mp hc1).1
  generalize hcell : vp_cell (G.2.1 0) (n1, .inl (va_cpy (gI M a) (gI M b) sp.toNatClampNeg dp.toNatClampNeg n.toNatClampNeg)) = CC at X' step
  have hheap : ((T.setVm vm').setCell b CC).heap = H.setIfInBounds b CC := by rw [← hT]; rfl
  obtain ⟨t, a1, b1⟩ := kk (H.setIfInBounds b CC) _ (hI.put (a := b) (M1 := cpI M a b sp.toNatClampNeg dp.toNatClampNeg n.toNatClampNeg) rfl rfl (fun t ht => by
      cases hb0.symm.trans ht
      refine Or.inl ⟨by decide, rfl, hB, ?_⟩
      have : (H.setIfInBounds b CC)[b]? = some CC := by simp [Array.getElem?_setIfInBounds, hl]
      rw [this, ← hcell]
      have e9 : (fun k => Value.int (va_cpy (gI M a) (gI M b) sp.toNatClampNeg dp.toNatClampNeg n.toNatClampNeg k)) = eV (cpI M a b sp.toNatClampNeg dp.toNatClampNeg n.toNatClampNeg) 0 b := by
        funext k
        simp only [eV, va_cpy, gI, cpI, wI, true_and]
      show some (arrV (G.2.1 0) n1 (fun k => Value.int (va_cpy (gI M a) (gI M b) sp.toNatClampNeg dp.toNatClampNeg n.toNatClampNeg k))) = _
      rw [e9]) (by simp) (fun q hq => by simp [Array.getElem?_setIfInBounds, Ne.symm hq]) (fun q k hq => by simp [gI, cpI, wI, hq]) (fun _ _ _ => rfl) (fun _ _ _ => rfl)) (fun q hq => by
      rcases List.mem_append.mp hq with h | h
      · exact hlo q h
      · obtain ⟨z, -, hz⟩ := List.mem_map.mp h
        rw [← hz]
        exact hB) _ hheap X'
  exact ⟨t, step t a1, b1⟩
end SND
