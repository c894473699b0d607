set_option maxRecDepth 100000 in
theorem arw_int : Cond.arrayClass .int ∈ ALL := inA 121 rfl rfl
set_option maxRecDepth 100000 in
theorem arw_long : Cond.arrayClass .long ∈ ALL := inA 420 rfl rfl
set_option maxRecDepth 100000 in
theorem arw_byte : Cond.arrayClass .byte ∈ ALL := inA 120 rfl rfl
set_option maxRecDepth 100000 in
theorem arw_bool : Cond.arrayClass .boolean ∈ ALL := inA 1202 rfl rfl
theorem pfv_some {M M1 : Mm} {ty : FieldType} {v : Value} {a j : Nat} (h : pfv (tk ty) v M a j = some M1) : M1.1 = M.1 ∧ nxt M1 = nxt M ∧ slo M1 = slo M ∧ (∀ ci, cY ci j = ty → fV M1 ci a = updV (fV M ci a) j v) ∧ (∀ b j, b ≠ a → gI M1 b j = gI M b j) ∧ (∀ b j, b ≠ a → gJ M1 b j = gJ M b j) ∧ (∀ b j, b ≠ a → gR M1 b j = gR M b j) := by
  unfold pfv at h
  split at h
  · rename_i x e1
    cases h
    refine ⟨rfl, rfl, rfl, fun ci hy => ?_, fun b q hb => by simp [gI, sI, wI, up2, hb], fun _ _ _ => rfl, fun _ _ _ => rfl⟩
    funext q
    by_cases hq : q = j
    · subst hq; simp only [fV, hy, e1, updV, if_true, gI, sI, wI, up2, and_self]
    · simp only [fV, updV, hq, if_false, gI, gJ, gR, sI, wI, up2, and_false]
  · rename_i x e1
    cases h
    refine ⟨rfl, rfl, rfl, fun ci hy => ?_, fun _ _ _ => rfl, fun b q hb => by simp [gJ, sJ, wJ, up2, hb], fun _ _ _ => rfl⟩
    funext q
    by_cases hq : q = j
    · subst hq; simp only [fV, hy, e1, updV, if_true, gJ, sJ, wJ, up2, and_self]
    · simp only [fV, updV, hq, if_false, gI, gJ, gR, sJ, wJ, up2, and_false]
  · rename_i x e1
    cases h
    refine ⟨rfl, rfl, rfl, fun ci hy => ?_, fun _ _ _ => rfl, fun _ _ _ => rfl, fun b q hb => by simp [gR, sR, wR, up2, hb]⟩
    funext q
    by_cases hq : q = j
    · subst hq; simp only [fV, hy, e1, updV, if_true, gR, sR, wR, up2, and_self, va_rf]
    · simp only [fV, updV, hq, if_false, gI, gJ, gR, sR, wR, up2, and_false]
  · rename_i e1
    cases h
    refine ⟨rfl, rfl, rfl, fun ci hy => ?_, fun _ _ _ => rfl, fun _ _ _ => rfl, fun b q hb => by simp [gR, sR, wR, up2, hb]⟩
    funext q
    by_cases hq : q = j
    · subst hq; simp only [fV, hy, e1, updV, if_true, gR, sR, wR, up2, and_self, va_rf]
    · simp only [fV, updV, hq, if_false, gI, gJ, gR, sR, wR, up2, and_false]
  · cases h
section SS
variable {p : Program} {l : Launch} {e : Env} {R : Room} {s : State} {m : MethodId} {args : Array Value} {below : List Frame} {meth : Method} {c : Code} {H : Heap} {locs : List Loc} {cells slots : Nat} {Q : State → Prop}
variable {pc : Nat} {ls : Array Slot} {G : Gp} {f : Fn} {M : Mm} {L st : List Value}
theorem cat_le (vs : List Value) : (vs.map fun v => v.category).sum ≤ 2 * vs.length := by
  induction vs with
  | nil => simp
  | cons v vs ih =>
    have : v.category ≤ 2 := by cases v <;> simp [Value.category]
    simp only [List.map_cons, List.sum_cons, List.length_cons]
    omega
set_option maxHeartbeats 4000000 in
set_option maxRecDepth 100000 in
theorem step_pure {i : Instr} {len pc' : Nat} {L' st' : List Value} {M' : Mm} (hd : decode (fnB f) pc = .ok (i, len)) (hlen : okL i len = true) (h : step f i pc L st M = some (.inl (pc', L', st', M'))) (hC : Cx G f p s m args meth c) (hl : Lr ls L) (hI : Iv G M H) (hlo : ∀ q ∈ locs, G.2.2.2 ≤ q.base) (hfr : fnK f ≤ R.frames) (hlc : fnS f ≤ R.locals) (hcl : cells + (nxt M' - nxt M) ≤ R.cells) (hsl : slots + (slo M' - slo M) ≤ R.slots) (hL : L.length = fnL f)
    (k : ∀ (H' : Heap) (locs' : List Loc) (ls' : Array Slot), Lr ls' L' → Iv G M' H' → (∀ q ∈ locs', G.2.2.2 ≤ q.base) → W p l e R s m args below meth c H' locs' (cells + (nxt M' - nxt M)) (slots + (slo M' - slo M)) Q (F0 m pc' ls' st')) : W p l e R s m args below meth c H locs cells slots Q (F0 m pc ls st) := by
  have hC' := hC
  obtain ⟨hx, hb, hml, hown, hts, hK, hr, hlk, hin, h1⟩ := hC
  have fin : ∀ {o : Out}, o = .inl (pc', L', st', M') → o = .inl (pc', L', st', M') := fun h => h
  cases i
  case aconst_null =>
    cases beq_iff_eq.mp hlen
    cases nx_some h
    simp only [Nat.sub_self, Nat.add_zero] at k
    exact lv_null hx hb hd (k _ _ _ hl hI hlo)
  case iconst n =>
    cases beq_iff_eq.mp hlen
    cases nx_some h
    simp only [Nat.sub_self, Nat.add_zero] at k
    exact lv_iconst hx hb hd rfl (k _ _ _ hl hI hlo)
  case bipush n =>
    cases beq_iff_eq.mp hlen
    cases nx_some h
    simp only [Nat.sub_self, Nat.add_zero] at k
    exact lv_bipush hx hb hd rfl (k _ _ _ hl hI hlo)
  case sipush n =>
    cases beq_iff_eq.mp hlen
    cases nx_some h
    simp only [Nat.sub_self, Nat.add_zero] at k
    exact lv_sipush hx hb hd rfl (k _ _ _ hl hI hlo)
  case lconst n =>
    cases beq_iff_eq.mp hlen
    cases nx_some h
    simp only [Nat.sub_self, Nat.add_zero] at k
    exact lv_lconst hx hb hd rfl (k _ _ _ hl hI hlo)
  case ldc n =>
    cases beq_iff_eq.mp hlen
    simp only [step] at h
    split at h
    · rename_i v hv
      cases nx_some h
      simp only [Nat.sub_self, Nat.add_zero] at k
      exact lv_ldc hx hb hown (hts _ (iT_ok _ (lk_mem hv))) hd (k _ _ _ hl hI hlo)
    · cases h
  case ldc2_w n =>
    cases beq_iff_eq.mp hlen
    simp only [step] at h
    split at h
    · rename_i v hv
      cases nx_some h
      simp only [Nat.sub_self, Nat.add_zero] at k
      exact lv_ldc2 hx hb hown (hts _ (lT_ok _ (lk_mem hv))) hd (k _ _ _ hl hI hlo)
    · cases h
  case iload n =>
    cases beq_iff_eq.mp hlen
    replace h := ldI_some h
    obtain ⟨x, hx1, h⟩ := h
    cases nx_some h
    simp only [Nat.sub_self, Nat.add_zero] at k
    exact lv_iload hx hb hd (hl.val hx1 (by simp)) (k _ _ _ hl hI hlo)
  case iload_n n =>
    cases beq_iff_eq.mp hlen
    replace h := ldI_some h
    obtain ⟨x, hx1, h⟩ := h
    cases nx_some h
    simp only [Nat.sub_self, Nat.add_zero] at k
    exact lv_iload_n hx hb hd rfl (hl.val hx1 (by simp)) (k _ _ _ hl hI hlo)
  case lload n =>
    cases beq_iff_eq.mp hlen
    replace h := ldJ_some h
    obtain ⟨x, hx1, h⟩ := h
    cases nx_some h
    simp only [Nat.sub_self, Nat.add_zero] at k
    exact lv_lload hx hb hd (hl.val hx1 (by simp)) (k _ _ _ hl hI hlo)
  case lload_n n =>
    cases beq_iff_eq.mp hlen
    replace h := ldJ_some h
    obtain ⟨x, hx1, h⟩ := h
    cases nx_some h
    simp only [Nat.sub_self, Nat.add_zero] at k
    exact lv_lload_n hx hb hd rfl (hl.val hx1 (by simp)) (k _ _ _ hl hI hlo)
  case aload n =>
    cases beq_iff_eq.mp hlen
    simp only [step] at h
    rcases ldA_some h with ⟨x, hx1, h⟩ | ⟨hx1, h⟩
    · cases nx_some h
      simp only [Nat.sub_self, Nat.add_zero] at k
      exact lv_aload hx hb hd (hl.val hx1 (by simp)) (k _ _ _ hl hI hlo)
    · cases nx_some h
      simp only [Nat.sub_self, Nat.add_zero] at k
      exact lv_aloadN hx hb hd (hl.val hx1 (by simp)) (k _ _ _ hl hI hlo)
  case aload_n n =>
    cases beq_iff_eq.mp hlen
    simp only [step] at h
    rcases ldA_some h with ⟨x, hx1, h⟩ | ⟨hx1, h⟩
    · cases nx_some h
      simp only [Nat.sub_self, Nat.add_zero] at k
      exact lv_aload_n hx hb hd rfl (hl.val hx1 (by simp)) (k _ _ _ hl hI hlo)
    · cases nx_some h
      simp only [Nat.sub_self, Nat.add_zero] at k
      exact lv_aload_nN hx hb hd rfl (hl.val hx1 (by simp)) (k _ _ _ hl hI hlo)
  case istore n =>
    cases beq_iff_eq.mp hlen
    replace h := s1i_some h
    obtain ⟨x, r, rfl, h⟩ := h
    replace h := gd_some h
    obtain ⟨hn, h⟩ := h
    cases nx_some h
    simp only [Nat.sub_self, Nat.add_zero] at k
    have hn := of_decide_eq_true hn
    exact lv_istore hx hb hd hl.has hn rfl (fun ls' h' => k _ _ _ (Lr.st1 hn h') hI hlo)
  case istore_n n =>
    cases beq_iff_eq.mp hlen
    replace h := s1i_some h
    obtain ⟨x, r, rfl, h⟩ := h
    replace h := gd_some h
    obtain ⟨hn, h⟩ := h
    cases nx_some h
    simp only [Nat.sub_self, Nat.add_zero] at k
    have hn := of_decide_eq_true hn
    exact lv_istore_n hx hb hd rfl hl.has hn rfl (fun ls' h' => k _ _ _ (Lr.st1 hn h') hI hlo)
  case lstore n =>
    cases beq_iff_eq.mp hlen
    replace h := s1l_some h
    obtain ⟨x, r, rfl, h⟩ := h
    replace h := gd_some h
    obtain ⟨hn, h⟩ := h
    cases nx_some h
    simp only [Nat.sub_self, Nat.add_zero] at k
    have hn := of_decide_eq_true hn
    exact lv_lstore hx hb hd hl.has hn rfl (fun ls' h' => k _ _ _ (Lr.st2 hn h') hI hlo)
  case lstore_n n =>
    cases beq_iff_eq.mp hlen
    replace h := s1l_some h
    obtain ⟨x, r, rfl, h⟩ := h
    replace h := gd_some h
    obtain ⟨hn, h⟩ := h
    cases nx_some h
    simp only [Nat.sub_self, Nat.add_zero] at k
    have hn := of_decide_eq_true hn
    exact lv_lstore_n hx hb hd rfl hl.has hn rfl (fun ls' h' => k _ _ _ (Lr.st2 hn h') hI hlo)
  case astore n =>
    cases beq_iff_eq.mp hlen
    replace h := stR_some h
    obtain ⟨v, r, rfl, hv, h⟩ := h
    replace h := gd_some h
    obtain ⟨hn, h⟩ := h
    cases nx_some h
    simp only [Nat.sub_self, Nat.add_zero] at k
    have hn := of_decide_eq_true hn
    rcases hv with rfl | ⟨a, rfl⟩
    · exact lv_astoreN hx hb hd hl.has hn rfl (fun ls' h' => k _ _ _ (Lr.st1 hn h') hI hlo)
    · exact lv_astore hx hb hd hl.has hn rfl (fun ls' h' => k _ _ _ (Lr.st1 hn h') hI hlo)
  case astore_n n =>
    cases beq_iff_eq.mp hlen
    replace h := stR_some h
    obtain ⟨v, r, rfl, hv, h⟩ := h
    replace h := gd_some h
    obtain ⟨hn, h⟩ := h
    cases nx_some h
    simp only [Nat.sub_self, Nat.add_zero] at k
    have hn := of_decide_eq_true hn
    rcases hv with rfl | ⟨a, rfl⟩
    · exact lv_astore_nN hx hb hd rfl hl.has hn rfl (fun ls' h' => k _ _ _ (Lr.st1 hn h') hI hlo)
    · exact lv_astore_n hx hb hd rfl hl.has hn rfl (fun ls' h' => k _ _ _ (Lr.st1 hn h') hI hlo)
  case iinc n d =>
    cases beq_iff_eq.mp hlen
    replace h := ldI_some h
    obtain ⟨x, hx1, h⟩ := h
    cases nx_some h
    simp only [Nat.sub_self, Nat.add_zero] at k
    have hn : n < L.length := (List.getElem?_eq_some_iff.mp hx1).1
    obtain ⟨z, hz⟩ := List.getElem?_of_mem (mem_lvL.mpr ⟨hx1, by simp⟩)
    exact lv_iinc hx hb hd hl.has hz rfl hn rfl (fun ls' h' => k _ _ _ (Lr.st1 hn h') hI hlo)
  case dup =>
    cases beq_iff_eq.mp hlen
    replace h := st1_some h
    obtain ⟨v, r, rfl, hv, h⟩ := h
    cases nx_some h
    simp only [Nat.sub_self, Nat.add_zero] at k
    exact lv_dup hx hb hd hv (k _ _ _ hl hI hlo)
  case dup2 =>
    cases beq_iff_eq.mp hlen
    replace h := st1_some h
    obtain ⟨v, r, rfl, hv, h⟩ := h
    replace h := st1_some h
    obtain ⟨w, r, rfl, hw, h⟩ := h
    cases nx_some h
    simp only [Nat.sub_self, Nat.add_zero] at k
    exact lv_dup2_11 hx hb hd hv hw (k _ _ _ hl hI hlo)
  case iadd =>
    cases beq_iff_eq.mp hlen
    replace h := s2i_some h
    obtain ⟨x, y, r, rfl, h⟩ := h
    cases nx_some h
    simp only [Nat.sub_self, Nat.add_zero] at k
    exact lv_iadd hx hb hd (k _ _ _ hl hI hlo)
  case isub =>
    cases beq_iff_eq.mp hlen
    replace h := s2i_some h
    obtain ⟨x, y, r, rfl, h⟩ := h
    cases nx_some h
    simp only [Nat.sub_self, Nat.add_zero] at k
    exact lv_isub hx hb hd (k _ _ _ hl hI hlo)
  case imul =>
    cases beq_iff_eq.mp hlen
    replace h := s2i_some h
    obtain ⟨x, y, r, rfl, h⟩ := h
    cases nx_some h
    simp only [Nat.sub_self, Nat.add_zero] at k
    exact lv_imul hx hb hd (k _ _ _ hl hI hlo)
  case iand =>
    cases beq_iff_eq.mp hlen
    replace h := s2i_some h
    obtain ⟨x, y, r, rfl, h⟩ := h
    cases nx_some h
    simp only [Nat.sub_self, Nat.add_zero] at k
    exact lv_iand hx hb hd (k _ _ _ hl hI hlo)
  case irem =>
    cases beq_iff_eq.mp hlen
    replace h := s2i_some h
    obtain ⟨x, y, r, rfl, h⟩ := h
    replace h := gd_some h
    obtain ⟨hc, h⟩ := h
    cases nx_some h
    simp only [Nat.sub_self, Nat.add_zero] at k
    exact lv_irem hx hb hd (by simpa using hc) (k _ _ _ hl hI hlo)
  case ladd =>
    cases beq_iff_eq.mp hlen
    replace h := s2l_some h
    obtain ⟨x, y, r, rfl, h⟩ := h
    cases nx_some h
    simp only [Nat.sub_self, Nat.add_zero] at k
    exact lv_ladd hx hb hd (k _ _ _ hl hI hlo)
  case lsub =>
    cases beq_iff_eq.mp hlen
    replace h := s2l_some h
    obtain ⟨x, y, r, rfl, h⟩ := h
    cases nx_some h
    simp only [Nat.sub_self, Nat.add_zero] at k
    exact lv_lsub hx hb hd (k _ _ _ hl hI hlo)
  case lor =>
    cases beq_iff_eq.mp hlen
    replace h := s2l_some h
    obtain ⟨x, y, r, rfl, h⟩ := h
    cases nx_some h
    simp only [Nat.sub_self, Nat.add_zero] at k
    exact lv_lor hx hb hd (k _ _ _ hl hI hlo)
  case land =>
    cases beq_iff_eq.mp hlen
    replace h := s2l_some h
    obtain ⟨x, y, r, rfl, h⟩ := h
    cases nx_some h
    simp only [Nat.sub_self, Nat.add_zero] at k
    exact lv_land hx hb hd (k _ _ _ hl hI hlo)
  case lshl =>
    cases beq_iff_eq.mp hlen
    replace h := sli_some h
    obtain ⟨x, y, r, rfl, h⟩ := h
    cases nx_some h
    simp only [Nat.sub_self, Nat.add_zero] at k
    exact lv_lshl hx hb hd rfl (k _ _ _ hl hI hlo)
  case lshr =>
    cases beq_iff_eq.mp hlen
    replace h := sli_some h
    obtain ⟨x, y, r, rfl, h⟩ := h
    cases nx_some h
    simp only [Nat.sub_self, Nat.add_zero] at k
    exact lv_lshr hx hb hd rfl (k _ _ _ hl hI hlo)
  case lushr =>
    cases beq_iff_eq.mp hlen
    replace h := sli_some h
    obtain ⟨x, y, r, rfl, h⟩ := h
    cases nx_some h
    simp only [Nat.sub_self, Nat.add_zero] at k
    exact lv_lushr hx hb hd rfl (k _ _ _ hl hI hlo)
  case lcmp =>
    cases beq_iff_eq.mp hlen
    replace h := s2l_some h
    obtain ⟨x, y, r, rfl, h⟩ := h
    cases nx_some h
    simp only [Nat.sub_self, Nat.add_zero] at k
    exact W.lcmp hx hb hd (k _ _ _ hl hI hlo)
  case i2l =>
    cases beq_iff_eq.mp hlen
    replace h := s1i_some h
    obtain ⟨x, r, rfl, h⟩ := h
    cases nx_some h
    simp only [Nat.sub_self, Nat.add_zero] at k
    exact lv_i2l hx hb hd rfl (k _ _ _ hl hI hlo)
  case l2i =>
    cases beq_iff_eq.mp hlen
    replace h := s1l_some h
    obtain ⟨x, r, rfl, h⟩ := h
    cases nx_some h
    simp only [Nat.sub_self, Nat.add_zero] at k
    exact lv_l2i hx hb hd rfl (k _ _ _ hl hI hlo)
  case i2b =>
    cases beq_iff_eq.mp hlen
    replace h := s1i_some h
    obtain ⟨x, r, rfl, h⟩ := h
    cases nx_some h
    simp only [Nat.sub_self, Nat.add_zero] at k
    exact lv_i2b hx hb hd rfl (k _ _ _ hl hI hlo)
  case goto o =>
    cases beq_iff_eq.mp hlen
    replace h := tg_some h
    obtain ⟨t, ht, h⟩ := h
    cases nx_some h
    simp only [Nat.sub_self, Nat.add_zero] at k
    exact lv_goto hx hb hd ht (k _ _ _ hl hI hlo)
  case ifCond cnd o =>
    cases beq_iff_eq.mp hlen
    replace h := s1i_some h
    obtain ⟨x, r, rfl, h⟩ := h
    replace h := tg_some h
    obtain ⟨t, ht, h⟩ := h
    cases nx_some h
    simp only [Nat.sub_self, Nat.add_zero] at k
    have k := k _ _ _ hl hI hlo
    cases cnd
    · exact lv_if_eq hx hb hd ht (fun q => by simpa [cmpi, q] using k) (fun q => by simpa [cmpi, q] using k)
    · exact lv_if_ne hx hb hd ht (fun q => by simpa [cmpi, q] using k) (fun q => by simpa [cmpi, q] using k)
    · exact lv_if_lt hx hb hd ht (fun q => by simpa [cmpi, q] using k) (fun q => by simpa only [cmpi, q, decide_false, Bool.false_eq_true, if_false] using k)
    · exact lv_if_ge hx hb hd ht (fun q => by simpa only [cmpi, q, decide_true, if_true] using k) (fun q => by simpa only [cmpi, q, decide_false, Bool.false_eq_true, if_false] using k)
    · exact lv_if_gt hx hb hd ht (fun q => by simpa only [cmpi, q, decide_true, if_true] using k) (fun q => by simpa only [cmpi, q, decide_false, Bool.false_eq_true, if_false] using k)
    · exact lv_if_le hx hb hd ht (fun q => by simpa only [cmpi, q, decide_true, if_true] using k) (fun q => by simpa only [cmpi, q, decide_false, Bool.false_eq_true, if_false] using k)
  case if_icmp cnd o =>
    cases beq_iff_eq.mp hlen
    replace h := s2i_some h
    obtain ⟨x, y, r, rfl, h⟩ := h
    replace h := tg_some h
    obtain ⟨t, ht, h⟩ := h
    cases nx_some h
    simp only [Nat.sub_self, Nat.add_zero] at k
    have k := k _ _ _ hl hI hlo
    cases cnd
    · exact lv_icmp_eq hx hb hd ht (fun q => by simpa only [cmpi, q, decide_true, if_true] using k) (fun q => by simpa only [cmpi, q, decide_false, Bool.false_eq_true, if_false] using k)
    · exact lv_icmp_ne hx hb hd ht (fun q => by simpa only [cmpi, q, decide_false, Bool.not_false, if_true] using k) (fun q => by simpa only [cmpi, q, decide_true, Bool.not_true, Bool.false_eq_true, if_false] using k)
    · exact lv_icmp_lt hx hb hd ht (fun q => by simpa only [cmpi, q, decide_true, if_true] using k) (fun q => by simpa only [cmpi, q, decide_false, Bool.false_eq_true, if_false] using k)
    · exact lv_icmp_ge hx hb hd ht (fun q => by simpa only [cmpi, q, decide_true, if_true] using k) (fun q => by simpa only [cmpi, q, decide_false, Bool.false_eq_true, if_false] using k)
    · exact lv_icmp_gt hx hb hd ht (fun q => by simpa only [cmpi, q, decide_true, if_true] using k) (fun q => by simpa only [cmpi, q, decide_false, Bool.false_eq_true, if_false] using k)
    · exact lv_icmp_le hx hb hd ht (fun q => by simpa only [cmpi, q, decide_true, if_true] using k) (fun q => by simpa only [cmpi, q, decide_false, Bool.false_eq_true, if_false] using k)
  case ifnull o =>
    cases beq_iff_eq.mp hlen
    replace h := stR_some h
    obtain ⟨v, r, rfl, hv, h⟩ := h
    replace h := tg_some h
    obtain ⟨t, ht, h⟩ := h
    cases nx_some h
    simp only [Nat.sub_self, Nat.add_zero] at k
    have k := k _ _ _ hl hI hlo
    rcases hv with rfl | ⟨a, rfl⟩
    · exact lv_ifnullN hx hb hd ht (by simpa using k)
    · exact lv_ifnull hx hb hd (by simpa using k)
  case ifnonnull o =>
    cases beq_iff_eq.mp hlen
    replace h := stR_some h
    obtain ⟨v, r, rfl, hv, h⟩ := h
    replace h := tg_some h
    obtain ⟨t, ht, h⟩ := h
    cases nx_some h
    simp only [Nat.sub_self, Nat.add_zero] at k
    have k := k _ _ _ hl hI hlo
    rcases hv with rfl | ⟨a, rfl⟩
    · exact lv_ifnonnullN hx hb hd (by simpa using k)
    · exact lv_ifnonnull hx hb hd ht (by simpa using k)
  case tableswitch d lo hi offs =>
    replace h := s1i_some h
    obtain ⟨x, r, rfl, h⟩ := h
    split at h
    · rename_i hq
      replace h := tg_some h
      obtain ⟨t, ht, h⟩ := h
      cases nx_some h
      simp only [Nat.sub_self, Nat.add_zero] at k
      exact lv_tableOut hx hb hd hq ht (k _ _ _ hl hI hlo)
    · rename_i hq
      split at h
      · rename_i o ho
        replace h := tg_some h
        obtain ⟨t, ht, h⟩ := h
        cases nx_some h
        simp only [Nat.sub_self, Nat.add_zero] at k
        exact lv_tableIn hx hb hd (fun q => hq (Or.inl q)) (fun q => hq (Or.inr q)) ho ht (k _ _ _ hl hI hlo)
      · cases h
  case getfield n =>
    cases beq_iff_eq.mp hlen
    replace h := s1r_some h
    obtain ⟨a, r, rfl, h⟩ := h
    split at h
    · rename_i ci j hk
      replace h := ob_some h
      obtain ⟨c2, ha, h⟩ := h
      replace h := gd_some h
      obtain ⟨hc, h⟩ := h
      cases of_decide_eq_true hc
      have key : ∀ v, fV M ci a j = v → nx (pc + 3) L (v :: r) M = some (.inl (pc', L', st', M')) → W p l e R s m args below meth c H locs cells slots Q (F0 m pc ls (.ref a :: r)) := by
        intro v hv h
        cases nx_some h
        simp only [Nat.sub_self, Nat.add_zero] at k
        exact fld_get hC' hI ha hk hd (by rw [hv]; exact k _ _ _ hl hI hlo)
      split at h
      · rename_i e; exact key _ (by simp only [fV, e]) h
      · rename_i e; exact key _ (by simp only [fV, e]) h
      · rename_i e; exact key _ (by simp only [fV, e]) h
      · cases h
    · cases h
  case putfield n =>
    cases beq_iff_eq.mp hlen
    simp only [step] at h
    split at h
    · rename_i v a r
      split at h
      · rename_i ci j hk
        replace h := ob_some h
        obtain ⟨c2, ha, h⟩ := h
        replace h := gd_some h
        obtain ⟨hc, h⟩ := h
        simp only [Bool.and_eq_true, decide_eq_true_eq, Bool.or_eq_true, Bool.not_eq_true'] at hc
        obtain ⟨⟨⟨hcc, hn⟩, hf⟩, hfin⟩ := hc
        subst hcc
        split at h
        · rename_i M1 e1
          obtain ⟨z1, z2, z3, z4, z5, z6, z7⟩ := pfv_some e1
          cases nx_some h
          rw [z2, z3, Nat.sub_self, Nat.sub_self, Nat.add_zero, Nat.add_zero] at k
          exact fld_put hC' hI ha hk hn hf hfin hd hlo z1 z2 (z4 _ rfl) z5 z6 z7 (fun H1 locs1 hI1 hl1 => k _ _ _ hl hI1 hl1)
        · cases h
      · cases h
    · cases h
  case arraylength =>
    cases beq_iff_eq.mp hlen
    replace h := s1r_some h
    obtain ⟨a, r, rfl, h⟩ := h
    replace h := ar_some h
    obtain ⟨kd, n, ha, h⟩ := h
    cases nx_some h
    simp only [Nat.sub_self, Nat.add_zero] at k
    exact arr_len hC' hI ha hd (k _ _ _ hl hI hlo)
  case iaload =>
    cases beq_iff_eq.mp hlen
    replace h := sri_some h
    obtain ⟨a, j, r, rfl, h⟩ := h
    replace h := ar_some h
    obtain ⟨kd, n, ha, h⟩ := h
    replace h := gd_some h
    obtain ⟨hc, h⟩ := h
    simp only [Bool.and_eq_true, Bool.or_eq_true, beq_iff_eq, decide_eq_true_eq] at hc
    cases nx_some h
    simp only [Nat.sub_self, Nat.add_zero] at k
    rcases hc.1 with rfl | rfl
    · exact arr_iald hC' hI ha (inb_in hc.2) hd (k _ _ _ hl hI hlo)
    · exact scr_iald hC' hI ha (inb_in hc.2) hd (k _ _ _ hl hI hlo)
  case baload =>
    cases beq_iff_eq.mp hlen
    replace h := sri_some h
    obtain ⟨a, j, r, rfl, h⟩ := h
    replace h := ar_some h
    obtain ⟨kd, n, ha, h⟩ := h
    replace h := gd_some h
    obtain ⟨hc, h⟩ := h
    simp only [Bool.and_eq_true, Bool.or_eq_true, beq_iff_eq, decide_eq_true_eq] at hc
    cases nx_some h
    simp only [Nat.sub_self, Nat.add_zero] at k
    rcases hc.1 with rfl | rfl
    · exact arr_bald hC' hI ha (inb_in hc.2) hd (k _ _ _ hl hI hlo)
    · exact arr_zald hC' hI ha (inb_in hc.2) hd (k _ _ _ hl hI hlo)
  case laload =>
    cases beq_iff_eq.mp hlen
    replace h := sri_some h
    obtain ⟨a, j, r, rfl, h⟩ := h
    replace h := ar_some h
    obtain ⟨kd, n, ha, h⟩ := h
    replace h := gd_some h
    obtain ⟨hc, h⟩ := h
    simp only [Bool.and_eq_true, Bool.or_eq_true, beq_iff_eq, decide_eq_true_eq] at hc
    cases nx_some h
    simp only [Nat.sub_self, Nat.add_zero] at k
    obtain ⟨rfl, hj⟩ := hc
    exact arr_lald hC' hI ha (inb_in hj) hd (k _ _ _ hl hI hlo)
  case aaload =>
    cases beq_iff_eq.mp hlen
    replace h := sri_some h
    obtain ⟨a, j, r, rfl, h⟩ := h
    replace h := ar_some h
    obtain ⟨kd, n, ha, h⟩ := h
    replace h := gd_some h
    obtain ⟨hc, h⟩ := h
    simp only [Bool.and_eq_true, Bool.or_eq_true, beq_iff_eq, decide_eq_true_eq] at hc
    cases nx_some h
    simp only [Nat.sub_self, Nat.add_zero] at k
    exact arr_aald hC' hI ha hc.1 (inb_in hc.2) hd (k _ _ _ hl hI hlo)
  case iastore =>
    cases beq_iff_eq.mp hlen
    replace h := srii_some h
    obtain ⟨a, j, x, r, rfl, h⟩ := h
    replace h := ar_some h
    obtain ⟨kd, n, ha, h⟩ := h
    replace h := gd_some h
    obtain ⟨hc, h⟩ := h
    simp only [Bool.and_eq_true, beq_iff_eq] at hc
    cases nx_some h
    obtain ⟨rfl, hj⟩ := hc
    simp only [nxt, slo, sI, wI, Nat.sub_self, Nat.add_zero] at k
    exact arr_iast hC' hI ha (inb_in hj) hd hlo (fun H1 locs1 hI1 hl1 => k _ _ _ hl hI1 hl1)
  case lastore =>
    cases beq_iff_eq.mp hlen
    replace h := sril_some h
    obtain ⟨a, j, x, r, rfl, h⟩ := h
    replace h := ar_some h
    obtain ⟨kd, n, ha, h⟩ := h
    replace h := gd_some h
    obtain ⟨hc, h⟩ := h
    simp only [Bool.and_eq_true, beq_iff_eq] at hc
    cases nx_some h
    obtain ⟨rfl, hj⟩ := hc
    simp only [nxt, slo, sJ, wJ, Nat.sub_self, Nat.add_zero] at k
    exact arr_last hC' hI ha (inb_in hj) hd hlo (fun H1 locs1 hI1 hl1 => k _ _ _ hl hI1 hl1)
  case bastore =>
    cases beq_iff_eq.mp hlen
    replace h := srii_some h
    obtain ⟨a, j, x, r, rfl, h⟩ := h
    replace h := ar_some h
    obtain ⟨kd, n, ha, h⟩ := h
    split at h
    · rename_i h2
      subst h2
      replace h := gd_some h
      obtain ⟨hj, h⟩ := h
      cases nx_some h
      simp only [nxt, slo, sI, wI, Nat.sub_self, Nat.add_zero] at k
      exact arr_bast hC' hI ha (inb_in hj) hd hlo (fun H1 locs1 hI1 hl1 => k _ _ _ hl hI1 hl1)
    · replace h := gd_some h
      obtain ⟨hc, h⟩ := h
      simp only [Bool.and_eq_true, beq_iff_eq] at hc
      cases nx_some h
      obtain ⟨rfl, hj⟩ := hc
      simp only [nxt, slo, sI, wI, Nat.sub_self, Nat.add_zero] at k
      exact arr_zast hC' hI ha (inb_in hj) hd hlo (fun H1 locs1 hI1 hl1 => k _ _ _ hl hI1 hl1)
  case aastore =>
    cases beq_iff_eq.mp hlen
    simp only [step] at h
    split at h
    · replace h := ar_some h
      obtain ⟨kd, n, ha, h⟩ := h
      replace h := ob_some h
      obtain ⟨ci, hv, h⟩ := h
      replace h := gd_some h
      obtain ⟨hc, h⟩ := h
      simp only [Bool.and_eq_true, decide_eq_true_eq] at hc
      cases nx_some h
      simp only [nxt, slo, sR, wR, Nat.sub_self, Nat.add_zero] at k
      exact arr_aast hC' hI ha hv hc.1 (inb_in hc.2) hd hlo (fun H1 locs1 hI1 hl1 => k _ _ _ hl hI1 hl1)
    · cases h
  case newarray ty =>
    cases beq_iff_eq.mp hlen
    replace h := s1i_some h
    obtain ⟨n, r, rfl, h⟩ := h
    cases ty
    case int =>
      replace h := gd_some h
      obtain ⟨hc, h⟩ := h
      simp only [Bool.and_eq_true, decide_eq_true_eq, Bool.not_eq_true', decide_eq_false_iff_not] at hc
      cases nx_some h
      have e1 : nxt (nw M (.inr (0, n.toNatClampNeg)) n.toNatClampNeg) - nxt M = 1 := Nat.add_sub_cancel_left _ _
      have e2 : slo (nw M (.inr (0, n.toNatClampNeg)) n.toNatClampNeg) - slo M = n.toNatClampNeg := Nat.add_sub_cancel_left _ _
      rw [e1] at k hcl
      rw [e2] at k hsl
      exact prim_new hC' hI (kd := 0) (ty := .int) rfl (fun C q => by cases q) rfl (by decide) arw_int (fun j => by simp [eV, gI, gJ, nw, defaultValue]) hc.1 (by show _ * 4 ≤ _; omega) hd hcl hsl (fun H1 hI1 => k _ _ _ hl hI1 hlo)
    case long =>
      replace h := gd_some h
      obtain ⟨hc, h⟩ := h
      simp only [Bool.and_eq_true, decide_eq_true_eq, Bool.not_eq_true', decide_eq_false_iff_not] at hc
      cases nx_some h
      have e1 : nxt (nw M (.inr (1, n.toNatClampNeg)) n.toNatClampNeg) - nxt M = 1 := Nat.add_sub_cancel_left _ _
      have e2 : slo (nw M (.inr (1, n.toNatClampNeg)) n.toNatClampNeg) - slo M = n.toNatClampNeg := Nat.add_sub_cancel_left _ _
      rw [e1] at k hcl
      rw [e2] at k hsl
      exact prim_new hC' hI (kd := 1) (ty := .long) rfl (fun C q => by cases q) rfl (by decide) arw_long (fun j => by simp [eV, gI, gJ, nw, defaultValue]) hc.1 (by show _ * 8 ≤ _; omega) hd hcl hsl (fun H1 hI1 => k _ _ _ hl hI1 hlo)
    case byte =>
      replace h := gd_some h
      obtain ⟨hc, h⟩ := h
      simp only [Bool.and_eq_true, decide_eq_true_eq, Bool.not_eq_true', decide_eq_false_iff_not] at hc
      cases nx_some h
      have e1 : nxt (nw M (.inr (2, n.toNatClampNeg)) n.toNatClampNeg) - nxt M = 1 := Nat.add_sub_cancel_left _ _
      have e2 : slo (nw M (.inr (2, n.toNatClampNeg)) n.toNatClampNeg) - slo M = n.toNatClampNeg := Nat.add_sub_cancel_left _ _
      rw [e1] at k hcl
      rw [e2] at k hsl
      exact prim_new hC' hI (kd := 2) (ty := .byte) rfl (fun C q => by cases q) rfl (by decide) arw_byte (fun j => by simp [eV, gI, gJ, nw, defaultValue]) hc.1 (by show _ * 1 ≤ _; omega) hd hcl hsl (fun H1 hI1 => k _ _ _ hl hI1 hlo)
    case boolean =>
      replace h := gd_some h
      obtain ⟨hc, h⟩ := h
      simp only [Bool.and_eq_true, decide_eq_true_eq, Bool.not_eq_true', decide_eq_false_iff_not] at hc
      cases nx_some h
      have e1 : nxt (nw M (.inr (3, n.toNatClampNeg)) n.toNatClampNeg) - nxt M = 1 := Nat.add_sub_cancel_left _ _
      have e2 : slo (nw M (.inr (3, n.toNatClampNeg)) n.toNatClampNeg) - slo M = n.toNatClampNeg := Nat.add_sub_cancel_left _ _
      rw [e1] at k hcl
      rw [e2] at k hsl
      exact prim_new hC' hI (kd := 3) (ty := .boolean) rfl (fun C q => by cases q) rfl (by decide) arw_bool (fun j => by simp [eV, gI, gJ, nw, defaultValue]) hc.1 (by show _ * 1 ≤ _; omega) hd hcl hsl (fun H1 hI1 => k _ _ _ hl hI1 hlo)
    all_goals cases h
  case anewarray n =>
    cases beq_iff_eq.mp hlen
    replace h := s1i_some h
    obtain ⟨x, r, rfl, h⟩ := h
    split at h
    · rename_i kd hk
      replace h := gd_some h
      obtain ⟨hc, h⟩ := h
      simp only [Bool.and_eq_true, decide_eq_true_eq, Bool.not_eq_true', decide_eq_false_iff_not] at hc
      cases nx_some h
      have e1 : nxt (nw M (.inr (kd, x.toNatClampNeg)) x.toNatClampNeg) - nxt M = 1 := Nat.add_sub_cancel_left _ _
      have e2 : slo (nw M (.inr (kd, x.toNatClampNeg)) x.toNatClampNeg) - slo M = x.toNatClampNeg := Nat.add_sub_cancel_left _ _
      rw [e1] at k hcl
      rw [e2] at k hsl
      exact ref_new hC' hI hk hc.1 hc.2 hd hcl hsl (fun H1 hI1 => k _ _ _ hl hI1 hlo)
    · cases h
  case new n =>
    cases beq_iff_eq.mp hlen
    simp only [step] at h
    split at h
    · rename_i ci hk
      cases nx_some h
      have e1 : nxt (nw M (.inl ci) (cS ci)) - nxt M = 1 := Nat.add_sub_cancel_left _ _
      have e2 : slo (nw M (.inl ci) (cS ci)) - slo M = cS ci := Nat.add_sub_cancel_left _ _
      rw [e1] at k hcl
      rw [e2] at k hsl
      exact obj_new hC' hI hk hd hcl hsl (fun H1 hI1 => k _ _ _ hl hI1 hlo)
    · cases h
  case invokespecial n =>
    cases beq_iff_eq.mp hlen
    simp only [step] at h
    split at h
    · split at h
      · replace h := gd_some h
        obtain ⟨-, h⟩ := h
        cases h
      · cases h
    · split at h
      · replace h := gd_some h
        obtain ⟨-, h⟩ := h
        cases h
      · cases h
    · rename_i g hk
      replace h := s1r_some h
      obtain ⟨a, r, rfl, h⟩ := h
      replace h := gd_some h
      obtain ⟨hc, h⟩ := h
      have hc := of_decide_eq_true hc
      have hcat := cat_le r
      cases nx_some h
      simp only [Nat.sub_self, Nat.add_zero] at k
      obtain ⟨w1, w2, w3⟩ := mT_ok _ (lk_mem hk)
      exact W.objInit hx hb hown (hts _ w1) (hts _ w2) (hts _ w3) rfl (by rw [hml, ← hL]; exact hl.1) rfl hd (by omega) (by show 2 * 0 + _ + 12 ≤ _; omega) (k _ _ _ hl hI hlo)
    · cases h
  case invokevirtual n =>
    cases beq_iff_eq.mp hlen
    simp only [step] at h
    split at h
    · split at h
      · replace h := ob_some h
        obtain ⟨_, _, h⟩ := h
        replace h := gd_some h
        obtain ⟨-, h⟩ := h
        replace h := gd_some h
        obtain ⟨-, h⟩ := h
        cases h
      · cases h
    · cases h
  case invokestatic n =>
    cases beq_iff_eq.mp hlen
    simp only [step] at h
    split at h
    · replace h := gd_some h
      obtain ⟨-, h⟩ := h
      replace h := gd_some h
      obtain ⟨-, h⟩ := h
      cases h
    · rename_i g hk
      replace h := s2i_some h
      obtain ⟨x, y, r, rfl, h⟩ := h
      replace h := gd_some h
      obtain ⟨hc, h⟩ := h
      have hc := of_decide_eq_true hc
      have hcat := cat_le r
      cases nx_some h
      simp only [Nat.sub_self, Nat.add_zero] at k hcl hsl
      obtain ⟨w1, w2, w3, w4⟩ := mT_ok _ (lk_mem hk)
      exact va_mmin hx hb (by rw [hml, ← hL]; exact hl.1.symm) hown (hts _ w1) (hts _ w2) (hts _ w3) (hts _ w4) (by omega) (by omega) hcl hsl hd (k _ _ _ hl hI hlo)
    · rename_i g hk
      replace h := s2i_some h
      obtain ⟨x, y, r, rfl, h⟩ := h
      replace h := gd_some h
      obtain ⟨hc, h⟩ := h
      have hc := of_decide_eq_true hc
      have hcat := cat_le r
      cases nx_some h
      simp only [Nat.sub_self, Nat.add_zero] at k hcl hsl
      obtain ⟨w1, w2, w3, w4⟩ := mT_ok _ (lk_mem hk)
      exact va_mmax hx hb (by rw [hml, ← hL]; exact hl.1.symm) hown (hts _ w1) (hts _ w2) (hts _ w3) (hts _ w4) (by omega) (by omega) hcl hsl hd (k _ _ _ hl hI hlo)
    · rename_i g hk
      split at h
      · rename_i n dp b sp a r
        replace h := ar_some h
        obtain ⟨k0, n0, ha, h⟩ := h
        replace h := ar_some h
        obtain ⟨k1, n1, hb0, h⟩ := h
        replace h := gd_some h
        obtain ⟨hc, h⟩ := h
        simp only [Bool.and_eq_true, decide_eq_true_eq, Bool.not_eq_true', decide_eq_false_iff_not] at hc
        have hcat := cat_le r
        cases nx_some h
        obtain ⟨⟨⟨⟨⟨⟨⟨rfl, rfl⟩, hr5⟩, h6⟩, h7⟩, h8⟩, h9⟩, h10⟩ := hc
        simp only [nxt, slo, cpI, wI, Nat.sub_self, Nat.add_zero] at k
        obtain ⟨w1, w2, w3, w4⟩ := mT_ok _ (lk_mem hk)
        exact arr_copy hC' hI (by rw [hml, ← hL]; exact hl.1.symm) ha hb0 w1 w2 w3 w4 h6 h7 h8 h9 h10 (by omega) (by omega) hd hlo (fun H1 locs1 hI1 hl1 => k _ _ _ hl hI1 hl1)
      · cases h
    · cases h
  all_goals first
    | exact nomatch (h : (none : Option Out) = some _)
    | (simp only [step] at h; split at h <;> first | cases h | (obtain ⟨-, h⟩ := gd_some h; cases h))
end SS
