/-- a field is written -/
def pfv (k : Nat) (v : Value) (M : Mm) (a j : Nat) : Option Mm := match k, v with
  | 0, .int x => some (sI M a j x)
  | 1, .long x => some (sJ M a j x)
  | 2, .ref x => some (sR M a j (some x))
  | 2, .null => some (sR M a j none)
  | _, _ => none
def step (f : Fn) (i : Instr) (pc : Nat) (L st : List Value) (M : Mm) : Option Out := match i with
  | .aconst_null => nx (pc + 1) L (.null :: st) M
  | .iconst n => nx (pc + 1) L (.int (Int32.ofInt n) :: st) M
  | .bipush n => nx (pc + 2) L (.int (Int8.ofInt n).toInt32 :: st) M
  | .sipush n => nx (pc + 3) L (.int (Int16.ofInt n).toInt32 :: st) M
  | .lconst n => nx (pc + 1) L (.long (Int64.ofNat (n : Nat)) :: st) M
  | .ldc k => match lk iT (fnC f) k with
    | some v => nx (pc + 2) L (.int v :: st) M
    | none => none
  | .ldc2_w k => match lk lT (fnC f) k with
    | some v => nx (pc + 3) L (.long v :: st) M
    | none => none
  | .iload k => ldI L k fun x => nx (pc + 2) L (.int x :: st) M
  | .iload_n k => ldI L k fun x => nx (pc + 1) L (.int x :: st) M
  | .lload k => ldJ L k fun x => nx (pc + 2) L (.long x :: st) M
  | .lload_n k => ldJ L k fun x => nx (pc + 1) L (.long x :: st) M
  | .aload k => ldA L k fun x => nx (pc + 2) L (x :: st) M
  | .aload_n k => ldA L k fun x => nx (pc + 1) L (x :: st) M
  | .istore k => s1i st fun x r => gd (decide (k < L.length)) (nx (pc + 2) (ls1 L k (.int x)) r M)
  | .istore_n k => s1i st fun x r => gd (decide ((k : Nat) < L.length)) (nx (pc + 1) (ls1 L k (.int x)) r M)
  | .lstore k => s1l st fun x r => gd (decide (k + 1 < L.length)) (nx (pc + 2) (ls2 L k (.long x)) r M)
  | .lstore_n k => s1l st fun x r => gd (decide ((k : Nat) + 1 < L.length)) (nx (pc + 1) (ls2 L k (.long x)) r M)
  | .astore k => stR st fun x r => gd (decide (k < L.length)) (nx (pc + 2) (ls1 L k x) r M)
  | .astore_n k => stR st fun x r => gd (decide ((k : Nat) < L.length)) (nx (pc + 1) (ls1 L k x) r M)
  | .iinc k n => ldI L k fun x => nx (pc + 3) (ls1 L k (.int (x + Int32.ofInt n))) st M
  | .iadd => s2i st fun x y r => nx (pc + 1) L (.int (x + y) :: r) M
  | .isub => s2i st fun x y r => nx (pc + 1) L (.int (x - y) :: r) M
  | .imul => s2i st fun x y r => nx (pc + 1) L (.int (x * y) :: r) M
  | .irem => s2i st fun x y r => gd (!decide (y = 0)) (nx (pc + 1) L (.int (x - x / y * y) :: r) M)
  | .iand => s2i st fun x y r => nx (pc + 1) L (.int (x &&& y) :: r) M
  | .ladd => s2l st fun x y r => nx (pc + 1) L (.long (x + y) :: r) M
  | .lsub => s2l st fun x y r => nx (pc + 1) L (.long (x - y) :: r) M
  | .lor => s2l st fun x y r => nx (pc + 1) L (.long (x ||| y) :: r) M
  | .land => s2l st fun x y r => nx (pc + 1) L (.long (x &&& y) :: r) M
  | .lshl => sli st fun x y r => nx (pc + 1) L (.long (x <<< (y.toInt64 &&& 63)) :: r) M
  | .lshr => sli st fun x y r => nx (pc + 1) L (.long (x >>> (y.toInt64 &&& 63)) :: r) M
  | .lushr => sli st fun x y r => nx (pc + 1) L (.long (x.toUInt64 >>> (y.toInt64.toUInt64 &&& Int64.toUInt64 63)).toInt64 :: r) M
  | .lcmp => s2l st fun x y r => nx (pc + 1) L (.int (lg_cmp x y) :: r) M
  | .i2l => s1i st fun x r => nx (pc + 1) L (.long x.toInt64 :: r) M
  | .l2i => s1l st fun x r => nx (pc + 1) L (.int x.toInt32 :: r) M
  | .i2b => s1i st fun x r => nx (pc + 1) L (.int x.toInt8.toInt32 :: r) M
  | .dup => st1 st fun v r => nx (pc + 1) L (v :: v :: r) M
  | .dup2 => st1 st fun v r => st1 r fun w r => nx (pc + 1) L (v :: w :: v :: w :: r) M
  | .goto o => tg pc o fun t => nx t L st M
  | .ifCond cnd o => s1i st fun x r => tg pc o fun t => nx (if cmpi cnd x 0 = true then t else pc + 3) L r M
  | .if_icmp cnd o => s2i st fun x y r => tg pc o fun t => nx (if cmpi cnd x y = true then t else pc + 3) L r M
  | .ifnull o => stR st fun v r => tg pc o fun t => nx (if v = .null then t else pc + 3) L r M
  | .ifnonnull o => stR st fun v r => tg pc o fun t => nx (if v = .null then pc + 3 else t) L r M
  | .tableswitch d lo hi offs => s1i st fun x r =>
      if x.toInt < lo ∨ hi < x.toInt then tg pc d fun t => nx t L r M
      else match offs[(x.toInt - lo).toNat]? with
        | some o => tg pc o fun t => nx t L r M
        | none => none
  | .getfield k => s1r st fun a r => match lk fT (fnC f) k with
    | some (ci, j) => ob M a fun c => gd (decide (c = ci)) (match tk (cY ci j) with
      | 0 => nx (pc + 3) L (.int (gI M a j) :: r) M
      | 1 => nx (pc + 3) L (.long (gJ M a j) :: r) M
      | 2 => nx (pc + 3) L (va_rf (gR M a j) :: r) M
      | _ => none)
    | none => none
  | .putfield k => match st with
    | v :: .ref a :: r => match lk fT (fnC f) k with
      | some (ci, j) => ob M a fun c => gd (decide (c = ci) && decide (narrow (cY ci j) v = v) && fits (cY ci j) v && (!(cF ci j) || (decide (fnC f = ci) && decide ((fnY f).name = "<init>")))) (match pfv (tk (cY ci j)) v M a j with
        | some M1 => nx (pc + 3) L r M1
        | none => none)
      | none => none
    | _ => none
  | .arraylength => s1r st fun a r => ar M a fun _ n => nx (pc + 1) L (.int (Int32.ofNat n) :: r) M
  | .iaload => sri st fun a j r => ar M a fun kd n => gd ((kd == 0 || kd == 9) && inb j n) (nx (pc + 1) L (.int (gI M a j.toNatClampNeg) :: r) M)
  | .baload => sri st fun a j r => ar M a fun kd n => gd ((kd == 2 || kd == 3) && inb j n) (nx (pc + 1) L (.int (gI M a j.toNatClampNeg) :: r) M)
  | .laload => sri st fun a j r => ar M a fun kd n => gd (kd == 1 && inb j n) (nx (pc + 1) L (.long (gJ M a j.toNatClampNeg) :: r) M)
  | .aaload => sri st fun a j r => ar M a fun kd n => gd (decide (10 ≤ kd) && inb j n) (nx (pc + 1) L (va_rf (gR M a j.toNatClampNeg) :: r) M)
  | .iastore => srii st fun a j x r => ar M a fun kd n => gd (kd == 0 && inb j n) (nx (pc + 1) L r (sI M a j.toNatClampNeg x))
  | .bastore => srii st fun a j x r => ar M a fun kd n => if kd = 2 then gd (inb j n) (nx (pc + 1) L r (sI M a j.toNatClampNeg (vp_nar .byte x)))
      else gd (kd == 3 && inb j n) (nx (pc + 1) L r (sI M a j.toNatClampNeg (vp_nar .boolean x)))
  | .lastore => sril st fun a j x r => ar M a fun kd n => gd (kd == 1 && inb j n) (nx (pc + 1) L r (sJ M a j.toNatClampNeg x))
  | .aastore => match st with
    | .ref v :: .int j :: .ref a :: r => ar M a fun kd n => ob M v fun c => gd (decide (lk aO 0 kd = some c) && inb j n) (nx (pc + 1) L r (sR M a j.toNatClampNeg (some v)))
    | _ => none
  | .newarray ty => s1i st fun n r => match ty with
    | .int => gd (!decide (n < 0) && decide (n.toNatClampNeg ≤ 16777216)) (nx (pc + 2) L (.ref (nxt M) :: r) (nw M (.inr (0, n.toNatClampNeg)) n.toNatClampNeg))
    | .long => gd (!decide (n < 0) && decide (n.toNatClampNeg ≤ 16777216)) (nx (pc + 2) L (.ref (nxt M) :: r) (nw M (.inr (1, n.toNatClampNeg)) n.toNatClampNeg))
    | .byte => gd (!decide (n < 0) && decide (n.toNatClampNeg ≤ 16777216)) (nx (pc + 2) L (.ref (nxt M) :: r) (nw M (.inr (2, n.toNatClampNeg)) n.toNatClampNeg))
    | .boolean => gd (!decide (n < 0) && decide (n.toNatClampNeg ≤ 16777216)) (nx (pc + 2) L (.ref (nxt M) :: r) (nw M (.inr (3, n.toNatClampNeg)) n.toNatClampNeg))
    | _ => none
  | .anewarray k => s1i st fun n r => match lk aT (fnC f) k with
    | some kd => gd (!decide (n < 0) && decide (n.toNatClampNeg ≤ 16777216)) (nx (pc + 3) L (.ref (nxt M) :: r) (nw M (.inr (kd, n.toNatClampNeg)) n.toNatClampNeg))
    | none => none
  | .new k => match lk nT (fnC f) k with
    | some ci => nx (pc + 3) L (.ref (nxt M) :: st) (nw M (.inl ci) (cS ci))
    | none => none
  | .invokespecial k => match lk mT (fnC f) k with
    | some (2, g) => match st.drop (fnP g) with
      | .ref b :: rest => mk f g (.ref b :: (st.take (fnP g)).reverse) rest
      | _ => none
    | some (7, g) => match st.drop (fnP g) with
      | .ref b :: rest => mk f g (.ref b :: (st.take (fnP g)).reverse) rest
      | _ => none
    | some (3, _) => s1r st fun _ r => gd (decide (2 * r.length + 12 ≤ fnS f)) (nx (pc + 3) L r M)
    | _ => none
  | .invokevirtual k => match lk mT (fnC f) k with
    | some (1, g) => match st.drop (fnP g) with
      | .ref b :: rest => ob M b fun c => gd (decide (c = fnC g)) (mk f g (.ref b :: (st.take (fnP g)).reverse) rest)
      | _ => none
    | _ => none
  | .invokestatic k => match lk mT (fnC f) k with
    | some (0, g) => gd (decide (fnP g ≤ st.length)) (mk f g (st.take (fnP g)).reverse (st.drop (fnP g)))
    | some (4, _) => s2i st fun x y r => gd (decide (2 * r.length + 13 ≤ fnS f)) (nx (pc + 3) L (.int (if y < x then y else x) :: r) M)
    | some (5, _) => s2i st fun x y r => gd (decide (2 * r.length + 13 ≤ fnS f)) (nx (pc + 3) L (.int (if x < y then y else x) :: r) M)
    | some (6, _) => match st with
      | .int n :: .int dp :: .ref b :: .int sp :: .ref a :: r => ar M a fun k0 n0 => ar M b fun k1 n1 =>
        gd (decide (k0 = 0) && decide (k1 = 0) && decide (2 * r.length + (nativeFrameWords "java/lang/System" "arraycopy" 5 + 11) ≤ fnS f) && !decide (sp < 0) && !decide (dp < 0) && !decide (n < 0) && decide (sp.toNatClampNeg + n.toNatClampNeg ≤ n0) && decide (dp.toNatClampNeg + n.toNatClampNeg ≤ n1))
          (nx (pc + 3) L r (cpI M a b sp.toNatClampNeg dp.toNatClampNeg n.toNatClampNeg))
      | _ => none
    | _ => none
  | .return_ => match st, fnR f with
    | [], none => some (.inr (.inl none))
    | _, _ => none
  | .ireturn => match st, fnR f with
    | [.int v], some ty => gd (decide (narrow ty (.int v) = .int v)) (some (.inr (.inl (some (.int v)))))
    | _, _ => none
  | .lreturn => match st, fnR f with
    | [.long v], some .long => some (.inr (.inl (some (.long v))))
    | _, _ => none
  | .areturn => match st, fnR f with
    | [v], some (.object _) => gd (isR v) (some (.inr (.inl (some v))))
    | [v], some (.array _) => gd (isR v) (some (.inr (.inl (some v))))
    | _, _ => none
  | _ => none
def okL (i : Instr) (len : Nat) : Bool := match i with
  | .bipush _ => len == 2
  | .ldc _ => len == 2
  | .iload _ => len == 2
  | .lload _ => len == 2
  | .aload _ => len == 2
  | .istore _ => len == 2
  | .lstore _ => len == 2
  | .astore _ => len == 2
  | .newarray _ => len == 2
  | .sipush _ => len == 3
  | .ldc2_w _ => len == 3
  | .iinc _ _ => len == 3
  | .goto _ => len == 3
  | .ifCond _ _ => len == 3
  | .if_icmp _ _ => len == 3
  | .ifnull _ => len == 3
  | .ifnonnull _ => len == 3
  | .getfield _ => len == 3
  | .putfield _ => len == 3
  | .anewarray _ => len == 3
  | .new _ => len == 3
  | .invokespecial _ => len == 3
  | .invokevirtual _ => len == 3
  | .invokestatic _ => len == 3
  | .tableswitch _ _ _ _ => true
  | _ => len == 1
def exec : Nat → Fn → Nat → List Value → List Value → Mm → Option (Option Value × Mm)
  | 0, _, _, _, _, _ => none
  | n + 1, f, pc, L, st, M =>
    match decode (fnB f) pc with
    | .error _ => none
    | .ok (i, len) =>
      match okL i len, step f i pc L st M with
      | true, some (.inl (pc', L', st', M')) => exec n f pc' L' st' M'
      | true, some (.inr (.inl r)) => some (r, M)
      | true, some (.inr (.inr (g, as, rest))) =>
        match exec n g 0 (ent (fnL g) as) [] M with
        | none => none
        | some (r, M1) => exec n f (pc + 3) L (r.toList ++ rest) M1
      | _, _ => none
theorem exec_in {n : Nat} {f : Fn} {pc : Nat} {L st : List Value} {M : Mm} {i : Instr} {len pc' : Nat} {L' st' : List Value} {M' : Mm} (hd : decode (fnB f) pc = .ok (i, len)) (hl : okL i len = true) (hs : step f i pc L st M = some (.inl (pc', L', st', M'))) : exec (n + 1) f pc L st M = exec n f pc' L' st' M' := by
  simp only [exec, hd, hl, hs]
theorem exec_ret {n : Nat} {f : Fn} {pc : Nat} {L st : List Value} {M : Mm} {i : Instr} {len : Nat} {r : Option Value} (hd : decode (fnB f) pc = .ok (i, len)) (hl : okL i len = true) (hs : step f i pc L st M = some (.inr (.inl r))) : exec (n + 1) f pc L st M = some (r, M) := by
  simp only [exec, hd, hl, hs]
theorem exec_call {n : Nat} {f g : Fn} {pc : Nat} {L st as rest : List Value} {M : Mm} {i : Instr} {len : Nat} (hd : decode (fnB f) pc = .ok (i, len)) (hl : okL i len = true) (hs : step f i pc L st M = some (.inr (.inr (g, as, rest)))) : exec (n + 1) f pc L st M = (match exec n g 0 (ent (fnL g) as) [] M with
    | none => none
    | some (r, M1) => exec n f (pc + 3) L (r.toList ++ rest) M1) := by
  simp only [exec, hd, hl, hs]
/-- what exec says comes of one of three -/
theorem exec_cases {n : Nat} {f : Fn} {pc : Nat} {L st : List Value} {M : Mm} {q : Option Value × Mm} (h : exec n f pc L st M = some q) : ∃ (k : Nat) (i : Instr) (len : Nat), n = k + 1 ∧ decode (fnB f) pc = .ok (i, len) ∧ okL i len = true ∧
    ((∃ pc' L' st' M', step f i pc L st M = some (.inl (pc', L', st', M')) ∧ exec k f pc' L' st' M' = some q) ∨
     (∃ r, step f i pc L st M = some (.inr (.inl r)) ∧ q = (r, M)) ∨
     (∃ g as rest r M1, step f i pc L st M = some (.inr (.inr (g, as, rest))) ∧ exec k g 0 (ent (fnL g) as) [] M = some (r, M1) ∧ exec k f (pc + 3) L (r.toList ++ rest) M1 = some q)) := by
  cases n with
  | zero => simp [exec] at h
  | succ k =>
    cases hd : decode (fnB f) pc with
    | error z => simp [exec, hd] at h
    | ok y =>
      obtain ⟨i, len⟩ := y
      cases hl : okL i len with
      | false => simp [exec, hd, hl] at h
      | true =>
        refine ⟨k, i, len, rfl, rfl, hl, ?_⟩
        cases hs : step f i pc L st M with
        | none => simp [exec, hd, hl, hs] at h
        | some o =>
          rcases o with ⟨pc', L', st', M'⟩ | r | ⟨g, as, rest⟩
          · rw [exec_in hd hl hs] at h
            exact Or.inl ⟨_, _, _, _, rfl, h⟩
          · rw [exec_ret hd hl hs] at h
            exact Or.inr (Or.inl ⟨_, rfl, (Option.some.inj h).symm⟩)
          · rw [exec_call hd hl hs] at h
            cases hg : exec k g 0 (ent (fnL g) as) [] M with
            | none => simp [hg] at h
            | some z =>
              obtain ⟨r, M1⟩ := z
              simp only [hg] at h
              exact Or.inr (Or.inr ⟨_, _, _, _, _, rfl, hg, h⟩)
theorem exec_up {n : Nat} : ∀ {f : Fn} {pc : Nat} {L st : List Value} {M : Mm} {q : Option Value × Mm}, exec n f pc L st M = some q → ∀ {k : Nat}, n ≤ k → exec k f pc L st M = some q := by
  induction n with
  | zero => intro f pc L st M q h; simp [exec] at h
  | succ n ih =>
    intro f pc L st M q h k hk
    obtain ⟨k, rfl⟩ : ∃ j, k = j + 1 := ⟨k - 1, by omega⟩
    obtain ⟨n', i, len, e, hd, hl, hc⟩ := exec_cases h
    have e : n' = n := by omega
    subst e
    rcases hc with ⟨pc', L', st', M', hs, h2⟩ | ⟨r, hs, rfl⟩ | ⟨g, as, rest, r, M1, hs, h2, h3⟩
    · rw [exec_in hd hl hs]
      exact ih h2 (by omega)
    · rw [exec_ret hd hl hs]
    · rw [exec_call hd hl hs, ih h2 (show n' ≤ k by omega)]
      exact ih h3 (by omega)
def wp (f : Fn) (pc : Nat) (L st : List Value) (M : Mm) (Q : Option Value → Mm → Prop) : Prop := ∃ n r M', exec n f pc L st M = some (r, M') ∧ Q r M'
theorem wp_in {f : Fn} {pc : Nat} {L st : List Value} {M : Mm} {Q : Option Value → Mm → Prop} {i : Instr} {len pc' : Nat} {L' st' : List Value} {M' : Mm} (hd : decode (fnB f) pc = .ok (i, len)) (hl : okL i len = true) (hs : step f i pc L st M = some (.inl (pc', L', st', M'))) : wp f pc L st M Q = wp f pc' L' st' M' Q := by
  apply propext
  constructor
  · rintro ⟨n, r, M2, h, hq⟩
    obtain ⟨n', i', len', e, hd', hl', hc⟩ := exec_cases h
    cases hd.symm.trans hd'
    rcases hc with ⟨a, b, c, d, hs', h2⟩ | ⟨r, hs', -⟩ | ⟨g, as, rest, r, M1, hs', -⟩
    · cases hs.symm.trans hs'
      exact ⟨_, _, _, h2, hq⟩
    · cases hs.symm.trans hs'
    · cases hs.symm.trans hs'
  · rintro ⟨n, r, M2, h, hq⟩
    exact ⟨n + 1, r, M2, by rw [exec_in hd hl hs]; exact h, hq⟩
theorem wp_ret {f : Fn} {pc : Nat} {L st : List Value} {M : Mm} {Q : Option Value → Mm → Prop} {i : Instr} {len : Nat} {r : Option Value} (hd : decode (fnB f) pc = .ok (i, len)) (hl : okL i len = true) (hs : step f i pc L st M = some (.inr (.inl r))) : wp f pc L st M Q = Q r M := by
  apply propext
  constructor
  · rintro ⟨n, r2, M2, h, hq⟩
    obtain ⟨n', i', len', e, hd', hl', hc⟩ := exec_cases h
    cases hd.symm.trans hd'
    rcases hc with ⟨a, b, c, d, hs', h2⟩ | ⟨r, hs', e2⟩ | ⟨g, as, rest, r, M1, hs', -⟩
    · cases hs.symm.trans hs'
    · cases hs.symm.trans hs'
      cases e2
      exact hq
    · cases hs.symm.trans hs'
  · intro hq
    exact ⟨1, r, M, exec_ret hd hl hs, hq⟩
theorem wp_call {f g : Fn} {pc : Nat} {L st as rest : List Value} {M : Mm} {Q : Option Value → Mm → Prop} {i : Instr} {len : Nat} (hd : decode (fnB f) pc = .ok (i, len)) (hl : okL i len = true) (hs : step f i pc L st M = some (.inr (.inr (g, as, rest)))) : wp f pc L st M Q = wp g 0 (ent (fnL g) as) [] M (fun r M1 => wp f (pc + 3) L (r.toList ++ rest) M1 Q) := by
  apply propext
  constructor
  · rintro ⟨n, r2, M2, h, hq⟩
    obtain ⟨n', i', len', e, hd', hl', hc⟩ := exec_cases h
    cases hd.symm.trans hd'
    rcases hc with ⟨a, b, c, d, hs', h2⟩ | ⟨r, hs', e2⟩ | ⟨g', as', rest', r, M1, hs', h2, h3⟩
    · cases hs.symm.trans hs'
    · cases hs.symm.trans hs'
    · cases hs.symm.trans hs'
      exact ⟨_, _, _, h2, _, _, _, h3, hq⟩
  · rintro ⟨n, r, M1, h, n2, r2, M2, h2, hq⟩
    refine ⟨max n n2 + 1, r2, M2, ?_, hq⟩
    rw [exec_call hd hl hs, exec_up h (Nat.le_max_left n n2)]
    exact exec_up h2 (Nat.le_max_right n n2)
theorem wp_mono {f : Fn} {pc : Nat} {L st : List Value} {M : Mm} {Q Q' : Option Value → Mm → Prop} (h : wp f pc L st M Q) (hq : ∀ r M', Q r M' → Q' r M') : wp f pc L st M Q' := by
  obtain ⟨n, r, M', h1, h2⟩ := h
  exact ⟨n, r, M', h1, hq _ _ h2⟩
theorem exec_det {n k : Nat} {f : Fn} {pc : Nat} {L st : List Value} {M : Mm} {q q' : Option Value × Mm} (h : exec n f pc L st M = some q) (h' : exec k f pc L st M = some q') : q = q' := by
  have a := exec_up h (Nat.le_max_left n k)
  have b := exec_up h' (Nat.le_max_right n k)
  exact Option.some.inj (a.symm.trans b)
/-- one end: then every wish is about it -/
theorem wp_eq {f : Fn} {pc : Nat} {L st : List Value} {M M' : Mm} {r : Option Value} (h : wp f pc L st M (fun r' M2 => r' = r ∧ M2 = M')) (Q : Option Value → Mm → Prop) : wp f pc L st M Q = Q r M' := by
  obtain ⟨n, r', M2, h1, rfl, rfl⟩ := h
  apply propext
  constructor
  · rintro ⟨k, r3, M3, h3, hq⟩
    cases exec_det h1 h3
    exact hq
  · intro hq
    exact ⟨n, r', M2, h1, hq⟩
theorem wp_ite {f : Fn} {a b : Nat} {c : Prop} (hc : Decidable c) {L st : List Value} {M : Mm} {Q : Option Value → Mm → Prop} : wp f (if c then a else b) L st M Q = if c then wp f a L st M Q else wp f b L st M Q := by
  split <;> rfl
