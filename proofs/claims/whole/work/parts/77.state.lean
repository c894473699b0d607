/-! the run's state, told purely; what each call answers and leaves -/
abbrev Sg : Type := (List Nat × Nat × Nm) × (Nat × List Ru × List Pr) × (Nat × Nat × Bool × Option (Nat × Nat × Nat)) × ((Nat → List Nat) × List (Nat × Nat))
abbrev sTp (σ : Sg) : List Nat := σ.1.1
abbrev sLf (σ : Sg) : Nat := σ.1.2.1
abbrev sNm (σ : Sg) : Nm := σ.1.2.2
abbrev sK (σ : Sg) : Nat := σ.2.1.1
abbrev sRs (σ : Sg) : List Ru := σ.2.1.2.1
abbrev sRow (σ : Sg) : List Pr := σ.2.1.2.2
abbrev sT (σ : Sg) : Nat := σ.2.2.1.1
abbrev sS (σ : Sg) : Nat := σ.2.2.1.2.1
abbrev sSt (σ : Sg) : Bool := σ.2.2.1.2.2.1
abbrev sFo (σ : Sg) : Option (Nat × Nat × Nat) := σ.2.2.1.2.2.2
abbrev sSl (σ : Sg) : Nat → List Nat := σ.2.2.2.1
abbrev sTd (σ : Sg) : List (Nat × Nat) := σ.2.2.2.2
def sDn (σ : Sg) : Bool := !sSt σ && (sRow σ).isEmpty
/-- a number below n -/
def oix (n : Nat) (v : Int32) : Option Nat := if 0 ≤ v.toInt ∧ v.toInt < n then some (cl v) else none
theorem oix_in {n j : Nat} (hj : j < n) (hn : n ≤ 2147483648) : oix n (nI j) = some j := by
  unfold oix
  rw [nI_toInt (show j < 2 ^ 31 by omega), if_pos ⟨by omega, by omega⟩, cl_nI (by omega)]
theorem oix_neg {n : Nat} {v : Int32} (h : v < 0) : oix n v = none := by
  unfold oix
  rw [if_neg]
  intro q
  have := Int32.lt_iff_toInt_lt.mp h
  have e : (0 : Int32).toInt = 0 := rfl
  omega
theorem oix_big {n : Nat} {v : Int32} (h : nI n ≤ v) (hn : n < 2147483648) : oix n v = none := by
  unfold oix
  rw [if_neg]
  intro q
  have := Int32.le_iff_toInt_le.mp h
  rw [nI_toInt (show n < 2 ^ 31 by omega)] at this
  omega
theorem oix_cases {n : Nat} (hn : n < 2147483648) (v : Int32) : (∃ j, j < n ∧ v = nI j ∧ oix n v = some j) ∨ (oix n v = none ∧ (v < 0 ∨ (¬ v < 0 ∧ nI n ≤ v))) := by
  rcases pk_ix v (n := n) (by omega) with h | h | ⟨j, hj, rfl⟩
  · exact Or.inr ⟨oix_neg h, Or.inl h⟩
  · exact Or.inr ⟨oix_big h hn, Or.inr ⟨big_pos h hn, h⟩⟩
  · exact Or.inl ⟨j, hj, rfl, oix_in hj (by omega)⟩
def byt (w : Int64) (i : Nat) : Nat := w.toBitVec.toNat / 2 ^ (8 * i) % 256
def byts (w : Int64) : Nat → List Nat
  | 0 => []
  | n + 1 => byt w n :: byts w n
theorem byts_len (w : Int64) : ∀ n, (byts w n).length = n
  | 0 => rfl
  | n + 1 => by simp [byts, byts_len w n]
theorem byts_lt (w : Int64) : ∀ n, ∀ c ∈ byts w n, c < 256
  | 0, c, h => by simp [byts] at h
  | n + 1, c, h => by
    rcases List.mem_cons.mp h with e | e
    · rw [e]; exact Nat.mod_lt _ (by omega)
    · exact byts_lt w n c e
def fdG (σ : Sg) (w : Int64) (n : Int32) : Int32 × Sg := match oix 9 n with
  | some (m + 1) => if 600 < (sTp σ).length + (m + 1) then (-4, σ) else (nI ((sTp σ).length + (m + 1)), ((sTp σ ++ byts w (m + 1), sLf σ, sNm σ), σ.2))
  | _ => (-2, σ)
def prw (ws : List (List Nat)) (n : Nat) : List Pr := (List.range n).map (fun i => (ws.getD (2 * i) [], ws.getD (2 * i + 1) []))
def rdG (σ : Sg) : Int32 × Sg := match prun pst0 0 (sTp σ) with
  | .inl (n, p) => (-1000 - nI p, (([], n, sNm σ), σ.2))
  | .inr s => (nI (s.2.2.1.length / 2), (([], sLf σ, s.1), (s.2.1, [], prw s.2.2.1 (s.2.2.1.length / 2)), (0, 0, false, none), (fun _ => [], [])))
def wdG (σ : Sg) (v : Int32) : Int32 × Sg := match oix 8 v with
  | none => (-2, σ)
  | some j => match wrun (sNm σ) [] 0 (sTp σ) with
    | .inl (n, p) => (-1000 - nI p, (([], n, sNm σ), σ.2))
    | .inr w => (nI w.length, (([], sLf σ, sNm σ), σ.2.1, σ.2.2.1, (upd1 (sSl σ) j w, sTd σ)))
def cpl : Nat → List Ru → List Pr → Nat → Nat → Bool → Cst
  | 0, rs, row, t, s, st => (rs, row, t, s, st)
  | n + 1, rs, row, t, s, st => if st = true then (rs, row, t, s, st) else match row with
    | [] => (rs, [], t, s, st)
    | u :: r => cpl n (trt rs u r t s).1 (trt rs u r t s).2.1 (trt rs u r t s).2.2.1 (trt rs u r t s).2.2.2.1 (trt rs u r t s).2.2.2.2
def cpA (R : Cst) : Int32 := if R.2.2.2.2 = true then 2 else if R.2.1.isEmpty = true then 1 else 0
def cpG (σ : Sg) (v : Int32) : Int32 × Sg := match oix 501 v with
  | some (m + 1) => (cpA (cpl (m + 1) (sRs σ) (sRow σ) (sT σ) (sS σ) (sSt σ)), (σ.1, (sK σ, (cpl (m + 1) (sRs σ) (sRow σ) (sT σ) (sS σ) (sSt σ)).1, (cpl (m + 1) (sRs σ) (sRow σ) (sT σ) (sS σ) (sSt σ)).2.1), ((cpl (m + 1) (sRs σ) (sRow σ) (sT σ) (sS σ) (sSt σ)).2.2.1, (cpl (m + 1) (sRs σ) (sRow σ) (sT σ) (sS σ) (sSt σ)).2.2.2.1, (cpl (m + 1) (sRs σ) (sRow σ) (sT σ) (sS σ) (sSt σ)).2.2.2.2, sFo σ), σ.2.2.2))
  | _ => (-2, σ)
def ctG (σ : Sg) (v : Int32) : Int32 := match oix 8 v with
  | some 0 => nI (sK σ)
  | some 1 => nI (sRs σ).length
  | some 2 => nI (liveN (sRs σ))
  | some 3 => nI (sRow σ).length
  | some 4 => nI (sT σ)
  | some 5 => bI (sDn σ)
  | some 6 => bI (sSt σ)
  | some 7 => nI (sS σ)
  | _ => -2
def ruG (σ : Sg) (v w : Int32) : Int32 := match oix (sRs σ).length v with
  | none => -2
  | some i => match oix 3 w with
    | some 0 => bI ((sRs σ).getD i dR).2.2
    | some 1 => nI ((sRs σ).getD i dR).1.length
    | some 2 => nI ((sRs σ).getD i dR).2.1.length
    | _ => -2
def rlG (σ : Sg) (v s i : Int32) : Int32 := match oix (sRs σ).length v with
  | none => -2
  | some r => match oix 2 s with
    | some 0 => atW ((sRs σ).getD r dR).1 i
    | some 1 => atW ((sRs σ).getD r dR).2.1 i
    | _ => -2
def waG (σ : Sg) (v s i : Int32) : Int32 := match oix (sRow σ).length v with
  | none => -2
  | some r => match oix 2 s with
    | some 0 => atW ((sRow σ).getD r dP).1 i
    | some 1 => atW ((sRow σ).getD r dP).2 i
    | _ => -2
def opG (σ : Sg) : Int32 × Sg := (ansI (opn (sRs σ)), (σ.1, σ.2.1, (sT σ, sS σ, sSt σ, fdN (opn (sRs σ)) (sFo σ)), σ.2.2.2))
def ovG (σ : Sg) (v : Int32) : Int32 := match oix 3 v with
  | none => -2
  | some j => match sFo σ with
    | none => -1
    | some q => if j = 0 then nI q.1 else if j = 1 then nI q.2.1 else nI q.2.2
def lnG (σ : Sg) (v : Int32) : Int32 := match oix 8 v with
  | none => -2
  | some j => nI (sSl σ j).length
def ltG (σ : Sg) (v i : Int32) : Int32 := match oix 8 v with
  | none => -2
  | some j => atW (sSl σ j) i
def sSet (σ : Sg) (j : Nat) (w : List Nat) : Sg := (σ.1, σ.2.1, σ.2.2.1, (upd1 (sSl σ) j w, sTd σ))
def jnG (σ : Sg) (v a b : Int32) : Int32 × Sg := match oix 8 v with
  | none => (-2, σ)
  | some j => match oix 8 a with
    | none => (-2, σ)
    | some p => match oix 8 b with
      | none => (-2, σ)
      | some q => if 80 < (sSl σ p).length + (sSl σ q).length then (-4, σ) else (nI ((sSl σ p).length + (sSl σ q).length), sSet σ j (sSl σ p ++ sSl σ q))
def rcG (σ : Sg) (v : Int32) : Int32 × Sg := match oix 8 v with
  | none => (-2, σ)
  | some j => match form (sRs σ) (sSl σ j) with
    | none => (-4, σ)
    | some (w, tr) => (nI tr.length, (σ.1, σ.2.1, σ.2.2.1, (upd1 (sSl σ) j w, tr.take 300)))
def spG (σ : Sg) (i w : Int32) : Int32 := match oix 2 w with
  | none => -2
  | some e => match oix (sTd σ).length i with
    | none => -1
    | some j => if e = 0 then nI ((sTd σ).getD j (0, 0)).1 else nI ((sTd σ).getD j (0, 0)).2
def smG (σ : Sg) (a b : Int32) : Int32 := match oix 8 a with
  | none => -2
  | some p => match oix 8 b with
    | none => -2
    | some q => match form (sRs σ) (sSl σ p) with
      | none => -4
      | some (x, _) => match form (sRs σ) (sSl σ q) with
        | none => -4
        | some (y, _) => if cmpW x y = 0 then 1 else if sDn σ = true then 0 else -1
def cmG (σ : Sg) (a b : Int32) : Int32 := match oix 8 a with
  | none => -2
  | some p => match oix 8 b with
    | none => -2
    | some q => cmpW (sSl σ p) (sSl σ q)
def mnG (σ : Sg) (v : Int32) : Int64 := match oix 81 v with
  | none => -2
  | some m => if sDn σ = true then (if 1000000000000000 < cp (wy (sRs σ) (sK σ) m []) then -4 else lN (cp (wy (sRs σ) (sK σ) m []))) else -3
noncomputable def szG (σ : Sg) : Int64 := if sDn σ = true then totJ (sRs σ) (sK σ) else -3
/-- ELEMENT v, if v is a number -/
noncomputable def eltI (rs : List Ru) (k : Nat) (v : Int32) : Option (Option (List Nat)) := if v < 0 then none else elt rs k (cl v)
noncomputable def elG (σ : Sg) (i v : Int32) : Int32 × Sg := if i < 0 then (-2, σ) else match oix 8 v with
  | none => (-2, σ)
  | some j => if sDn σ = true then (match eltI (sRs σ) (sK σ) i with
      | none => (-2, σ)
      | some none => (-4, σ)
      | some (some w) => (nI w.length, sSet σ j w)) else (-3, σ)
/-- a word's FORM with its number -/
def nbW (rs : List Ru) (k : Nat) (w : List Nat) : Option (Nat × List Nat) := match form rs w with
  | none => none
  | some (f, _) => match nmb rs k f with
    | none => none
    | some n => some (n, f)
def nbI : Option (Nat × List Nat) → Int32
  | none => -4
  | some q => nI q.1
def nuG (σ : Sg) (v : Int32) : Int32 := match oix 8 v with
  | none => -2
  | some j => if sDn σ = true then nbI (nbW (sRs σ) (sK σ) (sSl σ j)) else -3
def mulW (rs : List Ru) (k : Nat) (a b : List Nat) : Option (Nat × List Nat) := if 80 < a.length + b.length then none else nbW rs k (a ++ b)
noncomputable def pdG (σ : Sg) (i j : Int32) : Int32 := if sDn σ = true then (match eltI (sRs σ) (sK σ) i, eltI (sRs σ) (sK σ) j with
  | none, _ => -2
  | some _, none => -2
  | some none, some _ => -4
  | some (some _), some none => -4
  | some (some a), some (some b) => nbI (mulW (sRs σ) (sK σ) a b)) else -3
/-- powers: none: FULL; some none: none comes again -/
def pwS (rs : List Ru) (k : Nat) (b : List Nat) : Nat → List Nat → List Nat → Option (Option (Nat × Nat))
  | 0, _, _ => some none
  | m + 1, ps, a => match mulW rs k a b with
    | none => none
    | some (n, f) => match ps.findIdx? (fun q => q == n) with
      | some e => some (some (e, ps.length - e))
      | none => pwS rs k b m (ps ++ [n]) f
noncomputable def poG (σ : Sg) (i w : Int32) : Int32 := if sDn σ = true then (match eltI (sRs σ) (sK σ) i with
  | none => -2
  | some o => match oix 2 w with
    | none => -2
    | some e => match o with
      | none => -4
      | some b => match pwS (sRs σ) (sK σ) b 200 [0] [] with
        | none => -4
        | some none => -1
        | some (some q) => if e = 0 then nI q.1 else nI q.2) else -3
noncomputable def ivS (rs : List Ru) (k : Nat) (a : List Nat) : Nat → Nat → Int32
  | 0, _ => -1
  | m + 1, j => match elt rs k j with
    | none => -1
    | some none => -4
    | some (some b) => match mulW rs k a b with
      | none => -4
      | some (n, _) => if n = 0 then (match mulW rs k b a with
          | none => -4
          | some (n, _) => if n = 0 then nI j else ivS rs k a m (j + 1))
        else ivS rs k a m (j + 1)
noncomputable def ivG (σ : Sg) (i : Int32) : Int32 := if sDn σ = true then (match eltI (sRs σ) (sK σ) i with
  | none => -2
  | some none => -4
  | some (some a) => ivS (sRs σ) (sK σ) a 400 0) else -3
/-- whether two letters have one FORM both ways -/
def cm2 (rs : List Ru) (a b : Nat) : Bool := match form rs [a, b], form rs [b, a] with
  | some (x, _), some (y, _) => decide (cmpW x y = 0)
  | _, _ => false
def cmB (rs : List Ru) (a : Nat) : Nat → Nat → Bool
  | 0, _ => true
  | m + 1, b => if cm2 rs a b = true then cmB rs a m (b + 1) else false
def cmA (rs : List Ru) (k : Nat) : Nat → Nat → Bool
  | 0, _ => true
  | m + 1, a => if cmB rs a (k - (a + 1)) (a + 1) = true then cmA rs k m (a + 1) else false
def coG (σ : Sg) : Int32 := if sDn σ = true then bI (cmA (sRs σ) (sK σ) (sK σ) 0) else -3
