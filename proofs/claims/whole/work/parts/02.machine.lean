/-! A small machine of our own over the kit's instructions: what a method does, cell by cell. -/
abbrev Tg : Type := Nat ⊕ (Nat × Nat)
/-- shapes; whole numbers, long ones, references by cell and place; how many cells; how many places were made -/
abbrev Mm : Type := (Nat → Option Tg) × (Nat → Nat → Int32) × (Nat → Nat → Int64) × (Nat → Nat → Option Nat) × Nat × Nat
def sh (M : Mm) (a : Nat) : Option Tg := M.1 a
def gI (M : Mm) (a j : Nat) : Int32 := M.2.1 a j
def gJ (M : Mm) (a j : Nat) : Int64 := M.2.2.1 a j
def gR (M : Mm) (a j : Nat) : Option Nat := M.2.2.2.1 a j
def nxt (M : Mm) : Nat := M.2.2.2.2.1
def slo (M : Mm) : Nat := M.2.2.2.2.2
def wI (M : Mm) (F : Nat → Nat → Int32) : Mm := (M.1, F, M.2.2)
def wJ (M : Mm) (F : Nat → Nat → Int64) : Mm := (M.1, M.2.1, F, M.2.2.2)
def wR (M : Mm) (F : Nat → Nat → Option Nat) : Mm := (M.1, M.2.1, M.2.2.1, F, M.2.2.2.2)
def up2 {α : Type} (F : Nat → Nat → α) (a j : Nat) (x : α) : Nat → Nat → α := fun b k => if b = a ∧ k = j then x else F b k
def sI (M : Mm) (a j : Nat) (x : Int32) : Mm := wI M (up2 M.2.1 a j x)
def sJ (M : Mm) (a j : Nat) (x : Int64) : Mm := wJ M (up2 M.2.2.1 a j x)
def sR (M : Mm) (a j : Nat) (x : Option Nat) : Mm := wR M (up2 M.2.2.2.1 a j x)
def nw (M : Mm) (t : Tg) (n : Nat) : Mm := (fun q => if q = nxt M then some t else M.1 q, fun b k => if b = nxt M then 0 else M.2.1 b k, fun b k => if b = nxt M then 0 else M.2.2.1 b k, fun b k => if b = nxt M then none else M.2.2.2.1 b k, nxt M + 1, slo M + n)
def cpI (M : Mm) (a b sp dp n : Nat) : Mm := wI M (fun q k => if q = b ∧ dp ≤ k ∧ k < dp + n then M.2.1 a (sp + (k - dp)) else M.2.1 q k)
/-- a method: its name, code, how many places, answer, class number, rank, places that its calls want, how many parameters -/
abbrev Fn : Type := MethodName × ByteArray × Nat × Option FieldType × Nat × Nat × Nat × Nat
abbrev fnY (f : Fn) : MethodName := f.1
abbrev fnB (f : Fn) : ByteArray := f.2.1
abbrev fnL (f : Fn) : Nat := f.2.2.1
abbrev fnR (f : Fn) : Option FieldType := f.2.2.2.1
abbrev fnC (f : Fn) : Nat := f.2.2.2.2.1
abbrev fnK (f : Fn) : Nat := f.2.2.2.2.2.1
abbrev fnS (f : Fn) : Nat := f.2.2.2.2.2.2.1
abbrev fnP (f : Fn) : Nat := f.2.2.2.2.2.2.2
abbrev Out : Type := (Nat × List Value × List Value × Mm) ⊕ (Option Value ⊕ (Fn × List Value × List Value))
abbrev jk : Value := .retAddr 0
def clr : Value → Value
  | .long _ => jk
  | .double _ => jk
  | v => v
/-- place i is written with a value of one place -/
def ls1 (L : List Value) (i : Nat) (v : Value) : List Value := match i with
  | 0 => L.set 0 v
  | j + 1 => (L.modify j clr).set (j + 1) v
def ls2 (L : List Value) (i : Nat) (v : Value) : List Value := (ls1 L i v).set (i + 1) jk
def nx (pc : Nat) (L st : List Value) (M : Mm) : Option Out := some (.inl (pc, L, st, M))
def tg (pc : Nat) (off : Int) (k : Nat → Option Out) : Option Out := match (pc : Int) + off with
  | .ofNat n => k n
  | .negSucc _ => none
def s1i (st : List Value) (k : Int32 → List Value → Option Out) : Option Out := match st with
  | .int x :: r => k x r
  | _ => none
def s2i (st : List Value) (k : Int32 → Int32 → List Value → Option Out) : Option Out := match st with
  | .int y :: .int x :: r => k x y r
  | _ => none
def s1l (st : List Value) (k : Int64 → List Value → Option Out) : Option Out := match st with
  | .long x :: r => k x r
  | _ => none
def s2l (st : List Value) (k : Int64 → Int64 → List Value → Option Out) : Option Out := match st with
  | .long y :: .long x :: r => k x y r
  | _ => none
def sli (st : List Value) (k : Int64 → Int32 → List Value → Option Out) : Option Out := match st with
  | .int y :: .long x :: r => k x y r
  | _ => none
def s1r (st : List Value) (k : Nat → List Value → Option Out) : Option Out := match st with
  | .ref a :: r => k a r
  | _ => none
def sri (st : List Value) (k : Nat → Int32 → List Value → Option Out) : Option Out := match st with
  | .int j :: .ref a :: r => k a j r
  | _ => none
def srii (st : List Value) (k : Nat → Int32 → Int32 → List Value → Option Out) : Option Out := match st with
  | .int x :: .int j :: .ref a :: r => k a j x r
  | _ => none
def sril (st : List Value) (k : Nat → Int32 → Int64 → List Value → Option Out) : Option Out := match st with
  | .long x :: .int j :: .ref a :: r => k a j x r
  | _ => none
/-- a value of one place -/
def c1 : Value → Bool
  | .long _ => false
  | .double _ => false
  | _ => true
def lk {β : Type} (t : List ((Nat × Nat) × β)) (c i : Nat) : Option β := match t with
  | [] => none
  | q :: r => if q.1.1 = c ∧ q.1.2 = i then some q.2 else lk r c i
def cmpi (c : Jvm.ClassFile.Cond) (x y : Int32) : Bool := match c with
  | .eq => decide (x = y)
  | .ne => !decide (x = y)
  | .lt => decide (x < y)
  | .ge => decide (y ≤ x)
  | .gt => decide (y < x)
  | .le => decide (x ≤ y)
/-- is the index inside -/
def inb (j : Int32) (n : Nat) : Bool := !decide (j < 0) && decide (j.toNatClampNeg < n)
def ar (M : Mm) (a : Nat) (k : Nat → Nat → Option Out) : Option Out := match sh M a with
  | some (.inr (kd, n)) => k kd n
  | _ => none
def ob (M : Mm) (a : Nat) (k : Nat → Option Out) : Option Out := match sh M a with
  | some (.inl ci) => k ci
  | _ => none
def gd (c : Bool) (k : Option Out) : Option Out := if c then k else none
def isR : Value → Bool
  | .ref _ => true
  | .null => true
  | _ => false
def expd : List Value → List Value
  | [] => []
  | .long x :: vs => .long x :: jk :: expd vs
  | .double x :: vs => .double x :: jk :: expd vs
  | v :: vs => v :: expd vs
def ent (n : Nat) (as : List Value) : List Value := expd as ++ List.replicate (n - (expd as).length) jk
def tk : FieldType → Nat
  | .long => 1
  | .object _ => 2
  | .array _ => 2
  | .float => 3
  | .double => 3
  | _ => 0
def ldI (L : List Value) (i : Nat) (k : Int32 → Option Out) : Option Out := match L[i]? with
  | some (.int x) => k x
  | _ => none
def ldJ (L : List Value) (i : Nat) (k : Int64 → Option Out) : Option Out := match L[i]? with
  | some (.long x) => k x
  | _ => none
def ldA (L : List Value) (i : Nat) (k : Value → Option Out) : Option Out := match L[i]? with
  | some (.ref x) => k (.ref x)
  | some .null => k .null
  | _ => none
def st1 (st : List Value) (k : Value → List Value → Option Out) : Option Out := match st with
  | v :: r => gd (c1 v) (k v r)
  | _ => none
def stR (st : List Value) (k : Value → List Value → Option Out) : Option Out := match st with
  | v :: r => gd (isR v) (k v r)
  | _ => none
/-- a call is made of its callee, the arguments and what stays -/
def mk (f g : Fn) (as rest : List Value) : Option Out :=
  gd (decide (fnK g < fnK f) && decide (rest.length ≤ 4) && decide ((expd as).length ≤ fnL g) && decide (19 + fnL g + fnS g ≤ fnS f)) (some (.inr (.inr (g, as, rest))))
