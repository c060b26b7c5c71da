/-! THE PURE MACHINE: a state is what the numbers in all cells are; a row of instructions is run over it -/
/-- fields by cell and slot; rows by cell and place; the one long field; the law's long row -/
abbrev St : Type := (Nat → Nat → Int32) × (Nat → Nat → Int32) × Int64 × Int64
abbrev Out : Type := Option Value ⊕ String
abbrev Cfg : Type := List Value × List Value × St × Prop
def setI (S : St) (j k : Nat) (v : Int32) : St := (fun a b => if a = j ∧ b = k then v else S.1 a b, S.2)
def setA (S : St) (j i : Nat) (v : Int32) : St := (S.1, fun a b => if a = j ∧ b = i then v else S.2.1 a b, S.2.2)
def setC (S : St) (j0 j1 sp dp n : Nat) : St := (S.1, fun a b => if a = j1 then va_cpy (S.2.1 j0) (S.2.1 j1) sp dp n b else S.2.1 a b, S.2.2)
def setL (S : St) (v : Int64) : St := (S.1, S.2.1, v, S.2.2.2)
def setO (S : St) (v : Int64) : St := (S.1, S.2.1, S.2.2.1, v)
def fkd (j k : Nat) : Nat := (fks.getD j []).getD k 0
def fvi (S : St) (j k : Nat) : Value := match fkd j k with
  | 0 => .int (S.1 j k)
  | 1 => .long S.2.2.1
  | r + 2 => .ref r
def isO (j ci : Nat) : Bool := match shp.getD j (.inr (9, 0)) with
  | .inl c => Nat.beq c ci
  | .inr _ => false
def isA (j ty : Nat) : Option Nat := match shp.getD j (.inr (9, 0)) with
  | .inl _ => none
  | .inr q => match Nat.beq q.1 ty with
    | true => some q.2
    | false => none
abbrev OpF : Type := Nat → Nat → Nat → Nat → Int32 → List Value → List Value → St → Prop → Option Cfg
def x_const : OpF := fun _ _ _ _ c ls st S P => some (ls, .int c :: st, S, P)
def x_str : OpF := fun _ b _ _ _ ls st S P => some (ls, .ref (2000 + b) :: st, S, P)
def x_lconst : OpF := fun _ _ _ _ c ls st S P => some (ls, .long c.toInt64 :: st, S, P)
def x_iload : OpF := fun a _ _ _ _ ls st S P => match ls[a]? with
  | some (.int x) => some (ls, .int x :: st, S, P)
  | _ => none
def x_aload : OpF := fun a _ _ _ _ ls st S P => match ls[a]? with
  | some (.ref x) => some (ls, .ref x :: st, S, P)
  | _ => none
def stl (ls : List Value) (a : Nat) (v : Value) : Option (List Value) := match Nat.blt a ls.length with
  | true => some (ls.set a v)
  | false => match Nat.beq a ls.length with
    | true => some (ls ++ [v])
    | false => none
def x_istore : OpF := fun a _ _ _ _ ls st S P => match st with
  | .int x :: r => (match stl ls a (.int x) with
    | some l => some (l, r, S, P)
    | none => none)
  | _ => none
def x_iinc : OpF := fun a _ _ _ c ls st S P => match ls[a]? with
  | some (.int x) => (match stl ls a (.int (x + c)) with
    | some l => some (l, st, S, P)
    | none => none)
  | _ => none
def binF (a : Nat) (x y : Int32) : Int32 := match a with
  | 0 => x + y
  | 1 => x - y
  | 2 => x * y
  | 3 => x &&& y
  | 4 => x ||| y
  | 5 => x ^^^ y
  | 6 => x <<< (y &&& 31)
  | 7 => x >>> (y &&& 31)
  | _ => (x.toUInt32 >>> (y.toUInt32 &&& Int32.toUInt32 31)).toInt32
def x_bin : OpF := fun a _ _ _ _ ls st S P => match st with
  | .int y :: .int x :: r => some (ls, .int (binF a x y) :: r, S, P)
  | _ => none
def x_div : OpF := fun a _ _ _ _ ls st S P => match st with
  | .int y :: .int x :: r => (match a with
    | 0 => some (ls, .int (x / y) :: r, S, ¬ y = 0 ∧ P)
    | _ => some (ls, .int (x - x / y * y) :: r, S, ¬ y = 0 ∧ P))
  | _ => none
def x_ineg : OpF := fun _ _ _ _ _ ls st S P => match st with
  | .int x :: r => some (ls, .int (-x) :: r, S, P)
  | _ => none
def x_i2l : OpF := fun _ _ _ _ _ ls st S P => match st with
  | .int x :: r => some (ls, .long x.toInt64 :: r, S, P)
  | _ => none
def x_i2b : OpF := fun _ _ _ _ _ ls st S P => match st with
  | .int x :: r => some (ls, .int x.toInt8.toInt32 :: r, S, P)
  | _ => none
def x_lcmp : OpF := fun _ _ _ _ _ ls st S P => match st with
  | .long y :: .long x :: r => some (ls, .int (lg_cmp x y) :: r, S, P)
  | _ => none
def x_ladd : OpF := fun a _ _ _ _ ls st S P => match st with
  | .long y :: .long x :: r => (match a with
    | 0 => some (ls, .long (x + y) :: r, S, P)
    | _ => some (ls, .long (x - y) :: r, S, P))
  | _ => none
def c1 (v : Value) : Bool := match v with
  | .int _ => true
  | .ref _ => true
  | _ => false
def x_dup : OpF := fun _ _ _ _ _ ls st S P => match st with
  | v :: r => (match c1 v with
    | true => some (ls, v :: v :: r, S, P)
    | false => none)
  | _ => none
def x_dup2 : OpF := fun _ _ _ _ _ ls st S P => match st with
  | v :: u :: r => (match c1 v, c1 u with
    | true, true => some (ls, v :: u :: v :: u :: r, S, P)
    | _, _ => none)
  | _ => none
def x_pop : OpF := fun _ _ _ _ _ ls st S P => match st with
  | v :: r => (match c1 v with
    | true => some (ls, r, S, P)
    | false => none)
  | _ => none
def x_get : OpF := fun a b _ _ _ ls st S P => match st with
  | .ref j :: r => (match isO j a with
    | true => some (ls, fvi S j b :: r, S, P)
    | false => none)
  | _ => none
def x_put : OpF := fun a b _ _ _ ls st S P => match st with
  | .int x :: .ref j :: r => (match isO j a with
    | true => some (ls, r, setI S j b x, P)
    | false => none)
  | _ => none
def x_putZ : OpF := fun a b _ _ _ ls st S P => match st with
  | .int x :: .ref j :: r => (match isO j a with
    | true => some (ls, r, setI S j b x, (x = 0 ∨ x = 1) ∧ P)
    | false => none)
  | _ => none
def x_putL : OpF := fun a _ _ _ _ ls st S P => match st with
  | .long x :: .ref j :: r => (match isO j a with
    | true => some (ls, r, setL S x, P)
    | false => none)
  | _ => none
def x_iald : OpF := fun _ _ _ _ _ ls st S P => match st with
  | .int i :: .ref j :: r => (match isA j 0 with
    | some n => some (ls, .int (S.2.1 j i.toNatClampNeg) :: r, S, vp_in i n ∧ P)
    | none => none)
  | _ => none
def x_bald : OpF := fun _ _ _ _ _ ls st S P => match st with
  | .int i :: .ref j :: r => (match isA j 1 with
    | some n => some (ls, .int (S.2.1 j i.toNatClampNeg) :: r, S, vp_in i n ∧ P)
    | none => none)
  | _ => none
def x_lald : OpF := fun _ _ _ _ _ ls st S P => match st with
  | .int i :: .ref j :: r => (match isA j 2 with
    | some n => some (ls, .long S.2.2.2 :: r, S, vp_in i n ∧ P)
    | none => none)
  | _ => none
def x_iast : OpF := fun _ _ _ _ _ ls st S P => match st with
  | .int x :: .int i :: .ref j :: r => (match isA j 0 with
    | some n => some (ls, r, setA S j i.toNatClampNeg x, vp_in i n ∧ P)
    | none => none)
  | _ => none
def x_bast : OpF := fun _ _ _ _ _ ls st S P => match st with
  | .int x :: .int i :: .ref j :: r => (match isA j 1 with
    | some n => some (ls, r, setA S j i.toNatClampNeg x.toInt8.toInt32, vp_in i n ∧ P)
    | none => none)
  | _ => none
def x_last : OpF := fun _ _ _ _ _ ls st S P => match st with
  | .long x :: .int i :: .ref j :: r => (match isA j 2 with
    | some n => some (ls, r, setO S x, vp_in i n ∧ P)
    | none => none)
  | _ => none
def alenN (j : Nat) : Option Nat := match isA j 0 with
  | some n => some n
  | none => isA j 1
/-- what stands below on the stack is little -/
def few {α : Type} (r : List Value) (x : Option α) : Option α := match Nat.ble r.length 20 with
  | true => x
  | false => none
def x_alen : OpF := fun _ _ _ _ _ ls st S P => match st with
  | .ref j :: r => (match alenN j with
    | some n => some (ls, .int (Int32.ofNat n) :: r, S, P)
    | none => none)
  | _ => none
def x_abs : OpF := fun _ _ _ _ _ ls st S P => match st with
  | .int x :: r => few r (some (ls, .int (if 0 ≤ x then x else 0 - x) :: r, S, P))
  | _ => none
def x_min : OpF := fun _ _ _ _ _ ls st S P => match st with
  | .int y :: .int x :: r => few r (some (ls, .int (if y < x then y else x) :: r, S, P))
  | _ => none
def x_max : OpF := fun _ _ _ _ _ ls st S P => match st with
  | .int y :: .int x :: r => few r (some (ls, .int (if x < y then y else x) :: r, S, P))
  | _ => none
def sLen (q : Nat) : Nat := (sByt.getD (q - 2000) []).length
def sCh (q k : Nat) : Int32 := (sByt.getD (q - 2000) []).getD k 0
def x_slen : OpF := fun _ _ _ _ _ ls st S P => match st with
  | .ref q :: r => few (r ++ r ++ r ++ r ++ r) (some (ls, .int (Int32.ofNat (sLen q)) :: r, S, (2000 ≤ q ∧ q < 2053) ∧ P))
  | _ => none
def x_schar : OpF := fun _ _ _ _ _ ls st S P => match st with
  | .int i :: .ref q :: r => few (r ++ r ++ r ++ r ++ r) (some (ls, .int (sCh q i.toNatClampNeg) :: r, S, (2000 ≤ q ∧ q < 2053) ∧ vp_in i (sLen q) ∧ P))
  | _ => none
def x_copy : OpF := fun _ _ _ _ _ ls st S P => match st with
  | .int n :: .int dp :: .ref j1 :: .int sp :: .ref j0 :: r => (match isA j0 0, isA j1 0 with
    | some n0, some n1 => few r (some (ls, r, setC S j0 j1 sp.toNatClampNeg dp.toNatClampNeg n.toNatClampNeg, (¬ sp < 0 ∧ ¬ dp < 0 ∧ ¬ n < 0 ∧ sp.toNatClampNeg + n.toNatClampNeg ≤ n0 ∧ dp.toNatClampNeg + n.toNatClampNeg ≤ n1) ∧ P))
    | _, _ => none)
  | _ => none
/-- the script: cell 3000; its length stands as field 0 of it -/
def x_sld : OpF := fun _ _ _ _ _ ls st S P => match st with
  | .int i :: .ref 3000 :: r => some (ls, .int (S.2.1 3000 i.toNatClampNeg) :: r, S, vp_in i (S.1 3000 0).toNatClampNeg ∧ P)
  | _ => none
def x_slenS : OpF := fun _ _ _ _ _ ls st S P => match st with
  | .ref 3000 :: r => some (ls, .int (S.1 3000 0) :: r, S, P)
  | _ => none
def xs : List OpF := [x_const, x_str, x_lconst, x_iload, x_aload, x_istore, x_iinc, x_bin, x_div, x_ineg, x_i2l, x_i2b, x_lcmp, x_ladd, x_dup, x_dup2, x_pop, x_get, x_put, x_putZ, x_putL, x_iald, x_bald, x_lald, x_iast, x_bast, x_last, x_alen, x_abs, x_min, x_max, x_slen, x_schar, x_copy, x_sld, x_slenS]
def x_none : OpF := fun _ _ _ _ _ _ _ _ _ => none
def exec1 (o : Opn) (ls st : List Value) (S : St) (P : Prop) : Option Cfg := (xs.getD o.1 x_none) o.2.1 o.2.2.1 o.2.2.2.1 o.2.2.2.2.1 o.2.2.2.2.2 ls st S P
def look : List Row → Nat → Option (Nat × Opn)
  | [], _ => none
  | r :: t, pc => match Nat.beq r.1 pc with
    | true => some r.2
    | false => look t pc
def cutL (k : Nat) (ls : List Value) : List Value := match k with
  | 0 => ls
  | k + 1 => ls.take k
def cnd (k : Nat) (x y : Int32) : Prop := match k with
  | 0 => x = y
  | 1 => ¬ x = y
  | 2 => x < y
  | 3 => y ≤ x
  | 4 => y < x
  | _ => x ≤ y
def swT (a : Nat) (x : Int32) : Nat := match sws[a]? with
  | none => 0
  | some q => if x.toInt < q.1 ∨ q.1 + q.2.1.length ≤ x.toInt then q.2.2 else q.2.1.getD (x.toInt - q.1).toNat 0
def exN (a : Nat) : String := match a with
  | 0 => "java/lang/IllegalArgumentException"
  | _ => "java/util/NoSuchElementException"
def mcls : List Nat := [99, 0, 0, 0, 1, 1, 1, 1, 1, 1, 1, 1, 1, 1, 1, 1, 1, 1, 1, 2, 2, 2, 2, 2, 2, 2, 2, 3, 3, 3, 3, 3, 3, 3, 3, 3, 3, 4, 4, 4, 4, 4, 4, 4, 4, 4, 4, 4, 4, 5, 5, 5, 5, 5, 5, 5, 5, 5, 6, 6, 6, 6, 7, 7, 7, 7, 7, 7, 7, 8, 8, 8, 8, 8, 8, 8, 8, 8, 8, 8, 8, 8, 9, 9, 9, 9, 9, 9, 9, 9, 9, 10, 10, 10, 10, 10, 10, 10, 10, 10, 11, 11, 11, 11, 11, 11, 11, 11, 11, 11, 11, 11, 11, 11, 11, 11, 11, 11, 11, 11, 11, 11, 11, 11, 11, 11, 11, 11, 11, 11, 11, 11, 11, 11, 11, 11, 11, 11, 11, 11, 11, 11, 11, 11, 11, 11, 11, 11, 11, 11, 11, 12, 12, 12, 12, 12, 12, 12, 12, 12, 12, 12, 12, 12, 12, 12, 12, 12, 12, 12, 12, 12, 12, 12, 12, 12, 12, 12, 12, 12, 12, 12, 12, 12, 12, 12, 12, 12, 12, 12, 12, 12, 12, 12, 12, 12, 12, 12, 12, 12, 12, 12, 12, 12, 12, 12, 12, 12, 12, 12, 12, 12, 12, 12, 12, 12, 12, 12, 12, 12, 12, 12, 12, 12, 12, 12, 12, 12, 12, 12, 12, 12, 12, 12, 12, 12, 12, 12, 12, 12, 12, 12, 12, 12, 12, 12, 12, 12, 12, 12, 12, 12, 12, 12, 12, 12, 12, 12, 12, 12, 12, 12, 12, 12, 99, 99, 99, 99, 99, 99, 99, 99, 99, 99, 99, 99, 99, 99, 99, 99, 99, 99, 99, 99, 99, 99, 99, 99, 99]
/-- whom a method is called on -/
def rcv (M : Nat) (As : List Value) : Bool := match mn M 2 with
  | 0 => (match As with
    | .ref j :: _ => isO j (mcls.getD M 99)
    | _ => false)
  | _ => true
/-- one instruction, and how it goes on (E) -/
def StepR (E : Nat → Nat → Nat → Nat → List Value → List Value → St → Out → St → Prop) (d b M pc : Nat) (ls st : List Value) (S : St) (o : Opn) (out : Out) (S' : St) : Prop :=
  (o.1 < 50 ∧ ∃ ls' st' S1 P, exec1 o ls st S True = some (ls', st', S1, P) ∧ P ∧ E d b M (pc + lenOf o) ls' st' S1 out S') ∨
  (o.1 = 50 ∧ E d b M o.2.1 ls st S out S') ∨
  (o.1 = 51 ∧ ∃ x r, st = .int x :: r ∧ (cnd o.2.2.1 x 0 → E d b M o.2.1 ls r S out S') ∧ (¬ cnd o.2.2.1 x 0 → E d b M (pc + 3) ls r S out S')) ∨
  (o.1 = 52 ∧ ∃ x y r, st = .int y :: .int x :: r ∧ (cnd o.2.2.1 x y → E d b M o.2.1 ls r S out S') ∧ (¬ cnd o.2.2.1 x y → E d b M (pc + 3) ls r S out S')) ∨
  (o.1 = 53 ∧ ∃ x r, st = .int x :: r ∧ E d b M (swT o.2.1 x) ls r S out S') ∨
  (o.1 = 54 ∧ ∃ x, st = [.int x] ∧ (o.2.1 = 1 → x = 0 ∨ x = 1) ∧ out = .inl (some (.int x)) ∧ S' = S) ∨
  (o.1 = 55 ∧ st = [] ∧ out = .inl none ∧ S' = S) ∨
  (o.1 = 56 ∧ 1 ≤ b ∧ st.length ≤ 4 ∧ out = .inr (exN o.2.1) ∧ S' = S) ∨
  (57 ≤ o.1 ∧ o.1 ≤ 61 ∧ ∃ As r d' o1 S1, st = As.reverse ++ r ∧ As.length = o.2.2.1 ∧ (∀ v ∈ As, c1 v = true) ∧ rcv o.2.1 As = true ∧ r.length ≤ 4 ∧ d = d' + 1 ∧ cst o.2.1 ≤ b ∧ E d' (cst o.2.1) o.2.1 0 As [] S o1 S1 ∧
    ((∃ v, o1 = .inl v ∧ E d (b - cst o.2.1) M (pc + 3) ls (v.toList ++ r) S1 out S') ∨
     (∃ X, o1 = .inr X ∧ hdl M = [] ∧ (o.1 = 57 ∨ o.1 = 58) ∧ out = .inr X ∧ S' = S1) ∨
     (∃ k t sl ln, o1 = .inr (exN k) ∧ (k, t, sl, ln) ∈ hdl M ∧ o.1 = 57 ∧ E d (b - cst o.2.1) M (t + ln) (ls.take sl) [] S1 out S')))
def EvN : Nat → Nat → Nat → Nat → Nat → List Value → List Value → St → Out → St → Prop
  | 0, _, _, _, _, _, _, _, _, _ => False
  | n + 1, d, b, M, pc, ls, st, S, out, S' => ∃ ct o, look (tab M) pc = some (ct, o) ∧ StepR (EvN n) d b M pc (cutL ct ls) st S o out S'
/-- from pc of method M, with d calls to go down and b cells to make, it comes to out -/
def Ev (d b M pc : Nat) (ls st : List Value) (S : St) (out : Out) (S' : St) : Prop := ∃ n, EvN n d b M pc ls st S out S'
