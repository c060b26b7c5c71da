/-! CONSTRUCTORS: a second pure machine, whose cells are made one behind another from the heap's end on -/
abbrev CE : Type := (Nat × List Value) ⊕ (Nat × Nat)
def cz (c : CE) : Nat := match c with
  | .inl q => q.2.length
  | .inr q => q.2
def czs (cs : List CE) : Nat := (cs.map cz).sum
def entC (ad : Nat → Nat) (dA : Nat → ClassId) (c : CE) : va_E := match c with
  | .inl q => .inr (q.1, q.2.map (cv ad))
  | .inr (0, n) => .inl (dA 0, (n, .inl (fun _ => 0)))
  | .inr (1, n) => .inl (dA 1, (n, .inl (fun _ => 0)))
  | .inr (_, n) => .inl (dA 2, (n, .inr (.inl (fun _ => 0))))
def wsC (sz : Nat) (ad : Nat → Nat) (dA : Nat → ClassId) (cs : List CE) : va_W := cs.mapIdx (fun j c => (sz + j, entC ad dA c))
theorem wsC_at (sz : Nat) (ad : Nat → Nat) (dA : Nat → ClassId) {cs : List CE} {j : Nat} {c : CE} (h : cs[j]? = some c) : (wsC sz ad dA cs)[j]? = some (sz + j, entC ad dA c) := by
  unfold wsC
  rw [List.getElem?_mapIdx, h]; rfl
theorem wsC_inv {sz : Nat} {ad : Nat → Nat} {dA : Nat → ClassId} {cs : List CE} {j : Nat} {q : Nat × va_E} (h : (wsC sz ad dA cs)[j]? = some q) : q.1 = sz + j ∧ j < cs.length := by
  unfold wsC at h
  rw [List.getElem?_mapIdx] at h
  cases e : cs[j]? with
  | none => rw [e] at h; cases h
  | some c =>
    rw [e] at h
    cases h
    exact ⟨rfl, (List.getElem?_eq_some_iff.mp e).1⟩
theorem wsC_app (sz : Nat) (ad : Nat → Nat) (dA : Nat → ClassId) (cs : List CE) (c : CE) : wsC sz ad dA (cs ++ [c]) = wsC sz ad dA cs ++ [(sz + cs.length, entC ad dA c)] := by
  unfold wsC
  rw [List.mapIdx_concat]
theorem wsC_set (sz : Nat) (ad : Nat → Nat) (dA : Nat → ClassId) (cs : List CE) (j : Nat) (c : CE) : (wsC sz ad dA cs).set j (sz + j, entC ad dA c) = wsC sz ad dA (cs.set j c) := by
  apply List.ext_getElem?
  intro i
  unfold wsC
  by_cases hi : i = j
  · subst hi
    by_cases hl : i < cs.length
    · rw [List.getElem?_set_self (by simpa using hl), List.getElem?_mapIdx, List.getElem?_set_self hl]; rfl
    · rw [List.getElem?_eq_none (by simp; omega), List.getElem?_eq_none (by simp; omega)]
  · rw [List.getElem?_set_ne (fun e => hi e.symm), List.getElem?_mapIdx, List.getElem?_mapIdx, List.getElem?_set_ne (fun e => hi e.symm)]
theorem wsC_D (sz : Nat) (ad : Nat → Nat) (dA : Nat → ClassId) (cs : List CE) : va_D (fun q => sz ≤ q) (wsC sz ad dA cs) := by
  refine ⟨fun i j p q h1 h2 he => ?_, fun k q hq => ?_⟩
  · have a1 := wsC_inv h1
    have a2 := wsC_inv h2
    omega
  · have a1 := wsC_inv hq
    show sz ≤ q.1
    omega
def dv (t : FieldType) : Value := match t with
  | .int => .int 0
  | .boolean => .int 0
  | .long => .long 0
  | _ => .null
def dflt (ci : Nat) : List Value := (List.range (nF ci)).map (fun k => dv (tyG ci k))
theorem dv_ok : ∀ c, c < 13 → ∀ k, k < nF c → defaultValue (tyG c k) = dv (tyG c k) := by decide +kernel
def cmd (M : Nat) : MD := cmds.getD M mdO
def cname (M : Nat) : MethodName := (cmd M).1
def ccode (M : Nat) : ByteArray := (cmd M).2.1
def cmax (M : Nat) : Nat := (cmd M).2.2.1
def cret (M : Nat) : Option FieldType := (cmd M).2.2.2.1
def cn (M k : Nat) : Nat := (cmd M).2.2.2.2.getD k 0
def cown (M : Nat) : String := (cname M).cls
def ctab (M : Nat) : List (Nat × Opn) := ctabs.getD M []
def clook : List (Nat × Opn) → Nat → Option Opn
  | [], _ => none
  | r :: t, pc => match Nat.beq r.1 pc with
    | true => some r.2
    | false => clook t pc
def clen (o : Opn) : Nat := match o.1 with
  | 0 => lens.getD o.2.1 0
  | 4 => 1
  | 14 => 1
  | 71 => 2
  | 76 => 1
  | 55 => 1
  | _ => 3
def ctyp (v : Value) : Bool := match v with
  | .int _ => true
  | .ref _ => true
  | _ => false
def tyFit (v : Value) (t : FieldType) : Bool := match v, t with
  | .int _, .int => true
  | .int x, .boolean => x == 0 || x == 1
  | .ref _, .object _ => true
  | .ref _, .array _ => true
  | _, _ => false
def cstep (o : Opn) (ls st : List Value) (cs : List CE) : Option (List Value × List Value × List CE) := match o.1, st with
  | 0, st => some (ls, .int o.2.2.2.2.2 :: st, cs)
  | 4, st => (match ls[o.2.1]? with
    | some (.ref x) => some (ls, .ref x :: st, cs)
    | _ => none)
  | 14, v :: r => (match c1 v with
    | true => some (ls, v :: v :: r, cs)
    | false => none)
  | 17, .ref j :: r => (match cs[j]? with
    | some (.inl q) => (match Nat.beq q.1 o.2.1, q.2[o.2.2.1]? with
      | true, some (.ref x) => some (ls, .ref x :: r, cs)
      | _, _ => none)
    | _ => none)
  | 72, v :: .ref j :: r => (match cs[j]? with
    | some (.inl q) => (match Nat.beq q.1 o.2.1 && Nat.blt o.2.2.1 q.2.length && ctyp v && Nat.beq q.2.length (nF o.2.1) && tyFit v (tyG o.2.1 o.2.2.1) with
      | true => some (ls, r, cs.set j (.inl (q.1, q.2.set o.2.2.1 v)))
      | false => none)
    | _ => none)
  | 70, st => some (ls, .ref cs.length :: st, cs ++ [.inl (o.2.1, dflt o.2.1)])
  | 71, .int n :: r => (match decide (n < 0) || !(Nat.blt n.toNatClampNeg 3000000) || !(Nat.blt o.2.1 3) with
    | true => none
    | false => some (ls, .ref cs.length :: r, cs ++ [.inr (o.2.1, n.toNatClampNeg)]))
  | 73, .ref _ :: r => (match Nat.ble r.length 10 with
    | true => some (ls, r, cs)
    | false => none)
  | 76, .ref j :: r => (match stl ls o.2.1 (.ref j) with
    | some l => some (l, r, cs)
    | none => none)
  | _, _ => none
def isR1 (As : List Value) : Bool := match As with
  | .ref _ :: _ => true
  | _ => false
def cxr : Nat → Nat → Nat → Nat → List Value → List Value → List CE → Option (Nat × List Value × List Value × List CE)
  | 0, _, _, _, _, _, _ => none
  | n + 1, d, M, pc, ls, st, cs => match clook (ctab M) pc with
    | none => some (pc, ls, st, cs)
    | some o => match o.1 with
      | 55 => some (pc, ls, st, cs)
      | 75 => some (pc, ls, st, cs)
      | 74 => (match d with
        | 0 => none
        | d + 1 => (match Nat.ble o.2.2.1 st.length && Nat.blt o.2.1 12 && Nat.ble (st.drop o.2.2.1).length 4 && (st.take o.2.2.1).all c1 && isR1 (st.take o.2.2.1).reverse, cxr n d o.2.1 0 (st.take o.2.2.1).reverse [] cs with
          | true, some (pc', _, [], cs') => (match clook (ctab o.2.1) pc' with
            | some o' => (match Nat.beq o'.1 55 with
              | true => cxr n (d + 1) M (pc + 3) ls (st.drop o.2.2.1) cs'
              | false => none)
            | none => none)
          | _, _ => none))
      | _ => match cstep o ls st cs with
        | some (ls', st', cs') => cxr n d M (pc + clen o) ls' st' cs'
        | none => none
/-- all cells of the class: how they lie when its constructor is through, the reference's own behind them -/
def cA0 : Option (Nat × List Value × List Value × List CE) := cxr 2000 5 13 0 [.ref 3000] [] []
def cA1 : List CE := match cA0 with
  | some q => q.2.2.2
  | none => []
theorem cA0_ok : (match cA0 with
  | some q => Nat.beq q.1 12 && Nat.beq q.2.2.2.length 47
  | none => false) = true := by decide +kernel
def cB0 : Option (Nat × List Value × List Value × List CE) := cxr 2000 4 12 0 [.ref 46] [] cA1
theorem cB0_ok : (match cB0 with
  | some q => Nat.beq q.1 168 && Nat.beq q.2.2.2.length 66
  | none => false) = true := by decide +kernel
