/-! THE PICTURE: all objects of the class and of the reference in one fixed row of cells; a state is what their numbers are -/
abbrev MD : Type := MethodName × ByteArray × Nat × Option FieldType
/-- fields by cell and slot; rows by cell and place; the one long field; the law's long row -/
abbrev St : Type := (Nat → Nat → Int32) × (Nat → Nat → Int32) × Int64 × Int64
abbrev Out : Type := Option Value ⊕ String
def setI (S : St) (j k : Nat) (v : Int32) : St := (fun a b => if a = j ∧ b = k then v else S.1 a b, S.2)
def setA (S : St) (j i : Nat) (v : Int32) : St := (S.1, fun a b => if a = j ∧ b = i then v else S.2.1 a b, S.2.2)
def setC (S : St) (j0 j1 sp dp n : Nat) : St := (S.1, fun a b => if a = j1 then va_cpy (S.2.1 j0) (S.2.1 j1) sp dp n b else S.2.1 a b, S.2.2)
def setL (S : St) (v : Int64) : St := (S.1, S.2.1, v, S.2.2.2)
def setO (S : St) (v : Int64) : St := (S.1, S.2.1, S.2.2.1, v)
def gT : List Cond := lw_tbl.filter goodWord
theorem gT_in {w : Cond} (h : w ∈ lw_tbl) (g : goodWord w = true) : w ∈ gT := List.mem_filter.mpr ⟨h, g⟩
theorem gT_lw {w : Cond} (h : w ∈ gT) : w ∈ lw_tbl := (List.mem_filter.mp h).1
theorem gT_good {w : Cond} (h : w ∈ gT) : (w.onTables && w.keeps) = true ∨ ∃ ty, w = .arrayClass ty := good_of_word (List.mem_filter.mp h).2
def wsM (M : MD) : List Cond := .code M.1 M.2.1 M.2.2.1 M.2.2.2 :: gT
def isNest : Cond → Bool
  | .fieldLinkNest _ _ _ _ _ _ => true
  | .methodLinkNest _ _ _ _ => true
  | _ => false
def clT : List vw_C := [(RX0, TX0, 6), (RX1, TX1, 12), (RX2, TX2, 8), (RX3, TX3, 8), (RX4, TX4, 7), (RX5, TX5, 7), (RX6, TX6, 2), (RX7, TX7, 7), (RX8, TX8, 6), (RX9, TX9, 10), (RX10, TX10, 8), (RX11, TX11, 18), (RX12, TX12, 56)]
def rmN (n mc ms : Nat) : Room := { frames := n, cells := mc, slots := ms, locals := 40 * n }
/-- the footprint: the row's cells, and what is new -/
def FA (ad : Nat → Nat) (nc sz : Nat) : Nat → Prop := fun q => (∃ j, j < nc ∧ q = ad j) ∨ sz ≤ q
def cv (ad : Nat → Nat) : Value → Value
  | .ref j => .ref (ad j)
  | v => v
def cq (ad : Nat → Nat) (q : Nat × Value) : Nat × Value := (q.1, cv ad q.2)
def fv (ad : Nat → Nat) (S : St) (j k : Nat) : Nat → Value
  | 0 => .int (S.1 j k)
  | 1 => .long S.2.2.1
  | r + 2 => .ref (ad r)
