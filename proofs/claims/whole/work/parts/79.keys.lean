/-! ALL CHANGES OF THE SIDES, as the class and as the reference go through them -/
def kf (f : Nat → Nat) : Nat := f 0 + 8 * f 1 + 64 * f 2 + 512 * f 3
theorem kf_dgt {f : Nat → Nat} (h : ∀ j, j < 4 → f j < 8) {j : Nat} (hj : j < 4) : dgt (kf f) j = f j := by
  have h0 := h 0 (by omega)
  have h1 := h 1 (by omega)
  have h2 := h 2 (by omega)
  have h3 := h 3 (by omega)
  unfold dgt kf
  have : j = 0 ∨ j = 1 ∨ j = 2 ∨ j = 3 := by omega
  rcases this with rfl | rfl | rfl | rfl
  · rw [show 8 ^ 0 = 1 from rfl]; omega
  · rw [show 8 ^ 1 = 8 from rfl]; omega
  · rw [show 8 ^ 2 = 64 from rfl]; omega
  · rw [show 8 ^ 3 = 512 from rfl]; omega
/-- turned all over -/
def negK (D q : Nat) : Nat := kf (fun j => if j < D then (if dgt q j % 2 = 1 then dgt q j - 1 else dgt q j + 1) else dgt q j)
/-- the class's: where each side goes, which are turned -/
def plc (p k : Nat) : Nat := p / 4 ^ k % 4
def inv4 (p j : Nat) : Nat := if plc p 0 = j then 0 else if plc p 1 = j then 1 else if plc p 2 = j then 2 else 3
def key2 (p t : Nat) : Nat := kf (fun j => 2 * inv4 p j + t / 2 ^ inv4 p j % 2)
def okP (D p : Nat) : Bool := (decide (plc p 0 = 0) || decide (plc p 1 = 0) || decide (plc p 2 = 0) || decide (plc p 3 = 0)) && (decide (plc p 0 = 1) || decide (plc p 1 = 1) || decide (plc p 2 = 1) || decide (plc p 3 = 1)) && (decide (plc p 0 = 2) || decide (plc p 1 = 2) || decide (plc p 2 = 2) || decide (plc p 3 = 2)) && (decide (plc p 0 = 3) || decide (plc p 1 = 3) || decide (plc p 2 = 3) || decide (plc p 3 = 3)) && (decide (D = 4) || decide (p / 64 = 3))
def E2p (D p : Nat) : List Nat := (List.range (2 ^ (D - 1))).map (fun u => key2 p (2 * u))
def E2 (D : Nat) : List Nat := (List.range 256).flatMap (fun p => if okP D p = true then E2p D p else [])
/-- the reference's: from where each side comes -/
def key1 (D : Nat) (ord : Nat → Nat) (t : Nat) : Nat := kf (fun j => if j < D then 2 * (ord j % 4) + t / 2 ^ j % 2 else 2 * j)
def setO1 (ord : Nat → Nat) (i v : Nat) : Nat → Nat := fun j => if j = i then v else ord j
def ol (D : Nat) : Nat → Nat → (Nat → Nat) → List Nat
  | 0, _, ord => (List.range (2 ^ D)).map (key1 D ord)
  | n + 1, used, ord => (List.range D).flatMap (fun k => if used.testBit k = true then [] else ol D n (used + 2 ^ k) (setO1 ord (D - (n + 1)) k))
def E1 (D : Nat) : List Nat := ol D D 0 (fun _ => 0)
theorem e_perm3 : (E1 3).isPerm (E2 3 ++ (E2 3).map (negK 3)) = true := by decide +kernel
theorem e_perm4 : (E1 4).isPerm (E2 4 ++ (E2 4).map (negK 4)) = true := by decide +kernel
theorem e_good3 : ∀ q, q ∈ E2 3 → GK q ∧ dgt q 3 = 6 := by decide +kernel
theorem e_good4 : ∀ q, q ∈ E2 4 → GK q := by decide +kernel
theorem e_good13 : ∀ q, q ∈ E1 3 → GK q := by decide +kernel
theorem e_good14 : ∀ q, q ∈ E1 4 → GK q := by decide +kernel
