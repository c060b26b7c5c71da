/-! THE LAW'S START -/
def perm : List Nat := [0, 1, 3, 8, 13, 14, 19, 22, 26, 30, 34, 41, 42, 23, 2, 4, 5, 6, 7, 9, 10, 11, 12, 15, 16, 17, 18, 20, 21, 24, 25, 27, 28, 29, 31, 32, 33, 35, 36, 37, 38, 39, 40, 43, 44, 45, 46, 47, 48, 49, 50, 51, 52, 53, 54, 55, 56, 57, 58, 59, 60, 61, 62, 63, 64, 65]
def pm (j : Nat) : Nat := perm.getD j 66
def iniL : List (Nat × Nat × Int32) := [(0, 16, -1), (0, 17, 1), (2, 0, 3), (3, 0, 3), (46, 0, 3), (46, 51, -1)]
def ini (j k : Nat) : Int32 := match iniL.find? (fun q => Nat.beq q.1 j && Nat.beq q.2.1 k) with
  | some q => q.2.2
  | none => 0
/-- the first state: what the constructors leave; the script as cell 3000 -/
def Sini (L : Nat) (xf : Nat → Int32) : St := (fun j k => if j = 3000 then Int32.ofNat L else ini j k, fun j i => if j = 3000 then xf i else 0, 0, 0)
def fv0 (j k : Nat) : Value := match fkd j k with
  | 0 => .int (ini j k)
  | 1 => .long 0
  | r + 2 => .ref (pm r)
def cB1 : List CE := match cB0 with
  | some q => q.2.2.2
  | none => []
def cellOK (j : Nat) : Bool := match cB1[pm j]?, shp.getD j (.inr (9, 0)) with
  | some (.inl q), .inl c => Nat.beq q.1 c && decide (q.2 = (List.range (nF c)).map (fv0 j))
  | some (.inr q), .inr q' => Nat.beq q.1 q'.1 && Nat.beq q.2 q'.2 && Nat.blt q.1 2
  | _, _ => false
theorem cell_all : ∀ j, j < 66 → cellOK j = true := by decide +kernel
theorem pm_inj : ∀ i, i < 67 → ∀ j, j < 67 → pm i = pm j → i = j := by decide +kernel
theorem pm_lt : ∀ j, j < 67 → pm j < 67 := by decide +kernel
theorem cA_eq : cA0 = some (12, [.ref 3000, .ref 0], [.ref 46, .ref 46], cA1) := by
  have h : (match cA0 with
    | some q => decide (q.1 = 12 ∧ q.2.1 = [.ref 3000, .ref 0] ∧ q.2.2.1 = [.ref 46, .ref 46])
    | none => false) = true := by decide +kernel
  cases e : cA0 with
  | none => rw [e] at h; cases h
  | some q =>
    rw [e] at h
    have h := of_decide_eq_true h
    obtain ⟨a, b, c, d⟩ := q
    obtain ⟨h1, h2, h3⟩ := h
    dsimp only at h1 h2 h3
    subst h1; subst h2; subst h3
    unfold cA1
    rw [e]
theorem cB_eq : cB0 = some (168, [.ref 46], [.ref 46], cB1) := by
  have h : (match cB0 with
    | some q => decide (q.1 = 168 ∧ q.2.1 = [.ref 46] ∧ q.2.2.1 = [.ref 46])
    | none => false) = true := by decide +kernel
  cases e : cB0 with
  | none => rw [e] at h; cases h
  | some q =>
    rw [e] at h
    have h := of_decide_eq_true h
    obtain ⟨a, b, c, d⟩ := q
    obtain ⟨h1, h2, h3⟩ := h
    dsimp only at h1 h2 h3
    subst h1; subst h2; subst h3
    unfold cB1
    rw [e]
theorem cA_len : cA1.length = 47 := by decide +kernel
theorem cB_len : cB1.length = 66 := by decide +kernel
theorem cB_z : czs cB1 ≤ 3000000 := by decide +kernel
theorem cA_z : czs cA1 ≤ 3000000 := by decide +kernel
