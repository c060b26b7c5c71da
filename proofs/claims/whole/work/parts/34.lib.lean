/-! NUMBERS AND BITS -/
theorem i_toInt {n : Nat} (h : n < 2147483648) : (Int32.ofNat n).toInt = n := Int32.toInt_ofNat_of_lt h
theorem i_cl {n : Nat} (h : n < 2147483648) : (Int32.ofNat n).toNatClampNeg = n := Int32.toNatClampNeg_ofNat_of_lt h
theorem i_lt {a b : Nat} (ha : a < 2147483648) (hb : b < 2147483648) : Int32.ofNat a < Int32.ofNat b ↔ a < b := by
  rw [Int32.lt_iff_toInt_lt, i_toInt ha, i_toInt hb]; omega
theorem i_le {a b : Nat} (ha : a < 2147483648) (hb : b < 2147483648) : Int32.ofNat a ≤ Int32.ofNat b ↔ a ≤ b := by
  rw [Int32.le_iff_toInt_le, i_toInt ha, i_toInt hb]; omega
theorem i_inj {a b : Nat} (ha : a < 2147483648) (hb : b < 2147483648) : Int32.ofNat a = Int32.ofNat b ↔ a = b := by
  rw [← Int32.toInt_inj, i_toInt ha, i_toInt hb]; omega
theorem i_nneg {a : Nat} (ha : a < 2147483648) : ¬ Int32.ofNat a < 0 := by
  intro h
  have := (i_lt (b := 0) ha (by omega)).1 h
  omega
theorem i_vp {k n : Nat} (h : k < n) (hn : n < 2147483648) : vp_in (Int32.ofNat k) n := by
  unfold vp_in
  rintro (q | q)
  · exact i_nneg (by omega) q
  · rw [i_cl (by omega)] at q; omega
theorem i_suc (n : Nat) : Int32.ofNat n + 1 = Int32.ofNat (n + 1) := (Int32.ofNat_add n 1).symm
theorem i_add (a b : Nat) : Int32.ofNat a + Int32.ofNat b = Int32.ofNat (a + b) := (Int32.ofNat_add a b).symm
theorem i_mul (a b : Nat) : Int32.ofNat a * Int32.ofNat b = Int32.ofNat (a * b) := (Int32.ofNat_mul a b).symm
theorem i_sub {a b : Nat} (h : b ≤ a) : Int32.ofNat a - Int32.ofNat b = Int32.ofNat (a - b) := (Int32.ofNat_sub a b h).symm
theorem i_pre (n : Nat) : Int32.ofNat (n + 1) - 1 = Int32.ofNat n := i_sub (a := n + 1) (b := 1) (by omega)
theorem i_dec (n : Nat) : Int32.ofNat (n + 1) + -1 = Int32.ofNat n := by
  rw [← Int32.sub_eq_add_neg]; exact i_pre n
theorem i_of {x : Int32} (h : ¬ x < 0) : x = Int32.ofNat x.toNatClampNeg := by
  have h' : (0 : Int32) ≤ x := by
    rw [Int32.le_iff_toInt_le]
    rw [Int32.lt_iff_toInt_lt] at h
    omega
  exact (Int32.ofNat_toNatClampNeg x h').symm
theorem i_clt (x : Int32) : x.toNatClampNeg < 2147483648 := Int32.toNatClampNeg_lt x
/-- bit k of a set -/
def tb (s : Int32) (k : Nat) : Bool := s.toBitVec.getLsbD k
theorem tb_ext {s t : Int32} (h : ∀ k, k < 32 → tb s k = tb t k) : s = t := Int32.toBitVec.inj (BitVec.eq_of_getLsbD_eq h)
theorem tb_and (s t : Int32) (k : Nat) : tb (s &&& t) k = (tb s k && tb t k) := BitVec.getLsbD_and
theorem tb_or (s t : Int32) (k : Nat) : tb (s ||| t) k = (tb s k || tb t k) := BitVec.getLsbD_or
theorem tb_xor (s t : Int32) (k : Nat) : tb (s ^^^ t) k = (tb s k ^^ tb t k) := BitVec.getLsbD_xor
theorem tb_lt {s : Int32} {k : Nat} (h : tb s k = true) : k < 32 := BitVec.lt_of_getLsbD h
theorem tb_ge {s : Int32} {k : Nat} (h : 32 ≤ k) : tb s k = false := BitVec.getLsbD_of_ge _ _ h
theorem tb_zero (k : Nat) : tb 0 k = false := by
  show (0 : Int32).toBitVec.getLsbD k = false
  exact BitVec.getLsbD_zero
theorem tb_m1 {k : Nat} (h : k < 32) : tb (-1) k = true := by
  have : ∀ k : Fin 32, tb (-1) k.val = true := by decide +kernel
  exact this ⟨k, h⟩
theorem tb_not (s : Int32) {k : Nat} (h : k < 32) : tb (s ^^^ -1) k = !tb s k := by
  rw [tb_xor, tb_m1 h]; cases tb s k <;> rfl
theorem tb_one (k : Nat) : tb 1 k = decide (k = 0) := by
  by_cases h : k < 32
  · have : ∀ k : Fin 32, tb 1 k.val = decide (k.val = 0) := by decide +kernel
    exact this ⟨k, h⟩
  · rw [tb_ge (by omega)]; symm; exact decide_eq_false (by omega)
/-- the set of one ray -/
def bit (r : Nat) : Int32 := (1 : Int32) <<< (Int32.ofNat r &&& 31)
theorem tb_bit {r : Nat} (h : r < 32) (k : Nat) : tb (bit r) k = decide (k = r) := by
  by_cases hk : k < 32
  · have : ∀ r k : Fin 32, tb (bit r.val) k.val = decide (k.val = r.val) := by decide +kernel
    exact this ⟨r, h⟩ ⟨k, hk⟩
  · rw [tb_ge (by omega)]; symm; exact decide_eq_false (by omega)
theorem shr_amt {r : Nat} (h : r < 32) : ((Int32.ofNat r &&& 31).toBitVec.smod 32).toNat = r := by
  have : ∀ r : Fin 32, ((Int32.ofNat r.val &&& 31).toBitVec.smod 32).toNat = r.val := by decide +kernel
  exact this ⟨r, h⟩
theorem tb_shr (s : Int32) {r k : Nat} (h : r < 32) : tb (s >>> (Int32.ofNat r &&& 31)) k = (decide (k < 32) && tb s (if r + k < 32 then r + k else 31)) := by
  unfold tb
  rw [Int32.toBitVec_shiftRight, BitVec.getLsbD_sshiftRight', shr_amt h]
  by_cases hk : k < 32
  · have e1 : (!decide (32 ≤ k)) = true := by simp; omega
    have e2 : decide (k < 32) = true := by simpa using hk
    rw [e1, e2, Bool.true_and, Bool.true_and]
    by_cases h2 : r + k < 32
    · rw [if_pos h2, if_pos h2]
    · rw [if_neg h2, if_neg h2, BitVec.msb_eq_getLsbD_last]
  · have e1 : (!decide (32 ≤ k)) = false := by simp; omega
    have e2 : decide (k < 32) = false := by simpa using hk
    rw [e1, e2, Bool.false_and, Bool.false_and]
theorem has_eq (s : Int32) {r : Nat} (h : r < 32) : (s >>> (Int32.ofNat r &&& 31)) &&& 1 = if tb s r = true then 1 else 0 := by
  apply tb_ext
  intro k hk
  rw [tb_and, tb_shr s h, tb_one]
  by_cases h0 : k = 0
  · subst h0
    rw [if_pos (by omega : r + 0 < 32), Nat.add_zero]
    cases e : tb s r
    · rw [if_neg (by simp), tb_zero]; rfl
    · rw [if_pos rfl, tb_one]; rfl
  · have e2 : decide (k = 0) = false := by simpa using h0
    rw [e2, Bool.and_false]
    split
    · rw [tb_one, e2]
    · rw [tb_zero]
theorem has0 (s : Int32) {r : Nat} (h : r < 32) : ((s >>> (Int32.ofNat r &&& 31)) &&& 1 = 0) ↔ tb s r = false := by
  rw [has_eq s h]
  cases tb s r <;> simp
theorem has1 (s : Int32) {r : Nat} (h : r < 32) : ((s >>> (Int32.ofNat r &&& 31)) &&& 1 = 1) ↔ tb s r = true := by
  rw [has_eq s h]
  cases tb s r <;> simp
theorem and0 {s t : Int32} : s &&& t = 0 ↔ ∀ k, k < 32 → ¬ (tb s k = true ∧ tb t k = true) := by
  constructor
  · intro h k _ ⟨h1, h2⟩
    have := tb_and s t k
    rw [h, tb_zero, h1, h2] at this
    cases this
  · intro h
    apply tb_ext
    intro k hk
    rw [tb_and, tb_zero]
    have := h k hk
    cases e1 : tb s k <;> cases e2 : tb t k <;> simp_all
theorem sub0 {s t : Int32} : s &&& (t ^^^ -1) = 0 ↔ ∀ k, tb s k = true → tb t k = true := by
  rw [and0]
  constructor
  · intro h k hk
    have hl := tb_lt hk
    have := h k hl
    rw [tb_not t hl, hk] at this
    simpa using this
  · intro h k hk ⟨h1, h2⟩
    rw [tb_not t hk, h k h1] at h2
    cases h2
theorem ne0 {s : Int32} (h : ¬ s = 0) : ∃ k, tb s k = true := by
  refine Classical.byContradiction fun hn => h ?_
  apply tb_ext
  intro k _
  rw [tb_zero]
  cases e : tb s k
  · rfl
  · exact absurd ⟨k, e⟩ hn
/-- sets of rays below n -/
def Low (n : Nat) (s : Int32) : Prop := ∀ k, tb s k = true → k < n
theorem low_or {n : Nat} {s t : Int32} (h1 : Low n s) (h2 : Low n t) : Low n (s ||| t) := by
  intro k hk
  rw [tb_or] at hk
  cases e : tb s k
  · rw [e, Bool.false_or] at hk; exact h2 k hk
  · exact h1 k e
theorem low_and {n : Nat} {s t : Int32} (h1 : Low n s) : Low n (s &&& t) := by
  intro k hk
  rw [tb_and] at hk
  cases e : tb s k
  · rw [e] at hk; cases hk
  · exact h1 k e
theorem low_andr {n : Nat} {s t : Int32} (h1 : Low n t) : Low n (s &&& t) := by
  intro k hk
  rw [tb_and] at hk
  cases e : tb t k
  · rw [e, Bool.and_false] at hk; cases hk
  · exact h1 k e
theorem low_bit {n r : Nat} (h : r < n) (h2 : r < 32) : Low n (bit r) := by
  intro k hk
  rw [tb_bit h2] at hk
  have : k = r := by simpa using hk
  omega
theorem low_zero (n : Nat) : Low n 0 := by
  intro k hk
  rw [tb_zero] at hk
  cases hk
theorem low_le {n m : Nat} {s : Int32} (h : Low n s) (hm : n ≤ m) : Low m s := fun k hk => by have := h k hk; omega
/-- how many of the numbers below n -/
def cnt (p : Nat → Bool) : Nat → Nat
  | 0 => 0
  | n + 1 => cnt p n + if p n = true then 1 else 0
theorem cnt_le (p : Nat → Bool) (n : Nat) : cnt p n ≤ n := by
  induction n with
  | zero => exact Nat.le_refl _
  | succ n ih => unfold cnt; split <;> omega
theorem cnt_congr {p q : Nat → Bool} {n : Nat} (h : ∀ k, k < n → p k = q k) : cnt p n = cnt q n := by
  induction n with
  | zero => rfl
  | succ n ih =>
    unfold cnt
    rw [ih (fun k hk => h k (by omega)), h n (by omega)]
theorem cnt_ext {p : Nat → Bool} {n m : Nat} (hn : n ≤ m) (h : ∀ k, n ≤ k → k < m → p k = false) : cnt p m = cnt p n := by
  induction m with
  | zero => have : n = 0 := by omega
            rw [this]
  | succ m ih =>
    by_cases e : n = m + 1
    · rw [e]
    · show cnt p m + _ = _
      rw [ih (by omega) (fun k h1 h2 => h k h1 (by omega)), h m (by omega) (by omega)]
      rfl
theorem cnt_flip {p q : Nat → Bool} {l n : Nat} (hl : l < n) (hp : p l = true) (hq : q l = false) (h : ∀ k, k < n → k ≠ l → p k = q k) : cnt p n = cnt q n + 1 := by
  induction n with
  | zero => omega
  | succ n ih =>
    unfold cnt
    by_cases e : l = n
    · subst e
      rw [hp, hq, cnt_congr (fun k hk => h k (by omega) (by omega))]
      simp
    · rw [ih (by omega) (fun k hk => h k (by omega)), h n (by omega) (fun q => e q.symm)]
      omega
theorem cnt_zero {p : Nat → Bool} {n : Nat} (h : ∀ k, k < n → p k = false) : cnt p n = 0 := by
  induction n with
  | zero => rfl
  | succ n ih => unfold cnt; rw [ih (fun k hk => h k (by omega)), h n (by omega)]; rfl
/-- how many rays a set has -/
def pcn (s : Int32) : Nat := cnt (tb s) 32
theorem pcn_le (s : Int32) : pcn s ≤ 32 := cnt_le _ _
theorem pcn_low {n : Nat} {s : Int32} (h : Low n s) (hn : n ≤ 32) : pcn s = cnt (tb s) n := by
  apply cnt_ext hn
  intro k h1 _
  cases e : tb s k
  · rfl
  · have := h k e; omega
theorem pcn_zero : pcn 0 = 0 := cnt_zero (fun k _ => tb_zero k)
/-- the least of a set -/
theorem least_ex {s : Int32} (h : ¬ s = 0) : ∃ l, l < 32 ∧ tb s l = true ∧ ∀ j, j < l → tb s j = false := by
  obtain ⟨k, hk⟩ := ne0 h
  have : ∀ n, (∃ k, k < n ∧ tb s k = true) → ∃ l, l < n ∧ tb s l = true ∧ ∀ j, j < l → tb s j = false := by
    intro n
    induction n with
    | zero => rintro ⟨k, h, _⟩; omega
    | succ n ih =>
      intro hx
      by_cases h2 : ∃ k, k < n ∧ tb s k = true
      · obtain ⟨l, h1, h2, h3⟩ := ih h2
        exact ⟨l, by omega, h2, h3⟩
      · obtain ⟨k, h3, h4⟩ := hx
        have : k = n := by
          by_cases e : k < n
          · exact absurd ⟨k, e, h4⟩ h2
          · omega
        subst this
        refine ⟨k, by omega, h4, fun j hj => ?_⟩
        cases e : tb s j
        · rfl
        · exact absurd ⟨j, hj, e⟩ h2
  exact this 32 ⟨k, tb_lt hk, hk⟩
theorem mask_bit {l k : Nat} (h : l < 32) (hk : k < 32) : tb (bit l - 1) k = decide (k < l) := by
  have : ∀ r k : Fin 32, tb (bit r.val - 1) k.val = decide (k.val < r.val) := by decide +kernel
  exact this ⟨l, h⟩ ⟨k, hk⟩
theorem i_addor {s t : Int32} (h : s &&& t = 0) : s + t = s ||| t := by
  apply Int32.toBitVec.inj
  have h' : s.toBitVec &&& t.toBitVec = 0#32 := by
    have := congrArg Int32.toBitVec h
    exact this
  exact BitVec.add_eq_or_of_and_eq_zero _ _ h'
/-- one less: the least goes, what is below it comes -/
theorem sub1 {s : Int32} {l : Nat} (h : tb s l = true) (hl : ∀ j, j < l → tb s j = false) {k : Nat} (hk : k < 32) : tb (s - 1) k = (decide (k < l) || (tb s k && !decide (k = l))) := by
  have hl32 := tb_lt h
  have e1 : s = (s &&& (bit l ^^^ -1)) + bit l := by
    rw [i_addor]
    · apply tb_ext
      intro j hj
      rw [tb_or, tb_and, tb_not _ hj, tb_bit hl32]
      by_cases e : j = l
      · subst e; simp [h]
      · simp [e]
    · rw [and0]
      intro j hj ⟨h1, h2⟩
      rw [tb_and, tb_not _ hj, h2] at h1
      simp at h1
  have e2 : s - 1 = (s &&& (bit l ^^^ -1)) + (bit l - 1) := by
    conv => lhs; rw [e1]
    rw [Int32.sub_eq_add_neg, Int32.sub_eq_add_neg, Int32.add_assoc]
  rw [e2, i_addor]
  · rw [tb_or, tb_and, tb_not _ hk, tb_bit hl32, mask_bit hl32 hk]
    cases decide (k < l) <;> cases tb s k <;> cases decide (k = l) <;> rfl
  · rw [and0]
    intro j hj ⟨h1, h2⟩
    rw [mask_bit hl32 hj] at h2
    have h2' : j < l := by simpa using h2
    rw [tb_and, hl j h2'] at h1
    simp at h1
/-- the least taken away -/
theorem drop1 {s : Int32} {l : Nat} (h : tb s l = true) (hl : ∀ j, j < l → tb s j = false) {k : Nat} (hk : k < 32) : tb (s &&& (s - 1)) k = (tb s k && !decide (k = l)) := by
  rw [tb_and, sub1 h hl hk]
  by_cases e : k < l
  · rw [hl k e]; rfl
  · have : decide (k < l) = false := by simpa using e
    rw [this, Bool.false_or]
    cases tb s k <;> rfl
theorem i_negnot (s : Int32) : -s = (s - 1) ^^^ -1 := by
  apply tb_ext
  intro k hk
  rw [tb_not _ hk]
  have : -s = ~~~(s - 1) := by
    rw [Int32.not_eq_neg_add]
    rw [Int32.neg_sub, Int32.sub_eq_add_neg, Int32.sub_eq_add_neg, Int32.add_comm 1, Int32.add_assoc]
    have : (1 : Int32) + -1 = 0 := by decide
    rw [this, Int32.add_zero]
  rw [this]
  show (~~~(s - 1)).toBitVec.getLsbD k = _
  rw [Int32.toBitVec_not, BitVec.getLsbD_not]
  have : decide (k < 32) = true := by simpa using hk
  rw [this, Bool.true_and]
  rfl
/-- the least alone -/
theorem low1 {s : Int32} {l : Nat} (h : tb s l = true) (hl : ∀ j, j < l → tb s j = false) : s &&& -s = bit l := by
  have hl32 := tb_lt h
  apply tb_ext
  intro k hk
  rw [i_negnot, tb_and, tb_not _ hk, sub1 h hl hk, tb_bit hl32]
  by_cases e : k = l
  · subst e; simp [h]
  · by_cases e2 : k < l
    · rw [hl k e2]; simp [e]
    · cases tb s k <;> simp [e, e2]
theorem pcn_drop {s : Int32} (h : ¬ s = 0) : pcn s = pcn (s &&& (s - 1)) + 1 := by
  obtain ⟨l, h1, h2, h3⟩ := least_ex h
  apply cnt_flip h1 h2
  · rw [drop1 h2 h3 h1, h2]; simp
  · intro k hk hne
    rw [drop1 h2 h3 hk]
    simp [hne]
