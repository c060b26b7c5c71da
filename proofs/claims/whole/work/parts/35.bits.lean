/-! COUNTING BITS, and the small methods -/
def tn (x : Int32) : Nat := x.toBitVec.toNat
theorem tn_lt (x : Int32) : tn x < 4294967296 := x.toBitVec.isLt
theorem tn_and (x y : Int32) : tn (x &&& y) = tn x &&& tn y := BitVec.toNat_and ..
theorem tn_add {x y : Int32} (h : tn x + tn y < 4294967296) : tn (x + y) = tn x + tn y := by
  show (x.toBitVec + y.toBitVec).toNat = _
  rw [BitVec.toNat_add]
  exact Nat.mod_eq_of_lt h
theorem tn_sub {x y : Int32} (h : tn y ≤ tn x) : tn (x - y) = tn x - tn y := by
  show (x.toBitVec - y.toBitVec).toNat = _
  have h1 := tn_lt x
  have h2 := tn_lt y
  unfold tn at *
  rw [BitVec.toNat_sub]
  omega
theorem tn_inj {x y : Int32} (h : tn x = tn y) : x = y := Int32.toBitVec.inj (BitVec.eq_of_toNat_eq h)
theorem tn_of {n : Nat} (h : n < 4294967296) : tn (Int32.ofNat n) = n := by
  show (BitVec.ofNat 32 n).toNat = n
  rw [BitVec.toNat_ofNat]
  exact Nat.mod_eq_of_lt h
/-- shifted without a sign -/
def us (x k : Int32) : Int32 := (x.toUInt32 >>> (k.toUInt32 &&& Int32.toUInt32 31)).toInt32
theorem tn_us (x : Int32) {k : Nat} (hk : k < 32) : tn (us x (Int32.ofNat k)) = tn x / 2 ^ k := by
  have h : ∀ k : Fin 32, (((Int32.ofNat k.val).toUInt32 &&& Int32.toUInt32 31).toBitVec % 32#32).toNat = k.val := by decide +kernel
  show (x.toBitVec >>> (((Int32.ofNat k).toUInt32 &&& Int32.toUInt32 31).toBitVec % 32#32)).toNat = _
  rw [BitVec.ushiftRight_eq', BitVec.toNat_ushiftRight, h ⟨k, hk⟩, Nat.shiftRight_eq_div_pow]
  rfl
theorem land_split {a k : Nat} (ha : a < 256) (hk : k < 256) (p q : Nat) : (a + 256 * p) &&& (k + 256 * q) = (a &&& k) + 256 * (p &&& q) := by
  have hak : a &&& k < 2 ^ 8 := Nat.lt_of_le_of_lt Nat.and_le_left ha
  have ha' : a < 2 ^ 8 := ha
  have hk' : k < 2 ^ 8 := hk
  apply Nat.eq_of_testBit_eq
  intro i
  have e1 : a + 256 * p = 2 ^ 8 * p + a := by omega
  have e2 : k + 256 * q = 2 ^ 8 * q + k := by omega
  have e3 : (a &&& k) + 256 * (p &&& q) = 2 ^ 8 * (p &&& q) + (a &&& k) := by omega
  rw [e1, e2, e3, Nat.testBit_and, Nat.testBit_two_pow_mul_add _ ha', Nat.testBit_two_pow_mul_add _ hk', Nat.testBit_two_pow_mul_add _ hak]
  split <;> rw [Nat.testBit_and]
def q4 (a b c d : Nat) : Nat := a + 256 * (b + 256 * (c + 256 * d))
theorem q4_and {a b c k : Nat} (ha : a < 256) (hb : b < 256) (hc : c < 256) (d : Nat) (hk : k < 256) : q4 a b c d &&& q4 k k k k = q4 (a &&& k) (b &&& k) (c &&& k) (d &&& k) := by
  unfold q4
  rw [land_split ha hk, land_split hb hk, land_split hc hk]
def g1 (a : Nat) : Nat := a - (a / 2 &&& 85)
def g2 (p : Nat) : Nat := (p &&& 51) + (p / 4 &&& 51)
def g3 (q : Nat) : Nat := (q + q / 16) &&& 15
theorem fin256 {P : Nat → Prop} (h : ∀ a : Fin 256, P a.val) {a : Nat} (ha : a < 256) : P a := h ⟨a, ha⟩
theorem g_1 {a : Nat} (ha : a < 256) (e : Nat) : (a / 2 + 128 * (e % 2)) &&& 85 = a / 2 &&& 85 := by
  have h : ∀ (a : Fin 256) (e : Fin 2), (a.val / 2 + 128 * e.val) &&& 85 = a.val / 2 &&& 85 := by decide +kernel
  exact h ⟨a, ha⟩ ⟨e % 2, by omega⟩
theorem g_2 {a : Nat} (ha : a < 256) (e : Nat) : (a / 4 + 64 * (e % 4)) &&& 51 = a / 4 &&& 51 := by
  have h : ∀ (a : Fin 256) (e : Fin 4), (a.val / 4 + 64 * e.val) &&& 51 = a.val / 4 &&& 51 := by decide +kernel
  exact h ⟨a, ha⟩ ⟨e % 4, by omega⟩
theorem g_3 {a : Nat} (ha : a ≤ 68) (e : Nat) : (a + a / 16 + 16 * (e % 16)) &&& 15 = g3 a := by
  have h : ∀ (a : Fin 69) (e : Fin 16), (a.val + a.val / 16 + 16 * e.val) &&& 15 = g3 a.val := by decide +kernel
  exact h ⟨a, by omega⟩ ⟨e % 16, by omega⟩
theorem g_facts {a : Nat} (ha : a < 256) : (a / 2 &&& 85) ≤ a ∧ g1 a < 256 ∧ g2 (g1 a) ≤ 68 ∧ (g2 (g1 a)) % 16 ≤ 4 ∧ g3 (g2 (g1 a)) ≤ 8 ∧ g3 (g2 (g1 a)) = cnt (Nat.testBit a) 8 ∧ (g1 a &&& 51) < 256 := by
  have h : ∀ a : Fin 256, (a.val / 2 &&& 85) ≤ a.val ∧ g1 a.val < 256 ∧ g2 (g1 a.val) ≤ 68 ∧ (g2 (g1 a.val)) % 16 ≤ 4 ∧ g3 (g2 (g1 a.val)) ≤ 8 ∧ g3 (g2 (g1 a.val)) = cnt (Nat.testBit a.val) 8 ∧ (g1 a.val &&& 51) < 256 := by decide +kernel
  exact h ⟨a, ha⟩
theorem cnt_add (p : Nat → Bool) (a b : Nat) : cnt p (a + b) = cnt p a + cnt (fun k => p (a + k)) b := by
  induction b with
  | zero => rfl
  | succ b ih =>
    have e1 : cnt p (a + (b + 1)) = cnt p (a + b) + if p (a + b) = true then 1 else 0 := rfl
    have e2 : cnt (fun k => p (a + k)) (b + 1) = cnt (fun k => p (a + k)) b + if p (a + b) = true then 1 else 0 := rfl
    rw [e1, e2, ih]
    omega
theorem cnt_digit {a : Nat} (ha : a < 256) (p n : Nat) : cnt (Nat.testBit (a + 256 * p)) (8 + n) = cnt (Nat.testBit a) 8 + cnt (Nat.testBit p) n := by
  have ha' : a < 2 ^ 8 := ha
  have e1 : a + 256 * p = 2 ^ 8 * p + a := by omega
  rw [cnt_add, e1]
  congr 1
  · apply cnt_congr
    intro k hk
    rw [Nat.testBit_two_pow_mul_add _ ha', if_pos hk]
  · apply cnt_congr
    intro k hk
    rw [Nat.testBit_two_pow_mul_add _ ha', if_neg (by omega)]
    congr 1
    omega
def bc1 (x : Int32) : Int32 := x - (us x 1 &&& 1431655765)
def bc2 (x : Int32) : Int32 := (bc1 x &&& 858993459) + (us (bc1 x) 2 &&& 858993459)
def bc3 (y : Int32) : Int32 := (y + us y 4) &&& 252645135
def bc4 (y : Int32) : Int32 := bc3 y + us (bc3 y) 8
def bc5 (y : Int32) : Int32 := bc4 y + us (bc4 y) 16
theorem bc_main (x : Int32) : bc5 (bc2 x) &&& 63 = Int32.ofNat (pcn x) := by
  have hx := tn_lt x
  obtain ⟨a, b, c, d, ha, hb, hc, hd, e⟩ : ∃ a b c d, a < 256 ∧ b < 256 ∧ c < 256 ∧ d < 256 ∧ tn x = q4 a b c d :=
    ⟨tn x % 256, tn x / 256 % 256, tn x / 65536 % 256, tn x / 16777216, by omega, by omega, by omega, by omega, by unfold q4; omega⟩
  obtain ⟨a1, a2, a3, a4, a5, a6, a7⟩ := g_facts ha
  obtain ⟨b1, b2, b3, b4, b5, b6, b7⟩ := g_facts hb
  obtain ⟨c1, c2, c3, c4, c5, c6, c7⟩ := g_facts hc
  obtain ⟨d1, d2, d3, d4, d5, d6, d7⟩ := g_facts hd
  have hp : pcn x = g3 (g2 (g1 a)) + (g3 (g2 (g1 b)) + (g3 (g2 (g1 c)) + g3 (g2 (g1 d)))) := by
    have : pcn x = cnt (Nat.testBit (tn x)) (8 + (8 + (8 + 8))) := rfl
    rw [this, e]
    unfold q4
    rw [cnt_digit ha, cnt_digit hb, cnt_digit hc, a6, b6, c6, d6]
  have m1 : tn 1431655765 = q4 85 85 85 85 := by decide +kernel
  have m2 : tn 858993459 = q4 51 51 51 51 := by decide +kernel
  have m3 : tn 252645135 = q4 15 15 15 15 := by decide +kernel
  have u1 : tn (bc1 x) = q4 (g1 a) (g1 b) (g1 c) (g1 d) := by
    have s1 : tn (us x 1 &&& 1431655765) = q4 (a / 2 &&& 85) (b / 2 &&& 85) (c / 2 &&& 85) (d / 2 &&& 85) := by
      rw [tn_and, show (1 : Int32) = Int32.ofNat 1 from rfl, tn_us x (by omega), m1, e]
      have : q4 a b c d / 2 ^ 1 = q4 (a / 2 + 128 * (b % 2)) (b / 2 + 128 * (c % 2)) (c / 2 + 128 * (d % 2)) (d / 2 + 128 * (0 % 2)) := by unfold q4; omega
      rw [this, q4_and (by omega) (by omega) (by omega) _ (by omega), g_1 ha, g_1 hb, g_1 hc, g_1 hd]
    unfold bc1
    rw [tn_sub, s1, e]
    · unfold g1 q4; omega
    · rw [s1, e]; unfold q4; omega
  have u2 : tn (bc2 x) = q4 (g2 (g1 a)) (g2 (g1 b)) (g2 (g1 c)) (g2 (g1 d)) := by
    generalize g1 a = a' at *
    generalize g1 b = b' at *
    generalize g1 c = c' at *
    generalize g1 d = d' at *
    have s1 : tn (us (bc1 x) 2 &&& 858993459) = q4 (a' / 4 &&& 51) (b' / 4 &&& 51) (c' / 4 &&& 51) (d' / 4 &&& 51) := by
      rw [tn_and, show (2 : Int32) = Int32.ofNat 2 from rfl, tn_us _ (by omega), m2, u1]
      have : q4 a' b' c' d' / 2 ^ 2 = q4 (a' / 4 + 64 * (b' % 4)) (b' / 4 + 64 * (c' % 4)) (c' / 4 + 64 * (d' % 4)) (d' / 4 + 64 * (0 % 4)) := by unfold q4; omega
      rw [this, q4_and (by omega) (by omega) (by omega) _ (by omega), g_2 a2, g_2 b2, g_2 c2, g_2 d2]
    have s2 : tn (bc1 x &&& 858993459) = q4 (a' &&& 51) (b' &&& 51) (c' &&& 51) (d' &&& 51) := by
      rw [tn_and, m2, u1, q4_and a2 b2 c2 _ (by omega)]
    unfold bc2
    unfold g2 at a3 b3 c3 d3
    rw [tn_add, s1, s2]
    · unfold g2 q4; omega
    · rw [s1, s2]; unfold q4; omega
  have u3 : tn (bc3 (bc2 x)) = q4 (g3 (g2 (g1 a))) (g3 (g2 (g1 b))) (g3 (g2 (g1 c))) (g3 (g2 (g1 d))) := by
    generalize g2 (g1 a) = a' at *
    generalize g2 (g1 b) = b' at *
    generalize g2 (g1 c) = c' at *
    generalize g2 (g1 d) = d' at *
    unfold bc3
    have s1 : tn (us (bc2 x) 4) = q4 (a' / 16 + 16 * (b' % 16)) (b' / 16 + 16 * (c' % 16)) (c' / 16 + 16 * (d' % 16)) (d' / 16 + 16 * (0 % 16)) := by
      rw [show (4 : Int32) = Int32.ofNat 4 from rfl, tn_us _ (by omega), u2]; unfold q4; omega
    have s2 : tn (bc2 x + us (bc2 x) 4) = q4 (a' + a' / 16 + 16 * (b' % 16)) (b' + b' / 16 + 16 * (c' % 16)) (c' + c' / 16 + 16 * (d' % 16)) (d' + d' / 16 + 16 * (0 % 16)) := by
      rw [tn_add, s1, u2]
      · unfold q4; omega
      · rw [s1, u2]; unfold q4; omega
    rw [tn_and, s2, m3, q4_and (by omega) (by omega) (by omega) _ (by omega), g_3 a3, g_3 b3, g_3 c3, g_3 d3]
  generalize g3 (g2 (g1 a)) = a' at *
  generalize g3 (g2 (g1 b)) = b' at *
  generalize g3 (g2 (g1 c)) = c' at *
  generalize g3 (g2 (g1 d)) = d' at *
  have u4 : tn (bc4 (bc2 x)) = q4 (a' + b') (b' + c') (c' + d') d' := by
    unfold bc4
    have s1 : tn (us (bc3 (bc2 x)) 8) = q4 b' c' d' 0 := by
      rw [show (8 : Int32) = Int32.ofNat 8 from rfl, tn_us _ (by omega), u3]; unfold q4; omega
    rw [tn_add, s1, u3]
    · unfold q4; omega
    · rw [s1, u3]; unfold q4; omega
  have u5 : tn (bc5 (bc2 x)) = q4 (a' + b' + (c' + d')) (b' + c' + d') (c' + d') d' := by
    unfold bc5
    have s1 : tn (us (bc4 (bc2 x)) 16) = q4 (c' + d') d' 0 0 := by
      rw [show (16 : Int32) = Int32.ofNat 16 from rfl, tn_us _ (by omega), u4]; unfold q4; omega
    rw [tn_add, s1, u4]
    · unfold q4; omega
    · rw [s1, u4]; unfold q4; omega
  apply tn_inj
  have m4 : tn 63 = 2 ^ 6 - 1 := by decide +kernel
  rw [tn_and, u5, m4, Nat.and_two_pow_sub_one_eq_mod, tn_of (by omega), hp]
  unfold q4
  omega
/-- the value x, the state as it was -/
abbrev Vx (x : Int32) (S : St) : Int32 → St → Prop := fun v S1 => v = x ∧ S = S1
def bi (p : Bool) : Int32 := if p = true then 1 else 0
theorem bi0 {p : Bool} : bi p = 0 ↔ p = false := by cases p <;> decide
theorem bi1 {p : Bool} : ¬ bi p = 0 ↔ p = true := by cases p <;> decide
theorem bi01 (p : Bool) : bi p = 0 ∨ bi p = 1 := by cases p <;> decide
section SMALL
variable {d b : Nat} {S : St}
theorem s0 (x : Int32) : Wp d b 0 0 [.int x] [] S (Ri (Vx (Int32.ofNat (pcn x)) S)) :=
  b0_0 (b0_26 (b0_51 ⟨_, rfl, bc_main x, rfl⟩))
theorem s146 (x : Int32) {r : Nat} (hr : r < 32) : Wp d b 146 0 [.int x, .int (Int32.ofNat r)] [] S (Ri (Vx (bi (tb x r)) S)) := by
  refine b146_0 (fun h => b146_12 (b146_13 (Or.inl rfl) ⟨_, rfl, ?_, rfl⟩)) (fun h => b146_8 (b146_13 (Or.inr rfl) ⟨_, rfl, ?_, rfl⟩))
  · rw [(has0 x hr).1 h]; rfl
  · cases e : tb x r
    · exact absurd ((has0 x hr).2 e) h
    · rfl
theorem s148 (x : Int32) : Wp (d + 1) b 148 0 [.int x] [] S (Ri (Vx (Int32.ofNat (pcn ((x &&& -x) - 1))) S)) := by
  refine b148_0 (s0 _) ?_
  rintro _ _ ⟨rfl, rfl⟩
  exact b148_9 ⟨_, rfl, rfl, rfl⟩
theorem pcn_mask {l : Nat} (h : l < 32) : pcn (bit l - 1) = l := by
  have : ∀ r : Fin 32, pcn (bit r.val - 1) = r.val := by decide +kernel
  exact this ⟨l, h⟩
theorem least_eq {x : Int32} {l : Nat} (h : tb x l = true) (hl : ∀ j, j < l → tb x j = false) : pcn ((x &&& -x) - 1) = l := by
  rw [low1 h hl, pcn_mask (tb_lt h)]
theorem s148l {x : Int32} {l : Nat} (h : tb x l = true) (hl : ∀ j, j < l → tb x j = false) : Wp (d + 1) b 148 0 [.int x] [] S (Ri (Vx (Int32.ofNat l) S)) := by
  have := s148 (d := d) (b := b) (S := S) x
  rw [least_eq h hl] at this
  exact this
theorem s147a {i : Nat} (hi : i < 2147483648) : Wp d b 147 0 [.ref 15, .int (Int32.ofNat i)] [] S (Ri (Vx (if i < 80 then S.2.1 15 i else 0) S)) := by
  refine b147a_0 (fun h => absurd h (i_nneg hi)) (fun _ => b147a_4 (fun h => b147a_16 (b147a_17 ⟨_, rfl, ?_, rfl⟩)) (fun h => b147a_10 (i_vp ?_ (by omega)) (b147a_17 ⟨_, rfl, ?_, rfl⟩)))
  · rw [if_neg (by have := (i_le (a := 80) (by omega) hi).1 h; omega)]
  · have := mt (i_le (a := 80) (by omega) hi).2 h; omega
  · rw [i_cl hi, if_pos (by have := mt (i_le (a := 80) (by omega) hi).2 h; omega)]
theorem s147b {i : Nat} (hi : i < 2147483648) : Wp d b 147 0 [.ref 16, .int (Int32.ofNat i)] [] S (Ri (Vx (if i < 20 then S.2.1 16 i else 0) S)) := by
  refine b147b_0 (fun h => absurd h (i_nneg hi)) (fun _ => b147b_4 (fun h => b147b_16 (b147b_17 ⟨_, rfl, ?_, rfl⟩)) (fun h => b147b_10 (i_vp ?_ (by omega)) (b147b_17 ⟨_, rfl, ?_, rfl⟩)))
  · rw [if_neg (by have := (i_le (a := 20) (by omega) hi).1 h; omega)]
  · have := mt (i_le (a := 20) (by omega) hi).2 h; omega
  · rw [i_cl hi, if_pos (by have := mt (i_le (a := 20) (by omega) hi).2 h; omega)]
theorem s147c {i : Nat} (hi : i < 2147483648) : Wp d b 147 0 [.ref 19, .int (Int32.ofNat i)] [] S (Ri (Vx (if i < 80 then S.2.1 19 i else 0) S)) := by
  refine b147c_0 (fun h => absurd h (i_nneg hi)) (fun _ => b147c_4 (fun h => b147c_16 (b147c_17 ⟨_, rfl, ?_, rfl⟩)) (fun h => b147c_10 (i_vp ?_ (by omega)) (b147c_17 ⟨_, rfl, ?_, rfl⟩)))
  · rw [if_neg (by have := (i_le (a := 80) (by omega) hi).1 h; omega)]
  · have := mt (i_le (a := 80) (by omega) hi).2 h; omega
  · rw [i_cl hi, if_pos (by have := mt (i_le (a := 80) (by omega) hi).2 h; omega)]
theorem s147d {i : Nat} (hi : i < 2147483648) : Wp d b 147 0 [.ref 23, .int (Int32.ofNat i)] [] S (Ri (Vx (if i < 20 then S.2.1 23 i else 0) S)) := by
  refine b147d_0 (fun h => absurd h (i_nneg hi)) (fun _ => b147d_4 (fun h => b147d_16 (b147d_17 ⟨_, rfl, ?_, rfl⟩)) (fun h => b147d_10 (i_vp ?_ (by omega)) (b147d_17 ⟨_, rfl, ?_, rfl⟩)))
  · rw [if_neg (by have := (i_le (a := 20) (by omega) hi).1 h; omega)]
  · have := mt (i_le (a := 20) (by omega) hi).2 h; omega
  · rw [i_cl hi, if_pos (by have := mt (i_le (a := 20) (by omega) hi).2 h; omega)]
theorem s147e {i : Nat} (hi : i < 2147483648) : Wp d b 147 0 [.ref 24, .int (Int32.ofNat i)] [] S (Ri (Vx (if i < 20 then S.2.1 24 i else 0) S)) := by
  refine b147e_0 (fun h => absurd h (i_nneg hi)) (fun _ => b147e_4 (fun h => b147e_16 (b147e_17 ⟨_, rfl, ?_, rfl⟩)) (fun h => b147e_10 (i_vp ?_ (by omega)) (b147e_17 ⟨_, rfl, ?_, rfl⟩)))
  · rw [if_neg (by have := (i_le (a := 20) (by omega) hi).1 h; omega)]
  · have := mt (i_le (a := 20) (by omega) hi).2 h; omega
  · rw [i_cl hi, if_pos (by have := mt (i_le (a := 20) (by omega) hi).2 h; omega)]
theorem s147f {i : Nat} (hi : i < 2147483648) : Wp d b 147 0 [.ref 25, .int (Int32.ofNat i)] [] S (Ri (Vx (if i < 20 then S.2.1 25 i else 0) S)) := by
  refine b147f_0 (fun h => absurd h (i_nneg hi)) (fun _ => b147f_4 (fun h => b147f_16 (b147f_17 ⟨_, rfl, ?_, rfl⟩)) (fun h => b147f_10 (i_vp ?_ (by omega)) (b147f_17 ⟨_, rfl, ?_, rfl⟩)))
  · rw [if_neg (by have := (i_le (a := 20) (by omega) hi).1 h; omega)]
  · have := mt (i_le (a := 20) (by omega) hi).2 h; omega
  · rw [i_cl hi, if_pos (by have := mt (i_le (a := 20) (by omega) hi).2 h; omega)]
theorem s147g {i : Nat} (hi : i < 2147483648) : Wp d b 147 0 [.ref 26, .int (Int32.ofNat i)] [] S (Ri (Vx (if i < 300 then S.2.1 26 i else 0) S)) := by
  refine b147g_0 (fun h => absurd h (i_nneg hi)) (fun _ => b147g_4 (fun h => b147g_16 (b147g_17 ⟨_, rfl, ?_, rfl⟩)) (fun h => b147g_10 (i_vp ?_ (by omega)) (b147g_17 ⟨_, rfl, ?_, rfl⟩)))
  · rw [if_neg (by have := (i_le (a := 300) (by omega) hi).1 h; omega)]
  · have := mt (i_le (a := 300) (by omega) hi).2 h; omega
  · rw [i_cl hi, if_pos (by have := mt (i_le (a := 300) (by omega) hi).2 h; omega)]
theorem s147h {i : Nat} (hi : i < 2147483648) : Wp d b 147 0 [.ref 28, .int (Int32.ofNat i)] [] S (Ri (Vx (if i < 20 then S.2.1 28 i else 0) S)) := by
  refine b147h_0 (fun h => absurd h (i_nneg hi)) (fun _ => b147h_4 (fun h => b147h_16 (b147h_17 ⟨_, rfl, ?_, rfl⟩)) (fun h => b147h_10 (i_vp ?_ (by omega)) (b147h_17 ⟨_, rfl, ?_, rfl⟩)))
  · rw [if_neg (by have := (i_le (a := 20) (by omega) hi).1 h; omega)]
  · have := mt (i_le (a := 20) (by omega) hi).2 h; omega
  · rw [i_cl hi, if_pos (by have := mt (i_le (a := 20) (by omega) hi).2 h; omega)]
theorem s147i {i : Nat} (hi : i < 2147483648) : Wp d b 147 0 [.ref 30, .int (Int32.ofNat i)] [] S (Ri (Vx (if i < 20 then S.2.1 30 i else 0) S)) := by
  refine b147i_0 (fun h => absurd h (i_nneg hi)) (fun _ => b147i_4 (fun h => b147i_16 (b147i_17 ⟨_, rfl, ?_, rfl⟩)) (fun h => b147i_10 (i_vp ?_ (by omega)) (b147i_17 ⟨_, rfl, ?_, rfl⟩)))
  · rw [if_neg (by have := (i_le (a := 20) (by omega) hi).1 h; omega)]
  · have := mt (i_le (a := 20) (by omega) hi).2 h; omega
  · rw [i_cl hi, if_pos (by have := mt (i_le (a := 20) (by omega) hi).2 h; omega)]
theorem s147j {i : Nat} (hi : i < 2147483648) : Wp d b 147 0 [.ref 31, .int (Int32.ofNat i)] [] S (Ri (Vx (if i < 20 then S.2.1 31 i else 0) S)) := by
  refine b147j_0 (fun h => absurd h (i_nneg hi)) (fun _ => b147j_4 (fun h => b147j_16 (b147j_17 ⟨_, rfl, ?_, rfl⟩)) (fun h => b147j_10 (i_vp ?_ (by omega)) (b147j_17 ⟨_, rfl, ?_, rfl⟩)))
  · rw [if_neg (by have := (i_le (a := 20) (by omega) hi).1 h; omega)]
  · have := mt (i_le (a := 20) (by omega) hi).2 h; omega
  · rw [i_cl hi, if_pos (by have := mt (i_le (a := 20) (by omega) hi).2 h; omega)]
theorem s147k {i : Nat} (hi : i < 2147483648) : Wp d b 147 0 [.ref 35, .int (Int32.ofNat i)] [] S (Ri (Vx (if i < 861 then S.2.1 35 i else 0) S)) := by
  refine b147k_0 (fun h => absurd h (i_nneg hi)) (fun _ => b147k_4 (fun h => b147k_16 (b147k_17 ⟨_, rfl, ?_, rfl⟩)) (fun h => b147k_10 (i_vp ?_ (by omega)) (b147k_17 ⟨_, rfl, ?_, rfl⟩)))
  · rw [if_neg (by have := (i_le (a := 861) (by omega) hi).1 h; omega)]
  · have := mt (i_le (a := 861) (by omega) hi).2 h; omega
  · rw [i_cl hi, if_pos (by have := mt (i_le (a := 861) (by omega) hi).2 h; omega)]
theorem s147l {i : Nat} (hi : i < 2147483648) : Wp d b 147 0 [.ref 36, .int (Int32.ofNat i)] [] S (Ri (Vx (if i < 40 then S.2.1 36 i else 0) S)) := by
  refine b147l_0 (fun h => absurd h (i_nneg hi)) (fun _ => b147l_4 (fun h => b147l_16 (b147l_17 ⟨_, rfl, ?_, rfl⟩)) (fun h => b147l_10 (i_vp ?_ (by omega)) (b147l_17 ⟨_, rfl, ?_, rfl⟩)))
  · rw [if_neg (by have := (i_le (a := 40) (by omega) hi).1 h; omega)]
  · have := mt (i_le (a := 40) (by omega) hi).2 h; omega
  · rw [i_cl hi, if_pos (by have := mt (i_le (a := 40) (by omega) hi).2 h; omega)]
theorem s147m {i : Nat} (hi : i < 2147483648) : Wp d b 147 0 [.ref 37, .int (Int32.ofNat i)] [] S (Ri (Vx (if i < 20 then S.2.1 37 i else 0) S)) := by
  refine b147m_0 (fun h => absurd h (i_nneg hi)) (fun _ => b147m_4 (fun h => b147m_16 (b147m_17 ⟨_, rfl, ?_, rfl⟩)) (fun h => b147m_10 (i_vp ?_ (by omega)) (b147m_17 ⟨_, rfl, ?_, rfl⟩)))
  · rw [if_neg (by have := (i_le (a := 20) (by omega) hi).1 h; omega)]
  · have := mt (i_le (a := 20) (by omega) hi).2 h; omega
  · rw [i_cl hi, if_pos (by have := mt (i_le (a := 20) (by omega) hi).2 h; omega)]
theorem s147n {i : Nat} (hi : i < 2147483648) : Wp d b 147 0 [.ref 43, .int (Int32.ofNat i)] [] S (Ri (Vx (if i < 20 then S.2.1 43 i else 0) S)) := by
  refine b147n_0 (fun h => absurd h (i_nneg hi)) (fun _ => b147n_4 (fun h => b147n_16 (b147n_17 ⟨_, rfl, ?_, rfl⟩)) (fun h => b147n_10 (i_vp ?_ (by omega)) (b147n_17 ⟨_, rfl, ?_, rfl⟩)))
  · rw [if_neg (by have := (i_le (a := 20) (by omega) hi).1 h; omega)]
  · have := mt (i_le (a := 20) (by omega) hi).2 h; omega
  · rw [i_cl hi, if_pos (by have := mt (i_le (a := 20) (by omega) hi).2 h; omega)]
theorem s147o {i : Nat} (hi : i < 2147483648) : Wp d b 147 0 [.ref 44, .int (Int32.ofNat i)] [] S (Ri (Vx (if i < 20 then S.2.1 44 i else 0) S)) := by
  refine b147o_0 (fun h => absurd h (i_nneg hi)) (fun _ => b147o_4 (fun h => b147o_16 (b147o_17 ⟨_, rfl, ?_, rfl⟩)) (fun h => b147o_10 (i_vp ?_ (by omega)) (b147o_17 ⟨_, rfl, ?_, rfl⟩)))
  · rw [if_neg (by have := (i_le (a := 20) (by omega) hi).1 h; omega)]
  · have := mt (i_le (a := 20) (by omega) hi).2 h; omega
  · rw [i_cl hi, if_pos (by have := mt (i_le (a := 20) (by omega) hi).2 h; omega)]
theorem s153 {x l u : Int32} : Wp d b 153 0 [.int x, .int l, .int u] [] S (Ri (Vx (bi (decide (l ≤ x ∧ x ≤ u))) S)) := by
  refine b153_0 (fun h => b153_14 (b153_15 (Or.inl rfl) ⟨_, rfl, ?_, rfl⟩)) (fun h => b153_5 (fun h2 => b153_14 (b153_15 (Or.inl rfl) ⟨_, rfl, ?_, rfl⟩)) (fun h2 => b153_10 (b153_15 (Or.inr rfl) ⟨_, rfl, ?_, rfl⟩)))
  all_goals simp only [Int32.lt_iff_toInt_lt] at *
  · rw [decide_eq_false]; · rfl
    rintro ⟨h1, h2⟩; rw [Int32.le_iff_toInt_le] at h1; omega
  · rw [decide_eq_false]; · rfl
    rintro ⟨h1, h3⟩; rw [Int32.le_iff_toInt_le] at h3; omega
  · rw [decide_eq_true]; · rfl
    constructor <;> rw [Int32.le_iff_toInt_le] <;> omega
theorem s154 (x : Int32) {r : Nat} (hr : r < 32) : Wp d b 154 0 [.int x, .int (Int32.ofNat r)] [] S (Ri (Vx (bi (tb x r)) S)) := by
  refine b154_0 (fun h => b154_13 (b154_14 (Or.inl rfl) ⟨_, rfl, ?_, rfl⟩)) (fun h => b154_9 (b154_14 (Or.inr rfl) ⟨_, rfl, ?_, rfl⟩))
  · cases e : tb x r
    · rfl
    · exact absurd ((has1 x hr).2 e) h
  · rw [(has1 x hr).1 (Classical.not_not.1 h)]; rfl
theorem s155 (x : Int32) : Wp d b 155 0 [.int x] [] S (Ri (Vx (Int32.ofNat (pcn x)) S)) := by
  have L : ∀ k n s, pcn s = k → n + k = pcn x → Wp d b 155 4 [.int x, .int (Int32.ofNat n), .int s] [] S (Ri (Vx (Int32.ofNat (pcn x)) S)) := by
    intro k
    induction k with
    | zero =>
      intro n s h1 h2
      refine b155_4 (fun _ => b155_20 ⟨_, rfl, ?_, rfl⟩) (fun h => absurd (pcn_drop h) (by omega))
      rw [← h2]; rfl
    | succ k ih =>
      intro n s h1 h2
      refine b155_4 (fun h => ?_) (fun h => b155_8 ?_)
      · rw [h, pcn_zero] at h1; omega
      · rw [i_suc]
        exact ih (n + 1) _ (by have := pcn_drop h; omega) (by omega)
  exact b155_0 (L _ 0 x rfl (by omega))
theorem s156 {x : Int32} {l : Nat} (h : tb x l = true) (hl : ∀ j, j < l → tb x j = false) : Wp (d + 1) b 156 0 [.int x] [] S (Ri (Vx (Int32.ofNat l) S)) := by
  have hl32 := tb_lt h
  have L : ∀ k n, n + k = l → Wp (d + 1) b 156 2 [.int x, .int (Int32.ofNat n)] [] S (Ri (Vx (Int32.ofNat l) S)) := by
    intro k
    induction k with
    | zero =>
      intro n h1
      have : n = l := by omega
      subst this
      refine b156_2 (s154 x hl32) ?_
      rintro _ _ ⟨rfl, rfl⟩
      rw [h]
      exact b156_7 (fun _ => b156_16 ⟨_, rfl, rfl, rfl⟩) (fun q => absurd q (by decide))
    | succ k ih =>
      intro n h1
      refine b156_2 (s154 x (by omega)) ?_
      rintro _ _ ⟨rfl, rfl⟩
      rw [hl n (by omega)]
      refine b156_7 (fun q => absurd q (by decide)) (fun _ => b156_10 ?_)
      rw [i_suc]
      exact ih (n + 1) (by omega)
  exact b156_0 (L l 0 (by omega))
end SMALL
