/-! ROWS OF WHOLE NUMBERS: parts, codes, turned rows -/
/-- the common part of four numbers -/
def gc (a : Nat → Int) : Nat := Nat.gcd (Nat.gcd (Nat.gcd (a 0).natAbs (a 1).natAbs) (a 2).natAbs) (a 3).natAbs
theorem dvd_gc {a : Nat → Int} {n : Nat} : n ∣ gc a ↔ ∀ k, k < 4 → n ∣ (a k).natAbs := by
  unfold gc
  rw [Nat.dvd_gcd_iff, Nat.dvd_gcd_iff, Nat.dvd_gcd_iff]
  constructor
  · rintro ⟨⟨⟨h0, h1⟩, h2⟩, h3⟩ k hk
    have : k = 0 ∨ k = 1 ∨ k = 2 ∨ k = 3 := by omega
    rcases this with rfl | rfl | rfl | rfl <;> assumption
  · intro h
    exact ⟨⟨⟨h 0 (by omega), h 1 (by omega)⟩, h 2 (by omega)⟩, h 3 (by omega)⟩
theorem gc_dvd (a : Nat → Int) {k : Nat} (hk : k < 4) : ((gc a : Nat) : Int) ∣ a k := Int.ofNat_dvd_left.2 (dvd_gc.1 (Nat.dvd_refl _) k hk)
def Nz (a : Nat → Int) : Prop := ∃ k, k < 4 ∧ ¬ a k = 0
theorem gc_pos {a : Nat → Int} (h : Nz a) : 0 < gc a := by
  obtain ⟨k, hk, h⟩ := h
  refine Nat.pos_of_ne_zero (fun z => h ?_)
  have := gc_dvd a hk
  rw [z] at this
  exact Int.zero_dvd.1 this
theorem gc_zero {a : Nat → Int} (h : gc a = 0) {k : Nat} (hk : k < 4) : a k = 0 := by
  have := gc_dvd a hk
  rw [h] at this
  exact Int.zero_dvd.1 this
/-- the row divided -/
def rd (a : Nat → Int) (k : Nat) : Int := a k / (gc a : Int)
theorem rd_mul (a : Nat → Int) {k : Nat} (hk : k < 4) : rd a k * (gc a : Int) = a k := Int.ediv_mul_cancel (gc_dvd a hk)
/-- all products crosswise are alike -/
def Par (a c : Nat → Int) : Prop := ∀ i k, i < 4 → k < 4 → a i * c k = a k * c i
theorem gc_scale (a : Nat → Int) (x : Int) : gc (fun k => x * a k) = x.natAbs * gc a := by
  unfold gc
  simp only [Int.natAbs_mul]
  rw [Nat.gcd_mul_left, Nat.gcd_mul_left, Nat.gcd_mul_left]
theorem gc_congr {a c : Nat → Int} (h : ∀ k, k < 4 → (a k).natAbs = (c k).natAbs) : gc a = gc c := by
  unfold gc
  rw [h 0 (by omega), h 1 (by omega), h 2 (by omega), h 3 (by omega)]
theorem par_abs {a c : Nat → Int} (h : Par a c) {i : Nat} (hi : i < 4) : (a i).natAbs * gc c = (c i).natAbs * gc a := by
  rw [← gc_scale, ← gc_scale]
  refine gc_congr (fun k hk => ?_)
  rw [h i k hi hk, Int.mul_comm]
/-- the same but for the sign -/
def Sg (v w : Nat → Int) : Prop := (∀ k, k < 4 → v k = w k) ∨ (∀ k, k < 4 → v k = - w k)
theorem par_rd {a c : Nat → Int} (ha : Nz a) (hc : Nz c) : Par a c ↔ Sg (rd a) (rd c) := by
  have pa := gc_pos ha
  have pc := gc_pos hc
  have ea : ((gc a : Nat) : Int) ≠ 0 := by omega
  have ec : ((gc c : Nat) : Int) ≠ 0 := by omega
  constructor
  · intro h
    obtain ⟨i, hi, hai⟩ := id ha
    have hci : ¬ c i = 0 := by
      intro z
      have := par_abs h hi
      rw [z, Int.natAbs_zero, Nat.zero_mul] at this
      rcases Nat.mul_eq_zero.1 this with q | q
      · exact hai (Int.natAbs_eq_zero.1 q)
      · omega
    have habs : (a i * (gc c : Int)).natAbs = (c i * (gc a : Int)).natAbs := by
      rw [Int.natAbs_mul, Int.natAbs_mul, Int.natAbs_natCast, Int.natAbs_natCast]
      exact par_abs h hi
    have key : ∀ s : Int, a i * (gc c : Int) = s * (c i * (gc a : Int)) → ∀ k, k < 4 → rd a k = s * rd c k := by
      intro s hs k hk
      have h1 : a k * (gc c : Int) = s * (c k * (gc a : Int)) := by
        apply Int.eq_of_mul_eq_mul_right hci
        have := h i k hi hk
        calc a k * (gc c : Int) * c i = (a k * c i) * (gc c : Int) := by rw [Int.mul_right_comm]
          _ = (a i * c k) * (gc c : Int) := by rw [this]
          _ = (a i * (gc c : Int)) * c k := by rw [Int.mul_right_comm]
          _ = s * (c i * (gc a : Int)) * c k := by rw [hs]
          _ = s * (c k * (gc a : Int)) * c i := by
            simp only [Int.mul_assoc, Int.mul_comm, Int.mul_left_comm]
      rw [← rd_mul a hk, ← rd_mul c hk] at h1
      apply Int.eq_of_mul_eq_mul_right ea
      apply Int.eq_of_mul_eq_mul_right ec
      rw [h1, Int.mul_assoc s, Int.mul_assoc s]
      congr 1
      rw [Int.mul_right_comm]
    rcases Int.natAbs_eq_natAbs_iff.1 habs with e | e
    · refine Or.inl (fun k hk => ?_)
      have := key 1 (by rw [e, Int.one_mul]) k hk
      rw [this, Int.one_mul]
    · refine Or.inr (fun k hk => ?_)
      have := key (-1) (by rw [e, Int.neg_mul, Int.one_mul]) k hk
      rw [this, Int.neg_mul, Int.one_mul]
  · intro h i k hi hk
    rw [← rd_mul a hi, ← rd_mul a hk, ← rd_mul c hi, ← rd_mul c hk]
    rcases h with h | h
    · rw [h i hi, h k hk]
      simp only [Int.mul_assoc, Int.mul_comm, Int.mul_left_comm]
    · rw [h i hi, h k hk]
      simp only [Int.neg_mul, Int.mul_neg, Int.mul_assoc, Int.mul_comm, Int.mul_left_comm]
/-- the code -/
def lin (v : Nat → Int) : Int := 6859 * v 0 + 361 * v 1 + 19 * v 2 + v 3
def B9 (v : Nat → Int) : Prop := ∀ k, k < 4 → -9 ≤ v k ∧ v k ≤ 9
theorem lin_inj {v w : Nat → Int} (hv : B9 v) (hw : B9 w) (h : lin v = lin w) : ∀ k, k < 4 → v k = w k := by
  have v0 := hv 0 (by omega)
  have v1 := hv 1 (by omega)
  have v2 := hv 2 (by omega)
  have v3 := hv 3 (by omega)
  have w0 := hw 0 (by omega)
  have w1 := hw 1 (by omega)
  have w2 := hw 2 (by omega)
  have w3 := hw 3 (by omega)
  unfold lin at h
  have e3 : v 3 = w 3 := by omega
  have e2 : v 2 = w 2 := by omega
  have e1 : v 1 = w 1 := by omega
  have e0 : v 0 = w 0 := by omega
  intro k hk
  have : k = 0 ∨ k = 1 ∨ k = 2 ∨ k = 3 := by omega
  rcases this with rfl | rfl | rfl | rfl <;> assumption
theorem lin_neg (v : Nat → Int) : lin (fun k => - v k) = - lin v := by
  show 6859 * (- v 0) + 361 * (- v 1) + 19 * (- v 2) + (- v 3) = - (6859 * v 0 + 361 * v 1 + 19 * v 2 + v 3)
  omega
def codeN (v : Nat → Int) : Nat := (lin v).natAbs
theorem code_iff {v w : Nat → Int} (hv : B9 v) (hw : B9 w) : codeN v = codeN w ↔ Sg v w := by
  unfold codeN
  rw [Int.natAbs_eq_natAbs_iff]
  constructor
  · rintro (h | h)
    · exact Or.inl (lin_inj hv hw h)
    · rw [← lin_neg] at h
      exact Or.inr (lin_inj hv (fun k hk => by have := hw k hk; omega) h)
  · rintro (h | h)
    · refine Or.inl ?_
      unfold lin
      rw [h 0 (by omega), h 1 (by omega), h 2 (by omega), h 3 (by omega)]
    · refine Or.inr ?_
      unfold lin
      rw [h 0 (by omega), h 1 (by omega), h 2 (by omega), h 3 (by omega)]
      omega
theorem code_le {v : Nat → Int} (hv : B9 v) : codeN v ≤ 65160 := by
  have v0 := hv 0 (by omega)
  have v1 := hv 1 (by omega)
  have v2 := hv 2 (by omega)
  have v3 := hv 3 (by omega)
  unfold codeN lin
  omega
theorem code_pos {v : Nat → Int} (hv : B9 v) (h : Nz v) : 0 < codeN v := by
  refine Nat.pos_of_ne_zero (fun z => ?_)
  obtain ⟨k, hk, h⟩ := h
  apply h
  refine lin_inj (w := fun _ => 0) hv (fun _ _ => by show -9 ≤ (0 : Int) ∧ (0 : Int) ≤ 9; omega) ?_ k hk
  unfold codeN at z
  have := Int.natAbs_eq_zero.1 z
  rw [this]; rfl
theorem rd_b9 {a : Nat → Int} (h : B9 a) : B9 (rd a) := by
  intro k hk
  have h1 := h k hk
  have e := rd_mul a hk
  by_cases z : gc a = 0
  · have : rd a k = 0 := by unfold rd; rw [z]; exact Int.ediv_zero _
    omega
  · have hg : (1 : Int) ≤ (gc a : Int) := by omega
    generalize (gc a : Int) = g at *
    generalize rd a k = x at *
    rw [← e] at h1
    constructor
    · refine Int.le_of_not_gt (fun q => ?_)
      have : x * g ≤ (-10) * g := Int.mul_le_mul_of_nonneg_right (by omega) (by omega)
      omega
    · refine Int.le_of_not_gt (fun q => ?_)
      have : 10 * g ≤ x * g := Int.mul_le_mul_of_nonneg_right (by omega) (by omega)
      omega
theorem rd_nz {a : Nat → Int} (h : Nz a) : Nz (rd a) := by
  obtain ⟨k, hk, h⟩ := h
  refine ⟨k, hk, fun z => h ?_⟩
  rw [← rd_mul a hk, z, Int.zero_mul]
theorem par_code {a c : Nat → Int} (ha : Nz a) (hc : Nz c) (h9 : B9 a) (g9 : B9 c) : Par a c ↔ codeN (rd a) = codeN (rd c) := by
  rw [par_rd ha hc, code_iff (rd_b9 h9) (rd_b9 g9)]
/-- a change of the sides: where each comes from, and whether it is turned -/
def dgt (q j : Nat) : Nat := q / 8 ^ j % 8
def act (q : Nat) (a : Nat → Int) : Nat → Int := fun j => if dgt q j % 2 = 1 then - a (dgt q j / 2) else a (dgt q j / 2)
abbrev GK (q : Nat) : Prop := ∀ k : Fin 4, ∃ j : Fin 4, dgt q j.val / 2 = k.val
theorem dgt_lt (q j : Nat) : dgt q j / 2 < 4 := by
  unfold dgt
  have := Nat.mod_lt (q / 8 ^ j) (show 8 > 0 by omega)
  omega
theorem act_abs (q : Nat) (a : Nat → Int) (j : Nat) : (act q a j).natAbs = (a (dgt q j / 2)).natAbs := by
  unfold act
  split
  · rw [Int.natAbs_neg]
  · rfl
theorem gc_act {q : Nat} (hq : GK q) (a : Nat → Int) : gc (act q a) = gc a := by
  apply Nat.dvd_antisymm
  · rw [dvd_gc]
    intro k hk
    obtain ⟨j, hj⟩ := hq ⟨k, hk⟩
    have := dvd_gc.1 (Nat.dvd_refl (gc (act q a))) j.val j.isLt
    rw [act_abs, hj] at this
    exact this
  · rw [dvd_gc]
    intro j hj
    rw [act_abs]
    exact dvd_gc.1 (Nat.dvd_refl (gc a)) _ (dgt_lt q j)
theorem rd_act {q : Nat} (hq : GK q) (a : Nat → Int) {j : Nat} : rd (act q a) j = act q (rd a) j := by
  have e := gc_act hq a
  have hd := gc_dvd a (dgt_lt q j)
  unfold rd
  rw [e]
  unfold act
  split
  · rw [Int.neg_ediv_of_dvd hd]
  · rfl
theorem act_b9 {q : Nat} {a : Nat → Int} (h : B9 a) : B9 (act q a) := by
  intro j _
  have := h _ (dgt_lt q j)
  unfold act
  split <;> omega
theorem act_nz {q : Nat} (hq : GK q) {a : Nat → Int} (h : Nz a) : Nz (act q a) := by
  obtain ⟨k, hk, h⟩ := h
  obtain ⟨j, hj⟩ := hq ⟨k, hk⟩
  refine ⟨j.val, j.isLt, fun z => h ?_⟩
  have := act_abs q a j.val
  rw [z, hj] at this
  exact Int.natAbs_eq_zero.1 this.symm
/-- how much each side weighs -/
def coef (q k : Nat) : Int := (if dgt q 0 / 2 = k then (if dgt q 0 % 2 = 1 then -6859 else 6859) else 0) + (if dgt q 1 / 2 = k then (if dgt q 1 % 2 = 1 then -361 else 361) else 0) + (if dgt q 2 / 2 = k then (if dgt q 2 % 2 = 1 then -19 else 19) else 0) + (if dgt q 3 / 2 = k then (if dgt q 3 % 2 = 1 then -1 else 1) else 0)
theorem one_coef (a : Nat → Int) (s : Nat) (hs : s < 4) (x : Int) : a 0 * (if s = 0 then x else 0) + a 1 * (if s = 1 then x else 0) + a 2 * (if s = 2 then x else 0) + a 3 * (if s = 3 then x else 0) = x * a s := by
  have : s = 0 ∨ s = 1 ∨ s = 2 ∨ s = 3 := by omega
  rcases this with rfl | rfl | rfl | rfl <;> simp [Int.mul_comm]
theorem lin_act (q : Nat) (a : Nat → Int) : lin (act q a) = a 0 * coef q 0 + a 1 * coef q 1 + a 2 * coef q 2 + a 3 * coef q 3 := by
  have t : ∀ (j : Nat) (x : Int), x * act q a j = (if dgt q j % 2 = 1 then -x else x) * a (dgt q j / 2) := by
    intro j x
    unfold act
    split
    · rw [Int.neg_mul, Int.mul_neg]
    · rfl
  unfold lin
  rw [t 0, t 1, t 2, show act q a 3 = 1 * act q a 3 from (Int.one_mul _).symm, t 3]
  rw [← one_coef a _ (dgt_lt q 0), ← one_coef a _ (dgt_lt q 1), ← one_coef a _ (dgt_lt q 2), ← one_coef a _ (dgt_lt q 3)]
  unfold coef
  simp only [Int.mul_add]
  omega
