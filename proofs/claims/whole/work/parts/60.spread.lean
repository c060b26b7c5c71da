/-! THE CLASS: the worthiest set -/
theorem bits_sum : ∀ (k n : Nat), n < 2 ^ k → n = sumN (fun r => if n.testBit r = true then 2 ^ r else 0) k := by
  intro k
  induction k with
  | zero => intro n h; show n = 0; omega
  | succ k ih =>
    intro n h
    have h1 := ih (n % 2 ^ k) (Nat.mod_lt _ (Nat.two_pow_pos k))
    have e1 : sumN (fun r => if (n % 2 ^ k).testBit r = true then 2 ^ r else 0) k = sumN (fun r => if n.testBit r = true then 2 ^ r else 0) k := by
      have : ∀ j, j ≤ k → sumN (fun r => if (n % 2 ^ k).testBit r = true then 2 ^ r else 0) j = sumN (fun r => if n.testBit r = true then 2 ^ r else 0) j := by
        intro j
        induction j with
        | zero => intro _; rfl
        | succ j ihj =>
          intro hj
          unfold sumN
          rw [ihj (by omega), Nat.testBit_mod_two_pow, decide_eq_true (by omega : j < k), Bool.true_and]
      exact this k (Nat.le_refl _)
    rw [e1] at h1
    show n = sumN _ k + (if n.testBit k = true then 2 ^ k else 0)
    have hd := Nat.div_add_mod n (2 ^ k)
    rw [Nat.pow_succ] at h
    have hlt : n / 2 ^ k < 2 := by
      rw [Nat.div_lt_iff_lt_mul (Nat.two_pow_pos k)]
      omega
    have ht : n.testBit k = decide (n / 2 ^ k % 2 = 1) := by
      rw [Nat.testBit_eq_decide_div_mod_eq]
    rw [ht]
    by_cases h0 : n / 2 ^ k = 0
    · rw [h0] at hd ⊢
      rw [if_neg (by decide)]
      omega
    · have : n / 2 ^ k = 1 := by
        generalize n / 2 ^ k = q at *
        omega
      rw [this] at hd ⊢
      rw [if_pos (by decide)]
      omega
theorem tn_sum {T : Int32} (h : Low 20 T) : tn T = sumN (fun r => if tb T r = true then 2 ^ r else 0) 20 := bits_sum 20 (tn T) (tn_low h)
/-- all weights of a set -/
def wS (w : Nat → Nat) (T : Int32) : Nat := sumN (fun r => if tb T r = true then w r else 0) 20
def wtI (w : Nat → Nat) (r : Nat) : Int := (w r : Int) * 1048576 - (2 ^ r : Nat)
theorem scw_eq (w : Nat → Nat) {T : Int32} (h : Low 20 T) : sc (wtI w) T = (wS w T : Int) * 1048576 - tn T := by
  rw [tn_sum h]
  unfold sc wS
  have : ∀ n, sumI (fun r => if tb T r = true then wtI w r else 0) n = (sumN (fun r => if tb T r = true then w r else 0) n : Int) * 1048576 - (sumN (fun r => if tb T r = true then 2 ^ r else 0) n : Nat) := by
    intro n
    induction n with
    | zero => show (0 : Int) = ((0 : Nat) : Int) * 1048576 - ((0 : Nat) : Int); omega
    | succ n ih =>
      unfold sumI sumN
      rw [ih]
      by_cases e : tb T n = true
      · rw [if_pos e, if_pos e, if_pos e]
        unfold wtI
        omega
      · rw [if_neg e, if_neg e, if_neg e]
        omega
  exact this 20
/-- the best: the greatest weight, of such sets the least number -/
def IsBest (ins : Int32) (bs : Nat → Int32) (w : Nat → Nat) (s : Int32) : Prop := sb s ins ∧ Ind bs s ∧ ∀ Y, sb Y ins → Ind bs Y → (wS w Y < wS w s ∨ (wS w Y = wS w s ∧ tn s ≤ tn Y))
theorem IsBest.uniq {ins : Int32} {bs : Nat → Int32} {w : Nat → Nat} {s t : Int32} (h : IsBest ins bs w s) (h2 : IsBest ins bs w t) : s = t := by
  have a := h.2.2 t h2.1 h2.2.1
  have b := h2.2.2 s h.1 h.2.1
  exact tn_inj (by omega)
theorem shl20 {w : Nat} (h : w < 2048) : Int32.ofNat w <<< ((20 : Int32) &&& 31) = Int32.ofNat (w * 1048576) := by
  apply tn_inj
  rw [tn_of (by omega)]
  show ((BitVec.ofNat 32 w) <<< ((((20 : Int32) &&& 31).toBitVec.smod 32))).toNat = _
  have e : (((20 : Int32) &&& 31).toBitVec.smod 32).toNat = 20 := by decide +kernel
  rw [BitVec.shiftLeft_eq', e, BitVec.toNat_shiftLeft, BitVec.toNat_ofNat, Nat.mod_eq_of_lt (by omega : w < 2 ^ 32), Nat.shiftLeft_eq]
  exact Nat.mod_eq_of_lt (by omega)
theorem shr20 {n : Nat} (h : n < 2147483648) : Int32.ofNat n >>> ((20 : Int32) &&& 31) = Int32.ofNat (n / 1048576) := by
  apply tb_ext
  intro k hk
  have := tb_shr (Int32.ofNat n) (r := 20) (k := k) (by omega)
  rw [show Int32.ofNat 20 = (20 : Int32) from rfl] at this
  rw [this, decide_eq_true hk, Bool.true_and]
  have tbn : ∀ (n j : Nat), n < 4294967296 → tb (Int32.ofNat n) j = n.testBit j := fun n j hn => by
    show (tn (Int32.ofNat n)).testBit j = _
    rw [tn_of hn]
  rw [tbn _ _ (by omega), tbn _ _ (by omega)]
  have e : (n / 1048576).testBit k = n.testBit (20 + k) := by
    rw [show (1048576 : Nat) = 2 ^ 20 from rfl, Nat.testBit_div_two_pow, Nat.add_comm]
  rw [e]
  by_cases h2 : 20 + k < 32
  · rw [if_pos h2]
  · rw [if_neg h2]
    have z : ∀ j, 31 ≤ j → n.testBit j = false := fun j hj => Nat.testBit_lt_two_pow (Nat.lt_of_lt_of_le h (Nat.pow_le_pow_right (n := 2) (by omega) hj))
    rw [z 31 (by omega), z (20 + k) (by omega)]
theorem bit_of {r : Nat} (h : r < 20) : bit r = Int32.ofNat (2 ^ r) := by
  have : ∀ r : Fin 20, bit r.val = Int32.ofNat (2 ^ r.val) := by decide +kernel
  exact this ⟨r, h⟩
theorem worth_eq {w r : Nat} (hw : w < 512) (hr : r < 20) : ((Int32.ofNat w <<< ((20 : Int32) &&& 31)) - ((1 : Int32) <<< (Int32.ofNat r &&& 31))).toInt = (w : Int) * 1048576 - (2 ^ r : Nat) := by
  show ((Int32.ofNat w <<< ((20 : Int32) &&& 31)) - bit r).toInt = _
  have hp : 2 ^ r ≤ 2 ^ 19 := Nat.pow_le_pow_right (n := 2) (by omega) (by omega)
  rw [shl20 (by omega), bit_of hr]
  generalize 2 ^ r = p at *
  rw [Int32.toInt_sub, i_toInt (by omega), i_toInt (by omega)]
  rw [Int.bmod_eq_of_le (by omega) (by omega)]
  omega
section SPREAD
variable {b : Nat} {ins : Int32} {bs : Nat → Int32} {w : Nat → Nat}
theorem c40 {d : Nat} {S : St} {r c : Nat} {x : Int32} {Q : Out → St → Prop} (hr : r < 20) (K : Q (.inl none) (setA (setA S 31 r ((Int32.ofNat c <<< ((20 : Int32) &&& 31)) - ((1 : Int32) <<< (Int32.ofNat r &&& 31)))) 32 r x)) : Wp d b 40 0 [.ref 8, .int (Int32.ofNat r), .int (Int32.ofNat c), .int x] [] S Q := by
  have vp := i_vp (k := r) (n := 20) hr (by omega)
  refine b40_0 (fun h => absurd h (i_nneg (by omega))) (fun _ => b40_4 (fun h => ?_) (fun _ => b40_10 vp vp (b40_31 ?_)))
  · have := (i_le (a := 20) (by omega) (by omega)).1 h
    omega
  · rw [i_cl (by omega)]
    exact K
theorem c43 {d : Nat} {S : St} {Q : Out → St → Prop} (h31 : ∀ r, r < 20 → (S.2.1 31 r).toInt = wtI w r) (K : Q (.inl (some (.int (mk (fun r => decide (0 < wtI w r)) 20)))) S) : Wp d b 43 0 [.ref 8] [] S Q := by
  have loop : ∀ k i, i + k = 20 → Wp d b 43 4 [.ref 8, .int (mk (fun r => decide (0 < wtI w r)) i), .int (Int32.ofNat i)] [] S Q := by
    intro k
    induction k with
    | zero =>
      intro i hi
      have e : i = 20 := by omega
      subst e
      exact b43_4 (fun _ => b43_31 K) (fun h => absurd ((i_le (a := 20) (by omega) (by omega)).2 (by omega)) h)
    | succ k ih =>
      intro i hi
      have vp := i_vp (k := i) (n := 20) (by omega) (by omega)
      have ih' := ih (i + 1) (by omega)
      have e31 : S.2.1 31 (Int32.ofNat i).toNatClampNeg = S.2.1 31 i := by rw [i_cl (by omega)]
      have z : (0 : Int32).toInt = 0 := by decide
      refine b43_4 (fun h => ?_) (fun _ => b43_10 vp (fun h => b43_25 ?_) (fun h => b43_19 (b43_25 ?_)))
      · have := (i_le (a := 20) (by omega) (by omega)).1 h
        omega
      all_goals
        rw [e31, Int32.le_iff_toInt_le, h31 i (by omega), z] at h
        rw [i_suc]
      · have e : mk (fun r => decide (0 < wtI w r)) (i + 1) = mk (fun r => decide (0 < wtI w r)) i := by
          show (if _ then _ else _) = _
          rw [if_neg (show ¬ decide (0 < wtI w i) = true from by rw [decide_eq_false (by omega)]; decide)]
        rw [e] at ih'
        exact ih'
      · have e : mk (fun r => decide (0 < wtI w r)) (i + 1) = mk (fun r => decide (0 < wtI w r)) i ||| bit i := by
          show (if _ then _ else _) = _
          rw [if_pos (show decide (0 < wtI w i) = true from decide_eq_true (by omega))]
        rw [e] at ih'
        exact ih'
  exact b43_0 (loop 20 0 (by omega))
/-- the score is that of the best set -/
def IsSc (ins : Int32) (bs : Nat → Int32) (w : Nat → Nat) (x : Int32) : Prop := ∃ s, IsBest ins bs w s ∧ x.toInt = (wS w s : Int) * 1048576 - tn s
theorem hv_best (hins : Low 20 ins) (hw0 : ∀ r, r < 20 → tb ins r = false → w r = 0) {v : Int} (h : HV bs (wtI w) (mk (fun r => decide (0 < wtI w r)) 20) v) : ∃ s, IsBest ins bs w s ∧ v = (wS w s : Int) * 1048576 - tn s := by
  have hWt : ∀ r, tb (mk (fun r => decide (0 < wtI w r)) 20) r = true ↔ (r < 20 ∧ 0 < wtI w r) := fun r => by
    rw [tb_mk _ (by omega)]
    simp
  have hWi : sb (mk (fun r => decide (0 < wtI w r)) 20) ins := fun r hr => by
    obtain ⟨a1, a2⟩ := (hWt r).1 hr
    refine bpos (fun e => ?_)
    unfold wtI at a2
    rw [hw0 r a1 e] at a2
    have : 0 < 2 ^ r := Nat.two_pow_pos r
    omega
  obtain ⟨⟨s, s1, s2, s3⟩, hmax⟩ := h
  have sl : Low 20 s := sb_low (s1.trans hWi) hins
  refine ⟨s, ⟨s1.trans hWi, s2, fun Y y1 y2 => ?_⟩, by rw [← s3, scw_eq w sl]⟩
  have yl : Low 20 Y := sb_low y1 hins
  have h1 := hmax (Y &&& mk (fun r => decide (0 < wtI w r)) 20) (sb_andr _ _) (y2.sub (sb_andl _ _))
  have h2 : sc (wtI w) Y ≤ sc (wtI w) (Y &&& mk (fun r => decide (0 < wtI w r)) 20) := by
    unfold sc
    have : ∀ n, n ≤ 20 → sumI (fun r => if tb Y r = true then wtI w r else 0) n ≤ sumI (fun r => if tb (Y &&& mk (fun r => decide (0 < wtI w r)) 20) r = true then wtI w r else 0) n := by
      intro n
      induction n with
      | zero => intro _; exact Int.le_refl _
      | succ n ih =>
        intro hn
        have := ih (by omega)
        unfold sumI
        by_cases e : tb Y n = true
        · rw [if_pos e]
          by_cases e2 : 0 < wtI w n
          · rw [if_pos (and_t.2 ⟨e, (hWt n).2 ⟨by omega, e2⟩⟩)]
            omega
          · rw [if_neg (fun q => e2 ((hWt n).1 (and_t.1 q).2).2)]
            omega
        · rw [if_neg e, if_neg (fun q => e (and_t.1 q).1)]
          omega
    exact this 20 (Nat.le_refl _)
  rw [scw_eq w yl] at h2
  rw [← s3, scw_eq w sl] at h1
  have t1 := tn_low yl
  have t2 := tn_low sl
  omega
theorem c41 {d : Nat} {S : St} {x : Int32} {s : Int32} (hs : Low 20 s) (hw : wS w s ≤ 900) (hx : x.toInt = (wS w s : Int) * 1048576 - tn s) (h0 : 0 ≤ x.toInt) : Wp d b 41 0 [.int x] [] S (Ri (Vx (Int32.ofNat (wS w s)) S)) := by
  have t := tn_low hs
  refine b41_0 ⟨_, rfl, ?_, rfl⟩
  have e : x + 1048576 - 1 = Int32.ofNat (wS w s * 1048576 + 1048575 - tn s) := by
    apply Int32.toInt.inj
    have l1 : (1048576 : Int32).toInt = 1048576 := by decide
    have l2 : (1 : Int32).toInt = 1 := by decide
    rw [Int32.toInt_sub, Int32.toInt_add, l1, l2, hx, i_toInt (by omega)]
    rw [Int.bmod_eq_of_le (n := (wS w s : Int) * 1048576 - tn s + 1048576) (by omega) (by omega), Int.bmod_eq_of_le (by omega) (by omega)]
    omega
  rw [e, shr20 (by omega)]
  congr 1
  omega
theorem c42 {d : Nat} {S : St} {x : Int32} {s : Int32} (hs : Low 20 s) (hw : wS w s ≤ 900) (hx : x.toInt = (wS w s : Int) * 1048576 - tn s) (h0 : 0 ≤ x.toInt) : Wp (d + 1) b 42 0 [.int x] [] S (Ri (Vx s S)) := by
  have t := tn_low hs
  refine b42_0 (c41 hs hw hx h0) ?_
  rintro _ _ ⟨rfl, rfl⟩
  refine b42_4 ⟨_, rfl, ?_, rfl⟩
  rw [shl20 (by omega)]
  apply Int32.toInt.inj
  have e2 : s.toInt = tn s := by
    conv => lhs; rw [← of_tn s]
    rw [i_toInt (by omega)]
  rw [Int32.toInt_sub, i_toInt (by omega), hx, e2]
  rw [Int.bmod_eq_of_le (by omega) (by omega)]
  omega
end SPREAD
