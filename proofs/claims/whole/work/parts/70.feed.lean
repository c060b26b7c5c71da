/-! THE TAPE: feeding -/
/-- the class's tape, n bytes -/
def CTp (n : Nat) (by_ : Nat → Int32) (S : St) : Prop := S.1 1 1 = Int32.ofNat n ∧ n ≤ 400 ∧ ∀ i, i < n → S.2.1 14 i &&& 255 = by_ i
/-- the reference's -/
def MTp (n : Nat) (by_ : Nat → Int32) (S : St) : Prop := S.1 46 43 = Int32.ofNat n ∧ n ≤ 400 ∧ ∀ i, i < n → S.2.1 64 i = by_ i
theorem CTp.of {n : Nat} {y : Nat → Int32} {fs : List (Nat × Nat)} {as : List Nat} {S S1 : St} (h : CTp n y S) (hF : Fz fs as S S1) (q : (1, 1) ∉ fs ∧ 14 ∉ as) : CTp n y S1 := ⟨(hF.f q.1).trans h.1, h.2.1, fun i hi => by rw [hF.a q.2]; exact h.2.2 i hi⟩
theorem MTp.of {n : Nat} {y : Nat → Int32} {fs : List (Nat × Nat)} {as : List Nat} {S S1 : St} (h : MTp n y S) (hF : Fz fs as S S1) (q : (46, 43) ∉ fs ∧ 64 ∉ as) : MTp n y S1 := ⟨(hF.f q.1).trans h.1, h.2.1, fun i hi => (hF.a q.2 i).trans (h.2.2 i hi)⟩
/-- one byte of four -/
def byt (x : Int32) (i : Nat) : Int32 := (x >>> (Int32.ofNat (24 - 8 * i) &&& 31)) &&& 255
theorem tb_255 {k : Nat} (hk : k < 32) : tb 255 k = decide (k < 8) := by
  have : ∀ k : Fin 32, tb 255 k.val = decide (k.val < 8) := by decide +kernel
  exact this ⟨k, hk⟩
theorem tb_byte (y : Int32) {k : Nat} (hk : k < 8) : tb (y.toInt8.toInt32) k = tb y k := by
  show ((y.toBitVec.signExtend 8).signExtend 32).getLsbD k = y.toBitVec.getLsbD k
  rw [BitVec.getLsbD_signExtend, BitVec.getLsbD_signExtend]
  rw [decide_eq_true (by omega : k < 32), decide_eq_true hk, if_pos hk, if_pos (by omega), Bool.true_and, Bool.true_and]
theorem tb_us (x : Int32) {s k : Nat} (hs : s < 32) : tb (us x (Int32.ofNat s)) k = tb x (s + k) := by
  show (tn (us x (Int32.ofNat s))).testBit k = (tn x).testBit (s + k)
  rw [tn_us x hs, Nat.testBit_div_two_pow, Nat.add_comm]
theorem byte_eq (x : Int32) {i : Nat} (hi : i < 4) : (((us x (Int32.ofNat (24 - 8 * i))).toInt8.toInt32).toInt8.toInt32) &&& 255 = byt x i := by
  apply tb_ext
  intro k hk
  unfold byt
  rw [tb_and, tb_and, tb_255 hk]
  by_cases h : k < 8
  · rw [decide_eq_true h, Bool.and_true, Bool.and_true, tb_byte _ h, tb_byte _ h, tb_us x (by omega), tb_shr x (by omega), decide_eq_true hk, Bool.true_and, if_pos (by omega)]
  · rw [decide_eq_false h, Bool.and_false, Bool.and_false]
section FEED
variable {b n : Nat} {y : Nat → Int32}
def addB (y : Nat → Int32) (n : Nat) (x : Int32) : Nat → Int32 := fun i => if i < n then y i else byt x (i - n)
theorem c49 {d : Nat} {S : St} {x : Int32} {Q : Out → St → Prop} (hT : CTp n y S) (hn : n + 4 ≤ 400) (K : ∀ S1, Fz [(1, 1)] [14] S S1 → CTp (n + 4) (addB y n x) S1 → Q (.inl none) S1) : Wp d b 49 0 [.ref 1, .int x] [] S Q := by
  obtain ⟨h1, h2, h3⟩ := hT
  have loop : ∀ k i S', i + k = 4 → Fz [(1, 1)] [14] S S' → CTp (n + i) (addB y n x) S' → ∀ x2, x2 = Int32.ofNat 24 - Int32.ofNat (8 * i) → Wp d b 49 3 [.ref 1, .int x, .int x2] [] S' Q := by
    intro k
    induction k with
    | zero =>
      rintro i S' hi hF hY x2 rfl
      have e : i = 4 := hi
      subst e
      exact b49_3 (fun _ => b49_48 (K S' hF hY)) (fun h => absurd (by decide) h)
    | succ k ih =>
      rintro i S' hi hF ⟨g1, g2, g3⟩ x2 rfl
      rw [i_sub (by omega)]
      refine b49_3 (fun h => absurd h (i_nneg (by omega))) (fun _ => b49_7 (fun h => ?_) (fun _ => b49_19 ?_ (b49_42 ?_)))
      · rw [g1] at h
        have := (i_le (a := 400) (by omega) (by omega)).1 h
        omega
      · rw [g1]; exact i_vp (by omega) (by omega)
      · show Wp d b 49 3 [.ref 1, .int x, .int (Int32.ofNat (24 - 8 * i) + -8)] [] (setI (setA S' 14 (S'.1 1 1).toNatClampNeg (((us x (Int32.ofNat (24 - 8 * i))).toInt8.toInt32).toInt8.toInt32)) 1 1 (S'.1 1 1 + 1)) Q
        rw [g1, i_cl (by omega), i_suc]
        refine ih (i + 1) _ (by omega) ((hF.seta (by decide)).seti (by decide)) ⟨by rw [seti_same]; rfl, by omega, fun j hj => ?_⟩ _ ?_
        · show (setA S' 14 (n + i) (((us x (Int32.ofNat (24 - 8 * i))).toInt8.toInt32).toInt8.toInt32)).2.1 14 j &&& 255 = _
          by_cases e : j = n + i
          · rw [e, seta_same, byte_eq x (by omega)]
            unfold addB
            rw [if_neg (by omega), show n + i - n = i by omega]
          · rw [seta_ne (by omega)]
            exact g3 j (by omega)
        · have : ∀ i : Fin 4, Int32.ofNat (24 - 8 * i.val) + -8 = Int32.ofNat 24 - Int32.ofNat (8 * (i.val + 1)) := by decide +kernel
          exact this ⟨i, by omega⟩
  refine b49_0 (loop 4 0 S (by omega) Fz.refl ⟨h1, h2, fun i hi => ?_⟩ 24 (by decide))
  have hi : i < n := hi
  unfold addB
  rw [if_pos hi]
  exact h3 i hi
/-- all that is fed -/
def fedB (y : Nat → Int32) (n : Nat) (w : Nat → Int32) : Nat → Int32 := fun i => if i < n then y i else byt (w ((i - n) / 4)) ((i - n) % 4)
def five (a1 a2 a3 a4 a5 : Int32) (k : Nat) : Int32 := if k = 0 then a1 else if k = 1 then a2 else if k = 2 then a3 else if k = 3 then a4 else a5
theorem c100 {d : Nat} {S : St} {a1 a2 a3 a4 a5 : Int32} {Q : Out → St → Prop} (hT : CTp n y S) (K1 : 380 < n → Q (.inl (some (.int (-1)))) S) (K0 : n ≤ 380 → ∀ S1, Fz [(1, 1)] [14] S S1 → CTp (n + 20) (fedB y n (five a1 a2 a3 a4 a5)) S1 → Q (.inl (some (.int (Int32.ofNat (n + 20))))) S1) : Wp (d + 1) b 100 0 [.ref 0, .int a1, .int a2, .int a3, .int a4, .int a5] [] S Q := by
  have h1 := hT.1
  have h2 := hT.2.1
  have e20 : S.1 1 1 + 20 = Int32.ofNat (n + 20) := by rw [h1, show (20 : Int32) = Int32.ofNat 20 from rfl, i_add]
  refine b100_0 (fun h => ?_) (fun h => b100_16 (K1 ?_))
  · rw [e20] at h
    have hn := (i_le (b := 400) (by omega) (by omega)).1 h
    have nx : ∀ (k : Nat) (z : Nat → Int32) (a : Int32) (S' : St) , Fz [(1, 1)] [14] S S' → CTp (n + k) z S' → k + 4 ≤ 20 → Wp d 0 49 0 [.ref 1, .int a] [] S' (Rv (fun S1 => Fz [(1, 1)] [14] S S1 ∧ CTp (n + (k + 4)) (addB z (n + k) a) S1)) := fun k z a S' hF hT' hk => c49 hT' (by omega) (fun S1 h1 h2 => ⟨rfl, hF.trans h1, h2⟩)
    refine b100_18 (nx 0 y a1 S Fz.refl hT (by omega)) ?_
    rintro S1 ⟨f1, t1⟩
    refine b100_26 (nx 4 _ a2 S1 f1 t1 (by omega)) ?_
    rintro S2 ⟨f2, t2⟩
    refine b100_34 (nx 8 _ a3 S2 f2 t2 (by omega)) ?_
    rintro S3 ⟨f3, t3⟩
    refine b100_42 (nx 12 _ a4 S3 f3 t3 (by omega)) ?_
    rintro S4 ⟨f4, t4⟩
    refine b100_51 (nx 16 _ a5 S4 f4 t4 (by omega)) ?_
    rintro S5 ⟨f5, t5⟩
    refine b100_60 ?_
    rw [t5.1]
    refine K0 (by omega) S5 f5 ⟨t5.1, t5.2.1, fun i hi => (t5.2.2 i hi).trans ?_⟩
    unfold addB fedB five
    by_cases q0 : i < n
    · rw [if_pos (by omega), if_pos (by omega), if_pos (by omega), if_pos (by omega), if_pos (by omega), if_pos q0]
    · rw [if_neg q0]
      by_cases q1 : i < n + 4
      · rw [if_pos (by omega), if_pos (by omega), if_pos (by omega), if_pos q1, if_neg (by omega), show (i - n) / 4 = 0 by omega, if_pos rfl, show (i - n) % 4 = i - (n + 0) by omega]
      · by_cases q2 : i < n + 8
        · rw [if_pos (by omega), if_pos (by omega), if_pos q2, if_neg q1, show (i - n) / 4 = 1 by omega, if_neg (by omega), if_pos rfl, show (i - n) % 4 = i - (n + 4) by omega]
        · by_cases q3 : i < n + 12
          · rw [if_pos (by omega), if_pos q3, if_neg q2, show (i - n) / 4 = 2 by omega, if_neg (by omega), if_neg (by omega), if_pos rfl, show (i - n) % 4 = i - (n + 8) by omega]
          · by_cases q4 : i < n + 16
            · rw [if_pos q4, if_neg q3, show (i - n) / 4 = 3 by omega, if_neg (by omega), if_neg (by omega), if_neg (by omega), if_pos rfl, show (i - n) % 4 = i - (n + 12) by omega]
            · rw [if_neg q4, show (i - n) / 4 = 4 by omega, if_neg (by omega), if_neg (by omega), if_neg (by omega), if_neg (by omega), show (i - n) % 4 = i - (n + 16) by omega]
  · rw [e20] at h
    have := mt (i_le (b := 400) (by omega) (by omega)).2 h
    omega
theorem w234 {d : Nat} {S : St} {a1 a2 a3 a4 a5 : Int32} {Q : Out → St → Prop} (hT : MTp n y S) (K1 : 380 < n → ∀ S1, Fz [(46, 4)] [] S S1 → Q (.inl (some (.int (-1)))) S1) (K0 : n ≤ 380 → ∀ S1, Fz [(46, 4), (46, 43)] [64] S S1 → MTp (n + 20) (fedB y n (five a1 a2 a3 a4 a5)) S1 → Q (.inl (some (.int (Int32.ofNat (n + 20))))) S1) : Wp d b 234 0 [.ref 46, .int a1, .int a2, .int a3, .int a4, .int a5] [] S Q := by
  obtain ⟨h1, h2, h3⟩ := hT
  have e20 : (setI S 46 4 0).1 46 43 + 20 = Int32.ofNat (n + 20) := by rw [seti_ne (by decide), h1, show (20 : Int32) = Int32.ofNat 20 from rfl, i_add]
  refine b234_0 (fun h => b234_20 ?_) (fun h => b234_18 (K1 ?_ _ (Fz.refl.seti (by decide))))
  · rw [e20] at h
    have hn := (i_le (b := 400) (by omega) (by omega)).1 h
    have loop : ∀ j k S', k + j = 20 → Fz [(46, 4), (46, 43)] [64] S S' → S'.1 46 43 = Int32.ofNat (n + k) → (∀ i, i < n + k → S'.2.1 64 i = fedB y n (five a1 a2 a3 a4 a5) i) → Wp d b 234 23 [.ref 46, .int a1, .int a2, .int a3, .int a4, .int a5, .int (Int32.ofNat k)] [] S' Q := by
      intro j
      induction j with
      | zero =>
        intro k S' hk hF g1 g2
        have e : k = 20 := hk
        subst e
        refine b234_23 (fun _ => b234_120 ?_) (fun h => absurd ((i_le (a := 20) (by omega) (by omega)).2 (by omega)) h)
        rw [g1]
        exact K0 (by omega) S' hF ⟨g1, by omega, g2⟩
      | succ j ih =>
        intro k S' hk hF g1 g2
        have put : ∀ v, v = five a1 a2 a3 a4 a5 (k / 4) → Wp d b 234 76 [.ref 46, .int a1, .int a2, .int a3, .int a4, .int a5, .int (Int32.ofNat k)] [.int v] S' Q := by
          rintro v rfl
          have em : (24 : Int32) - 8 * (Int32.ofNat k - Int32.ofNat k / 4 * 4) = Int32.ofNat (24 - 8 * (k % 4)) := by
            have := i_mod (n := k) (k := 4) (by omega) (by omega) (by omega)
            rw [show (4 : Int32) = Int32.ofNat 4 from rfl, this, show (8 : Int32) = Int32.ofNat 8 from rfl, i_mul, show (24 : Int32) = Int32.ofNat 24 from rfl, i_sub (by omega)]
          refine b234_76 (by decide) ?_ ?_
          · rw [g1]; exact i_vp (by omega) (by omega)
          · rw [em]
            refine b234_109 ?_
            show Wp d b 234 23 [.ref 46, .int a1, .int a2, .int a3, .int a4, .int a5, .int (Int32.ofNat k + 1)] [] (setI (setA S' 64 (S'.1 46 43).toNatClampNeg (byt (five a1 a2 a3 a4 a5 (k / 4)) (k % 4))) 46 43 (S'.1 46 43 + 1)) Q
            rw [g1, i_cl (by omega), i_suc, i_suc]
            refine ih (k + 1) _ (by omega) ((hF.seta (by decide)).seti (by decide)) seti_same (fun i hi => ?_)
            show (setA S' 64 (n + k) (byt (five a1 a2 a3 a4 a5 (k / 4)) (k % 4))).2.1 64 i = _
            by_cases e : i = n + k
            · rw [e, seta_same]
              unfold fedB
              rw [if_neg (by omega), show n + k - n = k by omega]
            · rw [seta_ne (by omega)]; exact g2 i (by omega)
        have le_ : ∀ c, c < 100 → (Int32.ofNat c ≤ Int32.ofNat k ↔ c ≤ k) := fun c hc => i_le (by omega) (by omega)
        refine b234_23 (fun h => ?_) (fun _ => b234_30 (fun q => b234_40 (fun q => b234_51 (fun q => b234_62 (fun q => b234_74 (put a5 ?_)) (fun q2 => b234_69 (put a4 ?_))) (fun q2 => b234_58 (put a3 ?_))) (fun q2 => b234_47 (put a2 ?_))) (fun q2 => b234_36 (put a1 ?_)))
        · have := (le_ 20 (by omega)).1 h
          omega
        · have := (le_ 16 (by omega)).1 q
          unfold five
          rw [show k / 4 = 4 by omega]; rfl
        · have c1 := mt (le_ 16 (by omega)).2 q2
          have := (le_ 12 (by omega)).1 ‹(12 : Int32) ≤ Int32.ofNat k›
          unfold five
          rw [show k / 4 = 3 by omega]; rfl
        · have c1 := mt (le_ 12 (by omega)).2 q2
          have := (le_ 8 (by omega)).1 ‹(8 : Int32) ≤ Int32.ofNat k›
          unfold five
          rw [show k / 4 = 2 by omega]; rfl
        · have c1 := mt (le_ 8 (by omega)).2 q2
          have := (le_ 4 (by omega)).1 ‹(4 : Int32) ≤ Int32.ofNat k›
          unfold five
          rw [show k / 4 = 1 by omega]; rfl
        · have c1 := mt (le_ 4 (by omega)).2 q2
          unfold five
          rw [show k / 4 = 0 by omega]; rfl
    exact loop 20 0 _ (by omega) (Fz.refl.seti (by decide)) ((seti_ne (by decide)).trans h1) (fun i hi => by have hi : i < n := hi; unfold fedB; rw [if_pos hi]; exact h3 i hi)
  · rw [e20] at h
    have := mt (i_le (b := 400) (by omega) (by omega)).2 h
    omega
end FEED
