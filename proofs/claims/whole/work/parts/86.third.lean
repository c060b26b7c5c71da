/-! COMMON PARTS AND THIRDS -/
section THIRD
variable {b D m : Nat} {ins : Int32} {nu : Nat → Nat → Int}
theorem i_div1 {n k : Nat} (h : n < 2147483648) (hk : 0 < k) (hk2 : k < 2147483648) : Int32.ofNat n / Int32.ofNat k = Int32.ofNat (n / k) := by
  apply ti_ext
  have hd : n / k < 2147483648 := Nat.lt_of_le_of_lt (Nat.div_le_self _ _) h
  rw [Int32.toInt_div_of_ne_right, i_toInt h, i_toInt hk2, i_toInt hd, Int.tdiv_eq_ediv_of_nonneg (by omega)]
  · rfl
  · intro q
    have := congrArg Int32.toInt q
    rw [i_toInt hk2] at this
    have e : (-1 : Int32).toInt = -1 := by decide
    omega
theorem i_mod1 {n k : Nat} (h : n < 2147483648) (hk : 0 < k) (hk2 : k < 2147483648) : Int32.ofNat n - Int32.ofNat n / Int32.ofNat k * Int32.ofNat k = Int32.ofNat (n % k) := by
  rw [i_div1 h hk hk2, i_mul, i_sub (Nat.div_mul_le_self n k)]
  congr 1
  have := Nat.div_add_mod n k
  rw [Nat.mul_comm] at this
  omega
theorem gcd_step (a c : Nat) : Nat.gcd a c = Nat.gcd c (a % c) := by
  rw [Nat.gcd_comm a c, Nat.gcd_rec c a, Nat.gcd_comm]
theorem half_mod {c r k : Nat} (hc : c < 2 * k) (hr : r < c) (h0 : 0 < r) : c % r < k := by
  by_cases q : r ≤ k
  · exact Nat.lt_of_lt_of_le (Nat.mod_lt _ h0) q
  · rw [Nat.mod_eq_sub_mod (by omega), Nat.mod_eq_of_lt (by omega)]
    omega
theorem c150 {d : Nat} {S : St} {x y : Int32} (hx : -1000000 ≤ x.toInt ∧ x.toInt ≤ 1000000) (hy : -1000000 ≤ y.toInt ∧ y.toInt ≤ 1000000) : Wp d b 150 0 [.int x, .int y] [] S (Ri (Vx (Int32.ofNat (Nat.gcd x.toInt.natAbs y.toInt.natAbs)) S)) := by
  have stop : ∀ a i g, Nat.gcd a 0 = g → Wp d b 150 13 [.int x, .int y, .int (Int32.ofNat a), .int (Int32.ofNat 0), .int (Int32.ofNat i)] [] S (Ri (Vx (Int32.ofNat g) S)) := by
    intro a i g hg
    rw [Nat.gcd_zero_right] at hg
    subst hg
    exact b150_13 (fun _ => b150_40 ⟨_, rfl, rfl, rfl⟩) (fun _ => b150_20 (fun _ => b150_40 ⟨_, rfl, rfl, rfl⟩) (fun q => absurd rfl q))
  have one : ∀ a c i g, a ≤ 1000000 → c ≤ 1000000 → ¬ c = 0 → i < 100 → Wp d b 150 13 [.int x, .int y, .int (Int32.ofNat c), .int (Int32.ofNat (a % c)), .int (Int32.ofNat (i + 1))] [] S (Ri (Vx (Int32.ofNat g) S)) → Wp d b 150 13 [.int x, .int y, .int (Int32.ofNat a), .int (Int32.ofNat c), .int (Int32.ofNat i)] [] S (Ri (Vx (Int32.ofNat g) S)) := by
    intro a c i g ha hc c0 hi h
    have ne : ¬ Int32.ofNat c = 0 := fun q => c0 ((i_inj (b := 0) (by omega) (by omega)).1 q)
    refine b150_13 (fun q => ?_) (fun _ => b150_20 (fun q => absurd q ne) (fun _ => b150_24 ne ?_))
    · have := (i_le (a := 100) (by omega) (by omega)).1 q
      omega
    · rw [i_mod1 (by omega) (by omega) (by omega), i_suc]
      exact h
  have loop : ∀ k a c i g, a ≤ 1000000 → c ≤ 1000000 → c < 2 ^ k → i + 2 * k ≤ 99 → Nat.gcd a c = g → Wp d b 150 13 [.int x, .int y, .int (Int32.ofNat a), .int (Int32.ofNat c), .int (Int32.ofNat i)] [] S (Ri (Vx (Int32.ofNat g) S)) := by
    intro k
    induction k with
    | zero =>
      intro a c i g ha hc' hc hi hg
      have hc : c = 0 := by rw [Nat.pow_zero] at hc; omega
      subst hc
      exact stop a i g hg
    | succ k ih =>
      intro a c i g ha hc' hc hi hg
      by_cases c0 : c = 0
      · subst c0
        exact stop a i g hg
      · have p2 : 2 ^ (k + 1) = 2 * 2 ^ k := by rw [Nat.pow_succ, Nat.mul_comm]
        rw [p2] at hc
        refine one a c i g ha hc' c0 (by omega) ?_
        have hr := Nat.mod_lt a (show c > 0 by omega)
        have hg1 : Nat.gcd c (a % c) = g := (gcd_step a c).symm.trans hg
        generalize a % c = r at *
        by_cases r0 : r = 0
        · subst r0
          exact stop c (i + 1) g hg1
        · refine one c r (i + 1) g hc' (by omega) r0 (by omega) ?_
          have hm := half_mod hc hr (by omega)
          have hm2 := Nat.mod_lt c (show r > 0 by omega)
          exact ih r (c % r) (i + 1 + 1) g (by omega) (by omega) hm (by omega) ((gcd_step c r).symm.trans hg1)
  refine b150_0 ?_
  rw [ti_abs (by omega), ti_abs (by omega)]
  exact loop 20 _ _ 0 _ (by omega) (by omega) (Nat.lt_of_le_of_lt (show y.toInt.natAbs ≤ 1000000 by omega) (by decide)) (by omega) rfl
theorem w209 {d : Nat} {S : St} {x y : Int32} (hx : -1000000 ≤ x.toInt ∧ x.toInt ≤ 1000000) (hy : -1000000 ≤ y.toInt ∧ y.toInt ≤ 1000000) : Wp d b 209 0 [.int x, .int y] [] S (Ri (Vx (Int32.ofNat (Nat.gcd x.toInt.natAbs y.toInt.natAbs)) S)) := by
  have loop : ∀ n a c g, c < n → a ≤ 1000000 → c ≤ 1000000 → Nat.gcd a c = g → Wp d b 209 10 [.int x, .int y, .int (Int32.ofNat a), .int (Int32.ofNat c)] [] S (Ri (Vx (Int32.ofNat g) S)) := by
    intro n
    induction n with
    | zero => intro a c g h; exact absurd h (Nat.not_lt_zero _)
    | succ n ih =>
      intro a c g hn ha hc hg
      by_cases c0 : c = 0
      · subst c0
        rw [Nat.gcd_zero_right] at hg
        subst hg
        exact b209_10 (fun _ => b209_27 ⟨_, rfl, rfl, rfl⟩) (fun q => absurd rfl q)
      · have ne : ¬ Int32.ofNat c = 0 := fun q => c0 ((i_inj (b := 0) (by omega) (by omega)).1 q)
        refine b209_10 (fun q => absurd q ne) (fun _ => b209_14 ne ?_)
        rw [i_mod1 (by omega) (by omega) (by omega)]
        have hr := Nat.mod_lt a (show c > 0 by omega)
        exact ih c (a % c) g (by omega) hc (by omega) ((gcd_step a c).symm.trans hg)
  refine b209_0 ?_
  rw [ti_abs (by omega), ti_abs (by omega)]
  exact loop _ _ _ _ (Nat.lt_succ_self _) (by omega) (by omega) rfl
/-- what stands upright on two -/
def cr (a c : Nat → Int) (k : Nat) : Int := if k = 0 then a 1 * c 2 - a 2 * c 1 else if k = 1 then a 2 * c 0 - a 0 * c 2 else if k = 2 then a 0 * c 1 - a 1 * c 0 else 0
def fst3 (u : Nat → Int) : Int := if ¬ u 0 = 0 then u 0 else if ¬ u 1 = 0 then u 1 else u 2
def th (a c : Nat → Int) (k : Nat) : Int := if fst3 (cr a c) < 0 then - rd (cr a c) k else rd (cr a c) k
theorem cr_b {a c : Nat → Int} (ha : B9 a) (hc : B9 c) (k : Nat) : -162 ≤ cr a c k ∧ cr a c k ≤ 162 := by
  have t : ∀ i j, i < 4 → j < 4 → -81 ≤ a i * c j ∧ a i * c j ≤ 81 := by
    intro i j hi hj
    have h1 := ha i hi
    have h2 := hc j hj
    generalize a i = x at *
    generalize c j = y at *
    obtain ⟨n, hn⟩ : ∃ n : Nat, x + 9 = n := ⟨(x + 9).toNat, by omega⟩
    have : x = (n : Int) - 9 := by omega
    have hn : n ≤ 18 := by omega
    subst this
    have : n = 0 ∨ n = 1 ∨ n = 2 ∨ n = 3 ∨ n = 4 ∨ n = 5 ∨ n = 6 ∨ n = 7 ∨ n = 8 ∨ n = 9 ∨ n = 10 ∨ n = 11 ∨ n = 12 ∨ n = 13 ∨ n = 14 ∨ n = 15 ∨ n = 16 ∨ n = 17 ∨ n = 18 := by omega
    rcases this with rfl | rfl | rfl | rfl | rfl | rfl | rfl | rfl | rfl | rfl | rfl | rfl | rfl | rfl | rfl | rfl | rfl | rfl | rfl <;> omega
  have := t 1 2 (by omega) (by omega)
  have := t 2 1 (by omega) (by omega)
  have := t 2 0 (by omega) (by omega)
  have := t 0 2 (by omega) (by omega)
  have := t 0 1 (by omega) (by omega)
  have := t 1 0 (by omega) (by omega)
  unfold cr
  repeat' split
  all_goals omega
theorem cr_nz {a c : Nat → Int} (ha : a 3 = 0) (hc : c 3 = 0) (h : ¬ Par a c) : Nz (cr a c) := by
  refine Classical.byContradiction (fun q => h ?_)
  have z : ∀ k, k < 4 → cr a c k = 0 := fun k hk => Classical.byContradiction (fun z => q ⟨k, hk, z⟩)
  have z0 : a 1 * c 2 - a 2 * c 1 = 0 := z 0 (by omega)
  have z1 : a 2 * c 0 - a 0 * c 2 = 0 := z 1 (by omega)
  have z2 : a 0 * c 1 - a 1 * c 0 = 0 := z 2 (by omega)
  intro i k hi hk
  have ei : i = 0 ∨ i = 1 ∨ i = 2 ∨ i = 3 := by omega
  have ek : k = 0 ∨ k = 1 ∨ k = 2 ∨ k = 3 := by omega
  rcases ei with rfl | rfl | rfl | rfl <;> rcases ek with rfl | rfl | rfl | rfl <;> (try rw [ha, hc, Int.mul_zero, Int.zero_mul]) <;> omega
theorem gc_cr (a c : Nat → Int) : gc (cr a c) = Nat.gcd (Nat.gcd (cr a c 0).natAbs (cr a c 1).natAbs) (cr a c 2).natAbs := by
  unfold gc
  rw [show cr a c 3 = 0 from rfl, Int.natAbs_zero, Nat.gcd_zero_right]
theorem gc_small {u : Nat → Int} {n : Nat} (hu : ∀ k, k < 4 → (u k).natAbs ≤ n) (h : Nz u) : gc u ≤ n := by
  obtain ⟨k, hk, hne⟩ := h
  have h1 := Int.natAbs_pos.2 hne
  have := Nat.le_of_dvd h1 (dvd_gc.1 (Nat.dvd_refl _) k hk)
  have := hu k hk
  omega
theorem c80 {d r o k l : Nat} {S : St} {Q : Out → St → Prop} (hm : m ≤ 20) (hR : RWd D m nu) (hT : Tld D m nu S) (hr : r < m) (ho : o < m) (hk : k < 4) (hl : l < 4) (K : ∀ x, x.toInt = nu r k * nu o l - nu r l * nu o k → Q (.inl (some (.int x))) S) : Wp (d + 2) b 80 0 [.ref 2, .int (Int32.ofNat r), .int (Int32.ofNat o), .int (Int32.ofNat k), .int (Int32.ofNat l)] [] S Q := by
  obtain ⟨r1, _, _⟩ := hR.1 r hr
  obtain ⟨o1, _, _⟩ := hR.1 o ho
  refine b80_0 (s72a (by omega) hk) ?_
  rintro _ _ ⟨rfl, rfl⟩
  refine b80_6 (s72a (by omega) hl) ?_
  rintro _ _ ⟨rfl, rfl⟩
  refine b80_13 (s72a (by omega) hl) ?_
  rintro _ _ ⟨rfl, rfl⟩
  refine b80_21 (s72a (by omega) hk) ?_
  rintro _ _ ⟨rfl, rfl⟩
  have e1 := hT.2.2.1 r k hr hk
  have e2 := hT.2.2.1 o l ho hl
  have e3 := hT.2.2.1 r l hr hl
  have e4 := hT.2.2.1 o k ho hk
  have m1 := mul_9 (r1 k hk) (o1 l hl)
  have m2 := mul_9 (r1 l hl) (o1 k hk)
  have t1 : (S.2.1 15 (4 * r + k) * S.2.1 15 (4 * o + l)).toInt = nu r k * nu o l := by
    rw [ti_mul (by rw [e1, e2]; omega) (by rw [e1, e2]; omega), e1, e2]
  have t2 : (S.2.1 15 (4 * r + l) * S.2.1 15 (4 * o + k)).toInt = nu r l * nu o k := by
    rw [ti_mul (by rw [e3, e4]; omega) (by rw [e3, e4]; omega), e3, e4]
  refine b80_27 (K _ ?_)
  rw [ti_sub (by rw [t1, t2]; omega) (by rw [t1, t2]; omega), t1, t2]
theorem ti_0 {x : Int32} : x = 0 ↔ x.toInt = 0 := ⟨fun h => by rw [h]; decide, fun h => ti_ext (h.trans (by decide))⟩
theorem c79 {d r o k : Nat} {S : St} {Q : Out → St → Prop} (hm : m ≤ 20) (hR : RWd 3 m nu) (hT : Tld 3 m nu S) (hr : r < m) (ho : o < m) (hro : ¬ r = o) (hk : k < 3) (K : ∀ x, x.toInt = th (nu r) (nu o) k → Q (.inl (some (.int x))) S) : Wp (d + 3) b 79 0 [.ref 2, .int (Int32.ofNat r), .int (Int32.ofNat o), .int (Int32.ofNat k)] [] S Q := by
  obtain ⟨r1, _, r3⟩ := hR.1 r hr
  obtain ⟨o1, _, o3⟩ := hR.1 o ho
  have nz : Nz (cr (nu r) (nu o)) := cr_nz (r3 3 (by omega)) (o3 3 (by omega)) (fun z => hro (hR.2 r o hr ho z))
  have cb := cr_b r1 o1
  have gp := gc_pos nz
  have gs : gc (cr (nu r) (nu o)) ≤ 162 := gc_small (fun k _ => by have := cb k; omega) nz
  refine b79_0 (P := fun x S1 => S = S1 ∧ x.toInt = cr (nu r) (nu o) 0) (c80 (k := 1) (l := 2) hm hR hT hr ho (by omega) (by omega) (fun x hx => ⟨_, rfl, rfl, hx⟩)) ?_
  rintro x _ ⟨rfl, hx⟩
  refine b79_8 (P := fun x S1 => S = S1 ∧ x.toInt = cr (nu r) (nu o) 1) (c80 (k := 2) (l := 0) hm hR hT hr ho (by omega) (by omega) (fun x hx => ⟨_, rfl, rfl, hx⟩)) ?_
  rintro y _ ⟨rfl, hy⟩
  refine b79_18 (P := fun x S1 => S = S1 ∧ x.toInt = cr (nu r) (nu o) 2) (c80 (k := 0) (l := 1) hm hR hT hr ho (by omega) (by omega) (fun x hx => ⟨_, rfl, rfl, hx⟩)) ?_
  rintro z _ ⟨rfl, hz⟩
  have b0 := cb 0
  have b1 := cb 1
  have b2 := cb 2
  have gz := gc_cr (nu r) (nu o)
  have dv := fun k hk => gc_dvd (cr (nu r) (nu o)) (k := k) hk
  have ethk : th (nu r) (nu o) k = if fst3 (cr (nu r) (nu o)) < 0 then - (cr (nu r) (nu o) k / (gc (cr (nu r) (nu o)) : Int)) else cr (nu r) (nu o) k / (gc (cr (nu r) (nu o)) : Int) := rfl
  generalize hu : cr (nu r) (nu o) = u at *
  generalize gc u = g at *
  have glt : Nat.gcd (u 0).natAbs (u 1).natAbs ≤ 162 := by
    by_cases q : (u 0).natAbs = 0
    · rw [q, Nat.gcd_zero_left]; omega
    · exact Nat.le_trans (Nat.gcd_le_left _ (by omega)) (by omega)
  refine b79_28 (c150 (by omega) (by omega)) ?_
  rintro _ _ ⟨rfl, rfl⟩
  refine b79_37 (P := Vx (Int32.ofNat g) S) ?_ ?_
  · have := c150 (d := d + 2) (b := 0) (S := S) (x := Int32.ofNat (Nat.gcd x.toInt.natAbs y.toInt.natAbs)) (y := z) (by rw [hx, hy, i_toInt (by omega)]; omega) (by omega)
    rw [hx, hy, hz, i_toInt (by omega), Int.natAbs_natCast, ← gz] at this
    rw [hx, hy]
    exact this
  rintro _ _ ⟨rfl, rfl⟩
  have ng : ¬ Int32.ofNat g = 0 := fun q => by
    have := (i_inj (b := 0) (by omega) (by omega)).1 q
    omega
  refine b79_42 (fun _ => ?_) (fun q => absurd ng q)
  -- the first that isn't 0
  have pick : ∀ f : Int32, f.toInt = fst3 u → Wp (d + 3) b 79 73 [.ref 2, .int (Int32.ofNat r), .int (Int32.ofNat o), .int (Int32.ofNat k), .int x, .int y, .int z, .int (Int32.ofNat g)] [.int f] S Q := by
    intro f hf
    have fin : ∀ w : Int32, w.toInt = u k → Wp (d + 3) b 79 96 [.ref 2, .int (Int32.ofNat r), .int (Int32.ofNat o), .int (Int32.ofNat k), .int x, .int y, .int z, .int (Int32.ofNat g), .int f] [.int w] S Q := by
      intro w hw
      have hdv : (w / Int32.ofNat g).toInt = u k / (g : Int) := by
        rw [ti_div gp (by omega) (by rw [hw]; exact dv k (by omega)), hw]
      have hb : -162 ≤ u k / (g : Int) ∧ u k / (g : Int) ≤ 162 := by
        have := cb k
        have e := Int.ediv_mul_cancel (dv k (by omega))
        generalize u k / (g : Int) = q at *
        have hg : (1 : Int) ≤ (g : Int) := by omega
        generalize (g : Int) = gg at *
        rw [← e] at this
        constructor
        · refine Int.le_of_not_gt (fun z => ?_)
          have : q * gg ≤ (-163) * gg := Int.mul_le_mul_of_nonneg_right (by omega) (by omega)
          omega
        · refine Int.le_of_not_gt (fun z => ?_)
          have : 163 * gg ≤ q * gg := Int.mul_le_mul_of_nonneg_right (by omega) (by omega)
          omega
      have z0 : ((0 : Int32)).toInt = 0 := by decide
      refine b79_96 ng (fun q => b79_112 (b79_114 (K _ ?_))) (fun q => b79_106 (b79_114 (K _ ?_)))
      · have q := Int32.le_iff_toInt_le.1 q
        rw [ethk, if_neg (by omega)]; exact hdv
      · have q := mt Int32.le_iff_toInt_le.2 q
        rw [ethk, if_pos (by omega), ti_neg (by rw [hdv]; omega) (by rw [hdv]; omega), hdv]
    refine b79_73 (fun k0 => b79_84 (fun k1 => b79_94 (fin z ?_)) (fun k1 => b79_89 (fin y ?_))) (fun k0 => b79_79 (fin x ?_))
    · have h0 : ¬ k = 0 := fun e => k0 (by rw [e]; rfl)
      have h1 : ¬ k = 1 := fun e => k1 (by rw [e]; rfl)
      rw [show k = 2 by omega]; exact hz
    · have := (i_inj (b := 1) (by omega) (by omega)).1 (Classical.byContradiction k1)
      rw [this]; exact hy
    · have := (i_inj (b := 0) (by omega) (by omega)).1 (Classical.byContradiction k0)
      rw [this]; exact hx
  refine b79_51 (fun x0 => b79_61 (fun y0 => b79_71 (pick z ?_)) (fun y0 => b79_66 (pick y ?_))) (fun x0 => b79_56 (pick x ?_))
  · have h0 : u 0 = 0 := by rw [← hx]; exact ti_0.1 x0
    have h1 : u 1 = 0 := by rw [← hy]; exact ti_0.1 y0
    unfold fst3
    rw [if_neg (fun q => q h0), if_neg (fun q => q h1)]; exact hz
  · have h0 : u 0 = 0 := by rw [← hx]; exact ti_0.1 x0
    have h1 : ¬ u 1 = 0 := fun q => y0 (ti_0.2 (by rw [hy]; exact q))
    unfold fst3
    rw [if_neg (fun q => q h0), if_pos h1]; exact hy
  · have h0 : ¬ u 0 = 0 := fun q => x0 (ti_0.2 (by rw [hx]; exact q))
    unfold fst3
    rw [if_pos h0]; exact hx
end THIRD
