/-! THIRDS: the reference -/
section MTHIRD
variable {b D m : Nat} {ins : Int32} {nu : Nat → Nat → Int}
theorem ti_divn {x : Int32} {g : Nat} (hg : 0 < g) (hg2 : g ≤ 1000000) (hx : -1000000 ≤ x.toInt ∧ x.toInt ≤ 1000000) (hd : (g : Int) ∣ x.toInt) : (x / (- Int32.ofNat g)).toInt = - (x.toInt / (g : Int)) := by
  have e1 : (- Int32.ofNat g).toInt = - (g : Int) := by rw [ti_neg (by rw [i_toInt (by omega)]; omega) (by rw [i_toInt (by omega)]; omega), i_toInt (by omega)]
  have e2 : x.toInt.tdiv (- (g : Int)) = - (x.toInt / (g : Int)) := by rw [Int.tdiv_neg, Int.tdiv_eq_ediv_of_dvd hd]
  have hb : -1000000 ≤ x.toInt / (g : Int) ∧ x.toInt / (g : Int) ≤ 1000000 := by
    have e := Int.ediv_mul_cancel hd
    generalize x.toInt / (g : Int) = q at *
    have hg : (1 : Int) ≤ (g : Int) := by omega
    generalize (g : Int) = gg at *
    rw [← e] at hx
    constructor
    · refine Int.le_of_not_gt (fun z => ?_)
      have : q * gg ≤ (-1000001) * gg := Int.mul_le_mul_of_nonneg_right (by omega) (by omega)
      omega
    · refine Int.le_of_not_gt (fun z => ?_)
      have : 1000001 * gg ≤ q * gg := Int.mul_le_mul_of_nonneg_right (by omega) (by omega)
      omega
  rw [Int32.toInt_div, e1, e2, Int.bmod_eq_of_le (by omega) (by omega)]
theorem m3_1 : ∀ k : Fin 3, (Int32.ofNat k.val + 1) - (Int32.ofNat k.val + 1) / 3 * 3 = Int32.ofNat ((k.val + 1) % 3) := by decide +kernel
theorem m3_2 : ∀ k : Fin 3, (Int32.ofNat k.val + 2) - (Int32.ofNat k.val + 2) / 3 * 3 = Int32.ofNat ((k.val + 2) % 3) := by decide +kernel
theorem cr_mod (a c : Nat → Int) {k : Nat} (hk : k < 3) : cr a c k = a ((k + 1) % 3) * c ((k + 2) % 3) - a ((k + 2) % 3) * c ((k + 1) % 3) := by
  have : k = 0 ∨ k = 1 ∨ k = 2 := by omega
  rcases this with rfl | rfl | rfl <;> rfl
theorem w210 {d r o : Nat} {S : St} {Q : Out → St → Prop} (hm : m ≤ 20) (hR : RWd 3 m nu) (hM : MTl 3 m nu S) (hr : r < m) (ho : o < m) (hro : ¬ r = o) (K : ∀ S1, Fz [] [59] S S1 → (∀ k, k < 3 → (S1.2.1 59 k).toInt = th (nu r) (nu o) k) → Q (.inl none) S1) : Wp (d + 1) b 210 0 [.ref 46, .int (Int32.ofNat r), .int (Int32.ofNat o)] [] S Q := by
  obtain ⟨r1, _, r3⟩ := hR.1 r hr
  obtain ⟨o1, _, o3⟩ := hR.1 o ho
  have nz : Nz (cr (nu r) (nu o)) := cr_nz (r3 3 (by omega)) (o3 3 (by omega)) (fun z => hro (hR.2 r o hr ho z))
  have cb := cr_b r1 o1
  have gp := gc_pos nz
  have gs : gc (cr (nu r) (nu o)) ≤ 162 := gc_small (fun k _ => by have := cb k; omega) nz
  have gz := gc_cr (nu r) (nu o)
  have dv := fun k hk => gc_dvd (cr (nu r) (nu o)) (k := k) hk
  have ethk : ∀ k, th (nu r) (nu o) k = if fst3 (cr (nu r) (nu o)) < 0 then - (cr (nu r) (nu o) k / (gc (cr (nu r) (nu o)) : Int)) else cr (nu r) (nu o) k / (gc (cr (nu r) (nu o)) : Int) := fun k => rfl
  have c0 : ((0 : Int32)).toNatClampNeg = 0 := by decide
  have c1 : ((1 : Int32)).toNatClampNeg = 1 := by decide
  have c2 : ((2 : Int32)).toNatClampNeg = 2 := by decide
  have v0 : vp_in (0 : Int32) 3 := i_vp (k := 0) (by omega) (by omega)
  have v1 : vp_in (1 : Int32) 3 := i_vp (k := 1) (by omega) (by omega)
  have v2 : vp_in (2 : Int32) 3 := i_vp (k := 2) (by omega) (by omega)
  have z0 : ((0 : Int32)).toInt = 0 := by decide
  -- the second half
  have half : ∀ S', Fz [] [59] S S' → (∀ j, j < 3 → (S'.2.1 59 j).toInt = cr (nu r) (nu o) j) → ∀ x3, Wp (d + 1) b 210 64 [.ref 46, .int (Int32.ofNat r), .int (Int32.ofNat o), .int x3] [] S' Q := by
    intro S' hF h59 x3
    have u0 := h59 0 (by omega)
    have u1 := h59 1 (by omega)
    have u2 := h59 2 (by omega)
    have b0 := cb 0
    have b1 := cb 1
    have b2 := cb 2
    generalize hu : cr (nu r) (nu o) = u at *
    generalize gc u = g at *
    have glt : Nat.gcd (u 0).natAbs (u 1).natAbs ≤ 162 := by
      by_cases q : (u 0).natAbs = 0
      · rw [q, Nat.gcd_zero_left]; omega
      · exact Nat.le_trans (Nat.gcd_le_left _ (by omega)) (by omega)
    refine b210_64 v0 v1 (by rw [c0, c1]; exact w209 (by omega) (by omega)) ?_
    rintro _ _ ⟨rfl, rfl⟩
    refine b210_79 (P := Vx (Int32.ofNat g) S') v2 ?_ ?_
    · have := w209 (d := d) (b := 0) (S := S') (x := Int32.ofNat (Nat.gcd (S'.2.1 59 0).toInt.natAbs (S'.2.1 59 1).toInt.natAbs)) (y := S'.2.1 59 2) (by rw [u0, u1, i_toInt (by omega)]; omega) (by omega)
      rw [u0, u1, u2, i_toInt (by omega), Int.natAbs_natCast, ← gz] at this
      rw [u0, u1, c2]
      exact this
    rintro _ _ ⟨rfl, rfl⟩
    have ng : ¬ Int32.ofNat g = 0 := fun q => by
      have := (i_inj (b := 0) (by omega) (by omega)).1 q
      omega
    have nng : ¬ (- Int32.ofNat g) = 0 := fun q => by
      have := congrArg Int32.toInt q
      rw [ti_neg (by rw [i_toInt (by omega)]; omega) (by rw [i_toInt (by omega)]; omega), i_toInt (by omega), z0] at this
      omega
    have pick : ∀ f : Int32, f.toInt = fst3 u → Wp (d + 1) b 210 131 [.ref 46, .int (Int32.ofNat r), .int (Int32.ofNat o), .int (Int32.ofNat g)] [.int f] S' Q := by
      intro f hf
      refine b210_131 ?_
      have loop : ∀ n k S2, k + n = 3 → Fz [] [59] S S2 → (∀ j, j < k → (S2.2.1 59 j).toInt = th (nu r) (nu o) j) → (∀ j, k ≤ j → j < 3 → (S2.2.1 59 j).toInt = u j) → Wp (d + 1) b 210 136 [.ref 46, .int (Int32.ofNat r), .int (Int32.ofNat o), .int (Int32.ofNat g), .int f, .int (Int32.ofNat k)] [] S2 Q := by
        intro n
        induction n with
        | zero =>
          intro k S2 hk f2 h1 _
          have hk : k = 3 := hk
          subst hk
          exact b210_136 (fun _ => b210_169 (K S2 f2 h1)) (fun q => absurd ((i_le (a := 3) (by omega) (by omega)).2 (by omega)) q)
        | succ n ih =>
          intro k S2 hk f2 h1 h2
          have hk3 : k < 3 := by omega
          have vk := i_vp (k := k) (n := 3) hk3 (by omega)
          have hw := h2 k (Nat.le_refl _) hk3
          have ck := cb k
          have next : ∀ w : Int32, w.toInt = th (nu r) (nu o) k → Wp (d + 1) b 210 136 [.ref 46, .int (Int32.ofNat r), .int (Int32.ofNat o), .int (Int32.ofNat g), .int f, .int (Int32.ofNat k + 1)] [] (setA S2 59 (Int32.ofNat k).toNatClampNeg w) Q := by
            intro w hw
            rw [i_suc, i_cl (by omega)]
            refine ih (k + 1) _ (by omega) (f2.seta (by decide)) (fun j hj => ?_) (fun j hj hj3 => by rw [seta_ne (by omega)]; exact h2 j (by omega) hj3)
            by_cases e : j = k
            · rw [e, seta_same]; exact hw
            · rw [seta_ne (by omega)]; exact h1 j (by omega)
          refine b210_136 (fun q => ?_) (fun _ => b210_142 vk (fun q => b210_160 (b210_161 ng vk (next _ ?_))) (fun q => b210_155 (b210_161 nng vk (next _ ?_))))
          · have := (i_le (a := 3) (by omega) (by omega)).1 q
            omega
          · have q := Int32.le_iff_toInt_le.1 q
            rw [i_cl (by omega), ti_div gp (by omega) (by rw [hw]; exact dv k (by omega)), hw, ethk, if_neg (by omega)]
          · have q := mt Int32.le_iff_toInt_le.2 q
            rw [i_cl (by omega), ti_divn gp (by omega) (by rw [hw]; omega) (by rw [hw]; exact dv k (by omega)), hw, ethk, if_pos (by omega)]
      exact loop 3 0 S' (by omega) hF (fun j hj => by omega) (fun j _ hj => h59 j hj)
    refine b210_88 v0 (fun x0 => b210_107 v1 (fun y0 => b210_125 v2 (pick _ ?_)) (fun y0 => b210_116 v1 (pick _ ?_))) (fun x0 => b210_98 v0 (pick _ ?_))
    · rw [c0] at x0
      rw [c1] at y0
      have h0 : u 0 = 0 := by rw [← u0]; exact ti_0.1 x0
      have h1 : u 1 = 0 := by rw [← u1]; exact ti_0.1 y0
      unfold fst3
      rw [c2, if_neg (fun q => q h0), if_neg (fun q => q h1)]; exact u2
    · rw [c0] at x0
      rw [c1] at y0
      have h0 : u 0 = 0 := by rw [← u0]; exact ti_0.1 x0
      have h1 : ¬ u 1 = 0 := fun q => y0 (ti_0.2 (by rw [u1]; exact q))
      unfold fst3
      rw [c1, if_neg (fun q => q h0), if_pos h1]; exact u1
    · rw [c0] at x0
      have h0 : ¬ u 0 = 0 := fun q => x0 (ti_0.2 (by rw [u0]; exact q))
      unfold fst3
      rw [c0, if_pos h0]; exact u0
  refine b210_0 ?_
  have loop : ∀ n k S', k + n = 3 → Fz [] [59] S S' → (∀ j, j < k → (S'.2.1 59 j).toInt = cr (nu r) (nu o) j) → Wp (d + 1) b 210 2 [.ref 46, .int (Int32.ofNat r), .int (Int32.ofNat o), .int (Int32.ofNat k)] [] S' Q := by
    intro n
    induction n with
    | zero =>
      intro k S' hk hF h
      have hk : k = 3 := hk
      subst hk
      exact b210_2 (fun _ => half S' hF h _) (fun q => absurd ((i_le (a := 3) (by omega) (by omega)).2 (by omega)) q)
    | succ n ih =>
      intro k S' hk hF h
      have hk3 : k < 3 := by omega
      have i3 : (k + 1) % 3 < 3 := Nat.mod_lt _ (by omega)
      have j3 : (k + 2) % 3 < 3 := Nat.mod_lt _ (by omega)
      have hM' : MTl 3 m nu S' := fun r k hr hk => by rw [hF.a (by decide)]; exact hM r k hr hk
      refine b210_2 (fun q => ?_) (fun _ => b210_7 (by decide) (by decide) (P := Vx (S'.2.1 47 (4 * r + (k + 1) % 3)) S') (by rw [m3_1 ⟨k, hk3⟩]; exact s157 (by omega) (by omega)) ?_)
      · have := (i_le (a := 3) (by omega) (by omega)).1 q
        omega
      rintro _ _ ⟨rfl, rfl⟩
      rw [m3_1 ⟨k, hk3⟩, m3_2 ⟨k, hk3⟩]
      refine b210_33 (s157 (by omega) (by omega : (k + 2) % 3 < 4)) ?_
      rintro _ _ ⟨rfl, rfl⟩
      refine b210_40 (s157 (by omega) (by omega : (k + 2) % 3 < 4)) ?_
      rintro _ _ ⟨rfl, rfl⟩
      refine b210_48 (s157 (by omega) (by omega : (k + 1) % 3 < 4)) ?_
      rintro _ _ ⟨rfl, rfl⟩
      refine b210_55 (i_vp hk3 (by omega)) ?_
      rw [i_cl (by omega), i_suc]
      have e1 := hM' r _ hr i3
      have e2 := hM' o _ ho j3
      have e3 := hM' r _ hr j3
      have e4 := hM' o _ ho i3
      have m1 := mul_9 (r1 ((k + 1) % 3) (by omega)) (o1 ((k + 2) % 3) (by omega))
      have m2 := mul_9 (r1 ((k + 2) % 3) (by omega)) (o1 ((k + 1) % 3) (by omega))
      refine ih (k + 1) _ (by omega) (hF.seta (by decide)) (fun j hj => ?_)
      by_cases e : j = k
      · subst e
        rw [seta_same, cr_mod _ _ hk3]
        have t1 : (S'.2.1 47 (4 * r + (j + 1) % 3) * S'.2.1 47 (4 * o + (j + 2) % 3)).toInt = nu r ((j + 1) % 3) * nu o ((j + 2) % 3) := by
          rw [ti_mul (by rw [e1, e2]; omega) (by rw [e1, e2]; omega), e1, e2]
        have t2 : (S'.2.1 47 (4 * r + (j + 2) % 3) * S'.2.1 47 (4 * o + (j + 1) % 3)).toInt = nu r ((j + 2) % 3) * nu o ((j + 1) % 3) := by
          rw [ti_mul (by rw [e3, e4]; omega) (by rw [e3, e4]; omega), e3, e4]
        rw [ti_sub (by rw [t1, t2]; omega) (by rw [t1, t2]; omega), t1, t2]
      · rw [seta_ne (by omega)]; exact h j (by omega)
  exact loop 3 0 S (by omega) Fz.refl (fun j hj => by omega)
end MTHIRD
