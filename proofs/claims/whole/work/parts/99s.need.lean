/-! THE CALLS THAT MAY THROW: what they need -/
section NEED
variable {b D m rl : Nat} {ins : Int32} {nu : Nat → Nat → Int} {L : Nat}
abbrev AllF : List (Nat × Nat) := [(3000, 0), (2, 0), (2, 1), (0, 14), (0, 15), (46, 0), (46, 1), (46, 2), (46, 3), (46, 9), (0, 16), (46, 51), (1, 1), (46, 43), (12, 2), (12, 3), (46, 40), (0, 13), (46, 37), (0, 17), (5, 1), (5, 2), (5, 3), (6, 2), (6, 4), (6, 7), (6, 8), (6, 9), (6, 10), (6, 11), (7, 3), (7, 4), (7, 5), (7, 6), (8, 4), (8, 5), (8, 6), (9, 4), (9, 5), (9, 6), (9, 7), (10, 8), (10, 9), (46, 10), (46, 11), (46, 16)]
abbrev AllR : List Nat := [15, 16, 17, 18, 47, 48, 49, 50, 60, 14, 64, 43, 44, 62, 63, 45, 61, 23, 24, 25, 26, 27, 28, 34, 35, 36, 37, 54]
theorem SF0_in : ∀ x ∈ SF0, x ∈ AllF := by decide
theorem SR0_in : ∀ x ∈ SR0, x ∈ AllR := by decide
theorem KF_in : ∀ x ∈ ((0, 17) :: KF : List (Nat × Nat)), x ∈ AllF := by decide
theorem KR_in : ∀ x ∈ KR, x ∈ AllR := by decide
theorem J.of {fs : List (Nat × Nat)} {as : List Nat} {S S1 : St} (h : J L S) (hF : Fz fs as S S1) (q : dis fs AllF) (qr : disr as AllR) : J L S1 := by
  obtain ⟨hL, D, m, rl, ins, nu, tn0, ty, an, aa, T, hN, hJT, hJF, hJP, hJA, hJY, hC, hM⟩ := h
  have hJ : JS L D m rl ins nu tn0 ty an aa T S := ⟨hL, hN, hJT, hJF, hJP, hJA, hJY⟩
  exact j_of (hJ.of hF (fun x hx => q x (SF0_in x hx)) (fun x hx => qr x (SR0_in x hx))) (hC.of hF (fun x hx => q x (KF_in x hx)) (fun x hx => qr x (KR_in x hx))) (hM.of hF ⟨q (46, 10) (by decide), q (46, 11) (by decide), q (46, 16) (by decide), qr 54 (by decide)⟩)
theorem J.o {S : St} {x : Int64} (h : J L S) : J L (setO S x) := h
theorem j4 {S : St} {v : Int32} (h : J L S) : J L (setI S 46 4 v) := h.of (Fz.refl.seti (fs := [(46, 4)]) (as := []) (by decide)) (by decide) (by decide)
theorem n135 {d : Nat} {x : Int32} {S : St} (h : S.1 2 1 = Int32.ofNat m) (hm : m ≤ 20) : Wp d 1 135 0 [.ref 0, .int x] [] S (Rvt (fun S1 => S = S1 ∧ rayB m x = true) (fun X S1 => X = exN 1 ∧ S = S1 ∧ ¬ rayB m x = true)) := by
  have hcl := i_clt x
  refine b135_0 (fun q => b135_15 (by omega) (Or.inr ⟨_, rfl, rfl, rfl, fun w => (of_decide_eq_true w).1 q⟩)) (fun q => ?_)
  have ex := i_of q
  refine b135_4 (fun w => b135_26 (Or.inl ⟨rfl, rfl, decide_eq_true ⟨q, ?_⟩⟩)) (fun w => b135_15 (by omega) (Or.inr ⟨_, rfl, rfl, rfl, fun z => w ?_⟩))
  · rw [h, ex] at w
    exact (i_lt (by omega) (by omega)).1 w
  · rw [h, ex]
    exact (i_lt (by omega) (by omega)).2 (of_decide_eq_true z).2
theorem n136 {d : Nat} {x : Int32} {S : St} (h : S.1 2 1 = Int32.ofNat m) (hm : m ≤ 20) (hi : S.1 0 14 = ins) : Wp (d + 1) 1 136 0 [.ref 0, .int x] [] S (Rvt (fun S1 => S = S1 ∧ (rayB m x && tb ins x.toNatClampNeg) = true) (fun X S1 => X = exN 1 ∧ S = S1 ∧ ¬ (rayB m x && tb ins x.toNatClampNeg) = true)) := by
  have hcl := i_clt x
  have thr : ¬ (rayB m x && tb ins x.toNatClampNeg) = true → Wp (d + 1) 1 136 26 [.ref 0, .int x] [] S (Rvt (fun S1 => S = S1 ∧ (rayB m x && tb ins x.toNatClampNeg) = true) (fun X S1 => X = exN 1 ∧ S = S1 ∧ ¬ (rayB m x && tb ins x.toNatClampNeg) = true)) := fun w => b136_26 (by omega) (Or.inr ⟨_, rfl, rfl, rfl, w⟩)
  refine b136_0 (fun q => thr (fun w => (of_decide_eq_true (Bool.and_eq_true _ _ ▸ w : _ ∧ _).1).1 q)) (fun q => ?_)
  have ex := i_of q
  refine b136_4 (fun w => thr (fun z => ?_)) (fun w => ?_)
  · rw [h, ex] at w
    have := (i_le (by omega) (by omega)).1 w
    have := (of_decide_eq_true (Bool.and_eq_true _ _ ▸ z : _ ∧ _).1).2
    omega
  · have xm : x.toNatClampNeg < m := by
      rw [h, ex] at w
      exact Nat.lt_of_not_le (fun z => w ((i_le (by omega) (by omega)).2 z))
    have hr : rayB m x = true := decide_eq_true ⟨q, xm⟩
    refine b136_15 (P := Vx (bi (tb ins x.toNatClampNeg)) S) (by
      rw [hi]
      have := s146 (d := d) (b := 0) (S := S) ins (r := x.toNatClampNeg) (by omega)
      rw [← ex] at this
      exact this) ?_
    rintro _ _ ⟨rfl, rfl⟩
    refine b136_23 (fun z => b136_37 (Or.inl ⟨rfl, rfl, by rw [hr, bi1.1 z]; rfl⟩)) (fun z => thr (fun w => ?_))
    rw [bi0.1 (Classical.byContradiction z), Bool.and_false] at w
    cases w
theorem n137 {d : Nat} {x : Int32} {S : St} (hi : S.1 0 14 = ins) : Wp d 1 137 0 [.ref 0, .int x] [] S (Rvt (fun S1 => S = S1 ∧ sb x ins) (fun X S1 => X = exN 0 ∧ S = S1 ∧ ¬ sb x ins)) := by
  refine b137_0 (fun q => b137_22 (Or.inl ⟨rfl, rfl, ?_⟩)) (fun q => b137_11 (by omega) (Or.inr ⟨_, rfl, rfl, rfl, fun w => q ?_⟩))
  · rw [hi] at q
    exact sub0.1 q
  · rw [hi]
    exact sub0.2 w
theorem n138 {d : Nat} {x : Int32} {S : St} : Wp d 1 138 0 [.int x] [] S (Rvt (fun S1 => S = S1 ∧ (x = 0 ∨ x = 1)) (fun X S1 => X = exN 1 ∧ S = S1 ∧ ¬ (x = 0 ∨ x = 1))) := by
  refine b138_0 (fun q => b138_20 (Or.inl ⟨rfl, rfl, Or.inl q⟩)) (fun q => b138_4 (fun w => b138_20 (Or.inl ⟨rfl, rfl, Or.inr w⟩)) (fun w => b138_9 (by omega) (Or.inr ⟨_, rfl, rfl, rfl, ?_⟩)))
  rintro (z | z)
  · exact q z
  · exact w z
/-- the reference's plain questions -/
theorem w179 {d : Nat} {x z : Int32} {S : St} {Q : Out → St → Prop} (hB : MB D m ins S) (K1 : ¬ (rayB m x = true ∧ ¬ z < 0 ∧ z.toNatClampNeg < D) → ∀ v, Q (.inl (some (.int v))) (setI (setI S 46 4 0) 46 4 1)) (K0 : rayB m x = true → ¬ z < 0 → z.toNatClampNeg < D → Q (.inl (some (.int (S.2.1 47 (4 * x.toNatClampNeg + z.toNatClampNeg))))) (setI S 46 4 0)) : Wp (d + 2) b 179 0 [.ref 46, .int x, .int z] [] S Q := by
  obtain ⟨h0, hD, h1, hm, h2, hl⟩ := hB
  have g1 : (setI S 46 4 0).1 46 1 = Int32.ofNat m := (seti_ne (by decide)).trans h1
  have g0 : (setI S 46 4 0).1 46 0 = Int32.ofNat D := (seti_ne (by decide)).trans h0
  have fail : ¬ (rayB m x = true ∧ ¬ z < 0 ∧ z.toNatClampNeg < D) → Wp (d + 2) b 179 36 [.ref 46, .int x, .int z] [] (setI S 46 4 0) Q := by
    intro h
    refine b179_36 (s152 1) ?_
    rintro _ _ ⟨rfl, rfl⟩
    exact b179_41 (K1 h _)
  refine b179_0 (s158 x g1 hm) ?_
  rintro _ _ ⟨rfl, rfl⟩
  refine b179_10 (fun q => fail (fun w => by rw [bi0.1 q] at w; exact absurd w.1 (by decide))) (fun q => b179_13 s153 ?_)
  rintro _ _ ⟨rfl, rfl⟩
  rw [g0]
  have hr := bi1.1 q
  refine b179_24 (fun q2 => fail (fun w => of_decide_eq_false (bi0.1 q2) ((rng_iff (by omega)).2 w.2))) (fun q2 => ?_)
  obtain ⟨z0, zD⟩ := (rng_iff (by omega)).1 (of_decide_eq_true (bi1.1 q2))
  obtain ⟨x0, xm⟩ := of_decide_eq_true hr
  have K2 := K0 hr z0 zD
  clear K0 K1 fail
  have ex := i_of x0
  have ez := i_of z0
  generalize x.toNatClampNeg = r at *
  generalize z.toNatClampNeg = k at *
  subst ex ez
  refine b179_27 (s157 (by omega) (by omega)) ?_
  rintro _ _ ⟨rfl, rfl⟩
  exact b179_33 (b179_41 K2)
theorem w180 {d : Nat} {x : Int32} {S : St} {Q : Out → St → Prop} (hB : MB D m ins S) (K1 : ¬ rayB m x = true → ∀ v, Q (.inl (some (.int v))) (setI S 46 4 1)) (K0 : rayB m x = true → Q (.inl (some (.int (bi (tb ins x.toNatClampNeg))))) (setI S 46 4 0)) : Wp (d + 2) b 180 0 [.ref 46, .int x] [] S Q := by
  obtain ⟨h0, hD, h1, hm, h2, hl⟩ := hB
  refine b180_0 (s158 x h1 hm) ?_
  rintro _ _ ⟨rfl, rfl⟩
  refine b180_6 (fun q => b180_13 (b180_14 (fun _ => b180_39 (b180_40 (Or.inl rfl) (K1 (fun w => by rw [bi0.1 q] at w; cases w) _))) (fun w => absurd (by rw [seti_same]; decide) w))) (fun q => b180_9 (b180_14 (fun w => absurd seti_same w) (fun _ => ?_)))
  have hr := bi1.1 q
  obtain ⟨x0, xm⟩ := of_decide_eq_true hr
  have K0 := K0 hr
  have ex := i_of x0
  have g2 : (setI S 46 4 0).1 46 2 = ins := (seti_ne (by decide)).trans h2
  refine b180_24 (P := Vx (bi (tb ins x.toNatClampNeg)) (setI S 46 4 0)) (by
    rw [g2]
    have := s154 (d := d + 1) (b := 0) (S := setI S 46 4 0) ins (r := x.toNatClampNeg) (by omega)
    rw [← ex] at this
    exact this) ?_
  rintro _ _ ⟨rfl, rfl⟩
  exact b180_32 (fun z => b180_39 (b180_40 (Or.inl rfl) (by rw [bi0.1 z] at K0; exact K0))) (fun z => b180_35 (b180_40 (Or.inr rfl) (by rw [bi1.1 z] at K0; exact K0)))
theorem w181 {d : Nat} {x z : Int32} {S : St} {Q : Out → St → Prop} (hB : MB D m ins S) (K1 : ¬ (rayB m x = true ∧ rayB m z = true) → ∀ v, Q (.inl (some (.int v))) (setI (setI S 46 4 0) 46 4 1)) (K0 : rayB m x = true → rayB m z = true → Q (.inl (some (.int (dotN (S.2.1 47) x.toNatClampNeg z.toNatClampNeg D)))) (setI S 46 4 0)) : Wp (d + 3) b 181 0 [.ref 46, .int x, .int z] [] S Q := by
  obtain ⟨h0, hD, h1, hm, h2, hl⟩ := hB
  have g1 : (setI S 46 4 0).1 46 1 = Int32.ofNat m := (seti_ne (by decide)).trans h1
  have g0 : (setI S 46 4 0).1 46 0 = Int32.ofNat D := (seti_ne (by decide)).trans h0
  have fail : ¬ (rayB m x = true ∧ rayB m z = true) → Wp (d + 3) b 181 30 [.ref 46, .int x, .int z] [] (setI S 46 4 0) Q := by
    intro h
    refine b181_30 (s152 1) ?_
    rintro _ _ ⟨rfl, rfl⟩
    exact b181_35 (K1 h _)
  refine b181_0 (s158 x g1 hm) ?_
  rintro _ _ ⟨rfl, rfl⟩
  refine b181_10 (fun q => fail (fun w => by rw [bi0.1 q] at w; exact absurd w.1 (by decide))) (fun q => b181_13 (s158 z g1 hm) ?_)
  rintro _ _ ⟨rfl, rfl⟩
  refine b181_18 (fun q2 => fail (fun w => by rw [bi0.1 q2] at w; exact absurd w.2 (by decide))) (fun q2 => ?_)
  have K2 := K0 (bi1.1 q) (bi1.1 q2)
  clear K0 K1 fail
  obtain ⟨x0, xm⟩ := of_decide_eq_true (bi1.1 q)
  obtain ⟨z0, zm⟩ := of_decide_eq_true (bi1.1 q2)
  have ex := i_of x0
  have ez := i_of z0
  generalize x.toNatClampNeg = r at *
  generalize z.toNatClampNeg = k at *
  subst ex ez
  refine b181_21 (s160 (by omega) (by omega) g0 (by omega)) ?_
  rintro _ _ ⟨rfl, rfl⟩
  exact b181_27 (b181_35 K2)
theorem w182 {d : Nat} {up : Nat → Int32} {F : List Int32} {x : Int32} {S : St} {Q : Out → St → Prop} (hW : MW m rl ins up F S) (K1 : ¬ rayB m x = true → ∀ v, Q (.inl (some (.int v))) (setI (setI S 46 4 0) 46 4 1)) (K0 : rayB m x = true → Q (.inl (some (.int (up x.toNatClampNeg)))) (setI S 46 4 0)) : Wp (d + 2) b 182 0 [.ref 46, .int x] [] S Q := by
  obtain ⟨h1, hm, _, _, _, _, h7, _⟩ := hW
  have g1 : (setI S 46 4 0).1 46 1 = Int32.ofNat m := (seti_ne (by decide)).trans h1
  refine b182_0 (s158 x g1 hm) ?_
  rintro _ _ ⟨rfl, rfl⟩
  refine b182_10 (fun q => b182_22 (s152 1) ?_) (fun q => ?_)
  · rintro _ _ ⟨rfl, rfl⟩
    exact b182_27 (K1 (fun w => by rw [bi0.1 q] at w; cases w) _)
  · have K0 := K0 (bi1.1 q)
    obtain ⟨x0, xm⟩ := of_decide_eq_true (bi1.1 q)
    have ex := i_of x0
    refine b182_13 (by rw [ex]; exact i_vp (by omega) (by omega)) (b182_27 ?_)
    have : (setI S 46 4 0).2.1 48 x.toNatClampNeg = up x.toNatClampNeg := h7 _ xm
    rw [this]
    exact K0
theorem w183 {d : Nat} {up : Nat → Int32} {F : List Int32} {x : Int32} {S : St} {Q : Out → St → Prop} (hW : MW m rl ins up F S) (K1 : ¬ (¬ x < 0 ∧ x.toNatClampNeg < F.length) → ∀ v, Q (.inl (some (.int v))) (setI (setI S 46 4 0) 46 4 1)) (K0 : ¬ x < 0 → x.toNatClampNeg < F.length → Q (.inl (some (.int (F.getD x.toNatClampNeg 0)))) (setI S 46 4 0)) : Wp (d + 1) b 183 0 [.ref 46, .int x] [] S Q := by
  obtain ⟨_, _, _, _, _, _, _, ⟨h8, h8'⟩, h9, _⟩ := hW
  refine b183_0 s153 ?_
  rintro _ _ ⟨rfl, rfl⟩
  rw [seti_ne (by decide), h8]
  refine b183_16 (fun q => b183_28 (s152 1) ?_) (fun q => ?_)
  · rintro _ _ ⟨rfl, rfl⟩
    exact b183_33 (K1 (fun w => of_decide_eq_false (bi0.1 q) ((rng_iff (by omega)).2 w)) _)
  · obtain ⟨x0, xm⟩ := (rng_iff (by omega)).1 (of_decide_eq_true (bi1.1 q))
    have ex := i_of x0
    refine b183_19 (by rw [ex]; exact i_vp (by omega) (by omega)) (b183_33 ?_)
    have : (setI S 46 4 0).2.1 50 x.toNatClampNeg = F.getD x.toNatClampNeg 0 := h8' _ xm
    rw [this]
    exact K0 x0 xm
end NEED
