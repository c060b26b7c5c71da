/-! THE CALLS THAT MAY THROW: rays -/
section OBRAYS
variable {L : Nat}
theorem fz_setc {fs : List (Nat × Nat)} {as : List Nat} {S S1 : St} {j0 j1 sp dp n : Nat} (h : Fz fs as S S1) (m : j1 ∈ as) : Fz fs as S (setC S1 j0 j1 sp dp n) := ⟨h.1, fun j hj i => (setc_ne (fun q => hj (by rw [q]; exact m))).trans (h.2.1 j hj i), h.2.2⟩
theorem c70 {d b D r : Nat} {nu : Nat → Nat → Int} {S : St} {Q : Out → St → Prop} (hd : Dft D r nu S) (hr : r ≤ 20) (K : ∀ S1, Fz [(2, 0), (2, 1)] [15, 16, 17, 18] S S1 → Tld D r nu S1 → T18 r nu S1 → Q (.inl none) S1) : Wp d b 70 0 [.ref 2, .ref 3] [] S Q := by
  obtain ⟨h0, h1, h2, h3, h4⟩ := hd
  have e0 : ((0 : Int32)).toNatClampNeg = 0 := rfl
  have e20 : ((20 : Int32)).toNatClampNeg = 20 := rfl
  have e80 : ((80 : Int32)).toNatClampNeg = 80 := rfl
  refine b70_0 (by decide) (b70_38 (by decide) (by decide) (b70_74 (by decide) ?_))
  rw [e0, e20, e80]
  have g0 : (setI (setI S 2 0 (S.1 3 0)) 2 1 ((setI S 2 0 (S.1 3 0)).1 3 1)).1 2 1 = Int32.ofNat r := seti_same.trans ((seti_ne (by decide)).trans h1)
  have g1 : (setI (setI S 2 0 (S.1 3 0)) 2 1 ((setI S 2 0 (S.1 3 0)).1 3 1)).1 2 0 = Int32.ofNat D := (seti_ne (by decide)).trans (seti_same.trans h0)
  have f0 : Fz [(2, 0), (2, 1)] [15, 16, 17, 18] S (setI (setI S 2 0 (S.1 3 0)) 2 1 ((setI S 2 0 (S.1 3 0)).1 3 1)) := (Fz.refl.seti (by decide)).seti (by decide)
  have r0 : ∀ j, (setI (setI S 2 0 (S.1 3 0)) 2 1 ((setI S 2 0 (S.1 3 0)).1 3 1)).2.1 j = S.2.1 j := fun j => rfl
  generalize setI (setI S 2 0 (S.1 3 0)) 2 1 ((setI S 2 0 (S.1 3 0)).1 3 1) = S0 at *
  have q18 : ∀ c, c < 20 → (setC (setC (setC (setC S0 19 15 0 0 80) 20 16 0 0 20) 21 17 0 0 20) 22 18 0 0 20).2.1 18 c = S.2.1 22 c := fun c hc => by
    rw [setc_same, if_pos (by omega), setc_ne (by decide), setc_ne (by decide), setc_ne (by decide), r0, Nat.zero_add, Nat.sub_zero]
  have q17 : ∀ c, c < 20 → (setC (setC (setC (setC S0 19 15 0 0 80) 20 16 0 0 20) 21 17 0 0 20) 22 18 0 0 20).2.1 17 c = S.2.1 21 c := fun c hc => by
    rw [setc_ne (by decide), setc_same, if_pos (by omega), setc_ne (by decide), setc_ne (by decide), r0, Nat.zero_add, Nat.sub_zero]
  have q16 : ∀ c, c < 20 → (setC (setC (setC (setC S0 19 15 0 0 80) 20 16 0 0 20) 21 17 0 0 20) 22 18 0 0 20).2.1 16 c = S.2.1 20 c := fun c hc => by
    rw [setc_ne (by decide), setc_ne (by decide), setc_same, if_pos (by omega), setc_ne (by decide), r0, Nat.zero_add, Nat.sub_zero]
  have q15 : ∀ c, c < 80 → (setC (setC (setC (setC S0 19 15 0 0 80) 20 16 0 0 20) 21 17 0 0 20) 22 18 0 0 20).2.1 15 c = S.2.1 19 c := fun c hc => by
    rw [setc_ne (by decide), setc_ne (by decide), setc_ne (by decide), setc_same, if_pos (by omega), r0, Nat.zero_add, Nat.sub_zero]
  refine K _ (fz_setc (fz_setc (fz_setc (fz_setc f0 (by decide)) (by decide)) (by decide)) (by decide)) ⟨g1, g0, fun o k ho hk => ?_, fun o ho => ?_, fun o ho => ?_⟩ (fun o ho k => ?_)
  · rw [q15 _ (by omega)]; exact h2 o k ho hk
  · rw [q16 _ (by omega)]; exact (h3 o ho).1
  · rw [q17 _ (by omega)]; exact (h3 o ho).2
  · rw [q18 _ (by omega)]; exact h4 o ho k
theorem mw_ml {D m rl : Nat} {ins : Int32} {nu : Nat → Nat → Int} {S : St} (hN : WN D m rl ins nu) (hM : MTl D m nu S) (h : ML D m rl ins S) : MW m rl ins (upN m ins nu) (frN D m ins nu) S := by
  obtain ⟨hD, hm, hrl, hlow, hR⟩ := id hN
  obtain ⟨b1, b2, b3, b4, b5, b6⟩ := h
  have eu : upS (S.2.1 47) D m ins = upN m ins nu := ud_uniq (ud_upS hD hm hlow hR (fun r k hr hk => hM r k hr hk)) (ud_upN hm)
  have ef : frS (S.2.1 47) D m ins = frN D m ins nu := by
    unfold frS frN
    rw [eu]
  rw [eu] at b4
  rw [ef] at b5
  rw [eu, ef] at b6
  have hU := wn_uw hN
  exact ⟨b1.2.2.1, hm, b1.2.2.2.2.1, hlow, b2, b3, b4, b5, by have := hU.2.2.2.2.2.2.2.2.2; omega, b6⟩
abbrev RX : List (Nat × Nat) := [(0, 14), (0, 15), (0, 16), (0, 17), (12, 3), (2, 0), (2, 1)]
theorem rays_err {D m rl : Nat} {ins : Int32} {nu : Nat → Nat → Int} {tn0 : Nat} {ty : Nat → Int32} {an : Nat} {aa : Nat → Int32 × Int32} {T : List Int32} {n R : Nat} {v : Int32} {ov : Int64} {S S2 : St} (hJ : JS L D m rl ins nu tn0 ty an aa T S) (hC : JC D m rl ins nu S) (hM : JM D m rl ins nu S) (hnt : n ≤ tn0) (a1 : IsR ty n (DN ty n) (hdR ty n) R) (h0 : ¬ (rq ty n (DN ty n) (hdR ty n) R).1.1 = 0) (G2 : Fz ((0, 16) :: TF3) [19, 20, 21, 22] S S2) (s16 : S2.1 0 16 = Int32.ofNat (bg ty n (rq ty n (DN ty n) (hdR ty n) R).1.2)) (s11 : S2.1 1 1 = 0) (hv : v = (-10 : Int32) - Int32.ofNat (rq ty n (DN ty n) (hdR ty n) R).1.1) : Wp 1999 0 253 0 [.ref 46, .int (Int32.ofNat n)] [] (setO S2 ov) (Ri fun w S2 => S2.1 46 4 = 0 ∧ S2.2.2.2 = ov ∧ w = v ∧ J L S2) := by
  obtain ⟨hL, hN, hJT, hJF, hJP, hJA, hJY⟩ := hJ
  have hp1 := hJP.1
  have hp2 := hJP.2
  have ht4 := hp1.2.1
  have Go : Fz ((0, 16) :: TF3) [19, 20, 21, 22] (setO S ov) (setO S2 ov) := ⟨G2.1, G2.2.1, rfl⟩
  refine w253 (y := ty) (m0 := tn0) ((Go.f (by decide)).trans hp2.1) hp2.2.1 (fun i hi => ⟨(Go.a (by decide) i).trans (hp2.2.2 i hi), by rw [← hp1.2.2 i hi]; exact by_ne⟩) (fun q => absurd ⟨i_nneg (by omega), by rw [i_cl (by omega)]; exact hnt⟩ q) ?_ ?_
  · intro n' R' S6 en h1 h2 h3 e1 e2 e3 e4
    have e5 := i_inj2 (by omega) (by omega) en
    subst e5
    have eR := h2.uniq a1
    rw [eR] at e4 ⊢
    have FA : Fz (((0, 16) :: TF3) ++ RF3) [19, 20, 21, 22, 65] (setO S ov) S6 := (Go.mono (by decide) (by decide)).trans (e1.mono (by decide) (by decide))
    have hJTo : JT D m rl ins nu (setO S ov) := hJT
    have hJAo : JA m an aa (setO S ov) := hJA
    have hJYo : JY T (setO S ov) := hJY
    have x1 : JF S6 := ((e1.f (by decide)).trans s16).trans e4.symm
    have x2 : JP 0 ty S6 := ⟨⟨(e1.f (by decide)).trans s11, by omega, fun i hi => by omega⟩, ⟨e3, by omega, fun i hi => by omega⟩⟩
    have x3 : JT D m rl ins nu S6 := hJTo.of FA (by decide) (by decide)
    have x4 : JC D m rl ins nu S6 := (jc_o hC).of FA (by decide) (by decide)
    have x5 : JM D m rl ins nu S6 := (jm_o hM).of FA (by decide)
    have x6 : JS L D m rl ins nu 0 ty an aa T S6 := ⟨(FA.f (by decide)).trans hL, hN, x3, x1, x2, hJAo.of FA (by decide), hJYo.of FA (by decide)⟩
    exact ⟨_, rfl, e2, e1.2.2, hv.symm, j_of x6 x4 x5⟩
  · intro n' R' S6 en h1 h2 h3
    have e5 := i_inj2 (by omega) (by omega) en
    subst e5
    rw [h2.uniq a1] at h3
    exact absurd h3 h0
theorem rays_ok {D m rl : Nat} {ins : Int32} {nu : Nat → Nat → Int} {tn0 : Nat} {ty : Nat → Int32} {an : Nat} {aa : Nat → Int32 × Int32} {T : List Int32} {n R : Nat} {v : Int32} {ov : Int64} {S S5 : St} (hJ : JS L D m rl ins nu tn0 ty an aa T S) (hnt : n ≤ tn0) (a1 : IsR ty n (DN ty n) (hdR ty n) R) (h0 : (rq ty n (DN ty n) (hdR ty n) R).1.1 = 0) (G5 : Fz (TF3 ++ RX) [15, 16, 17, 18, 19, 20, 21, 22] S S5) (g16 : S5.1 0 16 = -1) (g11 : S5.1 1 1 = 0) (c2 : Tld (DN ty n) R (rq ty n (DN ty n) (hdR ty n) R).2 S5) (c3 : T18 R (rq ty n (DN ty n) (hdR ty n) R).2 S5) (i14 : S5.1 0 14 = bit R - 1) (i15 : S5.1 0 15 = 0) (i17 : S5.1 0 17 = 1) (i123 : S5.1 12 3 = 0) (hv : v = Int32.ofNat R) : Wp 1999 0 253 0 [.ref 46, .int (Int32.ofNat n)] [] (setO S5 ov) (Ri fun w S2 => S2.1 46 4 = 0 ∧ S2.2.2.2 = ov ∧ w = v ∧ J L S2) := by
  obtain ⟨hL, hN, hJT, hJF, hJP, hJA, hJY⟩ := hJ
  have hp1 := hJP.1
  have hp2 := hJP.2
  have ht4 := hp1.2.1
  have t8 := hJT.2.2.2.2.2.2.2
  have Go : Fz (TF3 ++ RX) [15, 16, 17, 18, 19, 20, 21, 22] (setO S ov) (setO S5 ov) := ⟨G5.1, G5.2.1, rfl⟩
  refine w253 (y := ty) (m0 := tn0) ((Go.f (by decide)).trans hp2.1) hp2.2.1 (fun i hi => ⟨(Go.a (by decide) i).trans (hp2.2.2 i hi), by rw [← hp1.2.2 i hi]; exact by_ne⟩) (fun q => absurd ⟨i_nneg (by omega), by rw [i_cl (by omega)]; exact hnt⟩ q) ?_ ?_
  · intro n' R' S6 en h1 h2 h3
    have e5 := i_inj2 (by omega) (by omega) en
    subst e5
    rw [h2.uniq a1] at h3
    exact absurd h0 h3
  · intro n' R' S6 en h1 h2 h3 h4 h5 h6 e1 e2 e3 e4 e5 e6 e7 e8 e9
    have e0 := i_inj2 (by omega) (by omega) en
    subst e0
    have eR := h2.uniq a1
    rw [eR] at h5 h6 e6 e7 ⊢
    generalize (rq ty n (DN ty n) (hdR ty n) R).2 = nv' at *
    generalize DN ty n = D' at *
    have hN' : WN D' R 0 (bit R - 1) nv' := ⟨h4, h5, by omega, (sb_msk h5).1 (fun k hk => hk), h6⟩
    have FA : Fz ((TF3 ++ RX) ++ RF4) [15, 16, 17, 18, 19, 20, 21, 22, 47, 48, 49, 50, 65] (setO S ov) S6 := (Go.mono (by decide) (by decide)).trans (e1.mono (by decide) (by decide))
    have hJYo : JY T (setO S ov) := hJY
    obtain ⟨o, ho, ho2, _⟩ := hJA.1.2.2
    have x1 : JT D' R 0 (bit R - 1) nv' S6 := ⟨⟨(e1.f (by decide)).trans c2.1, (e1.f (by decide)).trans c2.2.1, fun r k hr hk => by rw [e1.a (by decide)]; exact c2.2.2.1 r k hr hk, fun r hr => (e1.a (by decide) r).trans (c2.2.2.2.1 r hr), fun r hr => (e1.a (by decide) r).trans (c2.2.2.2.2 r hr)⟩, fun r hr k => by rw [e1.a (by decide)]; exact c3 r hr k, (e1.f (by decide)).trans i14, (e1.f (by decide)).trans i15, e7.1, mw_ml hN' e6 e7, e6, fun c hc => (FA.a (by decide) c).trans (t8 c hc)⟩
    have x2 : JF S6 := ((e1.f (by decide)).trans g16).trans e4.symm
    have x3 : JP 0 ty S6 := ⟨⟨(e1.f (by decide)).trans g11, by omega, fun i hi => by omega⟩, ⟨e3, by omega, fun i hi => by omega⟩⟩
    have x4 : JA R 0 aa S6 := ⟨⟨(e1.f (by decide)).trans i123, by omega, o, ho, (FA.f (by decide)).trans ho2, fun i hi => by omega⟩, ⟨e5, by omega, fun i hi => by omega⟩, fun i hi => by omega⟩
    have x5 : JS L D' R 0 (bit R - 1) nv' 0 ty 0 aa T S6 := ⟨(FA.f (by decide)).trans hL, hN', x1, x2, x3, x4, hJYo.of FA (by decide)⟩
    exact ⟨_, rfl, e2, e1.2.2, hv.symm, j_of x5 (Or.inl ((e1.f (by decide)).trans i17)) ⟨Or.inl e8, Or.inl e9⟩⟩
theorem o101 : ∀ a1, ObB (J L) 1 101 253 [(0, 1)] [.int a1] := by
  intro x S hS
  obtain ⟨hL, D, m, rl, ins, nu, tn0, ty, an, aa, T, hN, hJT, hJF, hJP, hJA, hJY, hC, hM⟩ := hS
  have hJ : JS L D m rl ins nu tn0 ty an aa T S := ⟨hL, hN, hJT, hJF, hJP, hJA, hJY⟩
  have hU := wn_uw hN
  obtain ⟨t1, t2, t3, t4, t5, t6, t7, t8⟩ := id hJT
  have j0 : J L S := j_of hJ hC hM
  have hcl := i_clt x
  have hp1 := hJP.1
  have hp2 := hJP.2
  have ht4 := hp1.2.1
  have hmy : ∀ i, i < tn0 → S.2.1 64 i = ty i ∧ ¬ ty i = -1 := fun i hi => ⟨hp2.2.2 i hi, by rw [← hp1.2.2 i hi]; exact by_ne⟩
  have thr : ¬ (¬ x < 0 ∧ x.toNatClampNeg ≤ tn0) → Wp 1999 0 253 0 [.ref 46, .int x] [] S (Ri fun w S2 => S2.1 46 4 = Int32.ofNat 1 ∧ J L S2) := fun q => w253 hp2.1 hp2.2.1 hmy (fun _ v S1 e1 e2 => ⟨_, rfl, e2, j0.of e1 (by decide) (by decide)⟩) (fun n R S1 en h1 => absurd ⟨by rw [en]; exact i_nneg (by omega), by rw [en, i_cl (by omega)]; exact h1⟩ q) (fun n R S1 en h1 => absurd ⟨by rw [en]; exact i_nneg (by omega), by rw [en, i_cl (by omega)]; exact h1⟩ q)
  have bad : ¬ (¬ x < 0 ∧ x.toNatClampNeg ≤ tn0) → Wp 1998 1 101 15 [.ref 0, .int x] [] S (Rit (fun v S1 => Sc S S1 ∧ Wp 1999 0 253 0 [.ref 46, .int x] [] (setO S1 v.toInt64) (Ri fun w S2 => S2.1 46 4 = 0 ∧ S2.2.2.2 = v.toInt64 ∧ w = v ∧ J L S2)) (fun X S1 => Sc S S1 ∧ ∃ j k, X = exN j ∧ (j, k) ∈ [(0, 1)] ∧ Wp 1999 0 253 0 [.ref 46, .int x] [] S1 (Ri fun w S2 => S2.1 46 4 = Int32.ofNat k ∧ J L S2))) := fun q => b101_15 (by omega) (Or.inr ⟨_, rfl, ⟨rfl, rfl⟩, 0, 1, rfl, by decide, thr q⟩)
  refine b101_0 (fun q => bad (fun w => w.1 q)) (fun q => ?_)
  have ex := i_of q
  clear thr
  obtain ⟨n, rfl, hn31⟩ : ∃ n, x = Int32.ofNat n ∧ n < 2147483648 := ⟨_, ex, hcl⟩
  rw [i_cl hn31] at bad
  refine b101_4 (fun z => ?_) (fun z => bad (fun u => z (by rw [hp1.1]; exact (i_le (by omega) (by omega)).2 u.2)))
  have hnt : n ≤ tn0 := by
    rw [hp1.1] at z
    exact (i_le (by omega) (by omega)).1 z
  clear bad
  refine b101_25 (P := fun v S1 => ∃ R, v = Int32.ofNat (rq ty n (DN ty n) (hdR ty n) R).1.1 ∧ IsR ty n (DN ty n) (hdR ty n) R ∧ Fz TF3 [19, 20, 21, 22] S S1 ∧ S1.1 1 1 = 0 ∧ TA ty n (rq ty n (DN ty n) (hdR ty n) R).1.2 S1 ∧ ((rq ty n (DN ty n) (hdR ty n) R).1.1 = 0 → R ≤ 20 ∧ RWd (DN ty n) R (rq ty n (DN ty n) (hdR ty n) R).2 ∧ Dft (DN ty n) R (rq ty n (DN ty n) (hdR ty n) R).2 S1)) (c58 (by omega) (fun i hi => hp1.2.2 i (by omega)) (fun R S1 a1 a2 a3 a4 a5 => ⟨_, rfl, R, rfl, a1, a2, a3, a4, a5⟩)) ?_
  rintro _ S1 ⟨R, rfl, a1, a2, a3, a4, a5⟩
  have a2' : Fz (TF3 ++ RX) [15, 16, 17, 18, 19, 20, 21, 22] S S1 := a2.mono (by decide) (by decide)
  refine b101_33 (fun h0 => ?_) (fun h0 => b101_38 (Or.inl ⟨_, rfl, ⟨(seti_ne (by decide)).trans (a2.f (by decide)), a2.ar (by decide)⟩, ?_⟩))
  · have h0' : (rq ty n (DN ty n) (hdR ty n) R).1.1 = 0 := i_inj2 (b := 0) (Nat.lt_trans (rq_lt hdR_lt R) (by omega)) (by omega) h0
    obtain ⟨hR, hRW, hDf⟩ := a5 h0'
    have f1 : Fz (TF3 ++ RX) [15, 16, 17, 18, 19, 20, 21, 22] S (setI S1 0 16 (-1)) := a2'.seti (by decide)
    have hDf' : Dft (DN ty n) R (rq ty n (DN ty n) (hdR ty n) R).2 (setI S1 0 16 (-1)) := ⟨(seti_ne (by decide)).trans hDf.1, (seti_ne (by decide)).trans hDf.2.1, hDf.2.2.1, hDf.2.2.2⟩
    have z16 : (setI S1 0 16 (-1)).1 0 16 = -1 := seti_same
    have z11 : (setI S1 0 16 (-1)).1 1 1 = 0 := (seti_ne (by decide)).trans a3
    refine b101_54 (P := fun S2 => Fz (TF3 ++ RX) [15, 16, 17, 18, 19, 20, 21, 22] S S2 ∧ Fz [(2, 0), (2, 1)] [15, 16, 17, 18] (setI S1 0 16 (-1)) S2 ∧ Tld (DN ty n) R (rq ty n (DN ty n) (hdR ty n) R).2 S2 ∧ T18 R (rq ty n (DN ty n) (hdR ty n) R).2 S2) (c70 hDf' hR (fun S2 b1 b2 b3 => ⟨rfl, f1.trans (b1.mono (by decide) (by decide)), b1, b2, b3⟩)) ?_
    rintro S2 ⟨b0, b1, b2, b3⟩
    refine b101_70 (P := fun S3 => S3 = setI S2 12 3 0) (b1_0 ⟨rfl, rfl⟩) ?_
    rintro _ rfl
    refine b101_77 (P := Vx (bit R - 1) (setI S2 12 3 0)) (b71_0 ⟨_, rfl, by rw [seti_ne (by decide), b2.2.1]; rfl, rfl⟩) ?_
    rintro _ _ ⟨rfl, rfl⟩
    refine b101_85 (Or.inr rfl) ?_
    have F5 : Fz RX [] S2 (setI (setI (setI (setI S2 12 3 0) 0 14 (bit R - 1)) 0 15 0) 0 17 1) := (((Fz.refl.seti (by decide)).seti (by decide)).seti (by decide)).seti (by decide)
    have F5' : Fz [(12, 3), (0, 14), (0, 15), (0, 17)] [] S2 (setI (setI (setI (setI S2 12 3 0) 0 14 (bit R - 1)) 0 15 0) 0 17 1) := (((Fz.refl.seti (by decide)).seti (by decide)).seti (by decide)).seti (by decide)
    have i14 : (setI (setI (setI (setI S2 12 3 0) 0 14 (bit R - 1)) 0 15 0) 0 17 1).1 0 14 = bit R - 1 := (seti_ne (by decide)).trans ((seti_ne (by decide)).trans seti_same)
    have i15 : (setI (setI (setI (setI S2 12 3 0) 0 14 (bit R - 1)) 0 15 0) 0 17 1).1 0 15 = 0 := (seti_ne (by decide)).trans seti_same
    have i17 : (setI (setI (setI (setI S2 12 3 0) 0 14 (bit R - 1)) 0 15 0) 0 17 1).1 0 17 = 1 := seti_same
    have i123 : (setI (setI (setI (setI S2 12 3 0) 0 14 (bit R - 1)) 0 15 0) 0 17 1).1 12 3 = 0 := (seti_ne (by decide)).trans ((seti_ne (by decide)).trans ((seti_ne (by decide)).trans seti_same))
    generalize setI (setI (setI (setI S2 12 3 0) 0 14 (bit R - 1)) 0 15 0) 0 17 1 = S5 at *
    have G5 : Fz (TF3 ++ RX) [15, 16, 17, 18, 19, 20, 21, 22] S S5 := b0.trans (F5.mono (by decide) (by decide))
    have e21 : S5.1 2 1 = Int32.ofNat R := (F5'.f (by decide)).trans b2.2.1
    have g16 : S5.1 0 16 = -1 := (F5'.f (by decide)).trans ((b1.f (by decide)).trans z16)
    have g11 : S5.1 1 1 = 0 := (F5'.f (by decide)).trans ((b1.f (by decide)).trans z11)
    have c2 : Tld (DN ty n) R (rq ty n (DN ty n) (hdR ty n) R).2 S5 := ⟨(F5'.f (by decide)).trans b2.1, e21, fun r k hr hk => by rw [F5'.a (by decide)]; exact b2.2.2.1 r k hr hk, fun r hr => (F5'.a (by decide) r).trans (b2.2.2.2.1 r hr), fun r hr => (F5'.a (by decide) r).trans (b2.2.2.2.2 r hr)⟩
    have c3 : T18 R (rq ty n (DN ty n) (hdR ty n) R).2 S5 := fun r hr k => by rw [F5'.a (by decide)]; exact b3 r hr k
    exact Or.inl ⟨_, rfl, ⟨G5.f (by decide), G5.ar (by decide)⟩, rays_ok hJ hnt a1 h0' G5 g16 g11 c2 c3 i14 i15 i17 i123 e21⟩
  · exact rays_err hJ hC hM hnt a1 (fun z => h0 (by rw [z]; rfl)) ((a2.mono (by decide) (by decide)).seti (by decide)) (seti_same.trans a4.2.1) ((seti_ne (by decide)).trans a3) rfl
end OBRAYS
