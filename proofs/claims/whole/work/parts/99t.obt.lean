/-! THE CALLS THAT MAY THROW: one ray, two -/
section OBT
variable {L : Nat}
theorem o104 : ∀ a1 a2, ObB (J L) 2 104 179 [(1, 1)] [.int a1, .int a2] := by
  intro x z S hS
  obtain ⟨hL, D, m, rl, ins, nu, tn0, ty, an, aa, T, hN, hJT, hJF, hJP, hJA, hJY, hC, hM⟩ := hS
  have hJ : JS L D m rl ins nu tn0 ty an aa T S := ⟨hL, hN, hJT, hJF, hJP, hJA, hJY⟩
  have hU := wn_uw hN
  obtain ⟨t1, t2, t3, t4, t5, t6, t7, t8⟩ := id hJT
  have j0 : J L S := j_of hJ hC hM
  refine b104_0 (by omega) (n135 t1.2.1 hN.2.1) ?_ ?_
  · rintro _ ⟨rfl, hr⟩
    have hD := hN.1
    have hcl := i_clt z
    have thr : ¬ (¬ z < 0 ∧ z.toNatClampNeg < D) → Wp 1999 0 179 0 [.ref 46, .int x, .int z] [] S (Ri fun w S2 => S2.1 46 4 = Int32.ofNat 1 ∧ J L S2) := fun hn => w179 t5 (fun _ v => ⟨_, rfl, seti_same, j4 (j4 j0)⟩) (fun h1 h2 h3 => absurd ⟨h2, h3⟩ hn)
    refine b104_5 (fun q => b104_20 (by omega) (Or.inr ⟨_, rfl, ⟨rfl, rfl⟩, 1, 1, rfl, by decide, thr (fun w => w.1 q)⟩)) (fun q => ?_)
    have ez := i_of q
    refine b104_9 (fun w => ?_) (fun w => b104_20 (by omega) (Or.inr ⟨_, rfl, ⟨rfl, rfl⟩, 1, 1, rfl, by decide, thr (fun v => w ?_)⟩))
    rotate_left
    · rw [t1.1, ez]
      exact (i_lt (by omega) (by omega)).2 v.2
    have zD : z.toNatClampNeg < D := by
      rw [t1.1, ez] at w
      exact (i_lt (by omega) (by omega)).1 w
    obtain ⟨x0, xm⟩ := of_decide_eq_true hr
    have hm := hN.2.1
    have ex := i_of x0
    refine b104_30 (P := Vx (S.2.1 15 (4 * x.toNatClampNeg + z.toNatClampNeg)) S) (by
      have := s72a (d := 1996) (b := 0) (S := S) (r := x.toNatClampNeg) (k := z.toNatClampNeg) (by omega) (by omega)
      rw [← ex, ← ez] at this
      exact this) ?_
    rintro _ _ ⟨rfl, rfl⟩
    refine b104_39 (Or.inl ⟨_, rfl, ⟨rfl, rfl⟩, w179 (S := setO S _) t5 (fun hn => absurd ⟨hr, q, zD⟩ hn) (fun h1 h2 h3 => ⟨_, rfl, seti_same, rfl, ?_, j4 j0.o⟩)⟩)
    refine ti_ext ?_
    rw [t1.2.2.1 _ _ xm (by omega)]
    exact t7 _ _ xm zD
  · rintro X S1 ⟨rfl, rfl, hn⟩
    exact Or.inr ⟨_, rfl, ⟨rfl, rfl⟩, 1, 1, rfl, by decide, w179 t5 (fun _ v => ⟨_, rfl, seti_same, j4 (j4 j0)⟩) (fun h1 _ _ => absurd h1 hn)⟩
theorem o105 : ∀ a1, ObC (J L) 1 105 180 [(1, 1)] [.int a1] := by
  intro x S hS
  obtain ⟨hL, D, m, rl, ins, nu, tn0, ty, an, aa, T, hN, hJT, hJF, hJP, hJA, hJY, hC, hM⟩ := hS
  have hJ : JS L D m rl ins nu tn0 ty an aa T S := ⟨hL, hN, hJT, hJF, hJP, hJA, hJY⟩
  have hU := wn_uw hN
  obtain ⟨t1, t2, t3, t4, t5, t6, t7, t8⟩ := id hJT
  have j0 : J L S := j_of hJ hC hM
  refine b105_0 (by omega) (n135 t1.2.1 hN.2.1) ?_ ?_
  · rintro _ ⟨rfl, hr⟩
    obtain ⟨x0, xm⟩ := of_decide_eq_true hr
    have hm := hN.2.1
    have ex := i_of x0
    refine b105_5 (P := Vx (bi (tb ins x.toNatClampNeg)) S) (by
      rw [t3]
      have := s146 (d := 1997) (b := 0) (S := S) ins (r := x.toNatClampNeg) (by omega)
      rw [← ex] at this
      exact this) ?_
    rintro _ _ ⟨rfl, rfl⟩
    exact b105_13 (bi01 _) (Or.inl ⟨_, rfl, ⟨rfl, rfl⟩, w180 (S := setO S _) t5 (fun hn => absurd hr hn) (fun _ => ⟨_, rfl, seti_same, rfl, rfl, j4 j0.o⟩)⟩)
  · rintro X S1 ⟨rfl, rfl, hn⟩
    exact Or.inr ⟨_, rfl, ⟨rfl, rfl⟩, 1, 1, rfl, by decide, w180 t5 (fun _ v => ⟨_, rfl, seti_same, j4 j0⟩) (fun h1 => absurd h1 hn)⟩
theorem o106 : ∀ a1 a2, ObB (J L) 2 106 181 [(1, 1)] [.int a1, .int a2] := by
  intro x z S hS
  obtain ⟨hL, D, m, rl, ins, nu, tn0, ty, an, aa, T, hN, hJT, hJF, hJP, hJA, hJY, hC, hM⟩ := hS
  have hJ : JS L D m rl ins nu tn0 ty an aa T S := ⟨hL, hN, hJT, hJF, hJP, hJA, hJY⟩
  have hU := wn_uw hN
  obtain ⟨t1, t2, t3, t4, t5, t6, t7, t8⟩ := id hJT
  have j0 : J L S := j_of hJ hC hM
  have thr : ¬ (rayB m x = true ∧ rayB m z = true) → Wp 1999 0 181 0 [.ref 46, .int x, .int z] [] S (Ri fun w S2 => S2.1 46 4 = Int32.ofNat 1 ∧ J L S2) := fun hn => w181 t5 (fun _ v => ⟨_, rfl, seti_same, j4 (j4 j0)⟩) (fun h1 h2 => absurd ⟨h1, h2⟩ hn)
  refine b106_0 (by omega) (n135 t1.2.1 hN.2.1) ?_ (by
    rintro X S1 ⟨rfl, rfl, hn⟩
    exact Or.inr ⟨_, rfl, ⟨rfl, rfl⟩, 1, 1, rfl, by decide, thr (fun w => hn w.1)⟩)
  rintro _ ⟨rfl, hr⟩
  refine b106_5 (by omega) (n135 t1.2.1 hN.2.1) ?_ (by
    rintro X S1 ⟨rfl, rfl, hn⟩
    exact Or.inr ⟨_, rfl, ⟨rfl, rfl⟩, 1, 1, rfl, by decide, thr (fun w => hn w.2)⟩)
  rintro _ ⟨rfl, hz⟩
  obtain ⟨x0, xm⟩ := of_decide_eq_true hr
  obtain ⟨z0, zm⟩ := of_decide_eq_true hz
  have hm := hN.2.1
  have ex := i_of x0
  have ez := i_of z0
  refine b106_10 (P := Vx (dotN (S.2.1 15) x.toNatClampNeg z.toNatClampNeg 4) S) (by
    have := s78a (d := 1995) (b := 0) (S := S) (r := x.toNatClampNeg) (o := z.toNatClampNeg) (by omega) (by omega)
    rw [← ex, ← ez] at this
    exact this) ?_
  rintro _ _ ⟨rfl, rfl⟩
  refine b106_19 (Or.inl ⟨_, rfl, ⟨rfl, rfl⟩, w181 (S := setO S _) t5 (fun hn => absurd ⟨hr, hz⟩ hn) (fun _ _ => ⟨_, rfl, seti_same, rfl, ?_, j4 j0.o⟩)⟩)
  refine ti_ext ?_
  have e1 := ti_dot hN.1 hN.2.2.2.2 (num := S.2.1 47) (fun r k hr hk => t7 r k hr hk) xm zm
  have e2 := ti_dot4 (num := S.2.1 15) (r := x.toNatClampNeg) (o := z.toNatClampNeg) (nu := nu) (fun k hk => ⟨t1.2.2.1 _ k xm hk, t1.2.2.1 _ k zm hk⟩) (hN.2.2.2.2.1 _ xm).1 (hN.2.2.2.2.1 _ zm).1
  exact e1.trans e2.symm
theorem o107 : ∀ a1, ObB (J L) 1 107 182 [(1, 1)] [.int a1] := by
  intro x S hS
  obtain ⟨hL, D, m, rl, ins, nu, tn0, ty, an, aa, T, hN, hJT, hJF, hJP, hJA, hJY, hC, hM⟩ := hS
  have hJ : JS L D m rl ins nu tn0 ty an aa T S := ⟨hL, hN, hJT, hJF, hJP, hJA, hJY⟩
  have hU := wn_uw hN
  obtain ⟨t1, t2, t3, t4, t5, t6, t7, t8⟩ := id hJT
  have j0 : J L S := j_of hJ hC hM
  refine b107_0 (by omega) (n135 t1.2.1 hN.2.1) ?_ (by
    rintro X S1 ⟨rfl, rfl, hn⟩
    exact Or.inr ⟨_, rfl, ⟨rfl, rfl⟩, 1, 1, rfl, by decide, w182 t6 (fun _ v => ⟨_, rfl, seti_same, j4 (j4 j0)⟩) (fun h1 => absurd h1 hn)⟩)
  rintro _ ⟨rfl, hr⟩
  refine b107_5 (P := fun S1 => Fz RfF RfR S S1 ∧ S1.1 0 17 = 0 ∧ KC D m rl ins nu S1) (c141 hJ hC (fun S1 a1 a2 a3 => ⟨rfl, a1, a2, a3⟩)) ?_
  rintro S1 ⟨a1, a2, a3⟩
  have hJ1 := hJ.of a1 (by decide) (by decide)
  have hM1 := hM.of a1 (by decide)
  have hC1 : JC D m rl ins nu S1 := Or.inr ⟨a2, a3⟩
  have j1 : J L S1 := j_of hJ1 hC1 hM1
  have sc : Sc S S1 := ⟨a1.f (by decide), a1.ar (by decide)⟩
  obtain ⟨k1, k2, k3, k4, k5, k6, k7, k8, k9, k10, k11, k12, k13⟩ := id a3
  obtain ⟨u1, u2, u3, u4, u5, u6, u7, u8⟩ := id hJ1.2.2.1
  obtain ⟨x0, xm⟩ := of_decide_eq_true hr
  have hm := hN.2.1
  have ex := i_of x0
  refine b107_9 (P := Vx (upN m ins nu x.toNatClampNeg) S1) (by
    have := s147d (d := 1997) (b := 0) (S := S1) (i := x.toNatClampNeg) (by omega)
    rw [if_pos (by omega), k1.2.2.1 _ (by omega), ← ex] at this
    exact this) ?_
  rintro _ _ ⟨rfl, rfl⟩
  exact b107_20 (Or.inl ⟨_, rfl, sc, w182 (S := setO S1 _) u6 (fun hn => absurd hr hn) (fun _ => ⟨_, rfl, seti_same, rfl, rfl, j4 j1.o⟩)⟩)
theorem o108 : ∀ a1, ObB (J L) 1 108 183 [(1, 1)] [.int a1] := by
  intro x S hS
  obtain ⟨hL, D, m, rl, ins, nu, tn0, ty, an, aa, T, hN, hJT, hJF, hJP, hJA, hJY, hC, hM⟩ := hS
  have hJ : JS L D m rl ins nu tn0 ty an aa T S := ⟨hL, hN, hJT, hJF, hJP, hJA, hJY⟩
  have hU := wn_uw hN
  obtain ⟨t1, t2, t3, t4, t5, t6, t7, t8⟩ := id hJT
  have j0 : J L S := j_of hJ hC hM
  refine b108_0 (P := fun S1 => Fz RfF RfR S S1 ∧ S1.1 0 17 = 0 ∧ KC D m rl ins nu S1) (c141 hJ hC (fun S1 a1 a2 a3 => ⟨rfl, a1, a2, a3⟩)) ?_
  rintro S1 ⟨a1, a2, a3⟩
  have hJ1 := hJ.of a1 (by decide) (by decide)
  have hM1 := hM.of a1 (by decide)
  have hC1 : JC D m rl ins nu S1 := Or.inr ⟨a2, a3⟩
  have j1 : J L S1 := j_of hJ1 hC1 hM1
  have sc : Sc S S1 := ⟨a1.f (by decide), a1.ar (by decide)⟩
  obtain ⟨k1, k2, k3, k4, k5, k6, k7, k8, k9, k10, k11, k12, k13⟩ := id a3
  obtain ⟨u1, u2, u3, u4, u5, u6, u7, u8⟩ := id hJ1.2.2.1
  have hcl := i_clt x
  have hl := hU.2.2.2.2.2.2.2.2.2
  have thr : ¬ (¬ x < 0 ∧ x.toNatClampNeg < (frN D m ins nu).length) → Wp 1999 0 183 0 [.ref 46, .int x] [] S1 (Ri fun w S2 => S2.1 46 4 = Int32.ofNat 1 ∧ J L S2) := fun hn => w183 u6 (fun _ v => ⟨_, rfl, seti_same, j4 (j4 j1)⟩) (fun h1 h2 => absurd ⟨h1, h2⟩ hn)
  refine b108_4 (fun q => b108_19 (by omega) (Or.inr ⟨_, rfl, sc, 1, 1, rfl, by decide, thr (fun w => w.1 q)⟩)) (fun q => ?_)
  have ex := i_of q
  refine b108_8 (fun w => ?_) (fun w => b108_19 (by omega) (Or.inr ⟨_, rfl, sc, 1, 1, rfl, by decide, thr (fun v => w ?_)⟩))
  rotate_left
  · rw [k1.2.2.2.1, ex]
    exact (i_lt (by omega) (by omega)).2 v.2
  have xl : x.toNatClampNeg < (frN D m ins nu).length := by
    rw [k1.2.2.2.1, ex] at w
    exact (i_lt (by omega) (by omega)).1 w
  refine b108_29 (P := Vx ((frN D m ins nu).getD x.toNatClampNeg 0) S1) (by
    have := s147g (d := 1997) (b := 0) (S := S1) (i := x.toNatClampNeg) (by omega)
    rw [if_pos (by omega), k1.2.2.2.2.1 _ xl, ← ex] at this
    exact this) ?_
  rintro _ _ ⟨rfl, rfl⟩
  exact b108_40 (Or.inl ⟨_, rfl, sc, w183 (S := setO S1 _) u6 (fun hn => absurd ⟨q, xl⟩ hn) (fun _ _ => ⟨_, rfl, seti_same, rfl, rfl, j4 j1.o⟩)⟩)
end OBT
