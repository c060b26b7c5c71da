/-! THE CALLS THAT MAY THROW: choices, the most, parity, symmetries -/
section OBU
variable {L : Nat}
theorem o109 : ∀ a1, ObB (J L) 1 109 184 [(1, 1)] [.int a1] := by
  intro x S hS
  obtain ⟨hL, D, m, rl, ins, nu, tn0, ty, an, aa, T, hN, hJT, hJF, hJP, hJA, hJY, hC, hM⟩ := hS
  have hJ : JS L D m rl ins nu tn0 ty an aa T S := ⟨hL, hN, hJT, hJF, hJP, hJA, hJY⟩
  have hU := wn_uw hN
  obtain ⟨t1, t2, t3, t4, t5, t6, t7, t8⟩ := id hJT
  have j0 : J L S := j_of hJ hC hM
  refine b109_0 (P := fun S1 => Fz RfF RfR S S1 ∧ S1.1 0 17 = 0 ∧ KC D m rl ins nu S1) (c141 hJ hC (fun S1 a1 a2 a3 => ⟨rfl, a1, a2, a3⟩)) ?_
  rintro S1 ⟨a1, a2, a3⟩
  have hJ1 := hJ.of a1 (by decide) (by decide)
  have hM1 := hM.of a1 (by decide)
  have hC1 : JC D m rl ins nu S1 := Or.inr ⟨a2, a3⟩
  have j1 : J L S1 := j_of hJ1 hC1 hM1
  have sc : Sc S S1 := ⟨a1.f (by decide), a1.ar (by decide)⟩
  obtain ⟨k1, k2, k3, k4, k5, k6, k7, k8, k9, k10, k11, k12, k13⟩ := id a3
  obtain ⟨u1, u2, u3, u4, u5, u6, u7, u8⟩ := id hJ1.2.2.1
  have hcl := i_clt x
  have hlow := uw_low hU
  have cl := wn_clen hN
  refine b109_4 (fun q => b109_19 (by omega) (Or.inr ⟨_, rfl, sc, 1, 1, rfl, by decide, w184 u6 (fun _ v S2 e1 e2 => ⟨_, rfl, e2, j1.of e1 (by decide) (by decide)⟩) (fun h1 => absurd q h1)⟩)) (fun q => ?_)
  have ex := i_of q
  refine b109_8 (P := fun v S2 => v = Int32.ofNat (chs m rl (upN m ins nu) (frN D m ins nu) ins).length ∧ Fz [(6, 5), (6, 6), (6, 7)] [] S1 S2 ∧ CC (chs m rl (upN m ins nu) (frN D m ins nu) ins) S2) (c10 (uw_wd hU) (wn_cho hN) hlow.1 hlow.2 k2 k3 k4 (fun S2 c1 c2 => ⟨_, rfl, rfl, c1, c2⟩)) ?_
  rintro _ S2 ⟨rfl, c1, c2⟩
  have hJ2 := hJ1.of c1 (by decide) (by decide)
  have hM2 := hM1.of c1 (by decide)
  have hC2 : JC D m rl ins nu S2 := Or.inr ⟨(c1.f (by decide)).trans a2, ⟨k1.of c1 (by decide), k2.of c1 (by decide), (c1.f (by decide)).trans k3, c2, k5.of c1 (by decide), (c1.f (by decide)).trans k6, k7.of c1 (by decide), k8.of c1 (by decide), (by rw [c1.f (by decide)]; exact k9), (by rw [c1.f (by decide)]; exact k10), (by rw [c1.f (by decide)]; exact k11), k12.of c1 (by decide), k13.of c1 (by decide)⟩⟩
  have j2 : J L S2 := j_of hJ2 hC2 hM2
  have sc2 : Sc S S2 := ⟨(c1.f (by decide)).trans sc.1, (c1.ar (by decide)).trans sc.2⟩
  obtain ⟨v1, v2, v3, v4, v5, v6, v7, v8⟩ := id hJ2.2.2.1
  refine b109_16 (fun w => ?_) (fun w => b109_19 (by omega) (Or.inr ⟨_, rfl, sc2, 1, 1, rfl, by decide, w184 v6 (fun _ v S3 e1 e2 => ⟨_, rfl, e2, j2.of e1 (by decide) (by decide)⟩) (fun h1 h2 => absurd ?_ w)⟩))
  rotate_left
  · rw [ex]
    exact (i_lt (by omega) (by omega)).2 h2
  have xl : x.toNatClampNeg < (chs m rl (upN m ins nu) (frN D m ins nu) ins).length := by
    rw [ex] at w
    exact (i_lt (by omega) (by omega)).1 w
  refine b109_29 (P := fun v S3 => v = (chs m rl (upN m ins nu) (frN D m ins nu) ins).getD x.toNatClampNeg 0 ∧ Fz [(6, 5), (6, 6)] [] S2 S3) (by
    have := c15 (d := 1950) (b := 0) (S := S2) (k := x.toNatClampNeg) (Q := Ri fun v S3 => v = (chs m rl (upN m ins nu) (frN D m ins nu) ins).getD x.toNatClampNeg 0 ∧ Fz [(6, 5), (6, 6)] [] S2 S3) (uw_wd hU) (wn_cho hN) hlow.1 hlow.2 (k2.of c1 (by decide)) ((c1.f (by decide)).trans k3) xl cl (fun S3 e1 => ⟨_, rfl, rfl, e1⟩)
    rw [← ex] at this
    exact this) ?_
  rintro _ S3 ⟨rfl, e1⟩
  have j3 : J L S3 := j2.of e1 (by decide) (by decide)
  obtain ⟨_, _, _, _, _, x6, _⟩ := (hJ2.of e1 (by decide) (by decide)).2.2.1
  exact b109_37 (Or.inl ⟨_, rfl, ⟨(e1.f (by decide)).trans sc2.1, (e1.ar (by decide)).trans sc2.2⟩, w184 (S := setO S3 _) x6 (fun h => by rcases h with h | h; exact absurd h q; omega) (fun _ _ S4 g1 g2 => ⟨_, rfl, g2, g1.2.2, rfl, (j3.o).of g1 (by decide) (by decide)⟩)⟩)
theorem fit_yes {C : List Int32} {r : Nat} (hr : r < 32) : fit C (bit r) 0 = C.filter (fun Y => tb Y r == decide ((1 : Int32) = 1)) := by
  unfold fit
  refine List.filter_congr (fun Y _ => ?_)
  have e0 : decide ((0 : Int32) &&& Y = 0) = true := decide_eq_true (and_zero_l Y)
  have e1 : decide ((1 : Int32) = 1) = true := decide_eq_true rfl
  rw [e0, e1, Bool.and_true, Bool.eq_iff_iff, decide_eq_true_eq, sub0]
  constructor
  · intro h
    have := h r (by rw [tb_bit hr]; exact decide_eq_true rfl)
    rw [this]; rfl
  · intro h k hk
    rw [tb_bit hr, decide_eq_true_eq] at hk
    rw [hk]
    cases e : tb Y r
    · rw [e] at h; cases h
    · rfl
theorem fit_no {C : List Int32} {r : Nat} (hr : r < 32) : fit C 0 (bit r) = C.filter (fun Y => tb Y r == decide ((0 : Int32) = 1)) := by
  unfold fit
  refine List.filter_congr (fun Y _ => ?_)
  have e0 : decide ((0 : Int32) &&& (Y ^^^ -1) = 0) = true := decide_eq_true (and_zero_l _)
  have e1 : decide ((0 : Int32) = 1) = false := decide_eq_false (by decide)
  rw [e0, e1, Bool.true_and, Bool.eq_iff_iff, decide_eq_true_eq]
  constructor
  · intro h
    have := and_n h (k := r) (by rw [tb_bit hr]; exact decide_eq_true rfl)
    rw [this]; rfl
  · intro h
    refine and0.2 (fun k _ q => ?_)
    rw [tb_bit hr, decide_eq_true_eq] at q
    rw [q.1] at q
    rw [q.2] at h
    cases h
theorem o110 : ∀ a1 a2, ObB (J L) 2 110 185 [(1, 1)] [.int a1, .int a2] := by
  intro x z S hS
  obtain ⟨hL, D, m, rl, ins, nu, tn0, ty, an, aa, T, hN, hJT, hJF, hJP, hJA, hJY, hC, hM⟩ := hS
  have hJ : JS L D m rl ins nu tn0 ty an aa T S := ⟨hL, hN, hJT, hJF, hJP, hJA, hJY⟩
  have hU := wn_uw hN
  obtain ⟨t1, t2, t3, t4, t5, t6, t7, t8⟩ := id hJT
  have j0 : J L S := j_of hJ hC hM
  have thr : ¬ ((rayB m x && tb ins x.toNatClampNeg) = true ∧ (z = 0 ∨ z = 1)) → Wp 1999 0 185 0 [.ref 46, .int x, .int z] [] S (Ri fun w S2 => S2.1 46 4 = Int32.ofNat 1 ∧ J L S2) := fun hn => w185 t6 (fun _ v S2 e1 e2 => ⟨_, rfl, e2, j0.of e1 (by decide) (by decide)⟩) (fun h1 h2 => absurd ⟨h1, h2⟩ hn)
  refine b110_0 (by omega) (n136 t1.2.1 hN.2.1 t3) ?_ (by
    rintro X S1 ⟨rfl, rfl, hn⟩
    exact Or.inr ⟨_, rfl, ⟨rfl, rfl⟩, 1, 1, rfl, by decide, thr (fun w => hn w.1)⟩)
  rintro _ ⟨rfl, hr⟩
  obtain ⟨hr1, hr2⟩ := (Bool.and_eq_true _ _ ▸ hr : _ ∧ _)
  obtain ⟨x0, xm⟩ := of_decide_eq_true hr1
  have hm := hN.2.1
  have ex := i_of x0
  have ebit : (1 : Int32) <<< (x &&& 31) = bit x.toNatClampNeg := by
    have : bit x.toNatClampNeg = (1 : Int32) <<< (Int32.ofNat x.toNatClampNeg &&& 31) := rfl
    rw [this, ← ex]
  have sbb : sb (bit x.toNatClampNeg) ins := fun k hk => by
    rw [tb_bit (by omega), decide_eq_true_eq] at hk
    rw [hk]; exact hr2
  have sb0 : sb 0 ins := fun k hk => by rw [tb_zero] at hk; cases hk
  have main : (z = 0 ∨ z = 1) → Wp 1998 (2 - 1) 110 24 [.ref 0, .int x, .int z] [] S (Rit (fun v S1 => Sc S S1 ∧ Wp 1999 0 185 0 [.ref 46, .int x, .int z] [] (setO S1 v.toInt64) (Ri fun w S2 => S2.1 46 4 = 0 ∧ S2.2.2.2 = v.toInt64 ∧ w = v ∧ J L S2)) (fun X S1 => Sc S S1 ∧ ∃ j k, X = exN j ∧ (j, k) ∈ [(1, 1)] ∧ Wp 1999 0 185 0 [.ref 46, .int x, .int z] [] S1 (Ri fun w S2 => S2.1 46 4 = Int32.ofNat k ∧ J L S2))) := by
    intro hz
    refine b110_24 (P := fun S1 => Fz RfF RfR S S1 ∧ S1.1 0 17 = 0 ∧ KC D m rl ins nu S1) (c141 hJ hC (fun S1 a1 a2 a3 => ⟨rfl, a1, a2, a3⟩)) ?_
    rintro S1 ⟨a1, a2, a3⟩
    have hJ1 := hJ.of a1 (by decide) (by decide)
    have hM1 := hM.of a1 (by decide)
    have hC1 : JC D m rl ins nu S1 := Or.inr ⟨a2, a3⟩
    have j1 : J L S1 := j_of hJ1 hC1 hM1
    have sc : Sc S S1 := ⟨a1.f (by decide), a1.ar (by decide)⟩
    obtain ⟨k1, k2, k3, k4, k5, k6, k7, k8, k9, k10, k11, k12, k13⟩ := id a3
    obtain ⟨u1, u2, u3, u4, u5, u6, u7, u8⟩ := id hJ1.2.2.1
    have hlow := uw_low hU
    refine b110_28 (fun w => ?_) (fun w => ?_)
    · have z0 : z = 0 := by
        rcases hz with h | h
        · exact h
        · exact absurd h w
      subst z0
      rw [ebit]
      refine b110_49 (P := fun v S2 => v = Int32.ofNat (fit (chs m rl (upN m ins nu) (frN D m ins nu) ins) 0 (bit x.toNatClampNeg)).length ∧ Fz [(6, 5), (6, 6)] [] S1 S2) (c11 (uw_wd hU) (wn_cho hN) hlow.1 hlow.2 k2 k3 sb0 sbb (fun S2 c1 => ⟨_, rfl, rfl, c1⟩)) ?_
      rintro _ S2 ⟨rfl, c1⟩
      have j2 : J L S2 := j1.of c1 (by decide) (by decide)
      obtain ⟨_, _, _, _, _, v6, _⟩ := (hJ1.of c1 (by decide) (by decide)).2.2.1
      refine b110_58 (Or.inl ⟨_, rfl, ⟨(c1.f (by decide)).trans sc.1, (c1.ar (by decide)).trans sc.2⟩, w185 (S := setO S2 _) v6 (fun hn => absurd ⟨hr, Or.inl rfl⟩ hn) (fun _ _ S3 e1 e2 => ⟨_, rfl, e2, e1.2.2, ?_, (j2.o).of e1 (by decide) (by decide)⟩)⟩)
      rw [fit_no (by omega)]
    · have z1 : z = 1 := Classical.byContradiction w
      subst z1
      rw [ebit]
      refine b110_37 (P := fun v S2 => v = Int32.ofNat (fit (chs m rl (upN m ins nu) (frN D m ins nu) ins) (bit x.toNatClampNeg) 0).length ∧ Fz [(6, 5), (6, 6)] [] S1 S2) (c11 (uw_wd hU) (wn_cho hN) hlow.1 hlow.2 k2 k3 sbb sb0 (fun S2 c1 => ⟨_, rfl, rfl, c1⟩)) ?_
      rintro _ S2 ⟨rfl, c1⟩
      have j2 : J L S2 := j1.of c1 (by decide) (by decide)
      obtain ⟨_, _, _, _, _, v6, _⟩ := (hJ1.of c1 (by decide) (by decide)).2.2.1
      refine b110_46 (b110_58 (Or.inl ⟨_, rfl, ⟨(c1.f (by decide)).trans sc.1, (c1.ar (by decide)).trans sc.2⟩, w185 (S := setO S2 _) v6 (fun hn => absurd ⟨hr, Or.inr rfl⟩ hn) (fun _ _ S3 e1 e2 => ⟨_, rfl, e2, e1.2.2, ?_, (j2.o).of e1 (by decide) (by decide)⟩)⟩))
      rw [fit_yes (by omega)]
  refine b110_5 (fun q => main (Or.inl q)) (fun q => b110_9 (fun w => main (Or.inr w)) (fun w => b110_14 (by omega) (Or.inr ⟨_, rfl, ⟨rfl, rfl⟩, 1, 1, rfl, by decide, thr (fun v => ?_)⟩)))
  rcases v.2 with h | h
  · exact q h
  · exact w h
theorem o115 : ∀ a1, ObC (J L) 1 115 186 [(0, 1)] [.int a1] := by
  intro x S hS
  obtain ⟨hL, D, m, rl, ins, nu, tn0, ty, an, aa, T, hN, hJT, hJF, hJP, hJA, hJY, hC, hM⟩ := hS
  have hJ : JS L D m rl ins nu tn0 ty an aa T S := ⟨hL, hN, hJT, hJF, hJP, hJA, hJY⟩
  have hU := wn_uw hN
  obtain ⟨t1, t2, t3, t4, t5, t6, t7, t8⟩ := id hJT
  have j0 : J L S := j_of hJ hC hM
  refine b115_0 (by omega) (n137 t3) ?_ (by
    rintro X S1 ⟨rfl, rfl, hn⟩
    exact Or.inr ⟨_, rfl, ⟨rfl, rfl⟩, 0, 1, rfl, by decide, w186 t6 (fun _ v S2 e1 e2 => ⟨_, rfl, e2, j0.of e1 (by decide) (by decide)⟩) (fun h1 => absurd h1 hn)⟩)
  rintro _ ⟨rfl, hs⟩
  refine b115_5 (P := fun S1 => Fz RfF RfR S S1 ∧ S1.1 0 17 = 0 ∧ KC D m rl ins nu S1) (c141 hJ hC (fun S1 a1 a2 a3 => ⟨rfl, a1, a2, a3⟩)) ?_
  rintro S1 ⟨a1, a2, a3⟩
  have hJ1 := hJ.of a1 (by decide) (by decide)
  have hM1 := hM.of a1 (by decide)
  have hC1 : JC D m rl ins nu S1 := Or.inr ⟨a2, a3⟩
  have j1 : J L S1 := j_of hJ1 hC1 hM1
  have sc : Sc S S1 := ⟨a1.f (by decide), a1.ar (by decide)⟩
  obtain ⟨k1, k2, k3, k4, k5, k6, k7, k8, k9, k10, k11, k12, k13⟩ := id a3
  obtain ⟨u1, u2, u3, u4, u5, u6, u7, u8⟩ := id hJ1.2.2.1
  refine b115_9 (P := fun v S2 => v = bi (rfB m rl (upN m ins nu) (frN D m ins nu) x) ∧ Fz [(13, 2), (13, 4), (13, 5), (13, 6), (13, 7), (13, 8), (13, 9)] [29, 30] S1 S2) (c64 hU k1 k6 hs (fun S2 c1 => ⟨_, rfl, rfl, c1⟩)) ?_
  rintro _ S2 ⟨rfl, c1⟩
  have j2 : J L S2 := j1.of c1 (by decide) (by decide)
  obtain ⟨_, _, _, _, _, v6, _⟩ := (hJ1.of c1 (by decide) (by decide)).2.2.1
  exact b115_17 (bi01 _) (Or.inl ⟨_, rfl, ⟨(c1.f (by decide)).trans sc.1, (c1.ar (by decide)).trans sc.2⟩, w186 (S := setO S2 _) v6 (fun hn => absurd hs hn) (fun _ S3 e1 e2 => ⟨_, rfl, e2, e1.2.2, rfl, (j2.o).of e1 (by decide) (by decide)⟩)⟩)
theorem o125 : ∀ a1 a2, ObB (J L) 2 125 219 [(1, 1)] [.int a1, .int a2] := by
  intro x z S hS
  obtain ⟨hL, D, m, rl, ins, nu, tn0, ty, an, aa, T, hN, hJT, hJF, hJP, hJA, hJY, hC, hM⟩ := hS
  have hJ : JS L D m rl ins nu tn0 ty an aa T S := ⟨hL, hN, hJT, hJF, hJP, hJA, hJY⟩
  have hU := wn_uw hN
  obtain ⟨t1, t2, t3, t4, t5, t6, t7, t8⟩ := id hJT
  have j0 : J L S := j_of hJ hC hM
  have thr : ¬ ((rayB m x && tb ins x.toNatClampNeg) = true ∧ (rayB m z && tb ins z.toNatClampNeg) = true) → Wp 1999 0 219 0 [.ref 46, .int x, .int z] [] S (Ri fun w S2 => S2.1 46 4 = Int32.ofNat 1 ∧ J L S2) := fun hn => w219 t6 (fun _ v S2 e1 e2 => ⟨_, rfl, e2, j0.of e1 (by decide) (by decide)⟩) (fun h1 h2 => absurd ⟨h1, h2⟩ hn)
  refine b125_0 (by omega) (n136 t1.2.1 hN.2.1 t3) ?_ (by
    rintro X S1 ⟨rfl, rfl, hn⟩
    exact Or.inr ⟨_, rfl, ⟨rfl, rfl⟩, 1, 1, rfl, by decide, thr (fun w => hn w.1)⟩)
  rintro _ ⟨rfl, hr⟩
  refine b125_5 (by omega) (n136 t1.2.1 hN.2.1 t3) ?_ (by
    rintro X S1 ⟨rfl, rfl, hn⟩
    exact Or.inr ⟨_, rfl, ⟨rfl, rfl⟩, 1, 1, rfl, by decide, thr (fun w => hn w.2)⟩)
  rintro _ ⟨rfl, hz⟩
  obtain ⟨hr1, hr2⟩ := (Bool.and_eq_true _ _ ▸ hr : _ ∧ _)
  obtain ⟨hz1, hz2⟩ := (Bool.and_eq_true _ _ ▸ hz : _ ∧ _)
  have ex := i_of (of_decide_eq_true hr1).1
  have ez := i_of (of_decide_eq_true hz1).1
  refine b125_10 (P := fun S1 => Fz RfF RfR S S1 ∧ S1.1 0 17 = 0 ∧ KC D m rl ins nu S1) (c141 hJ hC (fun S1 a1 a2 a3 => ⟨rfl, a1, a2, a3⟩)) ?_
  rintro S1 ⟨a1, a2, a3⟩
  have hJ1 := hJ.of a1 (by decide) (by decide)
  have hM1 := hM.of a1 (by decide)
  have hC1 : JC D m rl ins nu S1 := Or.inr ⟨a2, a3⟩
  have j1 : J L S1 := j_of hJ1 hC1 hM1
  have sc : Sc S S1 := ⟨a1.f (by decide), a1.ar (by decide)⟩
  obtain ⟨k1, k2, k3, k4, k5, k6, k7, k8, k9, k10, k11, k12, k13⟩ := id a3
  obtain ⟨u1, u2, u3, u4, u5, u6, u7, u8⟩ := id hJ1.2.2.1
  refine b125_14 (P := fun v S2 => S1 = S2 ∧ Dist (upN m ins nu) m x.toNatClampNeg z.toNatClampNeg v) (by
    have := c99 (d := 1996) (b := 0) (S := S1) (r := x.toNatClampNeg) (o := z.toNatClampNeg) (Q := Ri fun v S2 => S1 = S2 ∧ Dist (upN m ins nu) m x.toNatClampNeg z.toNatClampNeg v) hU k1 hr2 hz2 (fun v hv => ⟨_, rfl, rfl, hv⟩)
    rw [← ex, ← ez] at this
    exact this) ?_
  rintro v _ ⟨rfl, hv⟩
  exact b125_23 (Or.inl ⟨_, rfl, sc, w219 (S := setO S1 _) u6 (fun hn => absurd ⟨hr, hz⟩ hn) (fun _ _ w S3 e1 e2 e3 => ⟨_, rfl, e2, e1.2.2, e3.uniq hv, (j1.o).of e1 (by decide) (by decide)⟩)⟩)
theorem o120 : ∀ a1, ObB (J L) 1 120 207 [(1, 1)] [.int a1] := by
  intro x S hS
  obtain ⟨hL, D, m, rl, ins, nu, tn0, ty, an, aa, T, hN, hJT, hJF, hJP, hJA, hJY, hC, hM⟩ := hS
  have hJ : JS L D m rl ins nu tn0 ty an aa T S := ⟨hL, hN, hJT, hJF, hJP, hJA, hJY⟩
  have hU := wn_uw hN
  obtain ⟨t1, t2, t3, t4, t5, t6, t7, t8⟩ := id hJT
  have j0 : J L S := j_of hJ hC hM
  refine b120_0 (by omega) n138 ?_ (by
    rintro X S1 ⟨rfl, rfl, hn⟩
    exact Or.inr ⟨_, rfl, ⟨rfl, rfl⟩, 1, 1, rfl, by decide, w207 t5 hN.2.2.2.2 t7 (fun _ v S2 e1 e2 => ⟨_, rfl, e2, j0.of e1 (by decide) (by decide)⟩) (fun h1 => absurd h1 hn)⟩)
  rintro _ ⟨rfl, hx⟩
  refine b120_4 (P := fun S1 => Fz RfF RfR S S1 ∧ S1.1 0 17 = 0 ∧ KC D m rl ins nu S1) (c141 hJ hC (fun S1 a1 a2 a3 => ⟨rfl, a1, a2, a3⟩)) ?_
  rintro S1 ⟨a1, a2, a3⟩
  have hJ1 := hJ.of a1 (by decide) (by decide)
  have hM1 := hM.of a1 (by decide)
  have hC1 : JC D m rl ins nu S1 := Or.inr ⟨a2, a3⟩
  have j1 : J L S1 := j_of hJ1 hC1 hM1
  have sc : Sc S S1 := ⟨a1.f (by decide), a1.ar (by decide)⟩
  obtain ⟨k1, k2, k3, k4, k5, k6, k7, k8, k9, k10, k11, k12, k13⟩ := id a3
  obtain ⟨u1, u2, u3, u4, u5, u6, u7, u8⟩ := id hJ1.2.2.1
  refine b120_8 (P := fun S2 => Fz [(10, 8), (10, 9)] [37, 38, 39, 40, 41, 42] S1 S2 ∧ S2.1 10 8 = 1 ∧ S2.1 10 9 = Int32.ofNat (2 * wayN m ins nu (E2 D)) ∧ ∀ r, r < 20 → S2.2.1 37 r = if tb ins r = true then symI m ins nu (E2 D) r else 0) (c83 hN.1 hN.2.1 hN.2.2.2.1 hN.2.2.2.2 u1 k1.1 k13 (fun S2 c1 c2 c3 c4 => ⟨rfl, c1, c2, c3, c4⟩)) ?_
  rintro S2 ⟨c1, c2, c3, c4⟩
  have hJ2 := hJ1.of c1 (by decide) (by decide)
  have hM2 := hM1.of c1 (by decide)
  have hC2 : JC D m rl ins nu S2 := Or.inr ⟨(c1.f (by decide)).trans a2, ⟨k1.of c1 (by decide), k2.of c1 (by decide), (c1.f (by decide)).trans k3, k4.of c1 (by decide), k5.of c1 (by decide), (c1.f (by decide)).trans k6, k7.of c1 (by decide), k8.of c1 (by decide), (by rw [c1.f (by decide)]; exact k9), (by rw [c1.f (by decide)]; exact k10), (by rw [c1.f (by decide)]; exact k11), k12.of c1 (by decide), Or.inr ⟨c2, c3, c4⟩⟩⟩
  have j2 : J L S2 := j_of hJ2 hC2 hM2
  have sc2 : Sc S S2 := ⟨(c1.f (by decide)).trans sc.1, (c1.ar (by decide)).trans sc.2⟩
  obtain ⟨v1, v2, v3, v4, v5, v6, v7, v8⟩ := id hJ2.2.2.1
  have k51 : S2.1 5 1 = ins := (c1.f (by decide)).trans k1.1
  have mod : ∀ v, v = (if x = 0 then Int32.ofNat (2 * wayN m ins nu (E2 D)) else Int32.ofNat (cnt (kindB D m ins nu) 20)) → Wp 1999 0 207 0 [.ref 46, .int x] [] (setO S2 v.toInt64) (Ri fun w S3 => S3.1 46 4 = 0 ∧ S3.2.2.2 = v.toInt64 ∧ w = v ∧ J L S3) := fun v hv => w207 (S := setO S2 _) v5 hN.2.2.2.2 v7 (fun hn => absurd hx hn) (fun _ S3 e1 e2 => ⟨_, rfl, e2, e1.2.2, hv.symm, (j2.o).of e1 (by decide) (by decide)⟩)
  refine b120_15 (fun q => b120_29 (c90 k51 c4) ?_) (fun q => b120_19 (b120_36 (Or.inl ⟨_, rfl, sc2, mod _ ?_⟩)))
  · rintro _ _ ⟨rfl, rfl⟩
    exact b120_36 (Or.inl ⟨_, rfl, sc2, mod _ (by rw [if_neg q])⟩)
  · rw [if_pos (Classical.byContradiction q), c3]
theorem o121 : ∀ a1, ObB (J L) 1 121 208 [(1, 1)] [.int a1] := by
  intro x S hS
  obtain ⟨hL, D, m, rl, ins, nu, tn0, ty, an, aa, T, hN, hJT, hJF, hJP, hJA, hJY, hC, hM⟩ := hS
  have hJ : JS L D m rl ins nu tn0 ty an aa T S := ⟨hL, hN, hJT, hJF, hJP, hJA, hJY⟩
  have hU := wn_uw hN
  obtain ⟨t1, t2, t3, t4, t5, t6, t7, t8⟩ := id hJT
  have j0 : J L S := j_of hJ hC hM
  refine b121_0 (by omega) (n136 t1.2.1 hN.2.1 t3) ?_ (by
    rintro X S1 ⟨rfl, rfl, hn⟩
    exact Or.inr ⟨_, rfl, ⟨rfl, rfl⟩, 1, 1, rfl, by decide, w208 t5 hN.2.2.2.2 t7 (fun _ v S2 e1 e2 => ⟨_, rfl, e2, j0.of e1 (by decide) (by decide)⟩) (fun h1 => absurd h1 hn)⟩)
  rintro _ ⟨rfl, hr⟩
  obtain ⟨hr1, hr2⟩ := (Bool.and_eq_true _ _ ▸ hr : _ ∧ _)
  obtain ⟨x0, xm⟩ := of_decide_eq_true hr1
  have hm := hN.2.1
  have ex := i_of x0
  refine b121_5 (P := fun S1 => Fz RfF RfR S S1 ∧ S1.1 0 17 = 0 ∧ KC D m rl ins nu S1) (c141 hJ hC (fun S1 a1 a2 a3 => ⟨rfl, a1, a2, a3⟩)) ?_
  rintro S1 ⟨a1, a2, a3⟩
  have hJ1 := hJ.of a1 (by decide) (by decide)
  have hM1 := hM.of a1 (by decide)
  have hC1 : JC D m rl ins nu S1 := Or.inr ⟨a2, a3⟩
  have j1 : J L S1 := j_of hJ1 hC1 hM1
  have sc : Sc S S1 := ⟨a1.f (by decide), a1.ar (by decide)⟩
  obtain ⟨k1, k2, k3, k4, k5, k6, k7, k8, k9, k10, k11, k12, k13⟩ := id a3
  obtain ⟨u1, u2, u3, u4, u5, u6, u7, u8⟩ := id hJ1.2.2.1
  refine b121_9 (P := fun S2 => Fz [(10, 8), (10, 9)] [37, 38, 39, 40, 41, 42] S1 S2 ∧ S2.1 10 8 = 1 ∧ S2.1 10 9 = Int32.ofNat (2 * wayN m ins nu (E2 D)) ∧ ∀ r, r < 20 → S2.2.1 37 r = if tb ins r = true then symI m ins nu (E2 D) r else 0) (c83 hN.1 hN.2.1 hN.2.2.2.1 hN.2.2.2.2 u1 k1.1 k13 (fun S2 c1 c2 c3 c4 => ⟨rfl, c1, c2, c3, c4⟩)) ?_
  rintro S2 ⟨c1, c2, c3, c4⟩
  have hJ2 := hJ1.of c1 (by decide) (by decide)
  have hM2 := hM1.of c1 (by decide)
  have hC2 : JC D m rl ins nu S2 := Or.inr ⟨(c1.f (by decide)).trans a2, ⟨k1.of c1 (by decide), k2.of c1 (by decide), (c1.f (by decide)).trans k3, k4.of c1 (by decide), k5.of c1 (by decide), (c1.f (by decide)).trans k6, k7.of c1 (by decide), k8.of c1 (by decide), (by rw [c1.f (by decide)]; exact k9), (by rw [c1.f (by decide)]; exact k10), (by rw [c1.f (by decide)]; exact k11), k12.of c1 (by decide), Or.inr ⟨c2, c3, c4⟩⟩⟩
  have j2 : J L S2 := j_of hJ2 hC2 hM2
  have sc2 : Sc S S2 := ⟨(c1.f (by decide)).trans sc.1, (c1.ar (by decide)).trans sc.2⟩
  obtain ⟨v1, v2, v3, v4, v5, v6, v7, v8⟩ := id hJ2.2.2.1
  refine b121_16 (P := Vx (symI m ins nu (E2 D) x.toNatClampNeg) S2) (by
    have := s147m (d := 1997) (b := 0) (S := S2) (i := x.toNatClampNeg) (by omega)
    rw [if_pos (by omega), c4 _ (by omega), if_pos hr2, ← ex] at this
    exact this) ?_
  rintro _ _ ⟨rfl, rfl⟩
  exact b121_27 (Or.inl ⟨_, rfl, sc2, w208 (S := setO S2 _) v5 hN.2.2.2.2 v7 (fun hn => absurd hr hn) (fun _ S3 e1 e2 => ⟨_, rfl, e2, e1.2.2, rfl, (j2.o).of e1 (by decide) (by decide)⟩)⟩)
end OBU
