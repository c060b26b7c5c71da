/-! THE CALLS THAT MAY THROW: the most, parity, thirds, the tree, what is forced -/
section OBV
variable {L : Nat}
theorem ws_hit {D m rl : Nat} {ins : Int32} {nu : Nat → Nat → Int} {s : Int32} (hN : WN D m rl ins nu) (h : IsBest ins (bes rl (upN m ins nu) (frN D m ins nu)) (fcn (frN D m ins nu)) s) : Low 20 s ∧ wS (fcn (frN D m ins nu)) s ≤ 900 := by
  have hU := wn_uw hN
  have hs : Low 20 s := fun k hk => by have := hN.2.2.2.1 k (h.1 k hk); have := hN.2.1; omega
  refine ⟨hs, ?_⟩
  rw [← hit_eq hs _ (ind_hit hU h.2.1)]
  have h1 : hitN (frN D m ins nu) s ≤ (frN D m ins nu).length := List.length_filter_le _ _
  have h2 := hU.2.2.2.2.2.2.2.2.2
  omega
theorem ws_one {D m rl : Nat} {ins : Int32} {nu : Nat → Nat → Int} {up : Nat → Int32} {s : Int32} (hN : WN D m rl ins nu) (h : IsBest ins up (oneW ins) s) : Low 20 s ∧ wS (oneW ins) s ≤ 900 := by
  have hi : Low 20 ins := fun k hk => by have := hN.2.2.2.1 k hk; have := hN.2.1; omega
  have hs : Low 20 s := fun k hk => hi k (h.1 k hk)
  refine ⟨hs, ?_⟩
  rw [← one_eq hi h.1]
  have := pcn_lown hs (by omega)
  omega
theorem o116 : ∀ a1, ObB (J L) 1 116 194 [(1, 1)] [.int a1] := by
  intro x S hS
  obtain ⟨hL, D, m, rl, ins, nu, tn0, ty, an, aa, T, hN, hJT, hJF, hJP, hJA, hJY, hC, hM⟩ := hS
  have hJ : JS L D m rl ins nu tn0 ty an aa T S := ⟨hL, hN, hJT, hJF, hJP, hJA, hJY⟩
  have hU := wn_uw hN
  obtain ⟨t1, t2, t3, t4, t5, t6, t7, t8⟩ := id hJT
  have j0 : J L S := j_of hJ hC hM
  refine b116_0 (by omega) n138 ?_ (by
    rintro X S1 ⟨rfl, rfl, hn⟩
    exact Or.inr ⟨_, rfl, ⟨rfl, rfl⟩, 1, 1, rfl, by decide, w194 hU t6 (fun _ v S2 e1 e2 => ⟨_, rfl, e2, j0.of e1 (by decide) (by decide)⟩) (fun h1 => absurd h1 hn)⟩)
  rintro _ ⟨rfl, hx⟩
  refine b116_4 (P := fun S1 => Fz RfF RfR S S1 ∧ S1.1 0 17 = 0 ∧ KC D m rl ins nu S1) (c141 hJ hC (fun S1 a1 a2 a3 => ⟨rfl, a1, a2, a3⟩)) ?_
  rintro S1 ⟨a1, a2, a3⟩
  have hJ1 := hJ.of a1 (by decide) (by decide)
  have hM1 := hM.of a1 (by decide)
  have hC1 : JC D m rl ins nu S1 := Or.inr ⟨a2, a3⟩
  have j1 : J L S1 := j_of hJ1 hC1 hM1
  have sc : Sc S S1 := ⟨a1.f (by decide), a1.ar (by decide)⟩
  obtain ⟨k1, k2, k3, k4, k5, k6, k7, k8, k9, k10, k11, k12, k13⟩ := id a3
  obtain ⟨u1, u2, u3, u4, u5, u6, u7, u8⟩ := id hJ1.2.2.1
  refine b116_8 (P := fun v S2 => v = S2.1 8 4 ∧ Fz [(8, 4)] [31, 32] S1 S2 ∧ IsSc ins (bes rl (upN m ins nu) (frN D m ins nu)) (fcn (frN D m ins nu)) (S2.1 8 4)) (c38 hU k1 k2 k9 (fun S2 c1 c2 => ⟨_, rfl, rfl, c1, c2⟩)) ?_
  rintro _ S2 ⟨rfl, c1, c2⟩
  have hJ2 := hJ1.of c1 (by decide) (by decide)
  have hM2 := hM1.of c1 (by decide)
  have hC2 : JC D m rl ins nu S2 := Or.inr ⟨(c1.f (by decide)).trans a2, ⟨k1.of c1 (by decide), k2.of c1 (by decide), (c1.f (by decide)).trans k3, k4.of c1 (by decide), k5.of c1 (by decide), (c1.f (by decide)).trans k6, k7.of c1 (by decide), k8.of c1 (by decide), Or.inr c2, (by rw [c1.f (by decide)]; exact k10), (by rw [c1.f (by decide)]; exact k11), k12.of c1 (by decide), k13.of c1 (by decide)⟩⟩
  have j2 : J L S2 := j_of hJ2 hC2 hM2
  have sc2 : Sc S S2 := ⟨(c1.f (by decide)).trans sc.1, (c1.ar (by decide)).trans sc.2⟩
  obtain ⟨v1, v2, v3, v4, v5, v6, v7, v8⟩ := id hJ2.2.2.1
  obtain ⟨s, hb, hsx⟩ := id c2
  obtain ⟨s1, s2⟩ := ws_hit hN hb
  have hi : Low 20 ins := fun k hk => by have := hN.2.2.2.1 k hk; have := hN.2.1; omega
  have nn : 0 ≤ (S2.1 8 4).toInt := by rw [hsx]; exact sc_nn hi hb
  have mod : ∀ v, v = (if x = 0 then Int32.ofNat (wS (fcn (frN D m ins nu)) s) else s) → Wp 1999 0 194 0 [.ref 46, .int x] [] (setO S2 v.toInt64) (Ri fun w S3 => S3.1 46 4 = 0 ∧ S3.2.2.2 = v.toInt64 ∧ w = v ∧ J L S3) := fun v hv => w194 (S := setO S2 _) hU v6 (fun hn => absurd hx hn) (fun _ s' S3 e1 e2 e3 => ⟨_, rfl, e2, e1.2.2, by rw [hv, e3.uniq hb], (j2.o).of e1 (by decide) (by decide)⟩)
  refine b116_22 (fun q => b116_34 (c42 s1 s2 hsx nn) ?_) (fun q => b116_27 (c41 s1 s2 hsx nn) ?_)
  · rintro _ _ ⟨rfl, rfl⟩
    exact b116_38 (Or.inl ⟨_, rfl, sc2, mod _ (by rw [if_neg q])⟩)
  · rintro _ _ ⟨rfl, rfl⟩
    exact b116_31 (b116_38 (Or.inl ⟨_, rfl, sc2, mod _ (by rw [if_pos (Classical.byContradiction q)])⟩))
theorem o126 : ∀ a1, ObB (J L) 1 126 221 [(1, 1)] [.int a1] := by
  intro x S hS
  obtain ⟨hL, D, m, rl, ins, nu, tn0, ty, an, aa, T, hN, hJT, hJF, hJP, hJA, hJY, hC, hM⟩ := hS
  have hJ : JS L D m rl ins nu tn0 ty an aa T S := ⟨hL, hN, hJT, hJF, hJP, hJA, hJY⟩
  have hU := wn_uw hN
  obtain ⟨t1, t2, t3, t4, t5, t6, t7, t8⟩ := id hJT
  have j0 : J L S := j_of hJ hC hM
  refine b126_0 (by omega) n138 ?_ (by
    rintro X S1 ⟨rfl, rfl, hn⟩
    exact Or.inr ⟨_, rfl, ⟨rfl, rfl⟩, 1, 1, rfl, by decide, w221 hU t6 (fun _ v S2 e1 e2 => ⟨_, rfl, e2, j0.of e1 (by decide) (by decide)⟩) (fun h1 => absurd h1 hn)⟩)
  rintro _ ⟨rfl, hx⟩
  refine b126_4 (P := fun S1 => Fz RfF RfR S S1 ∧ S1.1 0 17 = 0 ∧ KC D m rl ins nu S1) (c141 hJ hC (fun S1 a1 a2 a3 => ⟨rfl, a1, a2, a3⟩)) ?_
  rintro S1 ⟨a1, a2, a3⟩
  have hJ1 := hJ.of a1 (by decide) (by decide)
  have hM1 := hM.of a1 (by decide)
  have hC1 : JC D m rl ins nu S1 := Or.inr ⟨a2, a3⟩
  have j1 : J L S1 := j_of hJ1 hC1 hM1
  have sc : Sc S S1 := ⟨a1.f (by decide), a1.ar (by decide)⟩
  obtain ⟨k1, k2, k3, k4, k5, k6, k7, k8, k9, k10, k11, k12, k13⟩ := id a3
  obtain ⟨u1, u2, u3, u4, u5, u6, u7, u8⟩ := id hJ1.2.2.1
  refine b126_8 (P := fun v S2 => v = S2.1 8 5 ∧ Fz [(8, 5)] [31, 32] S1 S2 ∧ IsSc ins (upN m ins nu) (oneW ins) (S2.1 8 5)) (c39 hU k1 k10 (fun S2 c1 c2 => ⟨_, rfl, rfl, c1, c2⟩)) ?_
  rintro _ S2 ⟨rfl, c1, c2⟩
  have hJ2 := hJ1.of c1 (by decide) (by decide)
  have hM2 := hM1.of c1 (by decide)
  have hC2 : JC D m rl ins nu S2 := Or.inr ⟨(c1.f (by decide)).trans a2, ⟨k1.of c1 (by decide), k2.of c1 (by decide), (c1.f (by decide)).trans k3, k4.of c1 (by decide), k5.of c1 (by decide), (c1.f (by decide)).trans k6, k7.of c1 (by decide), k8.of c1 (by decide), (by rw [c1.f (by decide)]; exact k9), Or.inr c2, (by rw [c1.f (by decide)]; exact k11), k12.of c1 (by decide), k13.of c1 (by decide)⟩⟩
  have j2 : J L S2 := j_of hJ2 hC2 hM2
  have sc2 : Sc S S2 := ⟨(c1.f (by decide)).trans sc.1, (c1.ar (by decide)).trans sc.2⟩
  obtain ⟨v1, v2, v3, v4, v5, v6, v7, v8⟩ := id hJ2.2.2.1
  obtain ⟨s, hb, hsx⟩ := id c2
  obtain ⟨s1, s2⟩ := ws_one hN hb
  have hi : Low 20 ins := fun k hk => by have := hN.2.2.2.1 k hk; have := hN.2.1; omega
  have nn : 0 ≤ (S2.1 8 5).toInt := by rw [hsx]; exact sc_nn hi hb
  have mod : ∀ v, v = (if x = 0 then Int32.ofNat (wS (oneW ins) s) else s) → Wp 1999 0 221 0 [.ref 46, .int x] [] (setO S2 v.toInt64) (Ri fun w S3 => S3.1 46 4 = 0 ∧ S3.2.2.2 = v.toInt64 ∧ w = v ∧ J L S3) := fun v hv => w221 (S := setO S2 _) hU v6 (fun hn => absurd hx hn) (fun _ s' S3 e1 e2 e3 => ⟨_, rfl, e2, e1.2.2, by rw [hv, e3.uniq hb], (j2.o).of e1 (by decide) (by decide)⟩)
  refine b126_15 (fun q => b126_27 (c42 s1 s2 hsx nn) ?_) (fun q => b126_20 (c41 s1 s2 hsx nn) ?_)
  · rintro _ _ ⟨rfl, rfl⟩
    exact b126_31 (Or.inl ⟨_, rfl, sc2, mod _ (by rw [if_neg q])⟩)
  · rintro _ _ ⟨rfl, rfl⟩
    exact b126_24 (b126_31 (Or.inl ⟨_, rfl, sc2, mod _ (by rw [if_pos (Classical.byContradiction q)])⟩))
theorem o118 : ∀ a1, ObB (J L) 1 118 199 [(1, 1)] [.int a1] := by
  intro x S hS
  obtain ⟨hL, D, m, rl, ins, nu, tn0, ty, an, aa, T, hN, hJT, hJF, hJP, hJA, hJY, hC, hM⟩ := hS
  have hJ : JS L D m rl ins nu tn0 ty an aa T S := ⟨hL, hN, hJT, hJF, hJP, hJA, hJY⟩
  have hU := wn_uw hN
  obtain ⟨t1, t2, t3, t4, t5, t6, t7, t8⟩ := id hJT
  have j0 : J L S := j_of hJ hC hM
  refine b118_0 (P := fun S1 => Fz RfF RfR S S1 ∧ S1.1 0 17 = 0 ∧ KC D m rl ins nu S1) (c141 hJ hC (fun S1 a1 a2 a3 => ⟨rfl, a1, a2, a3⟩)) ?_
  rintro S1 ⟨a1, a2, a3⟩
  have hJ1 := hJ.of a1 (by decide) (by decide)
  have hM1 := hM.of a1 (by decide)
  have hC1 : JC D m rl ins nu S1 := Or.inr ⟨a2, a3⟩
  have j1 : J L S1 := j_of hJ1 hC1 hM1
  have sc : Sc S S1 := ⟨a1.f (by decide), a1.ar (by decide)⟩
  obtain ⟨k1, k2, k3, k4, k5, k6, k7, k8, k9, k10, k11, k12, k13⟩ := id a3
  obtain ⟨u1, u2, u3, u4, u5, u6, u7, u8⟩ := id hJ1.2.2.1
  have hcl := i_clt x
  have hF := fun f (hf : f ∈ frN D m ins nu) => (wn_frm hN hf).1
  refine b118_4 (fun q => b118_19 (by omega) (Or.inr ⟨_, rfl, sc, 1, 1, rfl, by decide, w199 u6.2.2.2.2.2.2.2.2.1 hF u6.2.2.2.2.2.2.2.1 hM1.2 (fun v S2 e1 e2 e3 e4 _ => ⟨_, rfl, e2, j_of (hJ1.of e1 (by decide) (by decide)) (hC1.of e1 (by decide) (by decide)) ⟨(by rw [e1.f (by decide), e1.f (by decide)]; exact hM1.1), Or.inr ⟨e3, e4⟩⟩⟩) (fun k l S2 _ _ _ _ _ _ h => absurd q h)⟩)) (fun q => ?_)
  have ex := i_of q
  refine b118_8 (P := fun v S2 => v = S2.1 9 7 ∧ Fz [(9, 4), (9, 5), (9, 6), (9, 7)] [34, 35, 36] S1 S2 ∧ CPy (frN D m ins nu) S2 ∧ LeP (((frN D m ins nu).take 40).map rwF) S2) (c21 (by have := hN.1; omega) k1.2.2.2 hU.2.2.2.2.2.2.2.2.2 (fun f hf => wn_frm hN hf) u1.1 k12 (fun S2 c1 c2 c3 => ⟨_, rfl, rfl, c1, c2, c3⟩)) ?_
  rintro _ S2 ⟨rfl, c1, c2, c3⟩
  have hJ2 := hJ1.of c1 (by decide) (by decide)
  have hM2 := hM1.of c1 (by decide)
  have hC2 : JC D m rl ins nu S2 := Or.inr ⟨(c1.f (by decide)).trans a2, ⟨k1.of c1 (by decide), k2.of c1 (by decide), (c1.f (by decide)).trans k3, k4.of c1 (by decide), k5.of c1 (by decide), (c1.f (by decide)).trans k6, k7.of c1 (by decide), k8.of c1 (by decide), (by rw [c1.f (by decide)]; exact k9), (by rw [c1.f (by decide)]; exact k10), (by rw [c1.f (by decide)]; exact k11), c2, k13.of c1 (by decide)⟩⟩
  have j2 : J L S2 := j_of hJ2 hC2 hM2
  have sc2 : Sc S S2 := ⟨(c1.f (by decide)).trans sc.1, (c1.ar (by decide)).trans sc.2⟩
  obtain ⟨v1, v2, v3, v4, v5, v6, v7, v8⟩ := id hJ2.2.2.1
  have jm : ∀ (S3 : St), Fz [(46, 4), (46, 11)] [54] S2 S3 → S3.1 46 11 = 1 → Ly (GM (frN D m ins nu)) S3 → J L S3 := fun S3 e1 e3 e4 => j_of (hJ2.of e1 (by decide) (by decide)) (hC2.of e1 (by decide) (by decide)) ⟨(by rw [e1.f (by decide), e1.f (by decide)]; exact hM2.1), Or.inr ⟨e3, e4⟩⟩
  have jmo : ∀ (x : Int64) (S3 : St), Fz [(46, 4), (46, 11)] [54] (setO S2 x) S3 → S3.1 46 11 = 1 → Ly (GM (frN D m ins nu)) S3 → J L S3 := fun x S3 e1 e3 e4 => j_of ((js_o (x := x) hJ2).of e1 (by decide) (by decide)) ((jc_o (x := x) hC2).of e1 (by decide) (by decide)) ⟨(by rw [e1.f (by decide), e1.f (by decide)]; exact hM2.1), Or.inr ⟨e3, e4⟩⟩
  refine b118_16 (fun w => ?_) (fun w => b118_19 (by omega) (Or.inr ⟨_, rfl, sc2, 1, 1, rfl, by decide, w199 v6.2.2.2.2.2.2.2.2.1 hF v6.2.2.2.2.2.2.2.1 hM2.2 (fun v S3 e1 e2 e3 e4 _ => ⟨_, rfl, e2, jm S3 e1 e3 e4⟩) (fun k l S3 e1 e2 e3 e4 e5 e6 e7 e8 => ?_)⟩))
  rotate_left
  · rcases par_eq hF c3 e4 with ⟨_, _, hno⟩ | ⟨k', l', k1', k2', g1, _, g3, _⟩
    · exact absurd e5 (hno k)
    · have ek := dk_uniq e5 g3
      subst ek
      exact absurd (by rw [g1, ex]; exact (i_lt (by omega) (by omega)).2 e8) w
  -- the class answers
  have lt : ∃ k l, LX (((frN D m ins nu).take 40).map rwF) 0 k 1 l ∧ S2.1 9 7 = Int32.ofNat k ∧ k ≤ 40 ∧ x.toNatClampNeg < k ∧ ∀ j, j < k → S2.2.1 36 j = Int32.ofNat (l.getD j 0) := by
    rcases c3 with ⟨h, _⟩ | ⟨k, l, h1, _, h3, _, h5, h6⟩
    · rw [h, ex, Int32.lt_iff_toInt_lt, i_toInt (by omega)] at w
      have em : (-1 : Int32).toInt = -1 := by decide
      omega
    · rw [h1, ex] at w
      exact ⟨k, l, h5, h1, h3, (i_lt (by omega) (by omega)).1 w, h6⟩
  obtain ⟨k, l, _, hk, hk40, xk, h36⟩ := lt
  refine b118_30 (P := Vx (S2.2.1 36 x.toNatClampNeg) S2) (by
    have := s147l (d := 1997) (b := 0) (S := S2) (i := x.toNatClampNeg) (by omega)
    rw [if_pos (by omega), ← ex] at this
    exact this) ?_
  rintro _ _ ⟨rfl, rfl⟩
  refine b118_41 (Or.inl ⟨_, rfl, sc2, w199 (S := setO S2 _) v6.2.2.2.2.2.2.2.2.1 hF v6.2.2.2.2.2.2.2.1 hM2.2 (fun v S3 e1 e2 e3 e4 e5 => ?_) (fun k' l' S3 e1 e2 e3 e4 e5 e6 e7 e8 => ⟨_, rfl, e2, e1.2.2, ?_, jmo _ S3 e1 e3 e4⟩)⟩)
  · exfalso
    rcases par_eq (S2 := S3) hF c3 e4 with ⟨g, _⟩ | ⟨k', l', _, _, g1, _, g3, _⟩
    · rw [hk] at g
      exact nat_m1 (by omega) g
    · rw [hk] at g1
      have ek := (i_inj (by omega) (by omega)).1 g1
      rcases e5 with h | ⟨k2, h2, h3⟩
      · exact h k' g3
      · have := dk_uniq h2 g3
        exact h3 ⟨q, by omega⟩
  · rcases par_eq (S2 := S3) hF c3 e4 with ⟨g, _⟩ | ⟨k2, l2, _, _, g1, _, g3, g4, g5⟩
    · rw [hk] at g
      exact absurd g (nat_m1 (by omega))
    · have ek := dk_uniq e5 g3
      subst ek
      rw [rc_uniq e6 g4]
      exact (g5 _ e8).symm
theorem o122 : ∀ a1 a2 a3, ObB (J L) 3 122 212 [(1, 1)] [.int a1, .int a2, .int a3] := by
  intro x y z S hS
  obtain ⟨hL, D, m, rl, ins, nu, tn0, ty, an, aa, T, hN, hJT, hJF, hJP, hJA, hJY, hC, hM⟩ := hS
  have hJ : JS L D m rl ins nu tn0 ty an aa T S := ⟨hL, hN, hJT, hJF, hJP, hJA, hJY⟩
  have hU := wn_uw hN
  obtain ⟨t1, t2, t3, t4, t5, t6, t7, t8⟩ := id hJT
  have j0 : J L S := j_of hJ hC hM
  have hirr := hU.2.2.2.2.1
  have thr : ¬ (D = 3 ∧ upB m ins (upN m ins nu) x y = true ∧ (0 : Int32) ≤ z ∧ z ≤ 2) → Wp 1999 0 212 0 [.ref 46, .int x, .int y, .int z] [] S (Ri fun w S2 => S2.1 46 4 = Int32.ofNat 1 ∧ J L S2) := fun hn => w212 t5 t6 hN.2.2.2.2 t7 hirr (fun _ v S2 e1 e2 => ⟨_, rfl, e2, j0.of e1 (by decide) (by decide)⟩) (fun h1 h2 h3 h4 => absurd ⟨h1, h2, h3, h4⟩ hn)
  have upe : upB m ins (upN m ins nu) x y = ((rayB m x && tb ins x.toNatClampNeg) && (rayB m y && tb ins y.toNatClampNeg) && tb (upN m ins nu x.toNatClampNeg) y.toNatClampNeg) := rfl
  refine b122_0 (by omega) (n136 t1.2.1 hN.2.1 t3) ?_ (by
    rintro X S1 ⟨rfl, rfl, hn⟩
    exact Or.inr ⟨_, rfl, ⟨rfl, rfl⟩, 1, 1, rfl, by decide, thr (fun w => hn (by have := w.2.1; rw [upe, Bool.and_eq_true, Bool.and_eq_true] at this; exact this.1.1))⟩)
  rintro _ ⟨rfl, hr⟩
  refine b122_5 (by omega) (n136 t1.2.1 hN.2.1 t3) ?_ (by
    rintro X S1 ⟨rfl, rfl, hn⟩
    exact Or.inr ⟨_, rfl, ⟨rfl, rfl⟩, 1, 1, rfl, by decide, thr (fun w => hn (by have := w.2.1; rw [upe, Bool.and_eq_true, Bool.and_eq_true] at this; exact this.1.2))⟩)
  rintro _ ⟨rfl, hy⟩
  obtain ⟨hr1, hr2⟩ := (Bool.and_eq_true _ _ ▸ hr : _ ∧ _)
  obtain ⟨hy1, hy2⟩ := (Bool.and_eq_true _ _ ▸ hy : _ ∧ _)
  obtain ⟨x0, xm⟩ := of_decide_eq_true hr1
  obtain ⟨y0, ym⟩ := of_decide_eq_true hy1
  have hm := hN.2.1
  have ex := i_of x0
  have ey := i_of y0
  have e0 : (0 : Int32).toInt = 0 := by decide
  have e2 : (2 : Int32).toInt = 2 := by decide
  refine b122_10 (fun q => b122_42 (by omega) (Or.inr ⟨_, rfl, ⟨rfl, rfl⟩, 1, 1, rfl, by decide, thr (fun w => q (by rw [t1.1, w.1]; rfl))⟩)) (fun q => ?_)
  have q := Classical.byContradiction q
  rw [t1.1] at q
  have d3 := (i_inj (b := 3) (by have := hN.1; omega) (by omega)).1 q
  refine b122_21 (fun q1 => b122_42 (by omega) (Or.inr ⟨_, rfl, ⟨rfl, rfl⟩, 1, 1, rfl, by decide, thr (fun w => ?_)⟩)) (fun q1 => b122_25 (fun q2 => b122_42 (by omega) (Or.inr ⟨_, rfl, ⟨rfl, rfl⟩, 1, 1, rfl, by decide, thr (fun w => ?_)⟩)) (fun q2 => ?_))
  · have := Int32.le_iff_toInt_le.1 w.2.2.1
    rw [Int32.lt_iff_toInt_lt] at q1
    omega
  · have := Int32.le_iff_toInt_le.1 w.2.2.2
    rw [Int32.lt_iff_toInt_lt] at q2
    omega
  have z0 : (0 : Int32) ≤ z := by rw [Int32.lt_iff_toInt_lt] at q1; rw [Int32.le_iff_toInt_le]; omega
  have z2 : z ≤ 2 := by rw [Int32.lt_iff_toInt_lt] at q2; rw [Int32.le_iff_toInt_le]; omega
  have ez := i_of q1
  have zc : z.toNatClampNeg < 3 := by
    have a := Int32.le_iff_toInt_le.1 z0
    have c := Int32.le_iff_toInt_le.1 z2
    unfold Int32.toNatClampNeg
    omega
  have ed := ti_dot4 (num := S.2.1 15) (r := x.toNatClampNeg) (o := y.toNatClampNeg) (nu := nu) (fun k hk => ⟨t1.2.2.1 _ k xm hk, t1.2.2.1 _ k ym hk⟩) (hN.2.2.2.2.1 _ xm).1 (hN.2.2.2.2.1 _ ym).1
  have iff : dotN (S.2.1 15) x.toNatClampNeg y.toNatClampNeg 4 = 0 ↔ upB m ins (upN m ins nu) x y = true := by
    rw [upe, hr, hy, Bool.true_and, Bool.true_and, wn_ud hN, ti_0, ed]
    constructor
    · intro h
      refine ⟨xm, ym, fun e => ?_, hr2, hy2, h⟩
      have := dt_pos (hN.2.2.2.2.1 _ xm).2.1
      rw [← e] at h
      omega
    · exact fun h => h.2.2.2.2.2
  refine b122_30 (P := Vx (dotN (S.2.1 15) x.toNatClampNeg y.toNatClampNeg 4) S) (by
    have := s78a (d := 1995) (b := 0) (S := S) (r := x.toNatClampNeg) (o := y.toNatClampNeg) (by omega) (by omega)
    rw [← ex, ← ey] at this
    exact this) ?_
  rintro _ _ ⟨rfl, rfl⟩
  refine b122_39 (fun w => ?_) (fun w => b122_42 (by omega) (Or.inr ⟨_, rfl, ⟨rfl, rfl⟩, 1, 1, rfl, by decide, thr (fun v => w (iff.2 v.2.1))⟩))
  have hup := iff.1 w
  have hne : ¬ x.toNatClampNeg = y.toNatClampNeg := fun e => by
    have h := hup
    rw [upe, e, hirr, Bool.and_false] at h
    cases h
  have hR3 : RWd 3 m nu := d3 ▸ hN.2.2.2.2
  have hT3 : Tld 3 m nu S := d3 ▸ t1
  refine b122_53 (P := fun v S1 => S = S1 ∧ v.toInt = th (nu x.toNatClampNeg) (nu y.toNatClampNeg) z.toNatClampNeg) (by
    have := c79 (d := 1994) (b := 0) (S := S) (r := x.toNatClampNeg) (o := y.toNatClampNeg) (k := z.toNatClampNeg) (Q := Ri fun v S1 => S = S1 ∧ v.toInt = th (nu x.toNatClampNeg) (nu y.toNatClampNeg) z.toNatClampNeg) hm hR3 hT3 xm ym hne zc (fun v hv => ⟨_, rfl, rfl, hv⟩)
    rw [← ex, ← ey, ← ez] at this
    exact this) ?_
  rintro v _ ⟨rfl, hv⟩
  exact b122_63 (Or.inl ⟨_, rfl, ⟨rfl, rfl⟩, w212 (S := setO S _) t5 t6 hN.2.2.2.2 t7 hirr (fun hn => absurd ⟨d3, hup, z0, z2⟩ hn) (fun _ _ _ _ w S2 e1 e2 e3 => ⟨_, rfl, e2, e1.2.2, ti_ext (e3.trans hv.symm), (j0.o).of e1 (by decide) (by decide)⟩)⟩)
end OBV
