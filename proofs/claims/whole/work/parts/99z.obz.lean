/-! THE CALLS THAT MAY THROW: the last two acts -/
section OBZ
variable {L : Nat}
theorem sb_msk {m : Nat} {x : Int32} (hm : m ≤ 20) : sb x (bit m - 1) ↔ Low m x := by
  constructor
  · intro h k hk
    have h2 := h k hk
    by_cases q : k < 32
    · rw [mask_bit (by omega) q] at h2
      exact of_decide_eq_true h2
    · exact absurd (tb_lt hk) q
  · intro h k hk
    have h2 := h k hk
    rw [mask_bit (by omega) (by omega)]
    exact decide_eq_true h2
theorem i01 {x : Int32} : ((0 : Int32) ≤ x ∧ x ≤ 1) ↔ (x = 0 ∨ x = 1) := by
  rw [Int32.le_iff_toInt_le, Int32.le_iff_toInt_le]
  constructor
  · rintro ⟨h1, h2⟩
    have z0 : (0 : Int32).toInt = 0 := rfl
    have z1 : (1 : Int32).toInt = 1 := rfl
    rcases (by omega : x.toInt = 0 ∨ x.toInt = 1) with e | e
    · exact Or.inl (Int32.toInt_inj.1 (e.trans z0.symm))
    · exact Or.inr (Int32.toInt_inj.1 (e.trans z1.symm))
  · rintro (rfl | rfl) <;> decide
theorem o131 : ∀ a1, ObB (J L) 1 131 231 [(0, 1)] [.int a1] := by
  intro x S hS
  obtain ⟨hL, D, m, rl, ins, nu, tn0, ty, an, aa, T, hN, hJT, hJF, hJP, hJA, hJY, hC, hM⟩ := hS
  have hJ : JS L D m rl ins nu tn0 ty an aa T S := ⟨hL, hN, hJT, hJF, hJP, hJA, hJY⟩
  have hU := wn_uw hN
  obtain ⟨t1, t2, t3, t4, t5, t6, t7, t8⟩ := id hJT
  have j0 : J L S := j_of hJ hC hM
  have hm := hN.2.1
  have eb : ((1 : Int32) <<< (Int32.ofNat m &&& 31)) - 1 = bit m - 1 := rfl
  refine b131_0 (P := Vx (bit m - 1) S) (b71_0 ⟨_, rfl, by rw [t1.2.1]; rfl, rfl⟩) ?_
  rintro _ _ ⟨rfl, rfl⟩
  refine b131_8 (fun q => ?_) (fun q => b131_14 (by omega) (Or.inr ⟨_, rfl, ⟨rfl, rfl⟩, 0, 1, rfl, by decide, b231_0 s153 ?_⟩))
  · have hl : Low m x := (sb_msk hm).1 (sub0.1 q)
    have hN' : WN D m rl x nu := ⟨hN.1, hN.2.1, hN.2.2.1, hl, hN.2.2.2.2⟩
    refine b131_25 (P := fun S1 => Fz [(0, 14), (0, 15), (0, 17), (12, 2), (12, 3)] [43, 44] S S1 ∧ S1.1 0 14 = x ∧ S1.1 0 15 = Int32.ofNat rl ∧ CA (pushN an) (pushF an aa (ins, Int32.ofNat rl)) S1 ∧ (S1.1 0 17 = 1 ∨ (S1.1 0 17 = S.1 0 17 ∧ x = ins ∧ rl = rl))) (by
      rw [t4]
      exact c139 t3 t4 hN.2.2.1 hN.2.2.1 (jc_st hC) hJA.1 (fun S1 c1 c2 c3 c4 c5 => ⟨rfl, c1, c2, c3, c4, c5⟩)) ?_
    rintro S1 ⟨c1, c2, c3, c4, c5⟩
    refine b131_34 (s0 x) ?_
    rintro _ _ ⟨rfl, rfl⟩
    refine b131_38 (Or.inl ⟨_, rfl, ⟨c1.f (by decide), c1.ar (by decide)⟩, ?_⟩)
    generalize (Int32.ofNat (pcn x)).toInt64 = ov
    have e1 : Fz [(46, 4), (46, 40)] [62, 63] (setO S1 ov) (setI (setO S1 ov) 46 4 0) := Fz.refl.seti (by decide)
    have g1 : (setI (setO S1 ov) 46 4 0).1 46 1 = Int32.ofNat m := (e1.f (by decide)).trans ((c1.f (by decide)).trans t5.2.2.1)
    have g2 : (setI (setO S1 ov) 46 4 0).1 46 2 = ins := (e1.f (by decide)).trans ((c1.f (by decide)).trans t6.2.2.1)
    have g3 : (setI (setO S1 ov) 46 4 0).1 46 3 = Int32.ofNat rl := (e1.f (by decide)).trans ((c1.f (by decide)).trans t6.2.2.2.2.1)
    refine b231_0 s153 ?_
    rintro _ _ ⟨rfl, rfl⟩
    rw [g1, eb, decide_eq_true ((low_rng hm).2 hl)]
    refine b231_18 (fun _ => ?_) (fun w => absurd (by decide) w)
    have mA1 : MA an aa S1 := hJA.2.1.of c1 (by decide)
    have mA0 : MA an aa (setO S1 ov) := mA1
    refine b231_27 (P := fun S2 => Fz [(46, 4), (46, 40)] [62, 63] (setO S1 ov) S2 ∧ S2.1 46 4 = 0 ∧ MA (pushN an) (pushF an aa (ins, Int32.ofNat rl)) S2) (w229j (D := D) (m := m) (nu := nu) g2 g3 (mA0.of (Fz.refl.seti (fs := [(46, 4)]) (as := []) (by decide)) (by decide)) (fun S2 h1 h2 => ⟨rfl, e1.trans (h1.mono (by decide) (by decide)), (h1.f (by decide)).trans seti_same, h2⟩)) ?_
    rintro S2 ⟨h1, h2, h3⟩
    have f3 : Fz [(46, 2), (46, 3)] [] S2 (setI S2 46 2 x) := Fz.refl.seti (by decide)
    refine b231_31 (P := fun S4 => Fz [(46, 9), (46, 10), (46, 11)] [48, 49, 50] (setI S2 46 2 x) S4 ∧ J L S4) (chg hN' ((f3.f (by decide)).trans ((h1.f (by decide)).trans ((c1.f (by decide)).trans t5.1))) ((f3.f (by decide)).trans ((h1.f (by decide)).trans ((c1.f (by decide)).trans t5.2.2.1))) seti_same ((seti_ne (by decide)).trans ((h1.f (by decide)).trans ((c1.f (by decide)).trans t6.2.2.2.2.1))) (fun r k hr hk => ?_) (fun S4 i1 i2 i3 i4 i5 i6 => ⟨rfl, i1, mod_act (S := setO S ov) (S1 := setO S1 ov) (js_o hJ) (jc_o hC) hN' ⟨c1.1, c1.2.1, rfl⟩ c2 c3 c4 c5 h1 h3 f3 i1 i2 i3 i4 i5 i6⟩)) ?_
    · rw [f3.a (by decide), h1.a (by decide)]
      show (S1.2.1 47 _).toInt = _
      rw [c1.a (by decide)]
      exact t7 r k hr hk
    · rintro S4 ⟨i1, i2⟩
      refine b231_40 (s155 x) ?_
      rintro _ _ ⟨rfl, rfl⟩
      exact b231_44 ⟨_, rfl, (i1.f (by decide)).trans ((f3.f (by decide)).trans h2), i1.2.2.trans (f3.2.2.trans h1.2.2), rfl, i2⟩
  · rintro _ _ ⟨rfl, rfl⟩
    have g1 : (setI S 46 4 0).1 46 1 = Int32.ofNat m := (seti_ne (by decide)).trans t5.2.2.1
    rw [g1, eb, decide_eq_false (fun w => q (sub0.2 ((sb_msk hm).2 ((low_rng hm).1 w))))]
    refine b231_18 (fun w => absurd rfl w) (fun _ => b231_21 (s152 1) ?_)
    rintro _ _ ⟨rfl, rfl⟩
    exact b231_26 ⟨_, rfl, seti_same, j4 (j4 j0)⟩
theorem o132 : ∀ a1, ObB (J L) 1 132 232 [(0, 1)] [.int a1] := by
  intro x S hS
  obtain ⟨hL, D, m, rl, ins, nu, tn0, ty, an, aa, T, hN, hJT, hJF, hJP, hJA, hJY, hC, hM⟩ := hS
  have hJ : JS L D m rl ins nu tn0 ty an aa T S := ⟨hL, hN, hJT, hJF, hJP, hJA, hJY⟩
  have hU := wn_uw hN
  obtain ⟨t1, t2, t3, t4, t5, t6, t7, t8⟩ := id hJT
  have j0 : J L S := j_of hJ hC hM
  have hm := hN.2.1
  have main : (x = 0 ∨ x = 1) → Wp 1998 1 132 20 [.ref 0, .int x] [] S (Rit (fun v S1 => Sc S S1 ∧ Wp 1999 0 232 0 [.ref 46, .int x] [] (setO S1 v.toInt64) (Ri fun w S2 => S2.1 46 4 = 0 ∧ S2.2.2.2 = v.toInt64 ∧ w = v ∧ J L S2)) (fun X S1 => Sc S S1 ∧ ∃ j k, X = exN j ∧ (j, k) ∈ [(0, 1)] ∧ Wp 1999 0 232 0 [.ref 46, .int x] [] S1 (Ri fun w S2 => S2.1 46 4 = Int32.ofNat k ∧ J L S2))) := by
    intro hx
    obtain ⟨rl', ex, hrl'⟩ : ∃ rl', x = Int32.ofNat rl' ∧ rl' ≤ 1 := by
      rcases hx with rfl | rfl
      · exact ⟨0, rfl, by omega⟩
      · exact ⟨1, rfl, by omega⟩
    have hN' : WN D m rl' ins nu := ⟨hN.1, hN.2.1, hrl', hN.2.2.2⟩
    refine b132_20 (P := fun S1 => Fz [(0, 14), (0, 15), (0, 17), (12, 2), (12, 3)] [43, 44] S S1 ∧ S1.1 0 14 = ins ∧ S1.1 0 15 = Int32.ofNat rl' ∧ CA (pushN an) (pushF an aa (ins, Int32.ofNat rl)) S1 ∧ (S1.1 0 17 = 1 ∨ (S1.1 0 17 = S.1 0 17 ∧ ins = ins ∧ rl' = rl))) (by
      rw [t3, ex]
      exact c139 t3 t4 hN.2.2.1 hrl' (jc_st hC) hJA.1 (fun S1 c1 c2 c3 c4 c5 => ⟨rfl, c1, c2, c3, c4, c5⟩)) ?_
    rintro S1 ⟨c1, c2, c3, c4, c5⟩
    refine b132_34 (Or.inl ⟨_, rfl, ⟨c1.f (by decide), c1.ar (by decide)⟩, ?_⟩)
    rw [t4]
    generalize (Int32.ofNat rl).toInt64 = ov
    have e1 : Fz [(46, 4), (46, 40)] [62, 63] (setO S1 ov) (setI (setO S1 ov) 46 4 0) := Fz.refl.seti (by decide)
    have g2 : (setI (setO S1 ov) 46 4 0).1 46 2 = ins := (e1.f (by decide)).trans ((c1.f (by decide)).trans t6.2.2.1)
    have g3 : (setI (setO S1 ov) 46 4 0).1 46 3 = Int32.ofNat rl := (e1.f (by decide)).trans ((c1.f (by decide)).trans t6.2.2.2.2.1)
    refine b232_0 s153 ?_
    rintro _ _ ⟨rfl, rfl⟩
    rw [decide_eq_true (i01.2 hx)]
    refine b232_11 (fun _ => ?_) (fun w => absurd (by decide) w)
    have mA1 : MA an aa S1 := hJA.2.1.of c1 (by decide)
    have mA0 : MA an aa (setO S1 ov) := mA1
    refine b232_20 (P := fun S2 => Fz [(46, 4), (46, 40)] [62, 63] (setO S1 ov) S2 ∧ S2.1 46 4 = 0 ∧ MA (pushN an) (pushF an aa (ins, Int32.ofNat rl)) S2) (w229j (D := D) (m := m) (nu := nu) g2 g3 (mA0.of (Fz.refl.seti (fs := [(46, 4)]) (as := []) (by decide)) (by decide)) (fun S2 h1 h2 => ⟨rfl, e1.trans (h1.mono (by decide) (by decide)), (h1.f (by decide)).trans seti_same, h2⟩)) ?_
    rintro S2 ⟨h1, h2, h3⟩
    have f3 : Fz [(46, 2), (46, 3)] [] S2 (setI S2 46 3 x) := Fz.refl.seti (by decide)
    refine b232_24 (P := fun S4 => Fz [(46, 9), (46, 10), (46, 11)] [48, 49, 50] (setI S2 46 3 x) S4 ∧ J L S4) (chg hN' ((f3.f (by decide)).trans ((h1.f (by decide)).trans ((c1.f (by decide)).trans t5.1))) ((f3.f (by decide)).trans ((h1.f (by decide)).trans ((c1.f (by decide)).trans t5.2.2.1))) ((seti_ne (by decide)).trans ((h1.f (by decide)).trans ((c1.f (by decide)).trans t6.2.2.1))) (seti_same.trans ex) (fun r k hr hk => ?_) (fun S4 i1 i2 i3 i4 i5 i6 => ⟨rfl, i1, mod_act (S := setO S ov) (S1 := setO S1 ov) (js_o hJ) (jc_o hC) hN' ⟨c1.1, c1.2.1, rfl⟩ c2 c3 c4 c5 h1 h3 f3 i1 i2 i3 i4 i5 i6⟩)) ?_
    · rw [f3.a (by decide), h1.a (by decide)]
      show (S1.2.1 47 _).toInt = _
      rw [c1.a (by decide)]
      exact t7 r k hr hk
    · rintro S4 ⟨i1, i2⟩
      exact b232_38 ⟨_, rfl, (i1.f (by decide)).trans ((f3.f (by decide)).trans h2), i1.2.2.trans (f3.2.2.trans h1.2.2), (h1.f (by decide)).trans ((c1.f (by decide)).trans t6.2.2.2.2.1), i2⟩
  refine b132_0 (fun q => main (Or.inl q)) (fun q => b132_4 (fun w => main (Or.inr w)) (fun w => b132_9 (by omega) (Or.inr ⟨_, rfl, ⟨rfl, rfl⟩, 0, 1, rfl, by decide, b232_0 s153 ?_⟩)))
  rintro _ _ ⟨rfl, rfl⟩
  have nq : ¬ ((0 : Int32) ≤ x ∧ x ≤ 1) := fun h => by
    rcases i01.1 h with z | z
    · exact q z
    · exact w z
  rw [decide_eq_false nq]
  refine b232_11 (fun w => absurd rfl w) (fun _ => b232_14 (s152 1) ?_)
  rintro _ _ ⟨rfl, rfl⟩
  exact b232_19 ⟨_, rfl, seti_same, j4 (j4 j0)⟩
end OBZ
