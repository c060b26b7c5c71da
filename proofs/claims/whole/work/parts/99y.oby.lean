/-! THE CALLS THAT MAY THROW: acts -/
section OBY
variable {L : Nat}
/-- the reference keeps an act, then changes -/
theorem mod_act {D m rl rl' : Nat} {ins ins' : Int32} {nu : Nat → Nat → Int} {tn0 : Nat} {ty : Nat → Int32} {an : Nat} {aa : Nat → Int32 × Int32} {T : List Int32} {S S1 S2 S3 S4 : St} (hJ : JS L D m rl ins nu tn0 ty an aa T S) (hC : JC D m rl ins nu S) (hN' : WN D m rl' ins' nu) (f1 : Fz [(0, 14), (0, 15), (0, 17), (12, 2), (12, 3)] [43, 44] S S1) (hi : S1.1 0 14 = ins') (hr : S1.1 0 15 = Int32.ofNat rl') (cA : CA (pushN an) (pushF an aa (ins, Int32.ofNat rl)) S1) (hst : S1.1 0 17 = 1 ∨ (S1.1 0 17 = S.1 0 17 ∧ ins' = ins ∧ rl' = rl)) (f2 : Fz [(46, 4), (46, 40)] [62, 63] S1 S2) (mA : MA (pushN an) (pushF an aa (ins, Int32.ofNat rl)) S2) (f3 : Fz [(46, 2), (46, 3)] [] S2 S3) (f4 : Fz [(46, 9), (46, 10), (46, 11)] [48, 49, 50] S3 S4) (b1 : MB D m ins' S4) (b2 : MW m rl' ins' (upN m ins' nu) (frN D m ins' nu) S4) (b3 : MTl D m nu S4) (b4 : S4.1 46 10 = 0) (b5 : S4.1 46 11 = 0) : J L S4 := by
  have hA := hJ.2.2.2.2.2.1
  have F : Fz [(46, 2), (46, 3), (46, 4), (46, 9), (46, 10), (46, 11), (46, 40)] [48, 49, 50, 62, 63] S1 S4 := ((f2.mono (by decide) (by decide)).trans (f3.mono (by decide) (by decide))).trans (f4.mono (by decide) (by decide))
  exact act_J hJ hC hN' (f1.mono (by decide) (by decide)) F hi hr hst ⟨cA.of F (by decide), (mA.of f3 (by decide)).of f4 (by decide), push_ok hA.2.2 hA.1.2.1 hJ.2.1.2.2.2.1 hJ.2.1.2.2.1⟩ b1 b2 b3 b4 b5
theorem w229j {d b D m rl : Nat} {ins : Int32} {nu : Nat → Nat → Int} {an : Nat} {aa : Nat → Int32 × Int32} {S : St} {Q : Out → St → Prop} (h2 : S.1 46 2 = ins) (h3 : S.1 46 3 = Int32.ofNat rl) (hA : MA an aa S) (K : ∀ S1, Fz [(46, 40)] [62, 63] S S1 → MA (pushN an) (pushF an aa (ins, Int32.ofNat rl)) S1 → Q (.inl none) S1) : Wp d b 229 0 [.ref 46] [] S Q := w229 hA (fun S1 a1 a2 => by rw [h2, h3] at a2; exact K S1 a1 a2)
theorem o130 : ∀ a1 p, ObC (J L) 1 130 230 [(1, 1)] [.int a1, .int (bi p)] := by
  intro x p S hS
  obtain ⟨hL, D, m, rl, ins, nu, tn0, ty, an, aa, T, hN, hJT, hJF, hJP, hJA, hJY, hC, hM⟩ := hS
  have hJ : JS L D m rl ins nu tn0 ty an aa T S := ⟨hL, hN, hJT, hJF, hJP, hJA, hJY⟩
  have hU := wn_uw hN
  obtain ⟨t1, t2, t3, t4, t5, t6, t7, t8⟩ := id hJT
  have j0 : J L S := j_of hJ hC hM
  have hm := hN.2.1
  refine b130_0 (by omega) (n135 t1.2.1 hN.2.1) ?_ (by
    rintro X S1 ⟨rfl, rfl, hn⟩
    refine Or.inr ⟨_, rfl, ⟨rfl, rfl⟩, 1, 1, rfl, by decide, b230_0 (s158 x t5.2.2.1 hm) ?_⟩
    rintro _ _ ⟨rfl, rfl⟩
    have hr : rayB m x = false := Bool.eq_false_iff.2 hn
    rw [hr]
    exact b230_6 (fun _ => b230_13 (b230_14 (fun w => absurd w (by rw [seti_same]; decide)) (fun _ => b230_24 (Or.inl rfl) ⟨_, rfl, seti_same, j4 j0⟩))) (fun q => absurd rfl q))
  rintro _ ⟨rfl, hr⟩
  obtain ⟨x0, xm⟩ := of_decide_eq_true hr
  have ex := i_of x0
  have ebit : (1 : Int32) <<< (x &&& 31) = bit x.toNatClampNeg := by
    have : bit x.toNatClampNeg = (1 : Int32) <<< (Int32.ofNat x.toNatClampNeg &&& 31) := rfl
    rw [this, ← ex]
  refine b130_5 (P := Vx (bi (tb ins x.toNatClampNeg)) S) (by
    rw [t3]
    have := s146 (d := 1997) (b := 0) (S := S) ins (r := x.toNatClampNeg) (by omega)
    rw [← ex] at this
    exact this) ?_
  rintro _ _ ⟨rfl, rfl⟩
  have main : ∀ ins', Low m ins' → (p = true → ins' = ins ||| bit x.toNatClampNeg) → (p = false → ins' = ins &&& (bit x.toNatClampNeg ^^^ -1)) → Wp 1998 (1 - 1) 130 43 [.ref 0, .int x, .int (bi p), .int (bi (tb ins x.toNatClampNeg)), .int (bit x.toNatClampNeg)] [.int ins', .ref 0] S (Rit (fun v S1 => Sc S S1 ∧ Wp 1999 0 230 0 [.ref 46, .int x, .int (bi p)] [] (setO S1 (if v = 0 then ((0 : Int32)).toInt64 else ((1 : Int32)).toInt64)) (Ri fun w S2 => S2.1 46 4 = 0 ∧ S2.2.2.2 = (if v = 0 then ((0 : Int32)).toInt64 else ((1 : Int32)).toInt64) ∧ w = v ∧ J L S2)) (fun X S1 => Sc S S1 ∧ ∃ j k, X = exN j ∧ (j, k) ∈ [(1, 1)] ∧ Wp 1999 0 230 0 [.ref 46, .int x, .int (bi p)] [] S1 (Ri fun w S2 => S2.1 46 4 = Int32.ofNat k ∧ J L S2))) := by
    intro ins' hl' hp1 hp0
    have hN' : WN D m rl ins' nu := ⟨hN.1, hN.2.1, hN.2.2.1, hl', hN.2.2.2.2⟩
    refine b130_43 (P := fun S1 => Fz [(0, 14), (0, 15), (0, 17), (12, 2), (12, 3)] [43, 44] S S1 ∧ S1.1 0 14 = ins' ∧ S1.1 0 15 = Int32.ofNat rl ∧ CA (pushN an) (pushF an aa (ins, Int32.ofNat rl)) S1 ∧ (S1.1 0 17 = 1 ∨ (S1.1 0 17 = S.1 0 17 ∧ ins' = ins ∧ rl = rl))) (by
      rw [t4]
      exact c139 t3 t4 hN.2.2.1 hN.2.2.1 (jc_st hC) hJA.1 (fun S1 c1 c2 c3 c4 c5 => ⟨rfl, c1, c2, c3, c4, c5⟩)) ?_
    rintro S1 ⟨c1, c2, c3, c4, c5⟩
    refine b130_50 (bi01 _) (Or.inl ⟨_, rfl, ⟨c1.f (by decide), c1.ar (by decide)⟩, ?_⟩)
    generalize (if bi (tb ins x.toNatClampNeg) = 0 then ((0 : Int32)).toInt64 else ((1 : Int32)).toInt64) = ov
    have g1 : (setO S1 ov).1 46 1 = Int32.ofNat m := (c1.f (by decide)).trans t5.2.2.1
    refine b230_0 (s158 x g1 hm) ?_
    rintro _ _ ⟨rfl, rfl⟩
    rw [hr]
    refine b230_6 (fun q => absurd q (by decide)) (fun _ => b230_9 (b230_14 (fun _ => ?_) (fun w => absurd (by rw [seti_same]; decide) w)))
    have e1 : Fz [(46, 4), (46, 40)] [62, 63] (setO S1 ov) (setI (setO S1 ov) 46 4 0) := Fz.refl.seti (by decide)
    have g2 : (setI (setO S1 ov) 46 4 0).1 46 2 = ins := (e1.f (by decide)).trans ((c1.f (by decide)).trans t6.2.2.1)
    have g3 : (setI (setO S1 ov) 46 4 0).1 46 3 = Int32.ofNat rl := (e1.f (by decide)).trans ((c1.f (by decide)).trans t6.2.2.2.2.1)
    have mA1 : MA an aa S1 := hJA.2.1.of c1 (by decide)
    have mA0 : MA an aa (setO S1 ov) := mA1
    refine b230_26 (P := fun S2 => Fz [(46, 4), (46, 40)] [62, 63] (setO S1 ov) S2 ∧ S2.1 46 4 = 0 ∧ MA (pushN an) (pushF an aa (ins, Int32.ofNat rl)) S2) (w229j (D := D) (m := m) (nu := nu) g2 g3 (mA0.of (Fz.refl.seti (fs := [(46, 4)]) (as := []) (by decide)) (by decide)) (fun S2 h1 h2 => ⟨rfl, e1.trans (h1.mono (by decide) (by decide)), (h1.f (by decide)).trans seti_same, h2⟩)) ?_
    rintro S2 ⟨h1, h2, h3⟩
    have q2 : S2.1 46 2 = ins := (h1.f (by decide)).trans ((c1.f (by decide)).trans t6.2.2.1)
    refine b230_30 (P := Vx (bi (tb ins x.toNatClampNeg)) S2) (by
      rw [q2]
      have := s154 (d := 1998) (b := 0) (S := S2) ins (r := x.toNatClampNeg) (by omega)
      rw [← ex] at this
      exact this) ?_
    rintro _ _ ⟨rfl, rfl⟩
    have tail : ∀ y0, y0 = ins' → Wp 1999 0 230 65 [.ref 46, .int x, .int (bi p), .int (bi (tb ins x.toNatClampNeg))] [.int y0, .ref 46] S2 (Ri fun w S4 => S4.1 46 4 = 0 ∧ S4.2.2.2 = ov ∧ w = bi (tb ins x.toNatClampNeg) ∧ J L S4) := by
      intro y0 hy
      rw [hy]
      have f3 : Fz [(46, 2), (46, 3)] [] S2 (setI S2 46 2 ins') := Fz.refl.seti (by decide)
      refine b230_65 (P := fun S4 => Fz [(46, 9), (46, 10), (46, 11)] [48, 49, 50] (setI S2 46 2 ins') S4 ∧ J L S4) (chg hN' ((f3.f (by decide)).trans ((h1.f (by decide)).trans ((c1.f (by decide)).trans t5.1))) ((f3.f (by decide)).trans ((h1.f (by decide)).trans ((c1.f (by decide)).trans t5.2.2.1))) seti_same ((seti_ne (by decide)).trans ((h1.f (by decide)).trans ((c1.f (by decide)).trans t6.2.2.2.2.1))) (fun r k hr hk => ?_) (fun S4 i1 i2 i3 i4 i5 i6 => ⟨rfl, i1, mod_act (S := setO S ov) (S1 := setO S1 ov) (js_o hJ) (jc_o hC) hN' ⟨c1.1, c1.2.1, rfl⟩ c2 c3 c4 c5 h1 h3 f3 i1 i2 i3 i4 i5 i6⟩)) ?_
      · rw [f3.a (by decide), h1.a (by decide)]
        show (S1.2.1 47 _).toInt = _
        rw [c1.a (by decide)]
        exact t7 r k hr hk
      · rintro S4 ⟨i1, i2⟩
        exact b230_72 (bi01 _) ⟨_, rfl, (i1.f (by decide)).trans ((f3.f (by decide)).trans h2), i1.2.2.trans (f3.2.2.trans h1.2.2), rfl, i2⟩
    refine b230_38 (fun q => b230_55 (tail _ ?_)) (fun q => b230_44 (tail _ ?_))
    · rw [q2, ebit, hp0 (bi0.1 q)]
    · rw [q2, ebit, hp1 (bi1.1 q)]
  refine b130_13 (fun q => b130_34 ?_) (fun q => b130_24 ?_)
  · rw [t3, ebit]
    exact main _ (low_and hN.2.2.2.1) (fun w => by rw [bi0.1 q] at w; cases w) (fun _ => rfl)
  · rw [t3, ebit]
    exact main _ (low_or hN.2.2.2.1 (low_bit xm (by omega))) (fun _ => rfl) (fun w => by rw [bi1.1 q] at w; cases w)
end OBY
