/-! THE CALLS THAT MAY THROW: lacking, the tree, what is forced, counts -/
section OBW
variable {L : Nat}
section WREF
variable {b m rl : Nat} {ins : Int32} {up : Nat → Int32} {F : List Int32}
theorem w175 {x : Int32} {S : St} {Q : Out → St → Prop} (hFl : ∀ f, f ∈ F → Low m f) (hbl : ∀ r, r < m → Low m (bes rl up F r)) (hW : MW m rl ins up F S) (K1 : ¬ ((0 : Int32) ≤ x ∧ x ≤ 2) → ∀ v S1, Fz [(46, 4)] [] S S1 → S1.1 46 4 = 1 → Q (.inl (some (.int v))) S1) (K0 : (0 : Int32) ≤ x → x ≤ 2 → ∀ fd lf dp cl S1, Tr (bes rl up F) F m ins 21 0 0 fd lf dp cl → Fz [(46, 4), (46, 17), (46, 18), (46, 19), (46, 20), (46, 21), (46, 22)] [] S S1 → S1.1 46 4 = 0 → Q (.inl (some (.int (if x = 0 then Int32.ofNat lf else if x = 1 then Int32.ofNat dp else Int32.ofNat cl)))) S1) : Wp 1999 0 175 0 [.ref 46, .int x] [] S Q := by
  have f0 : Fz [(46, 4)] [] S (setI S 46 4 0) := Fz.refl.seti (by decide)
  have hm := hW.2.1
  refine b175_0 s153 ?_
  rintro _ _ ⟨rfl, rfl⟩
  refine b175_11 (fun q => ?_) (fun q => b175_14 (s152 1) ?_)
  rotate_left
  · rintro _ _ ⟨rfl, rfl⟩
    exact b175_19 (K1 (fun h => q (bi1.2 (decide_eq_true h))) _ _ (f0.seti (by decide)) seti_same)
  obtain ⟨x0, x2⟩ := of_decide_eq_true (bi1.1 q)
  have f1 : Fz [(46, 20), (46, 21), (46, 22)] [] (setI S 46 4 0) (setI (setI (setI (setI S 46 4 0) 46 20 0) 46 21 0) 46 22 0) := ((Fz.refl.seti (by decide)).seti (by decide)).seti (by decide)
  have hW1 := (hW.of f0 (by decide)).of f1 (by decide)
  have tc : TC (setI (setI (setI (setI S 46 4 0) 46 20 0) 46 21 0) 46 22 0) 0 0 0 := ⟨(seti_ne (by decide)).trans ((seti_ne (by decide)).trans seti_same), (seti_ne (by decide)).trans seti_same, seti_same⟩
  have c4 : (setI (setI (setI (setI S 46 4 0) 46 20 0) 46 21 0) 46 22 0).1 46 4 = 0 := (f1.f (by decide)).trans seti_same
  refine b175_20 (P := fun v S1 => ∃ fd lf dp cl, Tr (bes rl up F) F m ins 21 0 0 fd lf dp cl ∧ Fz [(46, 17), (46, 18), (46, 19), (46, 20), (46, 21), (46, 22)] [] (setI (setI (setI (setI S 46 4 0) 46 20 0) 46 21 0) 46 22 0) S1 ∧ TC S1 (0 + lf) (max 0 (0 + dp)) (0 + cl)) (w174 hFl hbl 21 1998 0 0 0 0 0 0 _ _ (by omega) hW1 (low_zero m) (low_zero m) (opn0 hW.2.2.2.1 hm) (by omega) (by omega) tc (fun fd lf dp cl S1 a1 _ a3 a4 => ⟨_, rfl, fd, lf, dp, cl, a1, a3, a4⟩)) ?_
  rintro v S1 ⟨fd, lf, dp, cl, a1, a3, a4⟩
  rw [Nat.zero_add, Nat.zero_add, Nat.zero_add, Nat.zero_max] at a4
  have F1 : Fz [(46, 4), (46, 17), (46, 18), (46, 19), (46, 20), (46, 21), (46, 22)] [] S S1 := (f0.mono (by decide) (by decide)).trans ((f1.mono (by decide) (by decide)).trans (a3.mono (by decide) (by decide)))
  have k := K0 x0 x2 fd lf dp cl S1 a1 F1 ((a3.f (by decide)).trans c4)
  refine b175_42 (fun n0 => b175_54 (fun n1 => b175_66 (b175_70 ?_)) (fun n1 => b175_59 (b175_70 ?_))) (fun n0 => b175_47 (b175_70 ?_))
  · rw [if_neg n0, if_neg n1] at k
    rw [a4.2.2]; exact k
  · rw [if_neg n0, if_pos (Classical.byContradiction n1)] at k
    rw [a4.2.1]; exact k
  · rw [if_pos (Classical.byContradiction n0)] at k
    rw [a4.1]; exact k
theorem w176 {x y z : Int32} {S : St} {Q : Out → St → Prop} (hFl : ∀ f, f ∈ F → Low m f) (hbl : ∀ r, r < m → Low m (bes rl up F r)) (hW : MW m rl ins up F S) (K1 : ¬ ((0 : Int32) ≤ z ∧ z ≤ 2) → ∀ v S1, Fz [(46, 4)] [] S S1 → S1.1 46 4 = 1 → Q (.inl (some (.int v))) S1) (K2 : (0 : Int32) ≤ z ∧ z ≤ 2 → ¬ (sb x ins ∧ sb y ins) → ∀ v S1, Fz [(46, 4)] [] S S1 → S1.1 46 4 = 2 → Q (.inl (some (.int v))) S1) (K0 : (0 : Int32) ≤ z ∧ z ≤ 2 → sb x ins → sb y ins → ∀ Y N c S1, Fc (bes rl up F) F m x y Y N c → Fz [(46, 4), (46, 17), (46, 18), (46, 19)] [] S S1 → S1.1 46 4 = 0 → Q (.inl (some (.int (if z = 2 then bi c else if c = true then -1000000 else if z = 0 then Y else N)))) S1) : Wp 1999 0 176 0 [.ref 46, .int x, .int y, .int z] [] S Q := by
  have hm := hW.2.1
  have hi := hW.2.2.1
  have code : ∀ c, Fz [(46, 4)] [] S (setI S 46 4 c) := fun c => Fz.refl.seti (by decide)
  refine b176_0 s153 ?_
  rintro _ _ ⟨rfl, rfl⟩
  refine b176_7 (fun q => ?_) (fun q => b176_10 (b176_32 (fun w => absurd w (by rw [seti_same]; decide)) (fun _ => b176_42 (K1 (fun h => q (bi1.2 (decide_eq_true h))) _ _ (code 1) seti_same))))
  have zz := of_decide_eq_true (bi1.1 q)
  have sbi : ((x ||| y) &&& (ins ^^^ -1)) = 0 ↔ (sb x ins ∧ sb y ins) := by
    rw [sub0]
    constructor
    · exact fun h => ⟨fun k hk => h k (or_t.2 (Or.inl hk)), fun k hk => h k (or_t.2 (Or.inr hk))⟩
    · rintro ⟨h1, h2⟩ k hk
      rcases or_t.1 hk with h | h
      · exact h1 k h
      · exact h2 k h
  refine b176_14 (fun w => b176_31 (b176_32 (fun _ => ?_) (fun u => absurd (by rw [seti_same]; decide) u))) (fun w => b176_27 (b176_32 (fun u => absurd u (by rw [seti_same]; decide)) (fun _ => b176_42 (K2 zz (fun h => w ?_) _ _ (code 2) seti_same))))
  rotate_left
  · rw [hi]; exact sbi.2 h
  rw [hi] at w
  obtain ⟨sx, sy⟩ := sbi.1 w
  have lx : Low m x := fun k hk => hW.2.2.2.1 k (sx k hk)
  have ly : Low m y := fun k hk => hW.2.2.2.1 k (sy k hk)
  refine b176_44 (P := fun S1 => ∃ c, Fz [(46, 17), (46, 18), (46, 19)] [] (setI S 46 4 0) S1 ∧ S1.1 46 19 = bi c ∧ Fc (bes rl up F) F m x y (S1.1 46 17) (S1.1 46 18) c) (w173 (hW.of (code 0) (by decide)) hFl hbl lx ly (fun S1 c a1 a2 a3 => ⟨rfl, c, a1, a2, a3⟩)) ?_
  rintro S1 ⟨c, a1, a2, a3⟩
  have k := K0 zz sx sy _ _ c S1 a3 (((code 0).mono (by decide) (by decide)).trans (a1.mono (by decide) (by decide))) ((a1.f (by decide)).trans seti_same)
  refine b176_50 (fun n2 => b176_68 (fun u => b176_80 (fun n0 => b176_91 (b176_95 ?_)) (fun n0 => b176_84 (b176_95 ?_))) (fun u => b176_75 (b176_95 ?_))) (fun n2 => b176_55 (fun u => b176_66 (b176_67 ?_)) (fun u => b176_62 (b176_67 ?_)))
  · rw [a2] at u
    rw [if_neg n2, bi0.1 u, if_neg Bool.false_ne_true, if_neg n0] at k
    exact k
  · rw [a2] at u
    rw [if_neg n2, bi0.1 u, if_neg Bool.false_ne_true, if_pos (Classical.byContradiction n0)] at k
    exact k
  · rw [a2] at u
    rw [if_neg n2, bi1.1 u, if_pos rfl] at k
    exact k
  · rw [a2] at u
    rw [if_pos (Classical.byContradiction n2), bi0.1 u] at k
    exact k
  · rw [a2] at u
    rw [if_pos (Classical.byContradiction n2), bi1.1 u] at k
    exact k
theorem w177 {d : Nat} {S : St} (hW : MW m rl ins up F S) : Wp (d + 1) b 177 0 [.ref 46] [] S (Ri (Vx (Int32.ofNat (sumN (fun r => pcn (up r)) m / 2)) S)) := by
  obtain ⟨h1, hm, _, _, _, _, h7, _⟩ := hW
  refine b177_0 ?_
  have loop : ∀ k r, r + k = m → Wp (d + 1) b 177 4 [.ref 46, .int (Int32.ofNat (sumN (fun r => pcn (up r)) r)), .int (Int32.ofNat r)] [] S (Ri (Vx (Int32.ofNat (sumN (fun r => pcn (up r)) m / 2)) S)) := by
    intro k
    induction k with
    | zero =>
      intro r hr
      have hr : r = m := hr
      subst hr
      have := sumN_le (f := fun r => pcn (up r)) (c := 32) (fun k => pcn_le _) r
      refine b177_4 (fun _ => b177_30 (by decide) ⟨_, rfl, ?_, rfl⟩) (fun q => absurd (by rw [h1]; exact (i_le (by omega) (by omega)).2 (Nat.le_refl _)) q)
      exact i_half (by omega)
    | succ k ih =>
      intro r hr
      refine b177_4 (fun q => ?_) (fun _ => b177_12 (i_vp (by omega) (by omega)) (s155 _) ?_)
      · rw [h1] at q
        have := (i_le (by omega) (by omega)).1 q
        omega
      rintro _ _ ⟨rfl, rfl⟩
      refine b177_22 ?_
      rw [i_suc, i_cl (by omega), h7 r (by omega), i_add]
      exact ih (r + 1) (by omega)
  exact loop m 0 (by omega)
end WREF
theorem o123 : ∀ a1, ObB (J L) 1 123 215 [(1, 1)] [.int a1] := by
  intro x S hS
  obtain ⟨hL, D, m, rl, ins, nu, tn0, ty, an, aa, T, hN, hJT, hJF, hJP, hJA, hJY, hC, hM⟩ := hS
  have hJ : JS L D m rl ins nu tn0 ty an aa T S := ⟨hL, hN, hJT, hJF, hJP, hJA, hJY⟩
  have hU := wn_uw hN
  obtain ⟨t1, t2, t3, t4, t5, t6, t7, t8⟩ := id hJT
  have j0 : J L S := j_of hJ hC hM
  have e0 : (0 : Int32).toInt = 0 := by decide
  have e2 : (2 : Int32).toInt = 2 := by decide
  have thr : ¬ ((0 : Int32) ≤ x ∧ x ≤ 2) → Wp 1999 0 215 0 [.ref 46, .int x] [] S (Ri fun w S2 => S2.1 46 4 = Int32.ofNat 1 ∧ J L S2) := fun hn => w215 t5 t6 hN.2.2.2.2 t7 (fun _ v S2 e1 e2 => ⟨_, rfl, e2, j0.of e1 (by decide) (by decide)⟩) (fun h1 h2 => absurd ⟨h1, h2⟩ hn)
  refine b123_0 (fun q => b123_9 (by omega) (Or.inr ⟨_, rfl, ⟨rfl, rfl⟩, 1, 1, rfl, by decide, thr (fun w => by have := Int32.le_iff_toInt_le.1 w.1; rw [Int32.lt_iff_toInt_lt] at q; omega)⟩)) (fun q => b123_4 (fun q2 => ?_) (fun q2 => b123_9 (by omega) (Or.inr ⟨_, rfl, ⟨rfl, rfl⟩, 1, 1, rfl, by decide, thr (fun w => q2 w.2)⟩)))
  have x0 : (0 : Int32) ≤ x := by rw [Int32.lt_iff_toInt_lt] at q; rw [Int32.le_iff_toInt_le]; omega
  refine b123_20 (P := fun S1 => Fz RfF RfR S S1 ∧ S1.1 0 17 = 0 ∧ KC D m rl ins nu S1) (c141 hJ hC (fun S1 a1 a2 a3 => ⟨rfl, a1, a2, a3⟩)) ?_
  rintro S1 ⟨a1, a2, a3⟩
  have hJ1 := hJ.of a1 (by decide) (by decide)
  have hM1 := hM.of a1 (by decide)
  have hC1 : JC D m rl ins nu S1 := Or.inr ⟨a2, a3⟩
  have j1 : J L S1 := j_of hJ1 hC1 hM1
  have sc : Sc S S1 := ⟨a1.f (by decide), a1.ar (by decide)⟩
  obtain ⟨k1, k2, k3, k4, k5, k6, k7, k8, k9, k10, k11, k12, k13⟩ := id a3
  obtain ⟨u1, u2, u3, u4, u5, u6, u7, u8⟩ := id hJ1.2.2.1
  have lkok : ∀ r o, lkC (upN m ins nu) (frN D m ins nu) r o = true → r < m ∧ o < m := fun r o h => lk_low hN.2.2.2.1 (by rw [lk_eq hU]; exact h)
  have eB : lkB ins (upN m ins nu) (frN D m ins nu) = lkC (upN m ins nu) (frN D m ins nu) := funext (fun r => funext (fun o => lk_eq hU r o))
  have eT : thB D m ins nu (lkB ins (upN m ins nu) (frN D m ins nu)) = fun r o => lkC (upN m ins nu) (frN D m ins nu) r o && (!true || (decide (D = 3) && hasB m nu r o)) := funext (fun r => funext (fun o => by rw [th_eq hN.1 hU hN.2.2.2.2 (wn_ud hN) (wn_fs hN)]; rfl))
  have eF : (fun r o => lkC (upN m ins nu) (frN D m ins nu) r o && (!false || (decide (D = 3) && hasB m nu r o))) = lkC (upN m ins nu) (frN D m ins nu) := funext (fun r => funext (fun o => by rw [Bool.not_false, Bool.true_or, Bool.and_true]))
  have n01 : ¬ (1 : Int32) = 0 := by decide
  have n02 : ¬ (2 : Int32) = 0 := by decide
  have n12 : ¬ (2 : Int32) = 1 := by decide
  have mod : ∀ v, (x = 0 → v = Int32.ofNat (prs (lkC (upN m ins nu) (frN D m ins nu)) 20)) → (x = 1 → FrP (lkC (upN m ins nu) (frN D m ins nu)) v) → (x = 2 → v = Int32.ofNat (prs (fun r o => lkC (upN m ins nu) (frN D m ins nu) r o && (!true || (decide (D = 3) && hasB m nu r o))) 20)) → Wp 1999 0 215 0 [.ref 46, .int x] [] (setO S1 v.toInt64) (Ri fun w S3 => S3.1 46 4 = 0 ∧ S3.2.2.2 = v.toInt64 ∧ w = v ∧ J L S3) := by
    intro v h0 h1 h2
    refine w215 (S := setO S1 _) u5 u6 hN.2.2.2.2 u7 (fun hn => absurd ⟨x0, q2⟩ hn) (fun _ _ w S3 e1 e2 g0 g1 g2 => ⟨_, rfl, e2, e1.2.2, ?_, (j1.o).of e1 (by decide) (by decide)⟩)
    rw [eB] at g0 g1
    rw [eT] at g2
    have hx : x = 0 ∨ x = 1 ∨ x = 2 := by
      have a := Int32.le_iff_toInt_le.1 x0
      have c := Int32.le_iff_toInt_le.1 q2
      have e1 : (1 : Int32).toInt = 1 := by decide
      have e0' : (0 : Int32).toInt = 0 := by decide
      have e2' : (2 : Int32).toInt = 2 := by decide
      have : x.toInt = 0 ∨ x.toInt = 1 ∨ x.toInt = 2 := by omega
      rcases this with h | h | h
      · exact Or.inl (ti_ext (h.trans e0'.symm))
      · exact Or.inr (Or.inl (ti_ext (h.trans e1.symm)))
      · exact Or.inr (Or.inr (ti_ext (h.trans e2'.symm)))
    rcases hx with h | h | h
    · rw [g0 h, h0 h, prs_eq hN.2.1 lkok]
    · exact (g1 h).uniq (h1 h)
    · rw [g2 h, h2 h, prs_eq hN.2.1 (fun r o hh => lkok r o (Bool.and_eq_true _ _ ▸ hh : _ ∧ _).1)]
  refine b123_24 (fun n0 => b123_37 (fun n1 => b123_52 (P := fun v S2 => S1 = S2 ∧ v = Int32.ofNat (prs (fun r o => lkC (upN m ins nu) (frN D m ins nu) r o && (!true || (decide (D = 3) && hasB m nu r o))) 20)) (c95 (tl := true) hU hN.1 hN.2.2.2.2 u1 k1 ⟨_, rfl, rfl, rfl⟩) ?_) (fun n1 => b123_42 (P := fun v S2 => S1 = S2 ∧ FrP (lkC (upN m ins nu) (frN D m ins nu)) v) (c97 hU k1 (fun v hv => ⟨_, rfl, rfl, hv⟩)) ?_)) (fun n0 => b123_28 (P := fun v S2 => S1 = S2 ∧ v = Int32.ofNat (prs (fun r o => lkC (upN m ins nu) (frN D m ins nu) r o && (!false || (decide (D = 3) && hasB m nu r o))) 20)) (c95 (tl := false) hU hN.1 hN.2.2.2.2 u1 k1 ⟨_, rfl, rfl, rfl⟩) ?_)
  · rintro v _ ⟨rfl, hv⟩
    exact b123_60 (Or.inl ⟨_, rfl, sc, mod v (fun h => absurd h n0) (fun h => absurd h n1) (fun _ => hv)⟩)
  · rintro v _ ⟨rfl, hv⟩
    have h1 := Classical.byContradiction n1
    exact b123_49 (b123_60 (Or.inl ⟨_, rfl, sc, mod v (fun h => absurd h n0) (fun _ => hv) (fun h => absurd (h.symm.trans h1) n12)⟩))
  · rintro v _ ⟨rfl, hv⟩
    have h0 := Classical.byContradiction n0
    rw [eF] at hv
    exact b123_36 (Or.inl ⟨_, rfl, sc, mod v (fun _ => hv) (fun h => absurd (h.symm.trans h0) n01) (fun h => absurd (h.symm.trans h0) n02)⟩)
theorem o112 : ∀ a1, ObB (J L) 1 112 175 [(1, 1)] [.int a1] := by
  intro x S hS
  obtain ⟨hL, D, m, rl, ins, nu, tn0, ty, an, aa, T, hN, hJT, hJF, hJP, hJA, hJY, hC, hM⟩ := hS
  have hJ : JS L D m rl ins nu tn0 ty an aa T S := ⟨hL, hN, hJT, hJF, hJP, hJA, hJY⟩
  have hU := wn_uw hN
  obtain ⟨t1, t2, t3, t4, t5, t6, t7, t8⟩ := id hJT
  have j0 : J L S := j_of hJ hC hM
  have e0 : (0 : Int32).toInt = 0 := by decide
  have hlow := uw_low hU
  have thr : ¬ ((0 : Int32) ≤ x ∧ x ≤ 2) → Wp 1999 0 175 0 [.ref 46, .int x] [] S (Ri fun w S2 => S2.1 46 4 = Int32.ofNat 1 ∧ J L S2) := fun hn => w175 hlow.1 hlow.2 t6 (fun _ v S2 e1 e2 => ⟨_, rfl, e2, j0.of e1 (by decide) (by decide)⟩) (fun h1 h2 => absurd ⟨h1, h2⟩ hn)
  refine b112_0 (fun q => b112_9 (by omega) (Or.inr ⟨_, rfl, ⟨rfl, rfl⟩, 1, 1, rfl, by decide, thr (fun w => by have := Int32.le_iff_toInt_le.1 w.1; rw [Int32.lt_iff_toInt_lt] at q; omega)⟩)) (fun q => b112_4 (fun q2 => ?_) (fun q2 => b112_9 (by omega) (Or.inr ⟨_, rfl, ⟨rfl, rfl⟩, 1, 1, rfl, by decide, thr (fun w => q2 w.2)⟩)))
  have x0 : (0 : Int32) ≤ x := by rw [Int32.lt_iff_toInt_lt] at q; rw [Int32.le_iff_toInt_le]; omega
  refine b112_19 (P := fun S1 => Fz RfF RfR S S1 ∧ S1.1 0 17 = 0 ∧ KC D m rl ins nu S1) (c141 hJ hC (fun S1 a1 a2 a3 => ⟨rfl, a1, a2, a3⟩)) ?_
  rintro S1 ⟨a1, a2, a3⟩
  have hJ1 := hJ.of a1 (by decide) (by decide)
  have hM1 := hM.of a1 (by decide)
  have hC1 : JC D m rl ins nu S1 := Or.inr ⟨a2, a3⟩
  have j1 : J L S1 := j_of hJ1 hC1 hM1
  have sc : Sc S S1 := ⟨a1.f (by decide), a1.ar (by decide)⟩
  obtain ⟨k1, k2, k3, k4, k5, k6, k7, k8, k9, k10, k11, k12, k13⟩ := id a3
  obtain ⟨u1, u2, u3, u4, u5, u6, u7, u8⟩ := id hJ1.2.2.1
  refine b112_23 (P := fun S2 => ∃ fd lf dp cl, Fz [(6, 5), (6, 6), (6, 9), (6, 10), (6, 11)] [] S1 S2 ∧ Tr (bes rl (upN m ins nu) (frN D m ins nu)) (frN D m ins nu) m ins 21 0 0 fd lf dp cl ∧ TD S2 lf dp cl) (c17 hN.2.1 hN.2.2.2.1 hlow.1 hlow.2 (k2.le hN.2.1) k3 k5 (fun S2 fd lf dp cl c1 c2 c3 => ⟨rfl, fd, lf, dp, cl, c1, c2, c3⟩)) ?_
  rintro S2 ⟨fd, lf, dp, cl, c1, c2, c3⟩
  have hJ2 := hJ1.of c1 (by decide) (by decide)
  have hM2 := hM1.of c1 (by decide)
  have hC2 : JC D m rl ins nu S2 := Or.inr ⟨(c1.f (by decide)).trans a2, ⟨k1.of c1 (by decide), k2.of c1 (by decide), (c1.f (by decide)).trans k3, k4.of c1 (by decide), Or.inr ⟨fd, lf, dp, cl, c2, c3⟩, (c1.f (by decide)).trans k6, k7.of c1 (by decide), k8.of c1 (by decide), (by rw [c1.f (by decide)]; exact k9), (by rw [c1.f (by decide)]; exact k10), (by rw [c1.f (by decide)]; exact k11), k12.of c1 (by decide), k13.of c1 (by decide)⟩⟩
  have j2 : J L S2 := j_of hJ2 hC2 hM2
  have sc2 : Sc S S2 := ⟨(c1.f (by decide)).trans sc.1, (c1.ar (by decide)).trans sc.2⟩
  obtain ⟨v1, v2, v3, v4, v5, v6, v7, v8⟩ := id hJ2.2.2.1
  have mod : ∀ v, v = (if x = 0 then Int32.ofNat lf else if x = 1 then Int32.ofNat dp else Int32.ofNat cl) → Wp 1999 0 175 0 [.ref 46, .int x] [] (setO S2 v.toInt64) (Ri fun w S3 => S3.1 46 4 = 0 ∧ S3.2.2.2 = v.toInt64 ∧ w = v ∧ J L S3) := by
    intro v hv
    refine w175 (S := setO S2 _) hlow.1 hlow.2 v6 (fun hn => absurd ⟨x0, q2⟩ hn) (fun _ _ fd' lf' dp' cl' S3 e1 e2 e3 => ⟨_, rfl, e3, e2.2.2, ?_, (j2.o).of e2 (by decide) (by decide)⟩)
    obtain ⟨_, h1, h2, h3⟩ := Tr.uniq _ _ _ _ _ _ _ _ _ _ _ _ e1 c2
    rw [h1, h2, h3, hv]
  refine b112_30 (fun n0 => b112_42 (fun n1 => b112_57 (b112_64 (Or.inl ⟨_, rfl, sc2, mod _ ?_⟩))) (fun n1 => b112_47 (b112_64 (Or.inl ⟨_, rfl, sc2, mod _ ?_⟩)))) (fun n0 => b112_34 (Or.inl ⟨_, rfl, sc2, mod _ ?_⟩))
  · rw [if_neg n0, if_neg n1]; exact c3.2.2
  · rw [if_neg n0, if_pos (Classical.byContradiction n1)]; exact c3.2.1
  · rw [if_pos (Classical.byContradiction n0)]; exact c3.1
theorem o111 : ∀ a1 a2 a3, ObB (J L) 3 111 176 [(1, 1), (0, 2)] [.int a1, .int a2, .int a3] := by
  intro x y z S hS
  obtain ⟨hL, D, m, rl, ins, nu, tn0, ty, an, aa, T, hN, hJT, hJF, hJP, hJA, hJY, hC, hM⟩ := hS
  have hJ : JS L D m rl ins nu tn0 ty an aa T S := ⟨hL, hN, hJT, hJF, hJP, hJA, hJY⟩
  have hU := wn_uw hN
  obtain ⟨t1, t2, t3, t4, t5, t6, t7, t8⟩ := id hJT
  have j0 : J L S := j_of hJ hC hM
  have e0 : (0 : Int32).toInt = 0 := by decide
  have hlow := uw_low hU
  have thr : ¬ ((0 : Int32) ≤ z ∧ z ≤ 2) → Wp 1999 0 176 0 [.ref 46, .int x, .int y, .int z] [] S (Ri fun w S2 => S2.1 46 4 = Int32.ofNat 1 ∧ J L S2) := fun hn => w176 hlow.1 hlow.2 t6 (fun _ v S2 e1 e2 => ⟨_, rfl, e2, j0.of e1 (by decide) (by decide)⟩) (fun h1 => absurd h1 hn) (fun h1 => absurd h1 hn)
  have thr2 : ((0 : Int32) ≤ z ∧ z ≤ 2) → ¬ (sb x ins ∧ sb y ins) → Wp 1999 0 176 0 [.ref 46, .int x, .int y, .int z] [] S (Ri fun w S2 => S2.1 46 4 = Int32.ofNat 2 ∧ J L S2) := fun hz hn => w176 hlow.1 hlow.2 t6 (fun h1 => absurd hz h1) (fun _ _ v S2 e1 e2 => ⟨_, rfl, e2, j0.of e1 (by decide) (by decide)⟩) (fun _ h1 h2 => absurd ⟨h1, h2⟩ hn)
  refine b111_0 (fun q => b111_9 (by omega) (Or.inr ⟨_, rfl, ⟨rfl, rfl⟩, 1, 1, rfl, by decide, thr (fun w => by have := Int32.le_iff_toInt_le.1 w.1; rw [Int32.lt_iff_toInt_lt] at q; omega)⟩)) (fun q => b111_4 (fun q2 => ?_) (fun q2 => b111_9 (by omega) (Or.inr ⟨_, rfl, ⟨rfl, rfl⟩, 1, 1, rfl, by decide, thr (fun w => q2 w.2)⟩)))
  have z0 : (0 : Int32) ≤ z := by rw [Int32.lt_iff_toInt_lt] at q; rw [Int32.le_iff_toInt_le]; omega
  refine b111_19 (by omega) (n137 t3) ?_ (by
    rintro X S1 ⟨rfl, rfl, hn⟩
    exact Or.inr ⟨_, rfl, ⟨rfl, rfl⟩, 0, 2, rfl, by decide, thr2 ⟨z0, q2⟩ (fun w => hn w.1)⟩)
  rintro _ ⟨rfl, sx⟩
  refine b111_24 (by omega) (n137 t3) ?_ (by
    rintro X S1 ⟨rfl, rfl, hn⟩
    exact Or.inr ⟨_, rfl, ⟨rfl, rfl⟩, 0, 2, rfl, by decide, thr2 ⟨z0, q2⟩ (fun w => hn w.2)⟩)
  rintro _ ⟨rfl, sy⟩
  refine b111_29 (P := fun S1 => Fz RfF RfR S S1 ∧ S1.1 0 17 = 0 ∧ KC D m rl ins nu S1) (c141 hJ hC (fun S1 a1 a2 a3 => ⟨rfl, a1, a2, a3⟩)) ?_
  rintro S1 ⟨a1, a2, a3⟩
  have hJ1 := hJ.of a1 (by decide) (by decide)
  have hM1 := hM.of a1 (by decide)
  have hC1 : JC D m rl ins nu S1 := Or.inr ⟨a2, a3⟩
  have j1 : J L S1 := j_of hJ1 hC1 hM1
  have sc : Sc S S1 := ⟨a1.f (by decide), a1.ar (by decide)⟩
  obtain ⟨k1, k2, k3, k4, k5, k6, k7, k8, k9, k10, k11, k12, k13⟩ := id a3
  obtain ⟨u1, u2, u3, u4, u5, u6, u7, u8⟩ := id hJ1.2.2.1
  have lx : Low m x := fun k hk => hN.2.2.2.1 k (sx k hk)
  have ly : Low m y := fun k hk => hN.2.2.2.1 k (sy k hk)
  refine b111_33 (P := fun v S2 => ∃ c, v = bi (!c) ∧ Fz [(6, 5), (6, 6)] [] S1 S2 ∧ Fc (bes rl (upN m ins nu) (frN D m ins nu)) (frN D m ins nu) m x y (S2.1 6 5) (S2.1 6 6) c) (c6a (k2.le hN.2.1) hN.2.1 hlow.1 hlow.2 lx ly (fun r _ _ h => by rw [tb_zero] at h; cases h) (fun S2 c c1 c2 => ⟨_, rfl, c, rfl, c1, c2⟩)) ?_
  rintro _ S2 ⟨c, rfl, c1, c2⟩
  have hJ2 := hJ1.of c1 (by decide) (by decide)
  have hM2 := hM1.of c1 (by decide)
  have hC2 : JC D m rl ins nu S2 := Or.inr ⟨(c1.f (by decide)).trans a2, ⟨k1.of c1 (by decide), k2.of c1 (by decide), (c1.f (by decide)).trans k3, k4.of c1 (by decide), k5.of c1 (by decide), (c1.f (by decide)).trans k6, k7.of c1 (by decide), k8.of c1 (by decide), (by rw [c1.f (by decide)]; exact k9), (by rw [c1.f (by decide)]; exact k10), (by rw [c1.f (by decide)]; exact k11), k12.of c1 (by decide), k13.of c1 (by decide)⟩⟩
  have j2 : J L S2 := j_of hJ2 hC2 hM2
  have sc2 : Sc S S2 := ⟨(c1.f (by decide)).trans sc.1, (c1.ar (by decide)).trans sc.2⟩
  obtain ⟨v1, v2, v3, v4, v5, v6, v7, v8⟩ := id hJ2.2.2.1
  have mod : ∀ v, v = (if z = 2 then bi c else if c = true then -1000000 else if z = 0 then S2.1 6 5 else S2.1 6 6) → Wp 1999 0 176 0 [.ref 46, .int x, .int y, .int z] [] (setO S2 v.toInt64) (Ri fun w S3 => S3.1 46 4 = 0 ∧ S3.2.2.2 = v.toInt64 ∧ w = v ∧ J L S3) := by
    intro v hv
    refine w176 (S := setO S2 _) hlow.1 hlow.2 v6 (fun hn => absurd ⟨z0, q2⟩ hn) (fun _ hn => absurd ⟨sx, sy⟩ hn) (fun _ _ _ Y N c' S3 e1 e2 e3 => ⟨_, rfl, e3, e2.2.2, ?_, (j2.o).of e2 (by decide) (by decide)⟩)
    obtain ⟨h1, h2⟩ := e1.uniq c2
    subst h1
    rw [hv]
    by_cases h : z = 2
    · rw [if_pos h, if_pos h]
    · rw [if_neg h, if_neg h]
      cases c'
      · obtain ⟨h3, h4⟩ := h2 rfl
        rw [h3, h4]
      · rfl
  have last : ∀ c4 : Int32, c4 = bi c → Wp 1998 (3 - 1 - 1) 111 51 [.ref 0, .int x, .int y, .int z] [.int c4] S2 (Rit (fun v S1 => Sc S S1 ∧ Wp 1999 0 176 0 [.ref 46, .int x, .int y, .int z] [] (setO S1 v.toInt64) (Ri fun w S2 => S2.1 46 4 = 0 ∧ S2.2.2.2 = v.toInt64 ∧ w = v ∧ J L S2)) (fun X S1 => Sc S S1 ∧ ∃ j k, X = exN j ∧ (j, k) ∈ [(1, 1), (0, 2)] ∧ Wp 1999 0 176 0 [.ref 46, .int x, .int y, .int z] [] S1 (Ri fun w S2 => S2.1 46 4 = Int32.ofNat k ∧ J L S2))) := by
    rintro _ rfl
    refine b111_51 (fun n2 => b111_69 (fun u => b111_77 (fun n0 => b111_91 (b111_98 (Or.inl ⟨_, rfl, sc2, mod _ ?_⟩))) (fun n0 => b111_81 (b111_98 (Or.inl ⟨_, rfl, sc2, mod _ ?_⟩)))) (fun u => b111_74 (Or.inl ⟨_, rfl, sc2, mod _ ?_⟩))) (fun n2 => b111_58 (fun u => b111_67 (b111_68 (Or.inl ⟨_, rfl, sc2, mod _ ?_⟩))) (fun u => b111_63 (b111_68 (Or.inl ⟨_, rfl, sc2, mod _ ?_⟩))))
    · rw [if_neg n2, bi0.1 u, if_neg Bool.false_ne_true, if_neg n0]
    · rw [if_neg n2, bi0.1 u, if_neg Bool.false_ne_true, if_pos (Classical.byContradiction n0)]
    · rw [if_neg n2, bi1.1 u, if_pos rfl]
    · rw [if_pos (Classical.byContradiction n2), bi0.1 u]; rfl
    · rw [if_pos (Classical.byContradiction n2), bi1.1 u]; rfl
  refine b111_43 (fun w => b111_50 (last _ ?_)) (fun w => b111_46 (last _ ?_))
  · have := bi1.1 w
    cases c
    · rfl
    · cases this
  · have := bi0.1 (Classical.byContradiction w)
    cases c
    · cases this
    · rfl
end OBW
