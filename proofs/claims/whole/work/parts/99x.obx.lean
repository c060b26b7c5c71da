/-! THE CALLS THAT MAY THROW: counts, acts -/
section OBX
variable {L : Nat}
theorem sum_20 {D m rl : Nat} {ins : Int32} {nu : Nat → Nat → Int} (hN : WN D m rl ins nu) : sumN (fun r => pcn (upN m ins nu r)) 20 = sumN (fun r => pcn (upN m ins nu r)) m := by
  have z : ∀ r, m ≤ r → pcn (upN m ins nu r) = 0 := fun r hr => by
    have : upN m ins nu r = 0 := Classical.byContradiction (fun q => by
      obtain ⟨o, ho⟩ := ne0 q
      have := ((wn_ud hN r o).1 ho).1
      omega)
    rw [this, pcn_zero]
  have hm := hN.2.1
  obtain ⟨k, hk⟩ := Nat.exists_eq_add_of_le hm
  rw [hk]
  clear hk
  induction k with
  | zero => rfl
  | succ k ih =>
    show sumN _ (m + k) + pcn (upN m ins nu (m + k)) = _
    rw [ih, z (m + k) (by omega), Nat.add_zero]
theorem w178 {D m rl : Nat} {ins : Int32} {up : Nat → Int32} {F : List Int32} {x : Int32} {S : St} {Q : Out → St → Prop} (hB : MB D m ins S) (hW : MW m rl ins up F S) (K1 : ¬ (¬ x < 0 ∧ x.toNatClampNeg < 10) → ∀ v S1, Fz [(46, 4), (46, 13), (46, 14)] [] S S1 → S1.1 46 4 = 1 → Q (.inl (some (.int v))) S1) (K0 : ∀ w, x = Int32.ofNat w → w < 10 → ∀ S1, Fz [(46, 4), (46, 13), (46, 14)] [] S S1 → S1.1 46 4 = 0 → Q (.inl (some (.int (if w = 0 then Int32.ofNat D else if w = 1 then Int32.ofNat m else if w = 2 then Int32.ofNat (pcn ins) else if w = 3 then Int32.ofNat (sumN (fun r => pcn (up r)) m / 2) else if w = 4 then Int32.ofNat F.length else if w = 5 then Int32.ofNat rl else if w = 6 then S.1 46 40 else if w = 7 then S.1 46 43 else if w = 8 then Int32.ofNat (chs m rl up F ins).length else bi (rfB m rl up F ins))))) S1) : Wp 1999 0 178 0 [.ref 46, .int x] [] S Q := by
  have f0 : Fz [(46, 4), (46, 13), (46, 14)] [] S (setI S 46 4 0) := Fz.refl.seti (by decide)
  have c0 : (setI S 46 4 0).1 46 4 = 0 := seti_same
  have hW0 := hW.of f0 (by decide)
  refine b178_0 ?_
  by_cases h : ¬ x < 0 ∧ x.toNatClampNeg < 10
  · have ex := i_of h.1
    have hw := h.2
    have K2 := K0 _ ex hw
    clear K0 K1
    generalize x.toNatClampNeg = w at *
    subst ex
    have : w = 0 ∨ w = 1 ∨ w = 2 ∨ w = 3 ∨ w = 4 ∨ w = 5 ∨ w = 6 ∨ w = 7 ∨ w = 8 ∨ w = 9 := by omega
    rcases this with rfl | rfl | rfl | rfl | rfl | rfl | rfl | rfl | rfl | rfl
    · rw [show swT 3 (Int32.ofNat 0) = 60 by decide +kernel]
      refine b178_60 ?_
      rw [f0.f (by decide), hB.1]
      exact K2 _ f0 c0
    · rw [show swT 3 (Int32.ofNat 1) = 65 by decide +kernel]
      refine b178_65 ?_
      rw [f0.f (by decide), hW.1]
      exact K2 _ f0 c0
    · rw [show swT 3 (Int32.ofNat 2) = 70 by decide +kernel]
      refine b178_70 (s155 _) ?_
      rintro _ _ ⟨rfl, rfl⟩
      refine b178_77 ?_
      rw [f0.f (by decide), hW.2.2.1]
      exact K2 _ f0 c0
    · rw [show swT 3 (Int32.ofNat 3) = 78 by decide +kernel]
      refine b178_78 (w177 hW0) ?_
      rintro _ _ ⟨rfl, rfl⟩
      exact b178_82 (K2 _ f0 c0)
    · rw [show swT 3 (Int32.ofNat 4) = 83 by decide +kernel]
      refine b178_83 ?_
      rw [hW0.2.2.2.2.2.2.2.1.1]
      exact K2 _ f0 c0
    · rw [show swT 3 (Int32.ofNat 5) = 88 by decide +kernel]
      refine b178_88 ?_
      rw [hW0.2.2.2.2.1]
      exact K2 _ f0 c0
    · rw [show swT 3 (Int32.ofNat 6) = 93 by decide +kernel]
      refine b178_93 ?_
      rw [f0.f (by decide)]
      exact K2 _ f0 c0
    · rw [show swT 3 (Int32.ofNat 7) = 98 by decide +kernel]
      refine b178_98 ?_
      rw [f0.f (by decide)]
      exact K2 _ f0 c0
    · rw [show swT 3 (Int32.ofNat 8) = 103 by decide +kernel]
      refine b178_103 (P := fun v S1 => v = Int32.ofNat (chs m rl up F ins).length ∧ Fz [(46, 13), (46, 14)] [] (setI S 46 4 0) S1) (by rw [hW0.2.2.1]; exact w168 ins hW0 (fun S1 a1 => ⟨_, rfl, rfl, a1⟩)) ?_
      rintro _ S1 ⟨rfl, a1⟩
      exact b178_111 (K2 _ (f0.trans (a1.mono (by decide) (by decide))) ((a1.f (by decide)).trans c0))
    · rw [show swT 3 (Int32.ofNat 9) = 112 by decide +kernel]
      have er : refB m rl ins up F ins = rfB m rl up F ins := by unfold refB rfB; rw [and_self1]
      refine b178_112 (P := fun v S1 => v = bi (rfB m rl up F ins) ∧ Fz [(46, 13), (46, 14)] [] (setI S 46 4 0) S1) (by rw [hW0.2.2.1]; exact w171 ins hW0 (fun S1 a1 => ⟨_, rfl, by rw [er], a1⟩)) ?_
      rintro _ S1 ⟨rfl, a1⟩
      have k : Q (.inl (some (.int (bi (rfB m rl up F ins))))) S1 := K2 _ (f0.trans (a1.mono (by decide) (by decide))) ((a1.f (by decide)).trans c0)
      exact b178_120 (fun q => b178_127 (b178_128 (by rw [bi0.1 q] at k; exact k))) (fun q => b178_123 (b178_128 (by rw [bi1.1 q] at k; exact k)))
  · have sw : swT 3 x = 129 := by
      have e : sws[3]? = some (0, [60, 65, 70, 78, 83, 88, 93, 98, 103, 112], 129) := by decide +kernel
      unfold swT
      rw [e]
      show (if x.toInt < 0 ∨ 0 + (10 : Int) ≤ x.toInt then 129 else _) = 129
      have e0 : (0 : Int32).toInt = 0 := by decide
      rw [if_pos ?_]
      refine Classical.byContradiction (fun q => h ?_)
      rw [Int32.lt_iff_toInt_lt, e0]
      unfold Int32.toNatClampNeg
      omega
    rw [sw]
    refine b178_129 (s152 1) ?_
    rintro _ _ ⟨rfl, rfl⟩
    exact b178_134 (K1 h _ _ (f0.seti (by decide)) seti_same)
theorem o103 : ∀ a1, ObB (J L) 1 103 178 [(1, 1)] [.int a1] := by
  intro x S hS
  obtain ⟨hL, D, m, rl, ins, nu, tn0, ty, an, aa, T, hN, hJT, hJF, hJP, hJA, hJY, hC, hM⟩ := hS
  have hJ : JS L D m rl ins nu tn0 ty an aa T S := ⟨hL, hN, hJT, hJF, hJP, hJA, hJY⟩
  have hU := wn_uw hN
  obtain ⟨t1, t2, t3, t4, t5, t6, t7, t8⟩ := id hJT
  have j0 : J L S := j_of hJ hC hM
  have e0 : (0 : Int32).toInt = 0 := by decide
  have e9 : (9 : Int32).toInt = 9 := by decide
  have thr : ¬ (¬ x < 0 ∧ x.toNatClampNeg < 10) → Wp 1999 0 178 0 [.ref 46, .int x] [] S (Ri fun w S2 => S2.1 46 4 = Int32.ofNat 1 ∧ J L S2) := fun hn => w178 t5 t6 (fun _ v S2 e1 e2 => ⟨_, rfl, e2, j0.of e1 (by decide) (by decide)⟩) (fun w h1 h2 => absurd (by rw [h1, i_cl (by omega)]; exact ⟨i_nneg (by omega), h2⟩) hn)
  refine b103_0 (fun q => b103_10 (by omega) (Or.inr ⟨_, rfl, ⟨rfl, rfl⟩, 1, 1, rfl, by decide, thr (fun w => w.1 q)⟩)) (fun q => b103_4 (fun q2 => ?_) (fun q2 => b103_10 (by omega) (Or.inr ⟨_, rfl, ⟨rfl, rfl⟩, 1, 1, rfl, by decide, thr (fun w => q2 ?_)⟩)))
  rotate_left
  · rw [Int32.le_iff_toInt_le, e9]
    have := w.2
    unfold Int32.toNatClampNeg at this
    omega
  have ex := i_of q
  have hw : x.toNatClampNeg < 10 := by
    rw [Int32.le_iff_toInt_le, e9] at q2
    unfold Int32.toNatClampNeg
    omega
  refine b103_20 (P := fun S1 => Fz RfF RfR S S1 ∧ S1.1 0 17 = 0 ∧ KC D m rl ins nu S1) (c141 hJ hC (fun S1 a1 a2 a3 => ⟨rfl, a1, a2, a3⟩)) ?_
  rintro S1 ⟨a1, a2, a3⟩
  have hJ1 := hJ.of a1 (by decide) (by decide)
  have hM1 := hM.of a1 (by decide)
  have hC1 : JC D m rl ins nu S1 := Or.inr ⟨a2, a3⟩
  have j1 : J L S1 := j_of hJ1 hC1 hM1
  have sc : Sc S S1 := ⟨a1.f (by decide), a1.ar (by decide)⟩
  obtain ⟨k1, k2, k3, k4, k5, k6, k7, k8, k9, k10, k11, k12, k13⟩ := id a3
  obtain ⟨u1, u2, u3, u4, u5, u6, u7, u8⟩ := id hJ1.2.2.1
  obtain ⟨cA, mA, _⟩ := id hJ1.2.2.2.2.2.1
  obtain ⟨cT, mT⟩ := id hJ1.2.2.2.2.1
  generalize x.toNatClampNeg = w at *
  subst ex
  -- the reference at a state that is as S1 but for what the class found out
  have mod : ∀ S2 v, JS L D m rl ins nu tn0 ty an aa T S2 → J L S2 → v = (if w = 0 then Int32.ofNat D else if w = 1 then Int32.ofNat m else if w = 2 then Int32.ofNat (pcn ins) else if w = 3 then Int32.ofNat (sumN (fun r => pcn (upN m ins nu r)) m / 2) else if w = 4 then Int32.ofNat (frN D m ins nu).length else if w = 5 then Int32.ofNat rl else if w = 6 then Int32.ofNat an else if w = 7 then Int32.ofNat tn0 else if w = 8 then Int32.ofNat (chs m rl (upN m ins nu) (frN D m ins nu) ins).length else bi (rfB m rl (upN m ins nu) (frN D m ins nu) ins)) → Wp 1999 0 178 0 [.ref 46, .int (Int32.ofNat w)] [] (setO S2 v.toInt64) (Ri fun w S3 => S3.1 46 4 = 0 ∧ S3.2.2.2 = v.toInt64 ∧ w = v ∧ J L S3) := by
    intro S2 v g1 g2 hv
    obtain ⟨_, _, _, _, y5, y6, _, _⟩ := g1.2.2.1
    have m1 := g1.2.2.2.2.2.1.2.1.1
    have m2 := g1.2.2.2.2.1.2.1
    refine w178 (S := setO S2 _) y5 y6 (fun hn => absurd ⟨i_nneg (by omega), by rw [i_cl (by omega)]; exact hw⟩ hn) (fun w' h1 h2 S3 e1 e2 => ⟨_, rfl, e2, e1.2.2, ?_, (g2.o).of e1 (by decide) (by decide)⟩)
    have := (i_inj (by omega) (by omega)).1 h1
    subst this
    have n1 : (setO S2 v.toInt64).1 46 40 = Int32.ofNat an := m1
    have n2 : (setO S2 v.toInt64).1 46 43 = Int32.ofNat tn0 := m2
    rw [n1, n2, hv]
  have hlow := uw_low hU
  refine b103_24 ?_
  have : w = 0 ∨ w = 1 ∨ w = 2 ∨ w = 3 ∨ w = 4 ∨ w = 5 ∨ w = 6 ∨ w = 7 ∨ w = 8 ∨ w = 9 := by omega
  rcases this with rfl | rfl | rfl | rfl | rfl | rfl | rfl | rfl | rfl | rfl
  · rw [show swT 2 (Int32.ofNat 0) = 76 by decide +kernel]
    exact b103_76 (Or.inl ⟨_, rfl, sc, mod S1 _ hJ1 j1 u1.1⟩)
  · rw [show swT 2 (Int32.ofNat 1) = 84 by decide +kernel]
    exact b103_84 (Or.inl ⟨_, rfl, sc, mod S1 _ hJ1 j1 u1.2.1⟩)
  · rw [show swT 2 (Int32.ofNat 2) = 92 by decide +kernel]
    refine b103_92 (s0 _) ?_
    rintro _ _ ⟨rfl, rfl⟩
    exact b103_99 (Or.inl ⟨_, rfl, sc, mod S1 _ hJ1 j1 (by rw [u3]; rfl)⟩)
  · rw [show swT 2 (Int32.ofNat 3) = 100 by decide +kernel]
    exact b103_100 (Or.inl ⟨_, rfl, sc, mod S1 _ hJ1 j1 (by rw [k1.2.1, sum_20 hN]; rfl)⟩)
  · rw [show swT 2 (Int32.ofNat 4) = 108 by decide +kernel]
    exact b103_108 (Or.inl ⟨_, rfl, sc, mod S1 _ hJ1 j1 k1.2.2.2.1⟩)
  · rw [show swT 2 (Int32.ofNat 5) = 116 by decide +kernel]
    exact b103_116 (Or.inl ⟨_, rfl, sc, mod S1 _ hJ1 j1 u4⟩)
  · rw [show swT 2 (Int32.ofNat 6) = 121 by decide +kernel]
    exact b103_121 (Or.inl ⟨_, rfl, sc, mod S1 _ hJ1 j1 cA.1⟩)
  · rw [show swT 2 (Int32.ofNat 7) = 129 by decide +kernel]
    exact b103_129 (Or.inl ⟨_, rfl, sc, mod S1 _ hJ1 j1 cT.1⟩)
  · rw [show swT 2 (Int32.ofNat 8) = 137 by decide +kernel]
    refine b103_137 (P := fun v S2 => v = Int32.ofNat (chs m rl (upN m ins nu) (frN D m ins nu) ins).length ∧ Fz [(6, 5), (6, 6), (6, 7)] [] S1 S2 ∧ CC (chs m rl (upN m ins nu) (frN D m ins nu) ins) S2) (c10 (uw_wd hU) (wn_cho hN) hlow.1 hlow.2 k2 k3 k4 (fun S2 c1 c2 => ⟨_, rfl, rfl, c1, c2⟩)) ?_
    rintro _ S2 ⟨rfl, c1, c2⟩
    have hJ2 := hJ1.of c1 (by decide) (by decide)
    have hM2 := hM1.of c1 (by decide)
    have hC2 : JC D m rl ins nu S2 := Or.inr ⟨(c1.f (by decide)).trans a2, ⟨k1.of c1 (by decide), k2.of c1 (by decide), (c1.f (by decide)).trans k3, c2, k5.of c1 (by decide), (c1.f (by decide)).trans k6, k7.of c1 (by decide), k8.of c1 (by decide), (by rw [c1.f (by decide)]; exact k9), (by rw [c1.f (by decide)]; exact k10), (by rw [c1.f (by decide)]; exact k11), k12.of c1 (by decide), k13.of c1 (by decide)⟩⟩
    have j2 : J L S2 := j_of hJ2 hC2 hM2
    have sc2 : Sc S S2 := ⟨(c1.f (by decide)).trans sc.1, (c1.ar (by decide)).trans sc.2⟩
    obtain ⟨v1, v2, v3, v4, v5, v6, v7, v8⟩ := id hJ2.2.2.1
    exact b103_144 (Or.inl ⟨_, rfl, sc2, mod S2 _ hJ2 j2 rfl⟩)
  · rw [show swT 2 (Int32.ofNat 9) = 145 by decide +kernel]
    refine b103_145 (P := fun v S2 => v = bi (rfB m rl (upN m ins nu) (frN D m ins nu) ins) ∧ Fz [(6, 5), (6, 6), (7, 4)] [] S1 S2 ∧ S2.1 7 4 = bi (rfB m rl (upN m ins nu) (frN D m ins nu) ins)) (c63 hU k2 k7 (fun S2 c1 c2 => ⟨_, rfl, rfl, c1, c2⟩)) ?_
    rintro _ S2 ⟨rfl, c1, c2⟩
    have hJ2 := hJ1.of c1 (by decide) (by decide)
    have hM2 := hM1.of c1 (by decide)
    have hC2 : JC D m rl ins nu S2 := Or.inr ⟨(c1.f (by decide)).trans a2, ⟨k1.of c1 (by decide), k2.of c1 (by decide), (c1.f (by decide)).trans k3, k4.of c1 (by decide), k5.of c1 (by decide), (c1.f (by decide)).trans k6, Or.inr c2, k8.of c1 (by decide), (by rw [c1.f (by decide)]; exact k9), (by rw [c1.f (by decide)]; exact k10), (by rw [c1.f (by decide)]; exact k11), k12.of c1 (by decide), k13.of c1 (by decide)⟩⟩
    have j2 : J L S2 := j_of hJ2 hC2 hM2
    have sc2 : Sc S S2 := ⟨(c1.f (by decide)).trans sc.1, (c1.ar (by decide)).trans sc.2⟩
    obtain ⟨v1, v2, v3, v4, v5, v6, v7, v8⟩ := id hJ2.2.2.1
    exact b103_152 (fun z => b103_159 (b103_160 (Or.inl ⟨_, rfl, sc2, mod S2 _ hJ2 j2 (by rw [bi0.1 z]; rfl)⟩))) (fun z => b103_155 (b103_160 (Or.inl ⟨_, rfl, sc2, mod S2 _ hJ2 j2 (by rw [bi1.1 z]; rfl)⟩)))
end OBX
