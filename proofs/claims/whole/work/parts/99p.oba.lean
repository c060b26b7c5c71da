/-! THE CALLS: those that never throw -/
section OBA
variable {L : Nat}
theorem js_o {D m rl : Nat} {ins : Int32} {nu : Nat → Nat → Int} {tn0 : Nat} {ty : Nat → Int32} {an : Nat} {aa : Nat → Int32 × Int32} {T : List Int32} {S : St} {x : Int64} (h : JS L D m rl ins nu tn0 ty an aa T S) : JS L D m rl ins nu tn0 ty an aa T (setO S x) := h
theorem jc_o {D m rl : Nat} {ins : Int32} {nu : Nat → Nat → Int} {S : St} {x : Int64} (h : JC D m rl ins nu S) : JC D m rl ins nu (setO S x) := h
theorem jm_o {D m rl : Nat} {ins : Int32} {nu : Nat → Nat → Int} {S : St} {x : Int64} (h : JM D m rl ins nu S) : JM D m rl ins nu (setO S x) := h
theorem o113 : ∀ p, ObA (J L) 113 187 [.int (bi p)] := by
  intro p S hS
  obtain ⟨hL, D, m, rl, ins, nu, tn0, ty, an, aa, T, hN, hJT, hJF, hJP, hJA, hJY, hC, hM⟩ := hS
  have hJ : JS L D m rl ins nu tn0 ty an aa T S := ⟨hL, hN, hJT, hJF, hJP, hJA, hJY⟩
  have hU := wn_uw hN
  refine b113_0 (P := fun S1 => Fz RfF RfR S S1 ∧ S1.1 0 17 = 0 ∧ KC D m rl ins nu S1) (c141 hJ hC (fun S1 a1 a2 a3 => ⟨rfl, a1, a2, a3⟩)) ?_
  rintro S1 ⟨a1, a2, a3⟩
  have hJ1 := hJ.of a1 (by decide) (by decide)
  have hM1 := hM.of a1 (by decide)
  have hC1 : JC D m rl ins nu S1 := Or.inr ⟨a2, a3⟩
  obtain ⟨k1, k2, k3, k4, k5, k6, k7, k8, k9, k10, k11, k12, k13⟩ := id a3
  obtain ⟨t1, t2, t3, t4, t5, t6, t7, t8⟩ := id hJ1.2.2.1
  refine b113_4 (P := fun v S2 => v = (if rfB m rl (upN m ins nu) (frN D m ins nu) ins = true then spU (rfB m rl (upN m ins nu) (frN D m ins nu)) (rayC p) 20 ins else 0) ∧ Fz [(6, 5), (6, 6), (7, 4), (13, 2), (13, 4), (13, 5), (13, 6), (13, 7), (13, 8), (13, 9)] [29, 30] S1 S2 ∧ CR m rl ins (upN m ins nu) (frN D m ins nu) S2) (c65 hU k1 k6 k2 k7 (fun S2 c1 c2 => ⟨_, rfl, rfl, c1, c2⟩)) ?_
  rintro _ S2 ⟨rfl, c1, c2⟩
  have hJ2 := hJ1.of c1 (by decide) (by decide)
  have hM2 := hM1.of c1 (by decide)
  have hC2 : JC D m rl ins nu S2 := Or.inr ⟨(c1.f (by decide)).trans a2, ⟨k1.of c1 (by decide), k2.of c1 (by decide), (c1.f (by decide)).trans k3, k4.of c1 (by decide), k5.of c1 (by decide), (c1.f (by decide)).trans k6, c2, k8.of c1 (by decide), (by rw [c1.f (by decide)]; exact k9), (by rw [c1.f (by decide)]; exact k10), (by rw [c1.f (by decide)]; exact k11), k12.of c1 (by decide), k13.of c1 (by decide)⟩⟩
  obtain ⟨u1, u2, u3, u4, u5, u6, u7, u8⟩ := id hJ2.2.2.1
  refine b113_12 ⟨_, rfl, ⟨(c1.f (by decide)).trans (a1.f (by decide)), (c1.ar (by decide)).trans (a1.ar (by decide))⟩, w187 u6 (fun S3 e1 e2 => ⟨_, rfl, ?_, j_of (hJ2.of e1 (by decide) (by decide)) (hC2.of e1 (by decide) (by decide)) (hM2.of e1 (by decide))⟩)⟩
  rw [sp_same _ hN.2.1 hN.2.2.2.1]
theorem o114 : ObA (J L) 114 191 [] := by
  intro S hS
  obtain ⟨hL, D, m, rl, ins, nu, tn0, ty, an, aa, T, hN, hJT, hJF, hJP, hJA, hJY, hC, hM⟩ := hS
  have hJ : JS L D m rl ins nu tn0 ty an aa T S := ⟨hL, hN, hJT, hJF, hJP, hJA, hJY⟩
  have hU := wn_uw hN
  refine b114_0 (P := fun S1 => Fz RfF RfR S S1 ∧ S1.1 0 17 = 0 ∧ KC D m rl ins nu S1) (c141 hJ hC (fun S1 a1 a2 a3 => ⟨rfl, a1, a2, a3⟩)) ?_
  rintro S1 ⟨a1, a2, a3⟩
  have hJ1 := hJ.of a1 (by decide) (by decide)
  have hM1 := hM.of a1 (by decide)
  have hC1 : JC D m rl ins nu S1 := Or.inr ⟨a2, a3⟩
  obtain ⟨k1, k2, k3, k4, k5, k6, k7, k8, k9, k10, k11, k12, k13⟩ := id a3
  obtain ⟨t1, t2, t3, t4, t5, t6, t7, t8⟩ := id hJ1.2.2.1
  refine b114_4 (P := fun v S2 => Fz [(6, 5), (6, 6), (7, 4), (7, 5), (7, 6), (13, 2), (13, 4), (13, 5), (13, 6), (13, 7), (13, 8), (13, 9)] [29, 30] S1 S2 ∧ CR m rl ins (upN m ins nu) (frN D m ins nu) S2 ∧ CF m rl ins (upN m ins nu) (frN D m ins nu) S2 ∧ (rfB m rl (upN m ins nu) (frN D m ins nu) ins = true → IsFew (rfB m rl (upN m ins nu) (frN D m ins nu)) ins v) ∧ (rfB m rl (upN m ins nu) (frN D m ins nu) ins = false → v = 0)) (c66 hU k1 k6 k2 k7 k8 (fun S2 v c1 c2 c3 c4 c5 => ⟨_, rfl, c1, c2, c3, c4, c5⟩)) ?_
  rintro v S2 ⟨c1, c2, c3, c4, c5⟩
  have hJ2 := hJ1.of c1 (by decide) (by decide)
  have hM2 := hM1.of c1 (by decide)
  have hC2 : JC D m rl ins nu S2 := Or.inr ⟨(c1.f (by decide)).trans a2, ⟨k1.of c1 (by decide), k2.of c1 (by decide), (c1.f (by decide)).trans k3, k4.of c1 (by decide), k5.of c1 (by decide), (c1.f (by decide)).trans k6, c2, c3, (by rw [c1.f (by decide)]; exact k9), (by rw [c1.f (by decide)]; exact k10), (by rw [c1.f (by decide)]; exact k11), k12.of c1 (by decide), k13.of c1 (by decide)⟩⟩
  obtain ⟨u1, u2, u3, u4, u5, u6, u7, u8⟩ := id hJ2.2.2.1
  refine b114_11 ⟨_, rfl, ⟨(c1.f (by decide)).trans (a1.f (by decide)), (c1.ar (by decide)).trans (a1.ar (by decide))⟩, w191 hU u6 (wn_few hN) (fun S3 w e1 e2 e3 e4 => ⟨_, rfl, ?_, j_of (hJ2.of e1 (by decide) (by decide)) (hC2.of e1 (by decide) (by decide)) (hM2.of e1 (by decide))⟩)⟩
  cases h : rfB m rl (upN m ins nu) (frN D m ins nu) ins
  · rw [e4 h, c5 h]
  · exact (e3 h).uniq (c4 h)
theorem o117 : ObA (J L) 117 198 [] := by
  intro S hS
  obtain ⟨hL, D, m, rl, ins, nu, tn0, ty, an, aa, T, hN, hJT, hJF, hJP, hJA, hJY, hC, hM⟩ := hS
  have hJ : JS L D m rl ins nu tn0 ty an aa T S := ⟨hL, hN, hJT, hJF, hJP, hJA, hJY⟩
  have hU := wn_uw hN
  refine b117_0 (P := fun S1 => Fz RfF RfR S S1 ∧ S1.1 0 17 = 0 ∧ KC D m rl ins nu S1) (c141 hJ hC (fun S1 a1 a2 a3 => ⟨rfl, a1, a2, a3⟩)) ?_
  rintro S1 ⟨a1, a2, a3⟩
  have hJ1 := hJ.of a1 (by decide) (by decide)
  have hM1 := hM.of a1 (by decide)
  have hC1 : JC D m rl ins nu S1 := Or.inr ⟨a2, a3⟩
  obtain ⟨k1, k2, k3, k4, k5, k6, k7, k8, k9, k10, k11, k12, k13⟩ := id a3
  obtain ⟨t1, t2, t3, t4, t5, t6, t7, t8⟩ := id hJ1.2.2.1
  refine b117_4 (P := fun v S2 => v = S2.1 9 7 ∧ Fz [(9, 4), (9, 5), (9, 6), (9, 7)] [34, 35, 36] S1 S2 ∧ CPy (frN D m ins nu) S2 ∧ LeP (((frN D m ins nu).take 40).map rwF) S2) (c21 (by have := hN.1; omega) k1.2.2.2 hU.2.2.2.2.2.2.2.2.2 (fun f hf => wn_frm hN hf) t1.1 k12 (fun S2 c1 c2 c3 => ⟨_, rfl, rfl, c1, c2, c3⟩)) ?_
  rintro _ S2 ⟨rfl, c1, c2, c3⟩
  have hJ2 := hJ1.of c1 (by decide) (by decide)
  have hM2 := hM1.of c1 (by decide)
  have hC2 : JC D m rl ins nu S2 := Or.inr ⟨(c1.f (by decide)).trans a2, ⟨k1.of c1 (by decide), k2.of c1 (by decide), (c1.f (by decide)).trans k3, k4.of c1 (by decide), k5.of c1 (by decide), (c1.f (by decide)).trans k6, k7.of c1 (by decide), k8.of c1 (by decide), (by rw [c1.f (by decide)]; exact k9), (by rw [c1.f (by decide)]; exact k10), (by rw [c1.f (by decide)]; exact k11), c2, k13.of c1 (by decide)⟩⟩
  obtain ⟨u1, u2, u3, u4, u5, u6, u7, u8⟩ := id hJ2.2.2.1
  refine b117_11 ⟨_, rfl, ⟨(c1.f (by decide)).trans (a1.f (by decide)), (c1.ar (by decide)).trans (a1.ar (by decide))⟩, w198 u6.2.2.2.2.2.2.2.2.1 (fun f hf => (wn_frm hN hf).1) u6.2.2.2.2.2.2.2.1 hM2.2 (fun S3 e1 e2 e3 e4 => ⟨_, rfl, ?_, j_of (hJ2.of e1 (by decide) (by decide)) (hC2.of e1 (by decide) (by decide)) ⟨?_, Or.inr ⟨e3, e4⟩⟩⟩)⟩
  · rcases par_eq (fun f hf => (wn_frm hN hf).1) c3 e4 with ⟨x, y, _⟩ | ⟨k, l, _, _, x, y, _⟩
    · rw [x, y]
    · rw [x, y]
  · rw [e1.f (by decide), e1.f (by decide)]; exact hM2.1
def evV (F : List Int32) (B : Nat → Int32) : Int32 := Int32.ofNat (min 40 F.length) - Int32.ofNat (cnt (fun c => !decide (B (c + 1) = 0)) 20)
theorem o119 : ObA (J L) 119 200 [] := by
  intro S hS
  obtain ⟨hL, D, m, rl, ins, nu, tn0, ty, an, aa, T, hN, hJT, hJF, hJP, hJA, hJY, hC, hM⟩ := hS
  have hJ : JS L D m rl ins nu tn0 ty an aa T S := ⟨hL, hN, hJT, hJF, hJP, hJA, hJY⟩
  have hU := wn_uw hN
  refine b119_0 (P := fun S1 => Fz RfF RfR S S1 ∧ S1.1 0 17 = 0 ∧ KC D m rl ins nu S1) (c141 hJ hC (fun S1 a1 a2 a3 => ⟨rfl, a1, a2, a3⟩)) ?_
  rintro S1 ⟨a1, a2, a3⟩
  have hJ1 := hJ.of a1 (by decide) (by decide)
  have hM1 := hM.of a1 (by decide)
  have hC1 : JC D m rl ins nu S1 := Or.inr ⟨a2, a3⟩
  obtain ⟨k1, k2, k3, k4, k5, k6, k7, k8, k9, k10, k11, k12, k13⟩ := id a3
  obtain ⟨t1, t2, t3, t4, t5, t6, t7, t8⟩ := id hJ1.2.2.1
  refine b119_4 (P := fun v S2 => ∃ B, v = evV (frN D m ins nu) B ∧ Fz [(9, 4), (9, 5)] [34, 35] S1 S2 ∧ CPy (frN D m ins nu) S2 ∧ BS B (((frN D m ins nu).take 40).map rwF)) (c20 k1.2.2.2 hU.2.2.2.2.2.2.2.2.2 (fun f hf => (wn_frm hN hf).1) k12 (fun S2 B c1 c2 c3 => ⟨_, rfl, B, rfl, c1, c2, c3⟩)) ?_
  rintro _ S2 ⟨B, rfl, c1, c2, c3⟩
  have hJ2 := hJ1.of c1 (by decide) (by decide)
  have hM2 := hM1.of c1 (by decide)
  have hC2 : JC D m rl ins nu S2 := Or.inr ⟨(c1.f (by decide)).trans a2, ⟨k1.of c1 (by decide), k2.of c1 (by decide), (c1.f (by decide)).trans k3, k4.of c1 (by decide), k5.of c1 (by decide), (c1.f (by decide)).trans k6, k7.of c1 (by decide), k8.of c1 (by decide), (by rw [c1.f (by decide)]; exact k9), (by rw [c1.f (by decide)]; exact k10), (by rw [c1.f (by decide)]; exact k11), c2, k13.of c1 (by decide)⟩⟩
  obtain ⟨u1, u2, u3, u4, u5, u6, u7, u8⟩ := id hJ2.2.2.1
  refine b119_11 ⟨_, rfl, ⟨(c1.f (by decide)).trans (a1.f (by decide)), (c1.ar (by decide)).trans (a1.ar (by decide))⟩, w200 u6.2.2.2.2.2.2.2.2.1 (fun f hf => (wn_frm hN hf).1) u6.2.2.2.2.2.2.2.1 (fun W S3 e1 e2 e3 => ⟨_, rfl, ?_, j_of (hJ2.of e1 (by decide) (by decide)) (hC2.of e1 (by decide) (by decide)) (hM2.of e1 (by decide))⟩)⟩
  unfold evV
  rw [ev_eq (fun f hf => (wn_frm hN hf).1) c3 e3]
theorem o124 : ObA (J L) 124 218 [] := by
  intro S hS
  obtain ⟨hL, D, m, rl, ins, nu, tn0, ty, an, aa, T, hN, hJT, hJF, hJP, hJA, hJY, hC, hM⟩ := hS
  have hJ : JS L D m rl ins nu tn0 ty an aa T S := ⟨hL, hN, hJT, hJF, hJP, hJA, hJY⟩
  have hU := wn_uw hN
  refine b124_0 (P := fun S1 => Fz RfF RfR S S1 ∧ S1.1 0 17 = 0 ∧ KC D m rl ins nu S1) (c141 hJ hC (fun S1 a1 a2 a3 => ⟨rfl, a1, a2, a3⟩)) ?_
  rintro S1 ⟨a1, a2, a3⟩
  have hJ1 := hJ.of a1 (by decide) (by decide)
  have hM1 := hM.of a1 (by decide)
  have hC1 : JC D m rl ins nu S1 := Or.inr ⟨a2, a3⟩
  obtain ⟨k1, k2, k3, k4, k5, k6, k7, k8, k9, k10, k11, k12, k13⟩ := id a3
  obtain ⟨t1, t2, t3, t4, t5, t6, t7, t8⟩ := id hJ1.2.2.1
  refine b124_4 (P := Vx (Int32.ofNat (cnt (fun r => tb ins r && leadB (upN m ins nu) r) 20)) S1) (c98 hU k1 ⟨_, rfl, rfl, rfl⟩) ?_
  rintro _ _ ⟨rfl, rfl⟩
  refine b124_11 ⟨_, rfl, ⟨a1.f (by decide), a1.ar (by decide)⟩, w218 hU t6 (fun S3 e1 e2 => ⟨_, rfl, ?_, j_of (hJ1.of e1 (by decide) (by decide)) (hC1.of e1 (by decide) (by decide)) (hM1.of e1 (by decide))⟩)⟩
  congr 1
  exact (cnt_ext hN.2.1 (fun k hk _ => by
    have : tb ins k = false := Bool.eq_false_iff.2 (fun z => by have := hN.2.2.2.1 k z; omega)
    rw [this, Bool.false_and])).symm
theorem o127 : ObA (J L) 127 223 [] := by
  intro S hS
  obtain ⟨hL, D, m, rl, ins, nu, tn0, ty, an, aa, T, hN, hJT, hJF, hJP, hJA, hJY, hC, hM⟩ := hS
  have hJ : JS L D m rl ins nu tn0 ty an aa T S := ⟨hL, hN, hJT, hJF, hJP, hJA, hJY⟩
  have hU := wn_uw hN
  refine b127_0 (P := fun S1 => Fz RfF RfR S S1 ∧ S1.1 0 17 = 0 ∧ KC D m rl ins nu S1) (c141 hJ hC (fun S1 a1 a2 a3 => ⟨rfl, a1, a2, a3⟩)) ?_
  rintro S1 ⟨a1, a2, a3⟩
  have hJ1 := hJ.of a1 (by decide) (by decide)
  have hM1 := hM.of a1 (by decide)
  have hC1 : JC D m rl ins nu S1 := Or.inr ⟨a2, a3⟩
  obtain ⟨k1, k2, k3, k4, k5, k6, k7, k8, k9, k10, k11, k12, k13⟩ := id a3
  obtain ⟨t1, t2, t3, t4, t5, t6, t7, t8⟩ := id hJ1.2.2.1
  refine b127_4 (P := fun v S2 => ∃ k, v = Int32.ofNat k ∧ Fz [(8, 6)] [33] S1 S2 ∧ HueIs (upN m ins nu) ins k ∧ k ≤ 20 ∧ S2.1 8 6 = Int32.ofNat k) (c45 hU k1 t1.1 (by have := hN.1; omega) (wn_hue hN) k11 (fun S2 k c1 c2 c3 c4 => ⟨_, rfl, k, rfl, c1, c2, c3, c4⟩)) ?_
  rintro _ S2 ⟨k, rfl, c1, c2, c3, c4⟩
  have hJ2 := hJ1.of c1 (by decide) (by decide)
  have hM2 := hM1.of c1 (by decide)
  have hC2 : JC D m rl ins nu S2 := Or.inr ⟨(c1.f (by decide)).trans a2, ⟨k1.of c1 (by decide), k2.of c1 (by decide), (c1.f (by decide)).trans k3, k4.of c1 (by decide), k5.of c1 (by decide), (c1.f (by decide)).trans k6, k7.of c1 (by decide), k8.of c1 (by decide), (by rw [c1.f (by decide)]; exact k9), (by rw [c1.f (by decide)]; exact k10), Or.inr ⟨k, c2, c3, c4⟩, k12.of c1 (by decide), k13.of c1 (by decide)⟩⟩
  obtain ⟨u1, u2, u3, u4, u5, u6, u7, u8⟩ := id hJ2.2.2.1
  refine b127_11 ⟨_, rfl, ⟨(c1.f (by decide)).trans (a1.f (by decide)), (c1.ar (by decide)).trans (a1.ar (by decide))⟩, w223 hU u6 u8 (fun S3 k' e1 e2 e3 e4 e5 => ⟨_, rfl, by rw [e4.uniq c2], ?_⟩)⟩
  have hT3 : JT D m rl ins nu S3 := by
    obtain ⟨v1, v2, v3, v4, v5, v6, v7, _⟩ := hJ2.2.2.1
    exact ⟨v1.of e1 (by decide), (fun r hr k => by rw [e1.a (by decide)]; exact v2 r hr k), (e1.f (by decide)).trans v3, (e1.f (by decide)).trans v4, v5.of e1 (by decide) (by decide) (by decide), v6.of e1 (by decide), (fun r k hr hk => by rw [e1.a (by decide)]; exact v7 r k hr hk), e3⟩
  obtain ⟨x1, x2, x3, x4, x5, x6, x7⟩ := hJ2
  exact j_of ⟨(e1.f (by decide)).trans x1, x2, hT3, x4.of e1 (by decide), x5.of e1 (by decide), x6.of e1 (by decide), x7.of e1 (by decide)⟩ (hC2.of e1 (by decide) (by decide)) (hM2.of e1 (by decide))
theorem o102 : ObA (J L) 102 235 [] := by
  intro S hS
  obtain ⟨hL, D, m, rl, ins, nu, tn0, ty, an, aa, T, hN, hJT, hJF, hJP, hJA, hJY, hC, hM⟩ := hS
  have hJ : JS L D m rl ins nu tn0 ty an aa T S := ⟨hL, hN, hJT, hJF, hJP, hJA, hJY⟩
  have hU := wn_uw hN
  have e1 : Fz [(46, 4)] [] S (setI S 46 4 0) := Fz.refl.seti (by decide)
  refine b102_0 ⟨_, rfl, ⟨rfl, rfl⟩, b235_0 ⟨_, rfl, ?_, j_of (hJ.of e1 (by decide) (by decide)) (hC.of e1 (by decide) (by decide)) (hM.of e1 (by decide))⟩⟩
  rw [e1.f (by decide)]
  exact hJF.symm
end OBA
