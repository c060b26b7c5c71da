/-! THE CALLS THAT MAY THROW: ask -/
section OBASK
variable {L : Nat}
/-- what a question can look up -/
def evA (A : Nat → Int32) (up : Nat → Int32) (F : List Int32) (k r : Nat) : Int32 := if k = 0 then Int32.ofNat r else if k ≤ 4 then A (4 * r + (k - 1)) else if k = 5 then dotN A r r 4 else if k = 6 then Int32.ofNat (pcn (up r)) else Int32.ofNat (fcn F r)
theorem evA_k {A : Nat → Int32} {up : Nat → Int32} {F : List Int32} {k r : Nat} (h : k < 4) : evA A up F (k + 1) r = A (4 * r + k) := by
  unfold evA
  rw [if_neg (by omega), if_pos (by omega)]
  rfl
theorem by_ne {x : Int32} : ¬ x &&& 255 = -1 := fun h => by
  have h1 : tb (x &&& 255) 31 = true := by rw [h]; exact tb_m1 (by omega)
  rw [tb_and, show tb 255 31 = false by decide, Bool.and_false] at h1
  cases h1
theorem cv_of {m : Nat} {ins ys : Int32} {up : Nat → Int32} {F : List Int32} {A : Nat → Int32} {S : St} (hm : m ≤ 20) (hl : Low m ins) (hA : S.2.1 15 = A) (hW : WB ins up F S) : CV m ins up (evA A up F) ys (setI S 11 6 ys) := by
  obtain ⟨w1, w2, w3, w4⟩ := hW
  refine ⟨hm, hl, (seti_ne (by decide)).trans w1, fun r k hr hk => ?_, fun r hr => ?_, fun r hr => ⟨w3 r (by omega), rfl⟩, fun r hr => (w4.2.2 r (by omega)).2, fun r => rfl, seti_same⟩
  · rw [evA_k hk, ← hA]; rfl
  · show dotN (S.2.1 15) r r 4 = dotN A r r 4
    rw [hA]
theorem dot_e {A B : Nat → Int32} {D m : Nat} {nu : Nat → Nat → Int} {r : Nat} (hD : D = 3 ∨ D = 4) (hr : r < m) (hA : ∀ r k, r < m → k < 4 → (A (4 * r + k)).toInt = nu r k) (hR : RWd D m nu) (hB : ∀ k, k < D → B (4 * r + k) = A (4 * r + k)) : dotN B r r D = dotN A r r 4 := by
  rcases hD with rfl | rfl
  · have z : A (4 * r + 3) = 0 := Int32.toInt_inj.1 ((hA r 3 hr (by omega)).trans ((hR.1 r hr).2.2 3 (by omega)))
    show 0 + B (4 * r + 0) * B (4 * r + 0) + B (4 * r + 1) * B (4 * r + 1) + B (4 * r + 2) * B (4 * r + 2) = 0 + A (4 * r + 0) * A (4 * r + 0) + A (4 * r + 1) * A (4 * r + 1) + A (4 * r + 2) * A (4 * r + 2) + A (4 * r + 3) * A (4 * r + 3)
    rw [z, hB 0 (by omega), hB 1 (by omega), hB 2 (by omega), Int32.mul_zero, Int32.add_zero]
  · show 0 + B (4 * r + 0) * B (4 * r + 0) + B (4 * r + 1) * B (4 * r + 1) + B (4 * r + 2) * B (4 * r + 2) + B (4 * r + 3) * B (4 * r + 3) = 0 + A (4 * r + 0) * A (4 * r + 0) + A (4 * r + 1) * A (4 * r + 1) + A (4 * r + 2) * A (4 * r + 2) + A (4 * r + 3) * A (4 * r + 3)
    rw [hB 0 (by omega), hB 1 (by omega), hB 2 (by omega), hB 3 (by omega)]
theorem me_of {D m rl : Nat} {ins fc : Int32} {nu : Nat → Nat → Int} {up : Nat → Int32} {F : List Int32} {A : Nat → Int32} {S : St} (hD : D = 3 ∨ D = 4) (h0 : S.1 46 0 = Int32.ofNat D) (hA : ∀ r k, r < m → k < 4 → (A (4 * r + k)).toInt = nu r k) (hR : RWd D m nu) (hT : MTl D m nu S) (hW : MW m rl ins up F S) (h16 : S.1 46 16 = fc) : ME D m up F (evA A up F) fc none (setI S 46 55 (-1)) := by
  obtain ⟨w1, w2, w3, w4, w5, w6, w7, w8, w9, w10⟩ := hW
  have hB : ∀ r, r < m → ∀ k, k < D → S.2.1 47 (4 * r + k) = A (4 * r + k) := fun r hr k hk => Int32.toInt_inj.1 ((hT r k hr hk).trans (hA r k hr (by omega)).symm)
  refine ⟨(seti_ne (by decide)).trans h0, hD, w2, fun r k hr hk => ?_, fun r hr => ?_, fun r hr => dot_e hD hr hA hR (hB r hr), fun r hr => ⟨w7 r hr, rfl⟩, ⟨(seti_ne (by decide)).trans w8.1, w8.2⟩, w9, fun r hr => rfl, fun r => rfl, (seti_ne (by decide)).trans h16, fun _ => seti_same, fun r hr => by cases hr⟩
  · rw [evA_k (by omega)]
    exact hB r hr k (by omega)
  · rw [show (4 : Nat) = 3 + 1 from rfl, evA_k (by omega)]
    show A (4 * r + 3) = if D = 4 then S.2.1 47 (4 * r + 3) else 0
    by_cases e : D = 4
    · rw [if_pos e]
      exact (hB r hr 3 (by omega)).symm
    · rw [if_neg e]
      exact Int32.toInt_inj.1 ((hA r 3 hr (by omega)).trans ((hR.1 r hr).2.2 3 (by omega)))
abbrev AX : List (Nat × Nat) := [(0, 16), (6, 5), (6, 6), (6, 7), (6, 8)]
theorem js_tape {D m rl : Nat} {ins : Int32} {nu : Nat → Nat → Int} {tn0 : Nat} {ty : Nat → Int32} {an : Nat} {aa : Nat → Int32 × Int32} {T : List Int32} {S S1 : St} (h : JS L D m rl ins nu tn0 ty an aa T S) (hF : Fz (AX ++ (QC2 ++ AF)) [] S S1) (h1 : S1.1 1 1 = 0) (h2 : S1.1 46 43 = 0) (h3 : S1.1 0 16 = S1.1 46 51) : JS L D m rl ins nu 0 ty an aa T S1 := by
  obtain ⟨j1, j2, j3, j4', j5, j6, j7⟩ := h
  exact ⟨(hF.f (by decide)).trans j1, j2, j3.of hF (by decide) (by decide), h3, ⟨⟨h1, by omega, fun i hi => by omega⟩, ⟨h2, by omega, fun i hi => by omega⟩⟩, j6.of hF (by decide), j7.of hF (by decide)⟩
theorem jm_tape {D m rl : Nat} {ins : Int32} {nu : Nat → Nat → Int} {S S1 : St} (h : JM D m rl ins nu S) (hF : Fz (AX ++ (QC2 ++ AF)) [] S S1) (h1 : S1.1 46 10 = 1) (h2 : S1.1 46 16 = fstC m rl (upN m ins nu) (frN D m ins nu) ins) : JM D m rl ins nu S1 := by
  refine ⟨Or.inr ⟨h1, h2⟩, ?_⟩
  rcases h.2 with q | ⟨q, q'⟩
  · exact Or.inl ((hF.f (by decide)).trans q)
  · exact Or.inr ⟨(hF.f (by decide)).trans q, q'.of hF (by decide)⟩
theorem many_first {y : Nat → Int32} {n p : Nat} (h : isWl y n p wMany = true) : isWl y n p wFirst = false := by
  unfold isWl at *
  rw [Bool.and_eq_true, Bool.and_eq_true] at h
  have e : en y n p - bg y n p = 4 := of_decide_eq_true h.2.1
  rw [e, decide_eq_false (show ¬ (4 : Nat) = wFirst.length by decide), Bool.false_and, Bool.and_false]
/-- the two kinds of yes -/
theorem e_eq {D m rl : Nat} {ins : Int32} {nu : Nat → Nat → Int} (hN : WN D m rl ins nu) : eY (fstC m rl (upN m ins nu) (frN D m ins nu) ins) = eC ((chs m rl (upN m ins nu) (frN D m ins nu) ins).getD 0 0) := by
  funext r
  unfold eY eC fstC
  have hC := wn_cho hN
  generalize chs m rl (upN m ins nu) (frN D m ins nu) ins = C at hC ⊢
  cases C with
  | nil =>
    rw [if_pos (show ([] : List Int32).isEmpty = true from rfl), if_pos rfl]
    show (0 : Int32) = bi (tb 0 r)
    rw [tb_zero]
    rfl
  | cons a C =>
    rw [if_neg (show ¬ (a :: C).isEmpty = true from Bool.false_ne_true)]
    rw [if_neg (?_)]
    show ¬ a = -1
    intro e
    have h1 := ((hC.2 a).1 List.mem_cons_self).1
    have h2 := sb_low h1 hN.2.2.2.1 31 (by rw [e]; exact tb_m1 (by omega))
    have := hN.2.1
    omega
theorem ask_me {D m rl : Nat} {ins : Int32} {nu : Nat → Nat → Int} {S S0 S1 : St} (hN : WN D m rl ins nu) (hJ : JT D m rl ins nu S) (g0 : Fz (AX ++ QC2) [] S S0) (g1 : Fz AF [] S0 S1) (g2 : S1.1 46 16 = (fstC m rl (upN m ins nu) (frN D m ins nu) ins)) : ME D m (upN m ins nu) (frN D m ins nu) (evA (S.2.1 15) (upN m ins nu) (frN D m ins nu)) (fstC m rl (upN m ins nu) (frN D m ins nu) ins) none (setI S1 46 55 (-1)) := by
  obtain ⟨t1, t2, t3, t4, t5, t6, t7, t8⟩ := hJ
  exact me_of (nu := nu) (ins := ins) (rl := rl) hN.1 ((g1.f (by decide)).trans ((g0.f (by decide)).trans t5.1)) t1.2.2.1 hN.2.2.2.2 (fun r k hr hk => by rw [g1.a (by decide), g0.a (by decide)]; exact t7 r k hr hk) ((t6.of g0 (by decide)).of g1 (by decide)) g2
theorem qend_lt {ev : Nat → Nat → Int32} {y : Nat → Int32} {n : Nat} : (qEnd ev y n).1 < 1000 := by
  have h := (qst_ok (ev := ev) (y := y) (n := n)).2.1
  unfold qEnd
  split
  · show 1 < 1000
    omega
  · exact h
theorem i_inj2 {a b : Nat} (ha : a < 2147483648) (hb : b < 2147483648) (h : Int32.ofNat a = Int32.ofNat b) : a = b := by
  have e := congrArg Int32.toNatClampNeg h
  rw [i_cl ha, i_cl hb] at e
  exact e
/-- the reference answers as the class did -/
theorem ask_fin {D m rl : Nat} {ins : Int32} {nu : Nat → Nat → Int} {tn0 : Nat} {ty : Nat → Int32} {an : Nat} {aa : Nat → Int32 × Int32} {T : List Int32} {n : Nat} {v : Int32} {ov : Int64} {S1 S3 : St} (hJ1 : JS L D m rl ins nu tn0 ty an aa T S1) (hM1 : JM D m rl ins nu S1) (hn : n ≤ tn0) (hn2 : n ≤ 200) (G : Fz (AX ++ QC2) [] S1 S3) (h11 : S3.1 1 1 = 0) (h17 : S3.1 0 17 = 0) (hK : KC D m rl ins nu S3) (H : (¬ (qEnd (evA (S1.2.1 15) (upN m ins nu) (frN D m ins nu)) ty n).1 = 0 ∧ S3.1 0 16 = Int32.ofNat (bg ty n (qEnd (evA (S1.2.1 15) (upN m ins nu) (frN D m ins nu)) ty n).2) ∧ v = (-1000000000 : Int32) - Int32.ofNat (qEnd (evA (S1.2.1 15) (upN m ins nu) (frN D m ins nu)) ty n).1) ∨ ((qEnd (evA (S1.2.1 15) (upN m ins nu) (frN D m ins nu)) ty n).1 = 0 ∧ S3.1 0 16 = -1 ∧ (isWl ty n 0 wMany = true ∨ isWl ty n 0 wFirst = true) ∧ (isWl ty n 0 wMany = true → v = Int32.ofNat (cnt (fun r => tb ins r && (qst (evA (S1.2.1 15) (upN m ins nu) (frN D m ins nu)) ty n).2.2 (eY (fstC m rl (upN m ins nu) (frN D m ins nu) ins)) r) 20)) ∧ (isWl ty n 0 wMany = false → LeastR (fun r => tb ins r && (qst (evA (S1.2.1 15) (upN m ins nu) (frN D m ins nu)) ty n).2.2 (eY (fstC m rl (upN m ins nu) (frN D m ins nu) ins)) r) 20 v))) : Wp 1999 0 263 0 [.ref 46, .int (Int32.ofNat n)] [] (setO S3 ov) (Ri fun w S2 => S2.1 46 4 = 0 ∧ S2.2.2.2 = ov ∧ w = v ∧ J L S2) := by
  have hN := hJ1.2.1
  have hm := hN.2.1
  obtain ⟨u1, u2, u3, u4, u5, u6, u7, u8⟩ := id hJ1.2.2.1
  have hp1 := hJ1.2.2.2.2.1.1
  have hp2 := hJ1.2.2.2.2.1.2
  have Go : Fz (AX ++ QC2) [] (setO S1 ov) (setO S3 ov) := ⟨G.1, G.2.1, rfl⟩
  have hJo : JS L D m rl ins nu tn0 ty an aa T (setO S1 ov) := hJ1
  have hMo : JM D m rl ins nu (setO S1 ov) := hM1
  have hKo : KC D m rl ins nu (setO S3 ov) := hK
  have u6o : MW m rl ins (upN m ins nu) (frN D m ins nu) (setO S1 ov) := u6
  have J4 : ∀ S4, Fz AF [] (setO S3 ov) S4 → S4.1 46 10 = 1 → S4.1 46 16 = (fstC m rl (upN m ins nu) (frN D m ins nu) ins) → S4.1 46 43 = 0 → S3.1 0 16 = S4.1 46 51 → J L S4 := fun S4 e1 e2 e3 e4 e5 => by
    have g : Fz (AX ++ (QC2 ++ AF)) [] (setO S1 ov) S4 := (Go.mono (by decide) (by decide)).trans (e1.mono (by decide) (by decide))
    exact j_of (js_tape hJo g ((e1.f (by decide)).trans h11) e4 ((e1.f (by decide)).trans e5)) (Or.inr ⟨(e1.f (by decide)).trans h17, hKo.of e1 (by decide) (by decide)⟩) (jm_tape hMo g e2 e3)
  refine w263 (D := D) (ev := (evA (S1.2.1 15) (upN m ins nu) (frN D m ins nu))) (y := ty) (m0 := tn0) ((Go.f (by decide)).trans hp2.1) hp2.2.1 (fun i hi => ⟨(Go.a (by decide) i).trans (hp2.2.2 i hi), by rw [← hp1.2.2 i hi]; exact by_ne⟩) (u6o.of Go (by decide)) (by rw [Go.f (by decide), Go.f (by decide)]; exact hM1.1) (fun S' g1 g2 => ask_me (S := setO S1 ov) hN hJo.2.2.1 Go g1 g2) (fun q => absurd ⟨i_nneg (by omega), by rw [i_cl (by omega)]; exact ⟨hn, hn2⟩⟩ q) ?_ ?_
  · intro n' S4 en h1 h2 h3 e1 e2 e3 e4 e5 e6
    have := i_inj2 (by omega) (by omega) en
    subst this
    rcases H with ⟨c1, c2, c3⟩ | ⟨c1, _⟩
    · exact ⟨_, rfl, e2, e1.2.2, c3.symm, J4 S4 e1 e3 e4 e5 (c2.trans e6.symm)⟩
    · exact absurd c1 h3
  · intro n' w S4 en h1 h2 h3 e1 e2 e3 e4 e5 e6 e7 e8
    have := i_inj2 (by omega) (by omega) en
    subst this
    rcases H with ⟨c1, _⟩ | ⟨c1, c2, c3, c4, c5⟩
    · exact absurd h3 c1
    · refine ⟨_, rfl, e2, e1.2.2, ?_, J4 S4 e1 e3 e4 e5 (c2.trans e6.symm)⟩
      have hp : ∀ r, (tb ins r && (qst (evA (S1.2.1 15) (upN m ins nu) (frN D m ins nu)) ty n).2.2 (eY (fstC m rl (upN m ins nu) (frN D m ins nu) ins)) r) = true → r < m := fun r hr => by
        rw [Bool.and_eq_true] at hr
        exact hN.2.2.2.1 r hr.1
      cases hf : isWl ty n 0 wFirst with
      | true =>
        have hmn : isWl ty n 0 wMany = false := Bool.eq_false_iff.2 (fun z => by rw [many_first z] at hf; cases hf)
        exact (e7 hf).uniq (c5 hmn) (fun r hr => ⟨hp r hr, by have := hp r hr; omega⟩)
      | false =>
        have hmn : isWl ty n 0 wMany = true := by
          rcases c3 with z | z
          · exact z
          · rw [z] at hf; cases hf
        rw [e8 hf, c4 hmn]
        exact congrArg Int32.ofNat (cnt_ext hm (fun k h1 _ => Bool.eq_false_iff.2 (fun z => by have := hp k z; omega))).symm
theorem o134 : ∀ a1, ObB (J L) 1 134 263 [(0, 1)] [.int a1] := by
  intro x S hS
  obtain ⟨hL, D, m, rl, ins, nu, tn0, ty, an, aa, T, hN, hJT, hJF, hJP, hJA, hJY, hC, hM⟩ := hS
  have hJ : JS L D m rl ins nu tn0 ty an aa T S := ⟨hL, hN, hJT, hJF, hJP, hJA, hJY⟩
  have hU := wn_uw hN
  obtain ⟨t1, t2, t3, t4, t5, t6, t7, t8⟩ := id hJT
  have j0 : J L S := j_of hJ hC hM
  have hm := hN.2.1
  have hcl := i_clt x
  have hp1 := hJP.1
  have hp2 := hJP.2
  have hmy : ∀ i, i < tn0 → S.2.1 64 i = ty i ∧ ¬ ty i = -1 := fun i hi => ⟨hp2.2.2 i hi, by rw [← hp1.2.2 i hi]; exact by_ne⟩
  have thr : ¬ (¬ x < 0 ∧ x.toNatClampNeg ≤ tn0 ∧ x.toNatClampNeg ≤ 200) → Wp 1999 0 263 0 [.ref 46, .int x] [] S (Ri fun w S2 => S2.1 46 4 = Int32.ofNat 1 ∧ J L S2) := fun q => w263 (D := D) (ev := (evA (S.2.1 15) (upN m ins nu) (frN D m ins nu))) hp2.1 hp2.2.1 hmy t6 hM.1 (fun S' g1 g2 => ask_me hN hJT Fz.refl g1 g2) (fun _ v S1 e1 e2 => ⟨_, rfl, e2, j0.of e1 (by decide) (by decide)⟩) (fun n S1 en h1 h2 => absurd ⟨by rw [en]; exact i_nneg (by omega), by rw [en, i_cl (by omega)]; exact ⟨h1, h2⟩⟩ q) (fun n v S1 en h1 h2 => absurd ⟨by rw [en]; exact i_nneg (by omega), by rw [en, i_cl (by omega)]; exact ⟨h1, h2⟩⟩ q)
  have bad : ¬ (¬ x < 0 ∧ x.toNatClampNeg ≤ tn0 ∧ x.toNatClampNeg ≤ 200) → Wp 1998 1 134 22 [.ref 0, .int x] [] S (Rit (fun v S1 => Sc S S1 ∧ Wp 1999 0 263 0 [.ref 46, .int x] [] (setO S1 v.toInt64) (Ri fun w S2 => S2.1 46 4 = 0 ∧ S2.2.2.2 = v.toInt64 ∧ w = v ∧ J L S2)) (fun X S1 => Sc S S1 ∧ ∃ j k, X = exN j ∧ (j, k) ∈ [(0, 1)] ∧ Wp 1999 0 263 0 [.ref 46, .int x] [] S1 (Ri fun w S2 => S2.1 46 4 = Int32.ofNat k ∧ J L S2))) := fun q => b134_22 (by omega) (Or.inr ⟨_, rfl, ⟨rfl, rfl⟩, 0, 1, rfl, by decide, thr q⟩)
  refine b134_0 (fun q => bad (fun w => w.1 q)) (fun q => ?_)
  have ex := i_of q
  clear thr
  obtain ⟨n, rfl, hn31⟩ : ∃ n, x = Int32.ofNat n ∧ n < 2147483648 := ⟨_, ex, hcl⟩
  rw [i_cl hn31] at bad
  refine b134_4 (fun w => bad (fun z => ?_)) (fun w => b134_11 (fun z => ?_) (fun z => bad (fun u => z (by rw [hp1.1]; exact (i_le (by omega) (by have := hp1.2.1; omega)).2 u.2.1))))
  · have := (i_lt (a := 200) (by omega) (by omega)).1 w
    omega
  have hn2 : n ≤ 200 := Nat.le_of_not_lt (fun u => w ((i_lt (a := 200) (by omega) (by omega)).2 u))
  have hnt : n ≤ tn0 := by
    rw [hp1.1] at z
    exact (i_le (by omega) (by have := hp1.2.1; omega)).1 z
  clear bad
  refine b134_33 (P := fun S1 => Fz RfF RfR S S1 ∧ S1.1 0 17 = 0 ∧ KC D m rl ins nu S1) (c141 hJ hC (fun S1 a1 a2 a3 => ⟨rfl, a1, a2, a3⟩)) ?_
  rintro S1 ⟨a1, a2, a3⟩
  have hJ1 := hJ.of a1 (by decide) (by decide)
  have hM1 := hM.of a1 (by decide)
  have hC1 : JC D m rl ins nu S1 := Or.inr ⟨a2, a3⟩
  have j1 : J L S1 := j_of hJ1 hC1 hM1
  have sc : Sc S S1 := ⟨a1.f (by decide), a1.ar (by decide)⟩
  obtain ⟨k1, k2, k3, k4, k5, k6, k7, k8, k9, k10, k11, k12, k13⟩ := id a3
  obtain ⟨u1, u2, u3, u4, u5, u6, u7, u8⟩ := id hJ1.2.2.1
  have hlow := uw_low hU
  have cl := wn_clen hN
  have hy1 : ∀ i, i < n → S1.2.1 14 i &&& 255 = ty i := fun i hi => by rw [a1.a (by decide)]; exact hp1.2.2 i (by omega)
  refine b134_37 (P := fun v S2 => v = Int32.ofNat (qEnd (evA (S1.2.1 15) (upN m ins nu) (frN D m ins nu)) ty n).1 ∧ Fz QC2 [] S1 S2 ∧ S2.1 1 1 = 0 ∧ TA ty n (qEnd (evA (S1.2.1 15) (upN m ins nu) (frN D m ins nu)) ty n).2 S2 ∧ ((qEnd (evA (S1.2.1 15) (upN m ins nu) (frN D m ins nu)) ty n).1 = 0 → S2.1 11 4 = bi (isWl ty n 0 wMany) ∧ S2.1 11 5 = bi (qst (evA (S1.2.1 15) (upN m ins nu) (frN D m ins nu)) ty n).2.1 ∧ S2.1 11 7 = mk (fun r => tb ins r && (qst (evA (S1.2.1 15) (upN m ins nu) (frN D m ins nu)) ty n).2.2 (eC 0) r) 20 ∧ (isWl ty n 0 wMany = true ∨ isWl ty n 0 wFirst = true))) (c27 (by omega) (by omega) hy1 (cv_of hm hN.2.2.2.1 rfl k1) (fun S2 b1 b2 b3 b4 => ⟨_, rfl, rfl, b1, b2, b3, b4⟩)) ?_
  rintro _ S2 ⟨rfl, b1, b2, b3, b4⟩
  have kk2 : KC D m rl ins nu S2 := a3.of b1 (by decide) (by decide)
  have s17 : S2.1 0 17 = 0 := (b1.f (by decide)).trans a2
  have sc2 : Sc S S2 := ⟨(b1.f (by decide)).trans sc.1, (b1.ar (by decide)).trans sc.2⟩
  have G2 : Fz (AX ++ QC2) [] S1 S2 := b1.mono (by decide) (by decide)
  have ql := qend_lt (ev := (evA (S1.2.1 15) (upN m ins nu) (frN D m ins nu))) (y := ty) (n := n)
  refine b134_46 (fun h0 => ?_) (fun h0 => b134_51 (Or.inl ⟨_, rfl, sc2, ask_fin hJ1 hM1 hnt hn2 (G2.seti (by decide)) ((seti_ne (by decide)).trans b2) ((seti_ne (by decide)).trans s17) (kk2.of (Fz.refl.seti (fs := [(0, 16)]) (as := []) (by decide)) (by decide) (by decide)) (Or.inl ⟨fun z => h0 (by rw [z]; rfl), seti_same.trans b3.2.1, rfl⟩)⟩))
  have h0' : (qEnd (evA (S1.2.1 15) (upN m ins nu) (frN D m ins nu)) ty n).1 = 0 := i_inj2 (b := 0) (by omega) (by omega) h0
  obtain ⟨d1, d2, d3, d4⟩ := b4 h0'
  have fin : ∀ (S4 : St) (ys : Int32), Fz (AX ++ QC2) [] S1 S4 → Sc S S4 → S4.1 1 1 = 0 → S4.1 0 17 = 0 → KC D m rl ins nu S4 → S4.1 11 4 = bi (isWl ty n 0 wMany) → S4.1 11 7 = mk (fun r => tb ins r && (qst (evA (S1.2.1 15) (upN m ins nu) (frN D m ins nu)) ty n).2.2 (eC ys) r) 20 → (∀ r, (qst (evA (S1.2.1 15) (upN m ins nu) (frN D m ins nu)) ty n).2.2 (eC ys) r = (qst (evA (S1.2.1 15) (upN m ins nu) (frN D m ins nu)) ty n).2.2 (eY (fstC m rl (upN m ins nu) (frN D m ins nu) ins)) r) → ∀ x2, Wp 1998 1 134 94 [.ref 0, .int (Int32.ofNat n), .int x2] [] S4 (Rit (fun v S1 => Sc S S1 ∧ Wp 1999 0 263 0 [.ref 46, .int (Int32.ofNat n)] [] (setO S1 v.toInt64) (Ri fun w S2 => S2.1 46 4 = 0 ∧ S2.2.2.2 = v.toInt64 ∧ w = v ∧ J L S2)) (fun X S1 => Sc S S1 ∧ ∃ j k, X = exN j ∧ (j, k) ∈ [(0, 1)] ∧ Wp 1999 0 263 0 [.ref 46, .int (Int32.ofNat n)] [] S1 (Ri fun w S2 => S2.1 46 4 = Int32.ofNat k ∧ J L S2))) := by
    intro S4 ys f1 f2 f3 f4 f5 f6 f7 f8 x2
    have ep : (fun r => tb ins r && (qst (evA (S1.2.1 15) (upN m ins nu) (frN D m ins nu)) ty n).2.2 (eC ys) r) = (fun r => tb ins r && (qst (evA (S1.2.1 15) (upN m ins nu) (frN D m ins nu)) ty n).2.2 (eY (fstC m rl (upN m ins nu) (frN D m ins nu) ins)) r) := funext (fun r => by rw [f8 r])
    rw [ep] at f7
    refine b134_94 (c28 ((seti_ne (by decide)).trans f6) ((seti_ne (by decide)).trans f7)) ?_
    rintro v _ ⟨rfl, g1, g2⟩
    exact b134_106 (Or.inl ⟨_, rfl, f2, ask_fin hJ1 hM1 hnt hn2 (f1.seti (by decide)) ((seti_ne (by decide)).trans f3) ((seti_ne (by decide)).trans f4) (f5.of (Fz.refl.seti (fs := [(0, 16)]) (as := []) (by decide)) (by decide) (by decide)) (Or.inr ⟨h0', seti_same, d4, g1, g2⟩)⟩)
  refine b134_68 (fun hq => ?_) (fun hq => ?_)
  · have hfl : (qst (evA (S1.2.1 15) (upN m ins nu) (frN D m ins nu)) ty n).2.1 = false := bi0.1 (d2.symm.trans hq)
    exact fin S2 0 G2 sc2 b2 s17 kk2 d1 d3 (fun r => qst_ok.2.2 hfl _ _ r) _
  · clear k1 k2 k3 k4 k5 k6 k7 k8 k9 k10 k11 k12 k13
    obtain ⟨k1, k2, k3, k4, k5, k6, k7, k8, k9, k10, k11, k12, k13⟩ := id kk2
    refine b134_78 (P := fun v S3 => v = (chs m rl (upN m ins nu) (frN D m ins nu) ins).getD 0 0 ∧ Fz [(6, 5), (6, 6), (6, 7), (6, 8)] [] S2 S3 ∧ CC (chs m rl (upN m ins nu) (frN D m ins nu) ins) S3) (c16 (uw_wd hU) (wn_cho hN) hlow.1 hlow.2 k2 k3 cl k4 (fun S3 c1 c2 => ⟨_, rfl, rfl, c1, c2⟩)) ?_
    rintro _ S3 ⟨rfl, c1, c2⟩
    have kk3 : KC D m rl ins nu S3 := ⟨k1.of c1 (by decide), k2.of c1 (by decide), (c1.f (by decide)).trans k3, c2, k5.of c1 (by decide), (c1.f (by decide)).trans k6, k7.of c1 (by decide), k8.of c1 (by decide), (by rw [c1.f (by decide)]; exact k9), (by rw [c1.f (by decide)]; exact k10), (by rw [c1.f (by decide)]; exact k11), k12.of c1 (by decide), k13.of c1 (by decide)⟩
    have hy3 : ∀ i, i < n → S3.2.1 14 i &&& 255 = ty i := fun i hi => by rw [c1.a (by decide), b1.a (by decide)]; exact hy1 i hi
    refine b134_90 (P := fun v S4 => v = Int32.ofNat (qEnd (evA (S1.2.1 15) (upN m ins nu) (frN D m ins nu)) ty n).1 ∧ Fz QC2 [] S3 S4 ∧ S4.1 1 1 = 0 ∧ TA ty n (qEnd (evA (S1.2.1 15) (upN m ins nu) (frN D m ins nu)) ty n).2 S4 ∧ ((qEnd (evA (S1.2.1 15) (upN m ins nu) (frN D m ins nu)) ty n).1 = 0 → S4.1 11 4 = bi (isWl ty n 0 wMany) ∧ S4.1 11 5 = bi (qst (evA (S1.2.1 15) (upN m ins nu) (frN D m ins nu)) ty n).2.1 ∧ S4.1 11 7 = mk (fun r => tb ins r && (qst (evA (S1.2.1 15) (upN m ins nu) (frN D m ins nu)) ty n).2.2 (eC ((chs m rl (upN m ins nu) (frN D m ins nu) ins).getD 0 0)) r) 20 ∧ (isWl ty n 0 wMany = true ∨ isWl ty n 0 wFirst = true))) (c27 (by omega) (by omega) hy3 (cv_of hm hN.2.2.2.1 ((c1.ar (by decide)).trans (b1.ar (by decide))) kk3.1) (fun S4 e1 e2 e3 e4 => ⟨_, rfl, rfl, e1, e2, e3, e4⟩)) ?_
    rintro _ S4 ⟨rfl, e1, e2, e3, e4⟩
    obtain ⟨w1, w2, w3, w4⟩ := e4 h0'
    refine b134_93 (fin S4 ((chs m rl (upN m ins nu) (frN D m ins nu) ins).getD 0 0) ((G2.trans (c1.mono (by decide) (by decide))).trans (e1.mono (by decide) (by decide))) ⟨(e1.f (by decide)).trans ((c1.f (by decide)).trans sc2.1), (e1.ar (by decide)).trans ((c1.ar (by decide)).trans sc2.2)⟩ e2 ((e1.f (by decide)).trans ((c1.f (by decide)).trans s17)) (kk3.of e1 (by decide) (by decide)) w1 w3 (fun r => ?_) _)
    rw [e_eq hN]
end OBASK
