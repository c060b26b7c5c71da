/-! QUESTIONS: the reference, values -/
section MQUEST
variable {b D m : Nat} {y : Nat → Int32} {n : Nat} {ev : Nat → Nat → Int32} {up : Nat → Int32} {F : List Int32} {fc : Int32} {ra : Option Nat}
abbrev QF : List (Nat × Nat) := [(46, 45), (46, 46), (46, 47), (46, 48), (46, 49), (46, 50), (46, 52)]
/-- what a ray's yes is -/
def eY (fc : Int32) (r : Nat) : Int32 := if fc = -1 then 0 else bi (tb fc r)
/-- what the reference's values are -/
def ME (D m : Nat) (up : Nat → Int32) (F : List Int32) (ev : Nat → Nat → Int32) (fc : Int32) (ra : Option Nat) (S : St) : Prop := S.1 46 0 = Int32.ofNat D ∧ (D = 3 ∨ D = 4) ∧ m ≤ 20 ∧ (∀ r k, r < m → k < 3 → S.2.1 47 (4 * r + k) = ev (k + 1) r) ∧ (∀ r, r < m → ev 4 r = if D = 4 then S.2.1 47 (4 * r + 3) else 0) ∧ (∀ r, r < m → dotN (S.2.1 47) r r D = ev 5 r) ∧ (∀ r, r < m → S.2.1 48 r = up r ∧ Int32.ofNat (pcn (up r)) = ev 6 r) ∧ FL S F ∧ F.length ≤ 4845 ∧ (∀ r, r < m → Int32.ofNat (fcn F r) = ev 7 r) ∧ (∀ r, ev 0 r = Int32.ofNat r) ∧ S.1 46 16 = fc ∧ (ra = none → S.1 46 55 = -1) ∧ ∀ r, ra = some r → S.1 46 55 = Int32.ofNat r ∧ r < m
theorem ME.of {fs : List (Nat × Nat)} {as : List Nat} {S S1 : St} (h : ME D m up F ev fc ra S) (hF : Fz fs as S S1) (q : (46, 0) ∉ fs ∧ (46, 9) ∉ fs ∧ (46, 16) ∉ fs ∧ (46, 55) ∉ fs ∧ 47 ∉ as ∧ 48 ∉ as ∧ 50 ∉ as) : ME D m up F ev fc ra S1 := by
  obtain ⟨h1, h2, h3, h4, h5, h6, h7, h8, h9, h10, h11, h12, h13, h14⟩ := h
  refine ⟨(hF.f q.1).trans h1, h2, h3, fun r k hr hk => (hF.a q.2.2.2.2.1 _).trans (h4 r k hr hk), fun r hr => ?_, fun r hr => ?_, fun r hr => ⟨(hF.a q.2.2.2.2.2.1 r).trans (h7 r hr).1, (h7 r hr).2⟩, ⟨(hF.f q.2.1).trans h8.1, fun i hi => (hF.a q.2.2.2.2.2.2 i).trans (h8.2 i hi)⟩, h9, h10, h11, (hF.f q.2.2.1).trans h12, fun e => (hF.f q.2.2.2.1).trans (h13 e), fun r e => ⟨(hF.f q.2.2.2.1).trans (h14 r e).1, (h14 r e).2⟩⟩
  · rw [hF.a q.2.2.2.2.1]; exact h5 r hr
  · rw [hF.ar q.2.2.2.2.1]; exact h6 r hr
theorem w254 {d r : Nat} {S : St} (hF : FL S F) (hl : F.length ≤ 4845) (hr : r < 32) : Wp (d + 1) b 254 0 [.ref 46, .int (Int32.ofNat r)] [] S (Ri (Vx (Int32.ofNat (fcn F r)) S)) := by
  refine b254_0 ?_
  have loop : ∀ k i, i + k = F.length → Wp (d + 1) b 254 4 [.ref 46, .int (Int32.ofNat r), .int (Int32.ofNat (fcn (F.take i) r)), .int (Int32.ofNat i)] [] S (Ri (Vx (Int32.ofNat (fcn F r)) S)) := by
    intro k
    induction k with
    | zero =>
      intro i hi
      have hi : i = F.length := hi
      subst hi
      rw [List.take_length]
      exact b254_4 (fun _ => b254_39 ⟨_, rfl, rfl, rfl⟩) (fun q => absurd (by rw [hF.1]; exact (i_le (by omega) (by omega)).2 (Nat.le_refl _)) q)
    | succ k ih =>
      intro i hi
      have e : fcn (F.take (i + 1)) r = fcn (F.take i) r + if tb (F.getD i 0) r = true then 1 else 0 := by
        have hg : F.getD i 0 = F[i]'(by omega) := by rw [List.getD_eq_getElem?_getD, List.getElem?_eq_getElem (by omega)]; rfl
        rw [List.take_succ, List.getElem?_eq_getElem (by omega), hg]
        exact fcn_app _ _ _
      have ih := ih (i + 1) (by omega)
      rw [e] at ih
      refine b254_4 (fun q => ?_) (fun _ => b254_12 (i_vp (by omega) (by omega)) (P := Vx (bi (tb (F.getD i 0) r)) S) (by rw [i_cl (by omega), hF.2 i (by omega)]; exact s154 _ hr) ?_)
      · rw [hF.1] at q
        have := (i_le (by omega) (by omega)).1 q
        omega
      rintro _ _ ⟨rfl, rfl⟩
      refine b254_23 (fun q => b254_30 (b254_31 ?_)) (fun q => b254_26 (b254_31 ?_))
      · rw [bi0.1 q, if_neg Bool.false_ne_true] at ih
        rw [i_suc, show (0 : Int32) = Int32.ofNat 0 from rfl, i_add]
        exact ih
      · rw [bi1.1 q, if_pos rfl] at ih
        rw [i_suc, i_suc]
        exact ih
  have := loop F.length 0 (by omega)
  rw [List.take_zero] at this
  exact this
theorem w255 {d p : Nat} {S : St} (hS : MS y n (0, p) S) : Wp (d + 1) b 255 0 [.ref 46] [] S (Ri (Vx (if wIx y n p < 9 then Int32.ofNat (wIx y n p) else -1) S)) := by
  have iw : ∀ (dd q : Nat) (w : List Int32), (2000 ≤ q ∧ q < 2053) → sByt.getD (q - 2000) [] = w → w.length ≤ 400 → Wp dd 0 244 0 [.ref 46, .ref q] [] S (Ri (Vx (bi (isWl y n p w)) S)) := fun dd q w h1 h2 h3 => by
    have := w244 (b := 0) (d := dd) (w := w) hS h1 h2 h3
    rw [isWR_good] at this
    exact this
  unfold wIx
  refine b255_0 (iw _ 2039 wRay (by decide) (by decide +kernel) (by decide)) ?_
  rintro _ _ ⟨rfl, rfl⟩
  refine b255_7 (fun q => ?_) (fun q => b255_10 ⟨_, rfl, by rw [bi1.1 q]; rfl, rfl⟩)
  rw [bi0.1 q, if_neg Bool.false_ne_true]
  refine b255_12 (iw _ 2043 wX (by decide) (by decide +kernel) (by decide)) ?_
  rintro _ _ ⟨rfl, rfl⟩
  refine b255_19 (fun q => ?_) (fun q => b255_22 ⟨_, rfl, by rw [bi1.1 q]; rfl, rfl⟩)
  rw [bi0.1 q, if_neg Bool.false_ne_true]
  refine b255_24 (iw _ 2044 wY (by decide) (by decide +kernel) (by decide)) ?_
  rintro _ _ ⟨rfl, rfl⟩
  refine b255_31 (fun q => ?_) (fun q => b255_34 ⟨_, rfl, by rw [bi1.1 q]; rfl, rfl⟩)
  rw [bi0.1 q, if_neg Bool.false_ne_true]
  refine b255_36 (iw _ 2045 wZ (by decide) (by decide +kernel) (by decide)) ?_
  rintro _ _ ⟨rfl, rfl⟩
  refine b255_43 (fun q => ?_) (fun q => b255_46 ⟨_, rfl, by rw [bi1.1 q]; rfl, rfl⟩)
  rw [bi0.1 q, if_neg Bool.false_ne_true]
  refine b255_48 (iw _ 2046 wW (by decide) (by decide +kernel) (by decide)) ?_
  rintro _ _ ⟨rfl, rfl⟩
  refine b255_55 (fun q => ?_) (fun q => b255_58 ⟨_, rfl, by rw [bi1.1 q]; rfl, rfl⟩)
  rw [bi0.1 q, if_neg Bool.false_ne_true]
  refine b255_60 (iw _ 2047 wSquare (by decide) (by decide +kernel) (by decide)) ?_
  rintro _ _ ⟨rfl, rfl⟩
  refine b255_67 (fun q => ?_) (fun q => b255_70 ⟨_, rfl, by rw [bi1.1 q]; rfl, rfl⟩)
  rw [bi0.1 q, if_neg Bool.false_ne_true]
  refine b255_72 (iw _ 2048 wMeets (by decide) (by decide +kernel) (by decide)) ?_
  rintro _ _ ⟨rfl, rfl⟩
  refine b255_79 (fun q => ?_) (fun q => b255_82 ⟨_, rfl, by rw [bi1.1 q]; rfl, rfl⟩)
  rw [bi0.1 q, if_neg Bool.false_ne_true]
  refine b255_85 (iw _ 2049 wFrames (by decide) (by decide +kernel) (by decide)) ?_
  rintro _ _ ⟨rfl, rfl⟩
  refine b255_92 (fun q => ?_) (fun q => b255_95 ⟨_, rfl, by rw [bi1.1 q]; rfl, rfl⟩)
  rw [bi0.1 q, if_neg Bool.false_ne_true]
  refine b255_98 (iw _ 2050 wYes (by decide) (by decide +kernel) (by decide)) ?_
  rintro _ _ ⟨rfl, rfl⟩
  refine b255_105 (fun q => b255_113 (b255_114 ⟨_, rfl, by rw [bi0.1 q]; rfl, rfl⟩)) (fun q => b255_108 (b255_114 ⟨_, rfl, by rw [bi1.1 q]; rfl, rfl⟩))
theorem w256 {d r w : Nat} {S : St} (hE : ME D m up F ev fc ra S) (hr : r < m) (hw : w < 9) : Wp (d + 2) b 256 0 [.ref 46, .int (Int32.ofNat r), .int (Int32.ofNat w)] [] S (Ri (Vx (if w < 8 then ev w r else eY fc r) S)) := by
  obtain ⟨h1, h2, h3, h4, h5, h6, h7, h8, h9, h10, h11, h12, _⟩ := hE
  refine b256_0 ?_
  have : w = 0 ∨ w = 1 ∨ w = 2 ∨ w = 3 ∨ w = 4 ∨ w = 5 ∨ w = 6 ∨ w = 7 ∨ w = 8 := by omega
  rcases this with rfl | rfl | rfl | rfl | rfl | rfl | rfl | rfl | rfl
  · rw [show swT 4 (Int32.ofNat 0) = 48 by decide +kernel]
    exact b256_48 ⟨_, rfl, (h11 r).symm, rfl⟩
  · rw [show swT 4 (Int32.ofNat 1) = 50 by decide +kernel]
    refine b256_50 (s157 (k := 0) (by omega) (by omega)) ?_
    rintro _ _ ⟨rfl, rfl⟩
    exact b256_58 ⟨_, rfl, h4 r 0 hr (by omega), rfl⟩
  · rw [show swT 4 (Int32.ofNat 2) = 50 by decide +kernel]
    refine b256_50 (s157 (k := 1) (by omega) (by omega)) ?_
    rintro _ _ ⟨rfl, rfl⟩
    exact b256_58 ⟨_, rfl, h4 r 1 hr (by omega), rfl⟩
  · rw [show swT 4 (Int32.ofNat 3) = 50 by decide +kernel]
    refine b256_50 (s157 (k := 2) (by omega) (by omega)) ?_
    rintro _ _ ⟨rfl, rfl⟩
    exact b256_58 ⟨_, rfl, h4 r 2 hr (by omega), rfl⟩
  · rw [show swT 4 (Int32.ofNat 4) = 59 by decide +kernel]
    have e4 := h5 r hr
    refine b256_59 (fun q => b256_76 (b256_77 ⟨_, rfl, ?_, rfl⟩)) (fun q => b256_67 (s157 (k := 3) (by omega) (by omega)) ?_)
    · rw [h1] at q
      rw [if_neg (fun e => q (by rw [e]; rfl))] at e4
      exact e4.symm
    · rintro _ _ ⟨rfl, rfl⟩
      have q := Classical.byContradiction q
      rw [h1] at q
      rw [if_pos ((i_inj (b := 4) (by omega) (by omega)).1 q)] at e4
      exact b256_73 (b256_77 ⟨_, rfl, e4.symm, rfl⟩)
  · rw [show swT 4 (Int32.ofNat 5) = 78 by decide +kernel]
    refine b256_78 (s160 (by omega) (by omega) h1 (by omega)) ?_
    rintro _ _ ⟨rfl, rfl⟩
    exact b256_84 ⟨_, rfl, h6 r hr, rfl⟩
  · rw [show swT 4 (Int32.ofNat 6) = 85 by decide +kernel]
    refine b256_85 (i_vp (by omega) (by omega)) (s155 _) ?_
    rintro _ _ ⟨rfl, rfl⟩
    refine b256_94 ⟨_, rfl, ?_, rfl⟩
    rw [i_cl (by omega), (h7 r hr).1]
    exact (h7 r hr).2
  · rw [show swT 4 (Int32.ofNat 7) = 95 by decide +kernel]
    refine b256_95 (w254 h8 h9 (by omega)) ?_
    rintro _ _ ⟨rfl, rfl⟩
    exact b256_100 ⟨_, rfl, h10 r hr, rfl⟩
  · rw [show swT 4 (Int32.ofNat 8) = 101 by decide +kernel]
    rw [if_neg (by omega)]
    unfold eY
    refine b256_101 (fun q => b256_124 (b256_125 ⟨_, rfl, ?_, rfl⟩)) (fun q => b256_109 (s154 _ (by omega)) ?_)
    · rw [h12] at q
      rw [if_pos q]
    · rintro _ _ ⟨rfl, rfl⟩
      rw [h12] at q ⊢
      rw [if_neg q]
      exact b256_117 (fun z => b256_124 (b256_125 ⟨_, rfl, z.symm, rfl⟩)) (fun z => b256_120 (b256_125 ⟨_, rfl, by rw [bi1.1 z]; rfl, rfl⟩))
theorem w257 {d : Nat} {z : Nat × Nat} {S : St} {Q : Out → St → Prop} (hS : MS y n z S) (hE : ME D m up F ev fc ra S) (K : ∀ v S1, Fz RF [] S S1 → MS y n (vlR y n z) S1 → ((vlR y n z).1 = 0 → ∀ r, ra = some r → v = vlV ev y n z (eY fc) r) → Q (.inl (some (.int v))) S1) : Wp (d + 5) b 257 0 [.ref 46] [] S Q := by
  have num : (z.1 = 0 → wIx y n z.2 = 9) → Wp (d + 5) b 257 24 [.ref 46] [] S Q := by
    intro hw
    refine b257_24 (P := fun v S1 => v = sgV y n z ∧ Fz RF [] S S1 ∧ MS y n (sgR y n 999 z) S1) (w247 hS (fun S1 a1 a2 => ⟨_, rfl, rfl, a1, a2⟩)) ?_
    rintro _ S1 ⟨rfl, a1, a2⟩
    have e : vlR y n z = sgR y n 999 z := by
      unfold vlR
      rw [if_neg (fun w => by have := hw w.1; omega)]
    refine b257_31 (K _ S1 a1 (by rw [e]; exact a2) (fun h r _ => ?_))
    have z0 : z.1 = 0 := Classical.byContradiction (fun q => by
      rw [vlR_bad q] at h
      exact q h)
    have := hw z0
    unfold vlV
    rw [if_neg (by omega), if_neg (by omega)]
  by_cases h0 : z.1 = 0
  · have e49 : S.1 46 49 = 0 := hS.bad0.2 h0
    have hA := hS.good h0
    have hk := kd_lt (y := y) (n := n) z.2
    have ez : z = (0, z.2) := Prod.ext h0 rfl
    have hwl := wIx_le (y := y) (n := n) z.2
    refine b257_0 (fun q => absurd e49 q) (fun _ => b257_7 (fun q => num (fun _ => wIx_k ?_)) (fun q => b257_15 (w243 hS) ?_))
    · rw [hA.2.2.1] at q
      have := (i_inj (b := 2) (by omega) (by omega)).1 q
      omega
    rintro _ _ ⟨rfl, rfl⟩
    have k2 : ¬ kd y n z.2 = 2 := fun e => q (by rw [hA.2.2.1, e]; rfl)
    refine b257_21 (fun q2 => ?_) (fun q2 => num (fun _ => wIx_k (by have := isS_k (isSR_0 (bi1.1 q2)).2; omega)))
    have ns := bi0.1 q2
    refine b257_32 (P := Vx (if wIx y n z.2 < 9 then Int32.ofNat (wIx y n z.2) else -1) S) (w255 (by rw [← ez]; exact hS)) ?_
    rintro _ _ ⟨rfl, rfl⟩
    by_cases w9 : wIx y n z.2 < 9
    · rw [if_pos w9]
      have eR : vlR y n z = (0, en y n z.2) := by unfold vlR; rw [if_pos ⟨h0, w9⟩]
      have eP : pasR y n z = (0, en y n z.2) := by unfold pasR; rw [if_pos h0]
      refine b257_36 (fun _ => b257_47 (P := fun S1 => Fz RF [] S S1 ∧ MS y n (vlR y n z) S1) (w242 hS (fun S1 a1 a2 => ⟨rfl, a1, by rw [eR, ← eP]; exact a2⟩)) ?_) (fun q => ?_)
      · rintro S1 ⟨a1, a2⟩
        have e1 : S1.1 46 49 = 0 := a2.bad0.2 (by rw [eR])
        have hE1 := hE.of a1 (by decide)
        refine b257_51 (fun q => absurd e1 q) (fun _ => b257_58 (fun q => ?_) (fun q => b257_66 (b257_79 (K _ S1 a1 a2 (fun _ r hr => ?_)))))
        · cases ra with
          | none => exact absurd (hE1.2.2.2.2.2.2.2.2.2.2.2.2.1 rfl) q
          | some r =>
            obtain ⟨e55, hrm⟩ := hE1.2.2.2.2.2.2.2.2.2.2.2.2.2 r rfl
            refine b257_70 (P := Vx (if wIx y n z.2 < 8 then ev (wIx y n z.2) r else eY fc r) S1) (by rw [e55]; exact w256 hE1 hrm w9) ?_
            rintro _ _ ⟨rfl, rfl⟩
            refine b257_79 (K _ S1 a1 a2 (fun _ r' hr' => ?_))
            cases hr'
            unfold vlV
            by_cases w8 : wIx y n z.2 < 8
            · rw [if_pos w8, if_pos w8]
            · rw [if_neg w8, if_neg w8, if_pos (by omega)]
        · have e55 := (hE1.2.2.2.2.2.2.2.2.2.2.2.2.2 r hr)
          have q := Classical.byContradiction q
          rw [e55.1] at q
          have := congrArg Int32.toInt q
          have hm := hE.2.2.1
          rw [i_toInt (by omega)] at this
          have em : (-1 : Int32).toInt = -1 := by decide
          omega
      · have := congrArg Int32.toInt (Classical.byContradiction q)
        rw [i_toInt (by omega)] at this
        have em : (-1 : Int32).toInt = -1 := by decide
        omega
    · rw [if_neg w9]
      have eR : vlR y n z = (1, z.2) := by
        unfold vlR
        rw [if_neg (fun w => w9 w.2)]
        unfold sgR
        rw [ns, if_neg Bool.false_ne_true, ez, numR_good, if_neg k2]
      have eW : wrgR 1 z = (1, z.2) := by unfold wrgR; rw [if_pos h0]
      refine b257_36 (fun q => absurd rfl q) (fun _ => b257_42 (P := fun S1 => Fz RF [] S S1 ∧ MS y n (1, z.2) S1) (w241 (k := 1) hS (by omega) (fun S1 a1 a2 => ⟨rfl, a1, by rw [← eW]; exact a2⟩)) ?_)
      rintro S1 ⟨a1, a2⟩
      refine b257_47 (P := fun S2 => Fz RF [] S S2 ∧ MS y n (1, z.2) S2) (w242 a2 (fun S2 c1 c2 => ⟨rfl, a1.trans c1, c2⟩)) ?_
      rintro S2 ⟨c1, c2⟩
      refine b257_51 (fun _ => b257_66 (b257_79 (K _ S2 c1 (by rw [eR]; exact c2) (fun h => ?_)))) (fun q => absurd (fun w => absurd (c2.bad0.1 w) (show ¬ 1 = 0 by omega)) q)
      rw [eR] at h
      exact absurd h (show ¬ 1 = 0 by omega)
  · exact b257_0 (fun _ => num (fun w => absurd w h0)) (fun q => absurd (fun w => h0 (hS.bad0.1 w)) q)
end MQUEST
