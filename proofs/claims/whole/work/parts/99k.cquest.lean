/-! QUESTIONS: the class, values -/
section CQUEST
variable {b m : Nat} {ins : Int32} {y : Nat → Int32} {n : Nat} {ev : Nat → Nat → Int32} {up : Nat → Int32} {ys : Int32}
abbrev QC : List (Nat × Nat) := [(1, 3), (1, 4), (1, 5), (1, 6), (11, 3), (11, 5)]
def eC (ys : Int32) (r : Nat) : Int32 := bi (tb ys r)
/-- what the class's values are -/
def CV (m : Nat) (ins : Int32) (up : Nat → Int32) (ev : Nat → Nat → Int32) (ys : Int32) (S : St) : Prop := m ≤ 20 ∧ Low m ins ∧ S.1 5 1 = ins ∧ (∀ r k, r < m → k < 4 → S.2.1 15 (4 * r + k) = ev (k + 1) r) ∧ (∀ r, r < m → dotN (S.2.1 15) r r 4 = ev 5 r) ∧ (∀ r, r < m → S.2.1 23 r = up r ∧ Int32.ofNat (pcn (up r)) = ev 6 r) ∧ (∀ r, r < m → S.2.1 25 r = ev 7 r) ∧ (∀ r, ev 0 r = Int32.ofNat r) ∧ S.1 11 6 = ys
theorem CV.of {fs : List (Nat × Nat)} {as : List Nat} {S S1 : St} (h : CV m ins up ev ys S) (hF : Fz fs as S S1) (q : (5, 1) ∉ fs ∧ (11, 6) ∉ fs ∧ 15 ∉ as ∧ 23 ∉ as ∧ 25 ∉ as) : CV m ins up ev ys S1 := by
  obtain ⟨h1, h2, h3, h4, h5, h6, h7, h8, h9⟩ := h
  refine ⟨h1, h2, (hF.f q.1).trans h3, fun r k hr hk => (hF.a q.2.2.1 _).trans (h4 r k hr hk), fun r hr => ?_, fun r hr => ⟨(hF.a q.2.2.2.1 r).trans (h6 r hr).1, (h6 r hr).2⟩, fun r hr => (hF.a q.2.2.2.2 r).trans (h7 r hr), h8, (hF.f q.2.1).trans h9⟩
  rw [hF.ar q.2.2.1]; exact h5 r hr
theorem c35 {d p : Nat} {S : St} {Q : Out → St → Prop} (hT : TA y n p S) (hp : p ≤ n) (K : Q (.inl (some (.int (if wIx y n p < 9 then Int32.ofNat (10000 + wIx y n p) else -1)))) (if wIx y n p = 8 then setI S 11 5 1 else S)) : Wp (d + 2) b 35 0 [.ref 11] [] S Q := by
  have iw : ∀ (dd q : Nat) (w : List Int32), (2000 ≤ q ∧ q < 2053) → sByt.getD (q - 2000) [] = w → w.length ≤ 400 → Wp (dd + 1) 0 56 0 [.ref 1, .ref q] [] S (Ri (Vx (bi (isWl y n p w)) S)) := fun dd q w h1 h2 h3 => c56 (w := w) hT hp h1 h2 h3
  unfold wIx at K
  refine b35_0 (iw _ 2027 wRay (by decide) (by decide +kernel) (by decide)) ?_
  rintro _ _ ⟨rfl, rfl⟩
  refine b35_9 (fun q => ?_) (fun q => b35_12 (by rw [bi1.1 q] at K; exact K))
  rw [bi0.1 q, if_neg Bool.false_ne_true] at K
  refine b35_16 (iw _ 2028 wX (by decide) (by decide +kernel) (by decide)) ?_
  rintro _ _ ⟨rfl, rfl⟩
  refine b35_25 (fun q => ?_) (fun q => b35_28 (by rw [bi1.1 q] at K; exact K))
  rw [bi0.1 q, if_neg Bool.false_ne_true] at K
  refine b35_32 (iw _ 2029 wY (by decide) (by decide +kernel) (by decide)) ?_
  rintro _ _ ⟨rfl, rfl⟩
  refine b35_41 (fun q => ?_) (fun q => b35_44 (by rw [bi1.1 q] at K; exact K))
  rw [bi0.1 q, if_neg Bool.false_ne_true] at K
  refine b35_48 (iw _ 2030 wZ (by decide) (by decide +kernel) (by decide)) ?_
  rintro _ _ ⟨rfl, rfl⟩
  refine b35_57 (fun q => ?_) (fun q => b35_60 (by rw [bi1.1 q] at K; exact K))
  rw [bi0.1 q, if_neg Bool.false_ne_true] at K
  refine b35_64 (iw _ 2031 wW (by decide) (by decide +kernel) (by decide)) ?_
  rintro _ _ ⟨rfl, rfl⟩
  refine b35_73 (fun q => ?_) (fun q => b35_76 (by rw [bi1.1 q] at K; exact K))
  rw [bi0.1 q, if_neg Bool.false_ne_true] at K
  refine b35_80 (iw _ 2032 wSquare (by decide) (by decide +kernel) (by decide)) ?_
  rintro _ _ ⟨rfl, rfl⟩
  refine b35_89 (fun q => ?_) (fun q => b35_92 (by rw [bi1.1 q] at K; exact K))
  rw [bi0.1 q, if_neg Bool.false_ne_true] at K
  refine b35_96 (iw _ 2033 wMeets (by decide) (by decide +kernel) (by decide)) ?_
  rintro _ _ ⟨rfl, rfl⟩
  refine b35_105 (fun q => ?_) (fun q => b35_108 (by rw [bi1.1 q] at K; exact K))
  rw [bi0.1 q, if_neg Bool.false_ne_true] at K
  refine b35_112 (iw _ 2034 wFrames (by decide) (by decide +kernel) (by decide)) ?_
  rintro _ _ ⟨rfl, rfl⟩
  refine b35_121 (fun q => ?_) (fun q => b35_124 (by rw [bi1.1 q] at K; exact K))
  rw [bi0.1 q, if_neg Bool.false_ne_true] at K
  refine b35_128 (iw _ 2035 wYes (by decide) (by decide +kernel) (by decide)) ?_
  rintro _ _ ⟨rfl, rfl⟩
  exact b35_137 (fun q => b35_149 (by rw [bi0.1 q] at K; exact K)) (fun q => b35_140 (Or.inr rfl) (by rw [bi1.1 q] at K; exact K))
/-- the code of a value -/
def VC (y : Nat → Int32) (n : Nat) (z : Nat × Nat) (v : Int32) : Prop := (wIx y n z.2 < 9 ∧ v = Int32.ofNat (10000 + wIx y n z.2)) ∨ (wIx y n z.2 = 9 ∧ v = sgV y n z ∧ -999 ≤ v.toInt ∧ v.toInt ≤ 999)
theorem c34 {d p : Nat} {a : Bool} {S : St} {Q : Out → St → Prop} (hT : TA y n p S) (hp : p ≤ n) (h3 : S.1 11 3 = 0) (h5 : S.1 11 5 = bi a) (K : ∀ v S1, Fz QC [] S S1 → TA y n (vlR y n (0, p)).2 S1 → S1.1 11 3 = Int32.ofNat (vlR y n (0, p)).1 → ((vlR y n (0, p)).1 = 0 → VC y n (0, p) v ∧ S1.1 11 5 = bi (a || decide (wIx y n p = 8))) → Q (.inl (some (.int v))) S1) : Wp (d + 3) b 34 0 [.ref 11] [] S Q := by
  have hwl := wIx_le (y := y) (n := n) p
  have he := en_le (y := y) hp
  refine b34_0 (P := fun v S1 => v = (if wIx y n p < 9 then Int32.ofNat (10000 + wIx y n p) else -1) ∧ S1 = (if wIx y n p = 8 then setI S 11 5 1 else S)) (c35 hT hp ⟨_, rfl, rfl, rfl⟩) ?_
  rintro _ _ ⟨rfl, rfl⟩
  by_cases w9 : wIx y n p < 9
  · have eR : vlR y n (0, p) = (0, en y n p) := by
      unfold vlR
      rw [if_pos ⟨rfl, w9⟩]
    rw [eR] at K
    rw [if_pos w9]
    have f1 : Fz [(11, 5)] [] S (if wIx y n p = 8 then setI S 11 5 1 else S) := by
      split
      · exact Fz.refl.seti (by decide)
      · exact Fz.refl
    have e5 : (if wIx y n p = 8 then setI S 11 5 1 else S).1 11 5 = bi (a || decide (wIx y n p = 8)) := by
      by_cases w8 : wIx y n p = 8
      · rw [if_pos w8, seti_same, decide_eq_true w8, Bool.or_true]; rfl
      · rw [if_neg w8, decide_eq_false w8, Bool.or_false]; exact h5
    generalize (if wIx y n p = 8 then setI S 11 5 1 else S) = S1 at *
    have hT1 := hT.of f1 (by decide)
    refine b34_4 (fun _ => b34_89 (P := fun S2 => Fz TF [] S1 S2 ∧ TA y n (en y n p) S2) (c51 hT1.1 he.2.1 hT1.2.2.2.1 (fun S2 a1 a2 => ⟨rfl, a1, a2⟩)) ?_) (fun q => ?_)
    · rintro S2 ⟨a1, a2⟩
      refine b34_96 (K _ S2 ((f1.mono (by decide) (by decide)).trans (a1.mono (by decide) (by decide))) a2 ?_ (fun _ => ⟨Or.inl ⟨w9, rfl⟩, (a1.f (by decide)).trans e5⟩))
      rw [a1.f (by decide), f1.f (by decide), h3]
      rfl
    · have := congrArg Int32.toInt (Classical.byContradiction q)
      rw [i_toInt (by omega)] at this
      have em : (-1 : Int32).toInt = -1 := by decide
      omega
  · have w9' : wIx y n p = 9 := by omega
    rw [if_neg w9, if_neg (by omega)]
    have eR : vlR y n (0, p) = sgR y n 999 (0, p) := by
      unfold vlR
      rw [if_neg (fun w => w9 w.2)]
    rw [eR] at K
    rw [decide_eq_false (by omega), Bool.or_false] at K
    refine b34_4 (fun q => absurd rfl q) (fun _ => b34_10 (c55 hT) ?_)
    rintro _ _ ⟨rfl, rfl⟩
    have es : isSR y n (0, p) 45 = isS y n p 45 := isSR_good
    have num : ∀ (less : Bool) p0 S1 x1, p0 ≤ n → Fz TF [] S S1 → TA y n p0 S1 → sgR y n 999 (0, p) = numR y n 0 999 (0, p0) → (sgV y n (0, p) = if less = true then - numV y n (0, p0) else numV y n (0, p0)) → Wp (d + 3) b 34 31 [.ref 11, .int x1, .int (bi less)] [] S1 Q := by
      intro less p0 S1 x1 hp0 hF hT0 er ev'
      have g3 : S1.1 11 3 = 0 := (hF.f (by decide)).trans h3
      have g5 : S1.1 11 5 = bi a := (hF.f (by decide)).trans h5
      rw [er, numR_good] at K
      have fail : ∀ c, ¬ c = 0 → Fz QC [] S (setI S1 11 3 (Int32.ofNat c)) ∧ TA y n p0 (setI S1 11 3 (Int32.ofNat c)) ∧ (setI S1 11 3 (Int32.ofNat c)).1 11 3 = Int32.ofNat c := fun c hc => by
        have f2 : Fz [(11, 3)] [] S1 (setI S1 11 3 (Int32.ofNat c)) := Fz.refl.seti (by decide)
        exact ⟨(hF.mono (by decide) (by decide)).trans (f2.mono (by decide) (by decide)), hT0.of f2 (by decide), seti_same⟩
      refine b34_31 (c54 hT0) ?_
      rintro _ _ ⟨rfl, rfl⟩
      refine b34_38 (fun q => ?_) (fun q => b34_41 (P := fun v S2 => S2 = setI S1 11 3 (Int32.ofNat 1)) (b29_0 ⟨_, rfl, rfl⟩) ?_)
      rotate_left
      · rintro v _ rfl
        have k2 := of_decide_eq_false (bi0.1 (Classical.byContradiction q))
        rw [if_neg k2] at K
        obtain ⟨c1, c2, c3⟩ := fail 1 (by omega)
        exact b34_46 (K v _ c1 c2 c3 (fun w => absurd w (show ¬ 1 = 0 by omega)))
      have k2 := of_decide_eq_true (bi1.1 q)
      rw [if_pos k2] at K
      have e6 : S1.1 1 6 = nv y n p0 := hT0.2.2.2.2 k2
      have n0 := nv_0 (y := y) hp0 k2
      refine b34_47 (fun q => ?_) (fun q => b34_60 (P := fun v S2 => S2 = setI S1 11 3 (Int32.ofNat 2)) (b29_0 ⟨_, rfl, rfl⟩) ?_)
      rotate_left
      · rintro v _ rfl
        rw [e6] at q
        rw [if_neg (fun w => q w.2)] at K
        obtain ⟨c1, c2, c3⟩ := fail 2 (by omega)
        exact b34_65 (K v _ c1 c2 c3 (fun w => absurd w (show ¬ 2 = 0 by omega)))
      rw [e6] at q
      rw [if_pos ⟨n0, q⟩] at K
      have nb := nv_b (y := y) hp0 k2
      have n9 : (nv y n p0).toInt ≤ 999 := by
        have := Int32.le_iff_toInt_le.1 q
        have e9 : (999 : Int32).toInt = 999 := by decide
        omega
      have fin : ∀ v, v = (if less = true then - nv y n p0 else nv y n p0) → Wp (d + 3) b 34 88 [.ref 11, .int x1, .int (bi less)] [.int v] S1 Q := by
        intro v hv
        have he0 := en_le (y := y) hp0
        refine b34_88 (b34_89 (P := fun S2 => Fz TF [] S1 S2 ∧ TA y n (en y n p0) S2) (c51 hT0.1 he0.2.1 hT0.2.2.2.1 (fun S2 a1 a2 => ⟨rfl, a1, a2⟩)) ?_)
        rintro S2 ⟨a1, a2⟩
        refine b34_96 (K v S2 ((hF.mono (by decide) (by decide)).trans (a1.mono (by decide) (by decide))) a2 ((a1.f (by decide)).trans g3) (fun _ => ⟨Or.inr ⟨w9', ?_, ?_, ?_⟩, (a1.f (by decide)).trans g5⟩))
        · rw [ev', numV_good k2]; exact hv
        · rw [hv]
          split
          · rw [ti_neg (by omega) (by omega)]; omega
          · omega
        · rw [hv]
          split
          · rw [ti_neg (by omega) (by omega)]; omega
          · omega
      refine b34_66 (fun z => b34_81 (fin _ ?_)) (fun z => b34_70 (fin _ ?_))
      · rw [e6, bi0.1 z, if_neg Bool.false_ne_true]
      · rw [e6, bi1.1 z, if_pos rfl]
    refine b34_19 (fun q => num _ p S _ hp Fz.refl hT ?_ ?_) (fun q => ?_)
    · unfold sgR
      rw [es, bi0.1 q, if_neg Bool.false_ne_true]
    · unfold sgV
      rw [es, bi0.1 q, if_neg Bool.false_ne_true, if_neg Bool.false_ne_true]
    · refine b34_24 (P := fun S1 => Fz TF [] S S1 ∧ TA y n (en y n p) S1) (c51 hT.1 he.2.1 hT.2.2.2.1 (fun S1 a1 a2 => ⟨rfl, a1, a2⟩)) ?_
      rintro S1 ⟨a1, a2⟩
      have ep : pasR y n (0, p) = (0, en y n p) := if_pos rfl
      refine num _ (en y n p) S1 _ he.2.1 a1 a2 ?_ ?_
      · unfold sgR
        rw [es, bi1.1 q, if_pos rfl, ep]
      · unfold sgV
        rw [es, bi1.1 q, ep, if_pos rfl, if_pos rfl]
theorem sw_num {v : Int32} (h : v.toInt ≤ 999) : swT 0 v = 148 := by
  have e : sws[0]? = some (10000, [52, 54, 64, 74, 84, 94, 104, 119, 131], 148) := by decide +kernel
  unfold swT
  rw [e]
  show (if v.toInt < 10000 ∨ _ then 148 else _) = 148
  rw [if_pos (Or.inl (by omega))]
theorem c36 {d r : Nat} {z : Nat × Nat} {v : Int32} {S : St} (hE : CV m ins up ev ys S) (hr : r < m) (hv : VC y n z v) : Wp (d + 3) b 36 0 [.ref 11, .int v, .int (Int32.ofNat r)] [] S (Ri (Vx (vlV ev y n z (eC ys) r) S)) := by
  obtain ⟨h1, h2, h3, h4, h5, h6, h7, h8, h9⟩ := hE
  refine b36_0 ?_
  rcases hv with ⟨w9, rfl⟩ | ⟨w9, rfl, v1, v2⟩
  · have : wIx y n z.2 = 0 ∨ wIx y n z.2 = 1 ∨ wIx y n z.2 = 2 ∨ wIx y n z.2 = 3 ∨ wIx y n z.2 = 4 ∨ wIx y n z.2 = 5 ∨ wIx y n z.2 = 6 ∨ wIx y n z.2 = 7 ∨ wIx y n z.2 = 8 := by omega
    unfold vlV
    rcases this with e | e | e | e | e | e | e | e | e
    · rw [e, show swT 0 (Int32.ofNat (10000 + 0)) = 52 by decide +kernel]
      exact b36_52 ⟨_, rfl, (h8 r).symm, rfl⟩
    · rw [e, show swT 0 (Int32.ofNat (10000 + 1)) = 54 by decide +kernel]
      refine b36_54 (s72a (k := 0) (by omega) (by omega)) ?_
      rintro _ _ ⟨rfl, rfl⟩
      exact b36_63 ⟨_, rfl, h4 r 0 hr (by omega), rfl⟩
    · rw [e, show swT 0 (Int32.ofNat (10000 + 2)) = 64 by decide +kernel]
      refine b36_64 (s72a (k := 1) (by omega) (by omega)) ?_
      rintro _ _ ⟨rfl, rfl⟩
      exact b36_73 ⟨_, rfl, h4 r 1 hr (by omega), rfl⟩
    · rw [e, show swT 0 (Int32.ofNat (10000 + 3)) = 74 by decide +kernel]
      refine b36_74 (s72a (k := 2) (by omega) (by omega)) ?_
      rintro _ _ ⟨rfl, rfl⟩
      exact b36_83 ⟨_, rfl, h4 r 2 hr (by omega), rfl⟩
    · rw [e, show swT 0 (Int32.ofNat (10000 + 4)) = 84 by decide +kernel]
      refine b36_84 (s72a (k := 3) (by omega) (by omega)) ?_
      rintro _ _ ⟨rfl, rfl⟩
      exact b36_93 ⟨_, rfl, h4 r 3 hr (by omega), rfl⟩
    · rw [e, show swT 0 (Int32.ofNat (10000 + 5)) = 94 by decide +kernel]
      refine b36_94 (s78a (by omega) (by omega)) ?_
      rintro _ _ ⟨rfl, rfl⟩
      exact b36_103 ⟨_, rfl, h5 r hr, rfl⟩
    · rw [e, show swT 0 (Int32.ofNat (10000 + 6)) = 104 by decide +kernel]
      refine b36_104 (s147d (by omega)) ?_
      rintro _ _ ⟨rfl, rfl⟩
      refine b36_115 (s0 _) ?_
      rintro _ _ ⟨rfl, rfl⟩
      refine b36_118 ⟨_, rfl, ?_, rfl⟩
      rw [if_pos (by omega), (h6 r hr).1]
      exact (h6 r hr).2
    · rw [e, show swT 0 (Int32.ofNat (10000 + 7)) = 119 by decide +kernel]
      refine b36_119 (s147f (by omega)) ?_
      rintro _ _ ⟨rfl, rfl⟩
      refine b36_130 ⟨_, rfl, ?_, rfl⟩
      rw [if_pos (by omega)]
      exact h7 r hr
    · rw [e, show swT 0 (Int32.ofNat (10000 + 8)) = 131 by decide +kernel]
      rw [if_neg (by omega), if_pos rfl]
      refine b36_131 (s146 _ (by omega)) ?_
      rintro _ _ ⟨rfl, rfl⟩
      rw [h9]
      unfold eC
      exact b36_139 (fun q => b36_146 (b36_147 ⟨_, rfl, q.symm, rfl⟩)) (fun q => b36_142 (b36_147 ⟨_, rfl, by rw [bi1.1 q]; rfl, rfl⟩))
  · rw [sw_num v2]
    refine b36_148 ⟨_, rfl, ?_, rfl⟩
    unfold vlV
    rw [if_neg (by omega), if_neg (by omega)]
end CQUEST
