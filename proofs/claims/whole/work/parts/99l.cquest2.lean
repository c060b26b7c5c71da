/-! QUESTIONS: the class, tests -/
section CQUEST2
variable {m : Nat} {ins : Int32} {y : Nat → Int32} {n : Nat} {ev : Nat → Nat → Int32} {up : Nat → Int32} {ys : Int32}
theorem mk_step (p : Nat → Bool) {o : Nat} (ho : o < 32) : mk p (o + 1) = if p o = true then mk p o ||| bit o else mk p o := tb_ext (fun k hk => by
  rw [tb_mk _ (by omega)]
  by_cases hp : p o = true
  · rw [if_pos hp, tb_or, tb_mk _ (by omega), tb_bit (by omega)]
    by_cases e : k = o
    · rw [e, decide_eq_true (by omega : o < o + 1), decide_eq_true rfl, hp, Bool.or_true]; rfl
    · rw [decide_eq_false e, Bool.or_false]
      congr 1
      exact decide_eq_decide.2 (by omega)
  · rw [if_neg hp, tb_mk _ (by omega)]
    by_cases e : k = o
    · rw [e, Bool.eq_false_iff.2 hp, Bool.and_false, Bool.and_false]
    · congr 1
      exact decide_eq_decide.2 (by omega))
theorem c33 {d b p : Nat} {a : Bool} {S : St} {Q : Out → St → Prop} (hT : TA y n p S) (hp : p ≤ n) (h3 : S.1 11 3 = 0) (h5 : S.1 11 5 = bi a) (hE : CV m ins up ev ys S) (K : ∀ v S1, Fz QC [] S S1 → TA y n (cmpR y n (0, p)).2 S1 → S1.1 11 3 = Int32.ofNat (cmpR y n (0, p)).1 → ((cmpR y n (0, p)).1 = 0 → v = mk (fun r => tb ins r && cmpV ev y n (0, p) (eC ys) r) 20 ∧ S1.1 11 5 = bi (a || cmpY y n (0, p))) → Q (.inl (some (.int v))) S1) : Wp (d + 4) b 33 0 [.ref 11] [] S Q := by
  obtain ⟨l1, l2, l3⟩ := vlR_ok (y := y) (n := n) (z := (0, p)) hp
  have lt1 : (vlR y n (0, p)).1 < 1000 := l3 (show 0 < 1000 by omega)
  refine b33_0 (P := fun v S1 => Fz QC [] S S1 ∧ TA y n (vlR y n (0, p)).2 S1 ∧ S1.1 11 3 = Int32.ofNat (vlR y n (0, p)).1 ∧ ((vlR y n (0, p)).1 = 0 → VC y n (0, p) v ∧ S1.1 11 5 = bi (a || decide (wIx y n p = 8)))) (c34 hT hp h3 h5 (fun v S1 a1 a2 a3 a4 => ⟨_, rfl, a1, a2, a3, a4⟩)) ?_
  rintro v1 S1 ⟨a1, a2, a3, a4⟩
  refine b33_4 (fun q => ?_) (fun q => b33_12 ?_)
  rotate_left
  · have n0 : ¬ (vlR y n (0, p)).1 = 0 := fun w => q (by rw [a3, w]; rfl)
    have eC' : cmpR y n (0, p) = vlR y n (0, p) := by unfold cmpR; rw [opR_bad n0, vlR_bad n0]
    rw [eC'] at K
    exact K _ S1 a1 a2 a3 (fun w => absurd w n0)
  rw [a3] at q
  have z0 := (i_inj (b := 0) (by omega) (by omega)).1 q
  obtain ⟨vc1, g5⟩ := a4 z0
  have g3 : S1.1 11 3 = 0 := by rw [a3, z0]; rfl
  have ez : vlR y n (0, p) = (0, (vlR y n (0, p)).2) := Prod.ext z0 rfl
  have es : ∀ c, isSR y n (vlR y n (0, p)) c = isS y n (vlR y n (0, p)).2 c := fun c => by
    have := isSR_good (y := y) (n := n) (p := (vlR y n (0, p)).2) (c := c)
    rw [← ez] at this
    exact this
  refine b33_14 (c55 a2) ?_
  rintro _ _ ⟨rfl, rfl⟩
  refine b33_23 (c55 a2) ?_
  rintro _ _ ⟨rfl, rfl⟩
  -- behind the sign
  have go : (isSR y n (vlR y n (0, p)) 60 = true ∨ isSR y n (vlR y n (0, p)) 61 = true ∨ isSR y n (vlR y n (0, p)) 62 = true) → Wp (d + 4) b 33 60 [.ref 11, .int v1, .int (bi (isS y n (vlR y n (0, p)).2 60)), .int (bi (isS y n (vlR y n (0, p)).2 62))] [] S1 Q := by
    intro any
    have eO : opR y n (vlR y n (0, p)) = (0, en y n (vlR y n (0, p)).2) := by unfold opR; rw [if_pos any]
    have he := en_le (y := y) l1
    refine b33_60 (P := fun S2 => Fz TF [] S1 S2 ∧ TA y n (en y n (vlR y n (0, p)).2) S2) (c51 a2.1 he.2.1 a2.2.2.2.1 (fun S2 c1 c2 => ⟨rfl, c1, c2⟩)) ?_
    rintro S2 ⟨c1, c2⟩
    have eC' : cmpR y n (0, p) = vlR y n (0, en y n (vlR y n (0, p)).2) := by unfold cmpR; rw [eO]
    have eY' : cmpY y n (0, p) = (decide (wIx y n p = 8) || decide (wIx y n (en y n (vlR y n (0, p)).2) = 8)) := by unfold cmpY; rw [eO]
    have f2 : Fz QC [] S S2 := a1.trans (c1.mono (by decide) (by decide))
    refine b33_67 (P := fun v S3 => Fz QC [] S2 S3 ∧ TA y n (cmpR y n (0, p)).2 S3 ∧ S3.1 11 3 = Int32.ofNat (cmpR y n (0, p)).1 ∧ ((cmpR y n (0, p)).1 = 0 → VC y n (opR y n (vlR y n (0, p))) v ∧ S3.1 11 5 = bi (a || cmpY y n (0, p)))) (c34 (a := a || decide (wIx y n p = 8)) c2 he.2.1 ((c1.f (by decide)).trans g3) ((c1.f (by decide)).trans g5) (fun v S3 e1 e2 e3 e4 => by
      rw [← eC'] at e2 e3 e4
      rw [Bool.or_assoc, ← eY', ← eO] at e4
      exact ⟨_, rfl, e1, e2, e3, e4⟩)) ?_
    rintro v2 S3 ⟨e1, e2, e3, e4⟩
    have f3 : Fz QC [] S S3 := f2.trans e1
    have lt3 : (cmpR y n (0, p)).1 < 1000 := (cmp_ok (y := y) hp).2.2.2 (show 0 < 1000 by omega)
    have hE3 := hE.of f3 (by decide)
    refine b33_71 ?_
    by_cases c0 : (cmpR y n (0, p)).1 = 0
    · obtain ⟨vc2, k5⟩ := e4 c0
      have k3 : S3.1 11 3 = 0 := by rw [e3, c0]; rfl
      have loop : ∀ k r, r + k = 20 → Wp (d + 4) b 33 79 [.ref 11, .int v1, .int (bi (isS y n (vlR y n (0, p)).2 60)), .int (bi (isS y n (vlR y n (0, p)).2 62)), .int v2, .int (mk (fun r => tb ins r && cmpV ev y n (0, p) (eC ys) r) r), .int (Int32.ofNat r)] [] S3 Q := by
        intro k
        induction k with
        | zero =>
          intro r hr
          have hr : r = 20 := hr
          subst hr
          exact b33_79 (fun _ => b33_177 (K _ S3 f3 e2 e3 (fun _ => ⟨rfl, k5⟩))) (fun q => absurd ((i_le (a := 20) (by omega) (by omega)).2 (by omega)) q)
        | succ k ih =>
          intro r hr
          have ih := ih (r + 1) (by omega)
          rw [mk_step _ (by omega)] at ih
          refine b33_79 (fun q => ?_) (fun _ => b33_86 (fun q => absurd k3 q) (fun _ => b33_93 (P := Vx (bi (tb ins r)) S3) (by rw [hE3.2.2.1]; exact s146 _ (by omega)) ?_))
          · have := (i_le (a := 20) (by omega) (by omega)).1 q
            omega
          rintro _ _ ⟨rfl, rfl⟩
          have no : (tb ins r && cmpV ev y n (0, p) (eC ys) r) = false → Wp (d + 4) b 33 171 [.ref 11, .int v1, .int (bi (isS y n (vlR y n (0, p)).2 60)), .int (bi (isS y n (vlR y n (0, p)).2 62)), .int v2, .int (mk (fun r => tb ins r && cmpV ev y n (0, p) (eC ys) r) r), .int (Int32.ofNat r)] [] S3 Q := by
            intro h
            rw [h, if_neg Bool.false_ne_true] at ih
            refine b33_171 ?_
            rw [i_suc]
            exact ih
          refine b33_105 (fun q => no (by rw [bi0.1 q]; rfl)) (fun q => ?_)
          have hin := bi1.1 q
          have hrm := hE.2.1 r hin
          refine b33_108 (c36 hE3 hrm vc1) ?_
          rintro _ _ ⟨rfl, rfl⟩
          refine b33_115 (c36 hE3 hrm vc2) ?_
          rintro _ _ ⟨rfl, rfl⟩
          have yes : cmpV ev y n (0, p) (eC ys) r = true → Wp (d + 4) b 33 162 [.ref 11, .int v1, .int (bi (isS y n (vlR y n (0, p)).2 60)), .int (bi (isS y n (vlR y n (0, p)).2 62)), .int v2, .int (mk (fun r => tb ins r && cmpV ev y n (0, p) (eC ys) r) r), .int (Int32.ofNat r), .int (vlV ev y n (0, p) (eC ys) r), .int (vlV ev y n (opR y n (vlR y n (0, p))) (eC ys) r)] [] S3 Q := by
            intro h
            rw [hin, h, if_pos (by rfl)] at ih
            refine b33_162 (b33_171 ?_)
            rw [i_suc]
            exact ih
          have no' : cmpV ev y n (0, p) (eC ys) r = false → Wp (d + 4) b 33 171 [.ref 11, .int v1, .int (bi (isS y n (vlR y n (0, p)).2 60)), .int (bi (isS y n (vlR y n (0, p)).2 62)), .int v2, .int (mk (fun r => tb ins r && cmpV ev y n (0, p) (eC ys) r) r), .int (Int32.ofNat r)] [] S3 Q := fun h => no (by rw [h, Bool.and_false])
          have ecv : cmpV ev y n (0, p) (eC ys) r = if isS y n (vlR y n (0, p)).2 60 = true then decide (vlV ev y n (0, p) (eC ys) r < vlV ev y n (opR y n (vlR y n (0, p))) (eC ys) r) else if isS y n (vlR y n (0, p)).2 62 = true then decide (vlV ev y n (opR y n (vlR y n (0, p))) (eC ys) r < vlV ev y n (0, p) (eC ys) r) else decide (vlV ev y n (0, p) (eC ys) r = vlV ev y n (opR y n (vlR y n (0, p))) (eC ys) r) := by
            unfold cmpV
            rw [es, es]
          refine b33_125 (fun q => b33_141 (fun q2 => b33_155 (fun q3 => no' ?_) (fun q3 => yes ?_)) (fun q2 => b33_145 (fun q3 => no' ?_) (fun q3 => b33_152 (yes ?_)))) (fun q => b33_131 (fun q3 => no' ?_) (fun q3 => b33_138 (yes ?_)))
          · rw [ecv, bi0.1 q, bi0.1 q2, if_neg Bool.false_ne_true, if_neg Bool.false_ne_true]; exact decide_eq_false q3
          · rw [ecv, bi0.1 q, bi0.1 q2, if_neg Bool.false_ne_true, if_neg Bool.false_ne_true]; exact decide_eq_true (Classical.byContradiction q3)
          · rw [ecv, bi0.1 q, bi1.1 q2, if_neg Bool.false_ne_true, if_pos rfl]
            exact decide_eq_false (fun w => by rw [Int32.lt_iff_toInt_lt] at w; rw [Int32.le_iff_toInt_le] at q3; omega)
          · rw [ecv, bi0.1 q, bi1.1 q2, if_neg Bool.false_ne_true, if_pos rfl]
            exact decide_eq_true (by rw [Int32.lt_iff_toInt_lt]; rw [Int32.le_iff_toInt_le] at q3; omega)
          · rw [ecv, bi1.1 q, if_pos rfl]
            exact decide_eq_false (fun w => by rw [Int32.lt_iff_toInt_lt] at w; rw [Int32.le_iff_toInt_le] at q3; omega)
          · rw [ecv, bi1.1 q, if_pos rfl]
            exact decide_eq_true (by rw [Int32.lt_iff_toInt_lt]; rw [Int32.le_iff_toInt_le] at q3; omega)
      exact loop 20 0 (by omega)
    · have k3 : ¬ S3.1 11 3 = 0 := fun w => c0 (by rw [e3] at w; exact (i_inj (b := 0) (by omega) (by omega)).1 w)
      exact b33_79 (fun q => absurd ((i_le (a := 20) (b := 0) (by omega) (by omega)).1 q) (by omega)) (fun _ => b33_86 (fun _ => b33_177 (K _ S3 f3 e2 e3 (fun w => absurd w c0))) (fun q => absurd k3 q))
  refine b33_33 (fun q => go (Or.inl (by rw [es]; exact bi1.1 q))) (fun q => b33_38 (fun q2 => go (Or.inr (Or.inr (by rw [es]; exact bi1.1 q2)))) (fun q2 => b33_42 (c55 a2) ?_))
  rintro _ _ ⟨rfl, rfl⟩
  refine b33_51 (fun q3 => go (Or.inr (Or.inl (by rw [es]; exact bi1.1 q3)))) (fun q3 => b33_54 (P := fun v S2 => S2 = setI S1 11 3 (Int32.ofNat 1)) (b29_0 ⟨_, rfl, rfl⟩) ?_)
  rintro v _ rfl
  have eO : opR y n (vlR y n (0, p)) = (1, (vlR y n (0, p)).2) := by
    unfold opR
    rw [es, es, es, bi0.1 (Classical.byContradiction q), bi0.1 (Classical.byContradiction q2), bi0.1 (Classical.byContradiction q3), if_neg (by decide)]
    unfold wrgR
    rw [if_pos z0]
  have eC' : cmpR y n (0, p) = (1, (vlR y n (0, p)).2) := by unfold cmpR; rw [eO, vlR_bad (show ¬ 1 = 0 by omega)]
  rw [eC'] at K
  have f2 : Fz [(11, 3)] [] S1 (setI S1 11 3 (Int32.ofNat 1)) := Fz.refl.seti (by decide)
  exact b33_59 (K v _ (a1.trans (f2.mono (by decide) (by decide))) (a2.of f2 (by decide)) seti_same (fun w => absurd w (show ¬ 1 = 0 by omega)))
/-- what a reading method of the class does -/
def CRd (m : Nat) (ins : Int32) (y : Nat → Int32) (n : Nat) (ev : Nat → Nat → Int32) (up : Nat → Int32) (ys : Int32) (M c o : Nat) (g : Nat × Nat → Qr) : Prop := ∀ (dd b p : Nat) (a : Bool) (S : St) (Q : Out → St → Prop), c ≤ dd → p ≤ n → TA y n p S → S.1 11 3 = 0 → S.1 11 5 = bi a → CV m ins up ev ys S → (∀ v S1, Fz QC [] S S1 → TA y n (g (0, p)).1.2 S1 → S1.1 11 3 = Int32.ofNat (g (0, p)).1.1 → ((g (0, p)).1.1 = 0 → v = mk (fun r => tb ins r && (g (0, p)).2.2 (eC ys) r) 20 ∧ S1.1 11 5 = bi (a || (g (0, p)).2.1)) → Q (.inl (some (.int v))) S1) → Wp dd b M 0 [.ref 11, .int (Int32.ofNat o)] [] S Q
theorem c31 {c o : Nat} {g : Nat × Nat → Qr} (hg : Okg n g) (h : CRd m ins y n ev up ys 32 c o g) (hc : 3 ≤ c) : CRd m ins y n ev up ys 31 (c + 1) o (bthR y n g) := by
  intro dd b p a S Q hdd hp hT h3 h5 hE K
  obtain ⟨d, rfl⟩ := Nat.exists_eq_add_of_le' (show 3 ≤ dd by omega)
  have gz := hg (0, p) hp
  refine b31_0 (P := fun v S1 => Fz QC [] S S1 ∧ TA y n (g (0, p)).1.2 S1 ∧ S1.1 11 3 = Int32.ofNat (g (0, p)).1.1 ∧ ((g (0, p)).1.1 = 0 → v = mk (fun r => tb ins r && (g (0, p)).2.2 (eC ys) r) 20 ∧ S1.1 11 5 = bi (a || (g (0, p)).2.1))) (h (d + 2) 0 p a S _ (by omega) hp hT h3 h5 hE (fun v S1 a1 a2 a3 a4 => ⟨_, rfl, a1, a2, a3, a4⟩)) ?_
  rintro v S1 ⟨a1, a2, a3, a4⟩
  refine b31_5 ?_
  have loop : ∀ k i (q : Qr) S' (v : Int32), i + k = 200 → q.1.2 ≤ n → q.1.1 < 1000 → Fz QC [] S S' → TA y n q.1.2 S' → S'.1 11 3 = Int32.ofNat q.1.1 → (q.1.1 = 0 → v = mk (fun r => tb ins r && q.2.2 (eC ys) r) 20 ∧ S'.1 11 5 = bi (a || q.2.1)) → lopR y n g wAnd (fun a c => a && c) k q = bthR y n g (0, p) → Wp (d + 3) b 31 8 [.ref 11, .int (Int32.ofNat o), .int v, .int (Int32.ofNat i)] [] S' Q := by
    intro k
    induction k with
    | zero =>
      intro i q S' v hi hq hlt hF hT' k3 kv he
      have he : q = bthR y n g (0, p) := he
      have hi : i = 200 := hi
      subst hi
      exact b31_8 (fun _ => b31_55 (K v S' hF (by rw [← he]; exact hT') (by rw [← he]; exact k3) (by rw [← he]; exact kv))) (fun w => absurd ((i_le (a := 200) (by omega) (by omega)).2 (by omega)) w)
    | succ k ih =>
      intro i q S' v hi hq hlt hF hT' k3 kv he
      unfold lopR at he
      refine b31_8 (fun w => ?_) (fun _ => b31_15 (fun w => b31_55 ?_) (fun w => b31_22 (c56 (w := wAnd) hT' hq (by decide) (by decide +kernel) (by decide)) ?_))
      · have := (i_le (a := 200) (by omega) (by omega)).1 w
        omega
      · have q0 : ¬ q.1.1 = 0 := fun z => w (by rw [k3, z]; rfl)
        rw [isWR_bad q0, if_neg Bool.false_ne_true] at he
        exact K v S' hF (by rw [← he]; exact hT') (by rw [← he]; exact k3) (by rw [← he]; exact kv)
      rintro _ _ ⟨rfl, rfl⟩
      have w := Classical.byContradiction w
      rw [k3] at w
      have q0 := (i_inj (b := 0) (by omega) (by omega)).1 w
      have eq : q.1 = (0, q.1.2) := Prod.ext q0 rfl
      have ew : isWR y n q.1 wAnd = isWl y n q.1.2 wAnd := by
        have := isWR_good (y := y) (n := n) (p := q.1.2) (w := wAnd)
        rw [← eq] at this
        exact this
      have ep : pasR y n q.1 = (0, en y n q.1.2) := by unfold pasR; rw [if_pos q0]
      rw [ew, ep] at he
      refine b31_31 (fun x => b31_55 ?_) (fun x => ?_)
      · rw [bi0.1 x, if_neg Bool.false_ne_true] at he
        exact K v S' hF (by rw [← he]; exact hT') (by rw [← he]; exact k3) (by rw [← he]; exact kv)
      · rw [bi1.1 x, if_pos rfl] at he
        obtain ⟨kv1, kv2⟩ := kv q0
        have hen := en_le (y := y) hq
        refine b31_34 (P := fun S2 => Fz TF [] S' S2 ∧ TA y n (en y n q.1.2) S2) (c51 hT'.1 hen.2.1 hT'.2.2.2.1 (fun S2 c1 c2 => ⟨rfl, c1, c2⟩)) ?_
        rintro S2 ⟨c1, c2⟩
        have f2 : Fz QC [] S S2 := hF.trans (c1.mono (by decide) (by decide))
        have gq := hg (0, en y n q.1.2) hen.2.1
        refine b31_41 (P := fun v' S3 => Fz QC [] S2 S3 ∧ TA y n (g (0, en y n q.1.2)).1.2 S3 ∧ S3.1 11 3 = Int32.ofNat (g (0, en y n q.1.2)).1.1 ∧ ((g (0, en y n q.1.2)).1.1 = 0 → v' = mk (fun r => tb ins r && (g (0, en y n q.1.2)).2.2 (eC ys) r) 20 ∧ S3.1 11 5 = bi ((a || q.2.1) || (g (0, en y n q.1.2)).2.1))) (h (d + 2) 0 (en y n q.1.2) (a || q.2.1) S2 _ (by omega) hen.2.1 c2 ((c1.f (by decide)).trans (by rw [k3, q0]; rfl)) ((c1.f (by decide)).trans kv2) (hE.of f2 (by decide)) (fun v S3 e1 e2 e3 e4 => ⟨_, rfl, e1, e2, e3, e4⟩)) ?_
        rintro v' S3 ⟨e1, e2, e3, e4⟩
        refine b31_47 ?_
        rw [i_suc]
        refine ih (i + 1) ((g (0, en y n q.1.2)).1, q.2.1 || (g (0, en y n q.1.2)).2.1, fun e r => q.2.2 e r && (g (0, en y n q.1.2)).2.2 e r) S3 _ (by omega) gq.1 (gq.2.2.2.1 (show 0 < 1000 by omega)) (f2.trans e1) e2 e3 (fun w0 => ?_) he
        obtain ⟨m1, m2⟩ := e4 w0
        refine ⟨?_, by rw [m2, Bool.or_assoc]⟩
        rw [kv1, m1]
        refine tb_ext (fun r _ => ?_)
        rw [tb_and, tb_mk _ (by omega), tb_mk _ (by omega), tb_mk _ (by omega)]
        show (_ && (_ && q.2.2 (eC ys) r) && (_ && (_ && (g (0, en y n q.1.2)).2.2 (eC ys) r))) = (_ && (_ && (q.2.2 (eC ys) r && (g (0, en y n q.1.2)).2.2 (eC ys) r)))
        generalize q.2.2 (eC ys) r = A
        generalize (g (0, en y n q.1.2)).2.2 (eC ys) r = B
        generalize tb ins r = C
        generalize decide (r < 20) = E
        cases A <;> cases B <;> cases C <;> cases E <;> rfl
  exact loop 200 0 (g (0, p)) S1 v (by omega) gz.1 (gz.2.2.2.1 (show 0 < 1000 by omega)) a1 a2 a3 a4 rfl
theorem c30 {c o : Nat} {g : Nat × Nat → Qr} (hg : Okg n g) (h : CRd m ins y n ev up ys 31 c o (bthR y n g)) (hc : 3 ≤ c) : CRd m ins y n ev up ys 30 (c + 1) o (tstR y n g) := by
  have hg := bth_okg (y := y) hg
  have eT : ∀ z, tstR y n g z = lopR y n (bthR y n g) wOr (fun a c => a || c) 200 (bthR y n g z) := fun _ => rfl
  generalize bthR y n g = g' at *
  intro dd b p a S Q hdd hp hT h3 h5 hE K
  obtain ⟨d, rfl⟩ := Nat.exists_eq_add_of_le' (show 3 ≤ dd by omega)
  have gz := hg (0, p) hp
  refine b30_0 (P := fun v S1 => Fz QC [] S S1 ∧ TA y n (g' (0, p)).1.2 S1 ∧ S1.1 11 3 = Int32.ofNat (g' (0, p)).1.1 ∧ ((g' (0, p)).1.1 = 0 → v = mk (fun r => tb ins r && (g' (0, p)).2.2 (eC ys) r) 20 ∧ S1.1 11 5 = bi (a || (g' (0, p)).2.1))) (h (d + 2) 0 p a S _ (by omega) hp hT h3 h5 hE (fun v S1 a1 a2 a3 a4 => ⟨_, rfl, a1, a2, a3, a4⟩)) ?_
  rintro v S1 ⟨a1, a2, a3, a4⟩
  refine b30_5 ?_
  have loop : ∀ k i (q : Qr) S' (v : Int32), i + k = 200 → q.1.2 ≤ n → q.1.1 < 1000 → Fz QC [] S S' → TA y n q.1.2 S' → S'.1 11 3 = Int32.ofNat q.1.1 → (q.1.1 = 0 → v = mk (fun r => tb ins r && q.2.2 (eC ys) r) 20 ∧ S'.1 11 5 = bi (a || q.2.1)) → lopR y n g' wOr (fun a c => a || c) k q = tstR y n g (0, p) → Wp (d + 3) b 30 8 [.ref 11, .int (Int32.ofNat o), .int v, .int (Int32.ofNat i)] [] S' Q := by
    intro k
    induction k with
    | zero =>
      intro i q S' v hi hq hlt hF hT' k3 kv he
      have he : q = tstR y n g (0, p) := he
      have hi : i = 200 := hi
      subst hi
      exact b30_8 (fun _ => b30_55 (K v S' hF (by rw [← he]; exact hT') (by rw [← he]; exact k3) (by rw [← he]; exact kv))) (fun w => absurd ((i_le (a := 200) (by omega) (by omega)).2 (by omega)) w)
    | succ k ih =>
      intro i q S' v hi hq hlt hF hT' k3 kv he
      unfold lopR at he
      refine b30_8 (fun w => ?_) (fun _ => b30_15 (fun w => b30_55 ?_) (fun w => b30_22 (c56 (w := wOr) hT' hq (by decide) (by decide +kernel) (by decide)) ?_))
      · have := (i_le (a := 200) (by omega) (by omega)).1 w
        omega
      · have q0 : ¬ q.1.1 = 0 := fun z => w (by rw [k3, z]; rfl)
        rw [isWR_bad q0, if_neg Bool.false_ne_true] at he
        exact K v S' hF (by rw [← he]; exact hT') (by rw [← he]; exact k3) (by rw [← he]; exact kv)
      rintro _ _ ⟨rfl, rfl⟩
      have w := Classical.byContradiction w
      rw [k3] at w
      have q0 := (i_inj (b := 0) (by omega) (by omega)).1 w
      have eq : q.1 = (0, q.1.2) := Prod.ext q0 rfl
      have ew : isWR y n q.1 wOr = isWl y n q.1.2 wOr := by
        have := isWR_good (y := y) (n := n) (p := q.1.2) (w := wOr)
        rw [← eq] at this
        exact this
      have ep : pasR y n q.1 = (0, en y n q.1.2) := by unfold pasR; rw [if_pos q0]
      rw [ew, ep] at he
      refine b30_31 (fun x => b30_55 ?_) (fun x => ?_)
      · rw [bi0.1 x, if_neg Bool.false_ne_true] at he
        exact K v S' hF (by rw [← he]; exact hT') (by rw [← he]; exact k3) (by rw [← he]; exact kv)
      · rw [bi1.1 x, if_pos rfl] at he
        obtain ⟨kv1, kv2⟩ := kv q0
        have hen := en_le (y := y) hq
        refine b30_34 (P := fun S2 => Fz TF [] S' S2 ∧ TA y n (en y n q.1.2) S2) (c51 hT'.1 hen.2.1 hT'.2.2.2.1 (fun S2 c1 c2 => ⟨rfl, c1, c2⟩)) ?_
        rintro S2 ⟨c1, c2⟩
        have f2 : Fz QC [] S S2 := hF.trans (c1.mono (by decide) (by decide))
        have gq := hg (0, en y n q.1.2) hen.2.1
        refine b30_41 (P := fun v' S3 => Fz QC [] S2 S3 ∧ TA y n (g' (0, en y n q.1.2)).1.2 S3 ∧ S3.1 11 3 = Int32.ofNat (g' (0, en y n q.1.2)).1.1 ∧ ((g' (0, en y n q.1.2)).1.1 = 0 → v' = mk (fun r => tb ins r && (g' (0, en y n q.1.2)).2.2 (eC ys) r) 20 ∧ S3.1 11 5 = bi ((a || q.2.1) || (g' (0, en y n q.1.2)).2.1))) (h (d + 2) 0 (en y n q.1.2) (a || q.2.1) S2 _ (by omega) hen.2.1 c2 ((c1.f (by decide)).trans (by rw [k3, q0]; rfl)) ((c1.f (by decide)).trans kv2) (hE.of f2 (by decide)) (fun v S3 e1 e2 e3 e4 => ⟨_, rfl, e1, e2, e3, e4⟩)) ?_
        rintro v' S3 ⟨e1, e2, e3, e4⟩
        refine b30_47 ?_
        rw [i_suc]
        refine ih (i + 1) ((g' (0, en y n q.1.2)).1, q.2.1 || (g' (0, en y n q.1.2)).2.1, fun e r => q.2.2 e r || (g' (0, en y n q.1.2)).2.2 e r) S3 _ (by omega) gq.1 (gq.2.2.2.1 (show 0 < 1000 by omega)) (f2.trans e1) e2 e3 (fun w0 => ?_) he
        obtain ⟨m1, m2⟩ := e4 w0
        refine ⟨?_, by rw [m2, Bool.or_assoc]⟩
        rw [kv1, m1]
        refine tb_ext (fun r _ => ?_)
        rw [tb_or, tb_mk _ (by omega), tb_mk _ (by omega), tb_mk _ (by omega)]
        show ((_ && (_ && q.2.2 (eC ys) r)) || (_ && (_ && (g' (0, en y n q.1.2)).2.2 (eC ys) r))) = (_ && (_ && (q.2.2 (eC ys) r || (g' (0, en y n q.1.2)).2.2 (eC ys) r)))
        generalize q.2.2 (eC ys) r = A
        generalize (g' (0, en y n q.1.2)).2.2 (eC ys) r = B
        generalize tb ins r = C
        generalize decide (r < 20) = E
        cases A <;> cases B <;> cases C <;> cases E <;> rfl
  exact loop 200 0 (g' (0, p)) S1 v (by omega) gz.1 (gz.2.2.2.1 (show 0 < 1000 by omega)) a1 a2 a3 a4 (eT (0, p)).symm
end CQUEST2
