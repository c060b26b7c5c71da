/-! QUESTIONS: the class, all -/
section CQUEST3
variable {m : Nat} {ins : Int32} {y : Nat → Int32} {n : Nat} {ev : Nat → Nat → Int32} {up : Nat → Int32} {ys : Int32}
theorem c32 : ∀ j, j ≤ 6 → CRd m ins y n ev up ys 32 (3 * j + 6) (6 - j) (fct ev y n j) := by
  intro j
  induction j with
  | zero =>
    intro _ dd b p a S Q hdd hp hT h3 h5 hE K
    obtain ⟨d, rfl⟩ := Nat.exists_eq_add_of_le' (show 5 ≤ dd by omega)
    have e0 : fct ev y n 0 (0, p) = if isWR y n (0, p) wNot = true ∨ isSR y n (0, p) 40 = true then ((3, p), false, fun _ _ => false) else (cmpR y n (0, p), cmpY y n (0, p), cmpV ev y n (0, p)) := rfl
    rw [isWR_good, isSR_good] at e0
    have deep : (isWl y n p wNot = true ∨ isS y n p 40 = true) → ∀ x2, Wp (d + 5) b 32 31 [.ref 11, .int (Int32.ofNat (6 - 0)), .int x2] [] S Q := by
      intro h x2
      rw [e0, if_pos h] at K
      refine b32_31 (fun q => absurd ((i_lt (a := 6) (b := 6) (by omega) (by omega)).1 q) (by omega)) (fun _ => b32_37 (P := fun v S2 => S2 = setI S 11 3 (Int32.ofNat 3)) (b29_0 ⟨_, rfl, rfl⟩) ?_)
      rintro v _ rfl
      have f2 : Fz [(11, 3)] [] S (setI S 11 3 (Int32.ofNat 3)) := Fz.refl.seti (by decide)
      exact b32_42 (K v _ (f2.mono (by decide) (by decide)) (hT.of f2 (by decide)) seti_same (fun w => absurd w (show ¬ 3 = 0 by omega)))
    refine b32_0 (c56 (w := wNot) hT hp (by decide) (by decide +kernel) (by decide)) ?_
    rintro _ _ ⟨rfl, rfl⟩
    refine b32_9 (fun q => deep (Or.inl (bi1.1 q)) _) (fun q => b32_14 (c55 hT) ?_)
    rintro _ _ ⟨rfl, rfl⟩
    refine b32_23 (fun q2 => deep (Or.inr (bi1.1 q2)) _) (fun q2 => ?_)
    rw [e0, bi0.1 (Classical.byContradiction q), bi0.1 (Classical.byContradiction q2), if_neg (by decide)] at K
    refine b32_26 (P := fun v S1 => Fz QC [] S S1 ∧ TA y n (cmpR y n (0, p)).2 S1 ∧ S1.1 11 3 = Int32.ofNat (cmpR y n (0, p)).1 ∧ ((cmpR y n (0, p)).1 = 0 → v = mk (fun r => tb ins r && cmpV ev y n (0, p) (eC ys) r) 20 ∧ S1.1 11 5 = bi (a || cmpY y n (0, p)))) (c33 hT hp h3 h5 hE (fun v S1 a1 a2 a3 a4 => ⟨_, rfl, a1, a2, a3, a4⟩)) ?_
    rintro v S1 ⟨a1, a2, a3, a4⟩
    exact b32_30 (K v S1 a1 a2 a3 a4)
  | succ j ih =>
    intro hj
    have ih := ih (by omega)
    have og := fct_okg (ev := ev) (y := y) (n := n) j
    have i0 := c31 og ih (by omega)
    have i1 := c30 og i0 (by omega)
    intro dd b p a S Q hdd hp hT h3 h5 hE K
    obtain ⟨d, rfl⟩ := Nat.exists_eq_add_of_le' (show 5 ≤ dd by omega)
    have he := en_le (y := y) hp
    have eo : Int32.ofNat (6 - (j + 1)) + 1 = Int32.ofNat (6 - j) := by rw [i_suc]; congr 1; omega
    have lt6 : Int32.ofNat (6 - (j + 1)) < 6 := (i_lt (b := 6) (by omega) (by omega)).2 (by omega)
    have ep : pasR y n (0, p) = (0, en y n p) := if_pos rfl
    refine b32_0 (c56 (w := wNot) hT hp (by decide) (by decide +kernel) (by decide)) ?_
    rintro _ _ ⟨rfl, rfl⟩
    refine b32_9 (fun q => ?_) (fun q => b32_14 (c55 hT) ?_)
    · have q := bi1.1 q
      have e : fct ev y n (j + 1) (0, p) = ((fct ev y n j (0, en y n p)).1, (fct ev y n j (0, en y n p)).2.1, fun e r => !(fct ev y n j (0, en y n p)).2.2 e r) := by
        show (if isWR y n (0, p) wNot = true then _ else _) = _
        rw [isWR_good, q, if_pos rfl, ep]
      rw [e] at K
      rw [q]
      refine b32_31 (fun _ => b32_43 (P := fun S1 => Fz TF [] S S1 ∧ TA y n (en y n p) S1) (c51 hT.1 he.2.1 hT.2.2.2.1 (fun S1 a1 a2 => ⟨rfl, a1, a2⟩)) ?_) (fun w => absurd lt6 w)
      rintro S1 ⟨a1, a2⟩
      have f1 : Fz QC [] S S1 := a1.mono (by decide) (by decide)
      refine b32_50 (fun w => absurd w (by decide)) (fun _ => b32_54 (P := fun v S2 => Fz QC [] S1 S2 ∧ TA y n (fct ev y n j (0, en y n p)).1.2 S2 ∧ S2.1 11 3 = Int32.ofNat (fct ev y n j (0, en y n p)).1.1 ∧ ((fct ev y n j (0, en y n p)).1.1 = 0 → v = mk (fun r => tb ins r && (fct ev y n j (0, en y n p)).2.2 (eC ys) r) 20 ∧ S2.1 11 5 = bi (a || (fct ev y n j (0, en y n p)).2.1))) (by
        rw [eo]
        exact ih _ 0 (en y n p) a S1 _ (by omega) he.2.1 a2 ((a1.f (by decide)).trans h3) ((a1.f (by decide)).trans h5) (hE.of f1 (by decide)) (fun v S2 c1 c2 c3 c4 => ⟨_, rfl, c1, c2, c3, c4⟩)) ?_)
      rintro v S2 ⟨c1, c2, c3, c4⟩
      have ei : S1.1 5 1 = ins := (a1.f (by decide)).trans hE.2.2.1
      rw [ei]
      refine b32_68 (K _ S2 (f1.trans c1) c2 c3 (fun w => ?_))
      obtain ⟨m1, m2⟩ := c4 w
      refine ⟨?_, m2⟩
      rw [m1]
      refine tb_ext (fun r hr => ?_)
      rw [tb_and, tb_not _ hr, tb_mk _ (by omega), tb_mk _ (by omega)]
      show (_ && !(_ && (_ && (fct ev y n j (0, en y n p)).2.2 (eC ys) r))) = (_ && (_ && !(fct ev y n j (0, en y n p)).2.2 (eC ys) r))
      have hl : tb ins r = true → decide (r < 20) = true := fun w => decide_eq_true (by have := hE.2.1 r w; have := hE.1; omega)
      revert hl
      generalize (fct ev y n j (0, en y n p)).2.2 (eC ys) r = A
      generalize tb ins r = C
      generalize decide (r < 20) = E
      intro hl
      cases A <;> cases C <;> cases E <;> first | rfl | (exact absurd (hl rfl) (by decide))
    rintro _ _ ⟨rfl, rfl⟩
    have q := bi0.1 (Classical.byContradiction q)
    refine b32_23 (fun q2 => ?_) (fun q2 => ?_)
    · have q2 := bi1.1 q2
      have e : fct ev y n (j + 1) (0, p) = (mustR y n (tstR y n (fct ev y n j) (0, en y n p)).1 41, (tstR y n (fct ev y n j) (0, en y n p)).2.1, (tstR y n (fct ev y n j) (0, en y n p)).2.2) := by
        show (if isWR y n (0, p) wNot = true then _ else if isSR y n (0, p) 40 = true then _ else _) = _
        rw [isWR_good, isSR_good, q, q2, if_neg Bool.false_ne_true, if_pos rfl, ep]
      rw [e] at K
      rw [q]
      refine b32_31 (fun _ => b32_43 (P := fun S1 => Fz TF [] S S1 ∧ TA y n (en y n p) S1) (c51 hT.1 he.2.1 hT.2.2.2.1 (fun S1 a1 a2 => ⟨rfl, a1, a2⟩)) ?_) (fun w => absurd lt6 w)
      rintro S1 ⟨a1, a2⟩
      have f1 : Fz QC [] S S1 := a1.mono (by decide) (by decide)
      have tk := tst_okg (y := y) og (0, en y n p) he.2.1
      refine b32_50 (fun _ => b32_72 (P := fun v S2 => Fz QC [] S1 S2 ∧ TA y n (tstR y n (fct ev y n j) (0, en y n p)).1.2 S2 ∧ S2.1 11 3 = Int32.ofNat (tstR y n (fct ev y n j) (0, en y n p)).1.1 ∧ ((tstR y n (fct ev y n j) (0, en y n p)).1.1 = 0 → v = mk (fun r => tb ins r && (tstR y n (fct ev y n j) (0, en y n p)).2.2 (eC ys) r) 20 ∧ S2.1 11 5 = bi (a || (tstR y n (fct ev y n j) (0, en y n p)).2.1))) (by
        rw [eo]
        exact i1 _ 0 (en y n p) a S1 _ (by omega) he.2.1 a2 ((a1.f (by decide)).trans h3) ((a1.f (by decide)).trans h5) (hE.of f1 (by decide)) (fun v S2 c1 c2 c3 c4 => ⟨_, rfl, c1, c2, c3, c4⟩)) ?_) (fun w => absurd rfl w)
      rintro v S2 ⟨c1, c2, c3, c4⟩
      generalize tstR y n (fct ev y n j) (0, en y n p) = q3 at *
      have lt3 : q3.1.1 < 1000 := tk.2.2.2.1 (show 0 < 1000 by omega)
      by_cases g0 : q3.1.1 = 0
      · have k3 : S2.1 11 3 = 0 := by rw [c3, g0]; rfl
        have eq : q3.1 = (0, q3.1.2) := Prod.ext g0 rfl
        have em : mustR y n q3.1 41 = if isS y n q3.1.2 41 = true then (0, en y n q3.1.2) else (1, q3.1.2) := by
          have := mustR_good (y := y) (n := n) (p := q3.1.2) (c := 41)
          rw [← eq] at this
          exact this
        rw [em] at K
        refine b32_79 (fun w => absurd k3 w) (fun _ => b32_87 (c55 c2) ?_)
        rintro _ _ ⟨rfl, rfl⟩
        refine b32_96 (fun w => b32_105 (fun u => absurd k3 u) (fun _ => ?_)) (fun w => b32_99 (P := fun v S3 => S3 = setI S2 11 3 (Int32.ofNat 1)) (b29_0 ⟨_, rfl, rfl⟩) ?_)
        · rw [bi1.1 w, if_pos rfl] at K
          have he2 := en_le (y := y) tk.1
          refine b32_112 (P := fun S3 => Fz TF [] S2 S3 ∧ TA y n (en y n q3.1.2) S3) (c51 c2.1 he2.2.1 c2.2.2.2.1 (fun S3 e1 e2 => ⟨rfl, e1, e2⟩)) ?_
          rintro S3 ⟨e1, e2⟩
          obtain ⟨m1, m2⟩ := c4 g0
          exact b32_119 (K v S3 ((f1.trans c1).trans (e1.mono (by decide) (by decide))) e2 ((e1.f (by decide)).trans k3) (fun _ => ⟨m1, (e1.f (by decide)).trans m2⟩))
        · rintro v' _ rfl
          rw [bi0.1 (Classical.byContradiction w), if_neg Bool.false_ne_true] at K
          have f3 : Fz [(11, 3)] [] S2 (setI S2 11 3 (Int32.ofNat 1)) := Fz.refl.seti (by decide)
          exact b32_104 (K v' _ ((f1.trans c1).trans (f3.mono (by decide) (by decide))) (c2.of f3 (by decide)) seti_same (fun w => absurd w (show ¬ 1 = 0 by omega)))
      · have k3 : ¬ S2.1 11 3 = 0 := fun w => g0 (by rw [c3] at w; exact (i_inj (b := 0) (by omega) (by omega)).1 w)
        rw [mustR_bad g0] at K
        exact b32_79 (fun _ => b32_105 (fun _ => b32_119 (K v S2 (f1.trans c1) c2 c3 (fun w => absurd w g0))) (fun w => absurd k3 w)) (fun w => absurd k3 w)
    · have q2 := bi0.1 (Classical.byContradiction q2)
      have e : fct ev y n (j + 1) (0, p) = (cmpR y n (0, p), cmpY y n (0, p), cmpV ev y n (0, p)) := by
        show (if isWR y n (0, p) wNot = true then _ else if isSR y n (0, p) 40 = true then _ else _) = _
        rw [isWR_good, isSR_good, q, q2, if_neg Bool.false_ne_true, if_neg Bool.false_ne_true]
      rw [e] at K
      refine b32_26 (P := fun v S1 => Fz QC [] S S1 ∧ TA y n (cmpR y n (0, p)).2 S1 ∧ S1.1 11 3 = Int32.ofNat (cmpR y n (0, p)).1 ∧ ((cmpR y n (0, p)).1 = 0 → v = mk (fun r => tb ins r && cmpV ev y n (0, p) (eC ys) r) 20 ∧ S1.1 11 5 = bi (a || cmpY y n (0, p)))) (c33 hT hp h3 h5 hE (fun v S1 a1 a2 a3 a4 => ⟨_, rfl, a1, a2, a3, a4⟩)) ?_
      rintro v S1 ⟨a1, a2, a3, a4⟩
      exact b32_30 (K v S1 a1 a2 a3 a4)
abbrev QC2 : List (Nat × Nat) := [(1, 1), (1, 2), (1, 3), (1, 4), (1, 5), (1, 6), (11, 3), (11, 4), (11, 5), (11, 6), (11, 7)]
theorem qst_ok : (qst ev y n).1.2 ≤ n ∧ (qst ev y n).1.1 < 1000 ∧ ((qst ev y n).2.1 = false → ∀ e e' r, (qst ev y n).2.2 e r = (qst ev y n).2.2 e' r) := by
  have h := tst_okg (y := y) (fct_okg (ev := ev) (y := y) (n := n) 6) (qHd y n) qHd_le
  exact ⟨h.1, h.2.2.2.1 qHd_lt, h.2.2.2.2⟩
theorem c27 {dd b : Nat} {S : St} {Q : Out → St → Prop} (hd : 40 ≤ dd) (hn : n ≤ 400) (hy : ∀ i, i < n → S.2.1 14 i &&& 255 = y i) (hE : CV m ins up ev ys (setI S 11 6 ys)) (K : ∀ S1, Fz QC2 [] S S1 → S1.1 1 1 = 0 → TA y n (qEnd ev y n).2 S1 → ((qEnd ev y n).1 = 0 → S1.1 11 4 = bi (isWl y n 0 wMany) ∧ S1.1 11 5 = bi (qst ev y n).2.1 ∧ S1.1 11 7 = mk (fun r => tb ins r && (qst ev y n).2.2 (eC ys) r) 20 ∧ (isWl y n 0 wMany = true ∨ isWl y n 0 wFirst = true)) → Q (.inl (some (.int (Int32.ofNat (qEnd ev y n).1)))) S1) : Wp dd b 27 0 [.ref 11, .int (Int32.ofNat n), .int ys] [] S Q := by
  obtain ⟨d, rfl⟩ := Nat.exists_eq_add_of_le' (show 3 ≤ dd by omega)
  refine b27_0 (P := fun S1 => Fz QC2 [] S S1 ∧ S1.1 1 1 = 0 ∧ TA y n 0 S1) (c50 hn hy (fun S1 a1 a2 a3 => ⟨rfl, a1.mono (by decide) (by decide), a2, a3⟩)) ?_
  rintro S1 ⟨a1, a2, a3⟩
  have f2 : Fz [(11, 3), (11, 5), (11, 6), (11, 7)] [] S1 (setI (setI (setI (setI S1 11 3 0) 11 7 0) 11 5 0) 11 6 ys) := (((Fz.refl.seti (by decide)).seti (by decide)).seti (by decide)).seti (by decide)
  have hT2 := a3.of f2 (by decide)
  have k3 : (setI (setI (setI (setI S1 11 3 0) 11 7 0) 11 5 0) 11 6 ys).1 11 3 = 0 := (seti_ne (by decide)).trans ((seti_ne (by decide)).trans ((seti_ne (by decide)).trans seti_same))
  have k5 : (setI (setI (setI (setI S1 11 3 0) 11 7 0) 11 5 0) 11 6 ys).1 11 5 = bi false := (seti_ne (by decide)).trans seti_same
  have k6 : (setI (setI (setI (setI S1 11 3 0) 11 7 0) 11 5 0) 11 6 ys).1 11 6 = ys := seti_same
  refine b27_8 (Or.inl rfl) (c56 (w := wMany) hT2 (Nat.zero_le _) (by decide) (by decide +kernel) (by decide)) ?_
  rintro _ _ ⟨rfl, rfl⟩
  generalize setI (setI (setI (setI S1 11 3 0) 11 7 0) 11 5 0) 11 6 ys = S2 at *
  have f3 : Fz [(11, 4)] [] S2 (setI S2 11 4 (bi (isWl y n 0 wMany))) := Fz.refl.seti (by decide)
  have hT3 := hT2.of f3 (by decide)
  have p3 : (setI S2 11 4 (bi (isWl y n 0 wMany))).1 11 3 = 0 := (seti_ne (by decide)).trans k3
  have p4 : (setI S2 11 4 (bi (isWl y n 0 wMany))).1 11 4 = bi (isWl y n 0 wMany) := seti_same
  have p5 : (setI S2 11 4 (bi (isWl y n 0 wMany))).1 11 5 = bi false := (seti_ne (by decide)).trans k5
  have p6 : (setI S2 11 4 (bi (isWl y n 0 wMany))).1 11 6 = ys := (seti_ne (by decide)).trans k6
  have F3 : Fz QC2 [] S (setI S2 11 4 (bi (isWl y n 0 wMany))) := a1.trans ((f2.mono (by decide) (by decide)).trans (f3.mono (by decide) (by decide)))
  have p11 : (setI S2 11 4 (bi (isWl y n 0 wMany))).1 1 1 = 0 := (f3.f (by decide)).trans ((f2.f (by decide)).trans a2)
  have hE3 : CV m ins up ev ys (setI S2 11 4 (bi (isWl y n 0 wMany))) := by
    obtain ⟨e1, e2, e3, e4, e5, e6, e7, e8, _⟩ := hE
    have ga : ∀ j i, (setI S2 11 4 (bi (isWl y n 0 wMany))).2.1 j i = S.2.1 j i := fun j i => F3.a (by simp) i
    refine ⟨e1, e2, (F3.f (by decide)).trans e3, fun r k hr hk => (ga _ _).trans (e4 r k hr hk), fun r hr => ?_, fun r hr => ⟨(ga _ _).trans (e6 r hr).1, (e6 r hr).2⟩, fun r hr => (ga _ _).trans (e7 r hr), e8, p6⟩
    have : (setI S2 11 4 (bi (isWl y n 0 wMany))).2.1 15 = S.2.1 15 := funext (fun i => ga 15 i)
    rw [this]
    exact e5 r hr
  have hh : ∀ x, (x = bi (isWl y n 0 wMany)) → (x = 0 ∨ x = 1) := fun x e => by rw [e]; exact bi01 _
  generalize hS3 : setI S2 11 4 (bi (isWl y n 0 wMany)) = S3 at *
  have body : (isWl y n 0 wMany = true ∨ isWl y n 0 wFirst = true) → Wp (d + 3) b 27 62 [.ref 11, .int (Int32.ofNat n), .int ys] [] S3 Q := by
    intro any
    have eH : qHd y n = (0, en y n 0) := by
      unfold qHd
      rw [if_pos any]
      exact if_pos rfl
    have he := en_le (y := y) (n := n) (p := 0) (Nat.zero_le _)
    refine b27_62 (P := fun S4 => Fz TF [] S3 S4 ∧ TA y n (en y n 0) S4) (c51 hT3.1 he.2.1 hT3.2.2.2.1 (fun S4 c1 c2 => ⟨rfl, c1, c2⟩)) ?_
    rintro S4 ⟨c1, c2⟩
    have i0 := c31 (fct_okg 6) (c32 (m := m) (ins := ins) (y := y) (n := n) (ev := ev) (up := up) (ys := ys) 6 (by omega)) (by omega)
    have i1 := c30 (fct_okg 6) i0 (by omega)
    have eq : tstR y n (fct ev y n 6) (0, en y n 0) = qst ev y n := by unfold qst; rw [eH]
    have F4 : Fz QC2 [] S S4 := F3.trans (c1.mono (by decide) (by decide))
    refine b27_69 (P := fun v S5 => Fz QC [] S4 S5 ∧ TA y n (qst ev y n).1.2 S5 ∧ S5.1 11 3 = Int32.ofNat (qst ev y n).1.1 ∧ ((qst ev y n).1.1 = 0 → v = mk (fun r => tb ins r && (qst ev y n).2.2 (eC ys) r) 20 ∧ S5.1 11 5 = bi (qst ev y n).2.1)) (i1 _ 0 (en y n 0) false S4 _ (by omega) he.2.1 c2 ((c1.f (by decide)).trans p3) ((c1.f (by decide)).trans p5) (hE3.of c1 (by decide)) (fun v S5 e1 e2 e3 e4 => by
      rw [eq] at e2 e3 e4
      rw [Bool.false_or] at e4
      exact ⟨_, rfl, e1, e2, e3, e4⟩)) ?_
    rintro v S5 ⟨e1, e2, e3, e4⟩
    have lt := (qst_ok (ev := ev) (y := y) (n := n)).2.1
    have f6 : Fz [(11, 7)] [] S5 (setI S5 11 7 v) := Fz.refl.seti (by decide)
    have F6 : Fz QC2 [] S (setI S5 11 7 v) := F4.trans ((e1.mono (by decide) (by decide)).trans (f6.mono (by decide) (by decide)))
    have hT6 := e2.of f6 (by decide)
    have r11 : (setI S5 11 7 v).1 1 1 = 0 := (f6.f (by decide)).trans ((e1.f (by decide)).trans ((c1.f (by decide)).trans p11))
    have r4 : (setI S5 11 7 v).1 11 4 = bi (isWl y n 0 wMany) := (f6.f (by decide)).trans ((e1.f (by decide)).trans ((c1.f (by decide)).trans p4))
    have r3 : (setI S5 11 7 v).1 11 3 = Int32.ofNat (qst ev y n).1.1 := (f6.f (by decide)).trans e3
    have r7 : (setI S5 11 7 v).1 11 7 = v := seti_same
    have r5 : (setI S5 11 7 v).1 11 5 = S5.1 11 5 := seti_ne (by decide)
    by_cases g0 : (qst ev y n).1.1 = 0
    · obtain ⟨m1, m2⟩ := e4 g0
      refine b27_75 (fun w => absurd (by rw [r3, g0]; rfl) w) (fun _ => b27_85 (c53 hT6) ?_)
      rintro _ _ ⟨rfl, rfl⟩
      refine b27_92 (fun w => b27_101 ?_) (fun w => b27_95 (P := fun v' S7 => S7 = setI (setI S5 11 7 v) 11 3 (Int32.ofNat 1)) (b29_0 ⟨_, rfl, rfl⟩) ?_)
      · have k0 := of_decide_eq_true (bi1.1 w)
        have eE : qEnd ev y n = (qst ev y n).1 := by unfold qEnd; rw [if_neg (fun w => w.2 k0)]
        rw [r3]
        rw [eE] at K
        exact K _ F6 r11 hT6 (fun _ => ⟨r4, r5.trans m2, r7.trans m1, any⟩)
      · rintro v' _ rfl
        have k0 := of_decide_eq_false (bi0.1 (Classical.byContradiction w))
        have eE : qEnd ev y n = (1, (qst ev y n).1.2) := by unfold qEnd; rw [if_pos ⟨g0, k0⟩]
        have f7 : Fz [(11, 3)] [] (setI S5 11 7 v) (setI (setI S5 11 7 v) 11 3 (Int32.ofNat 1)) := Fz.refl.seti (by decide)
        refine b27_100 (b27_101 ?_)
        rw [seti_same]
        rw [eE] at K
        exact K _ (F6.trans (f7.mono (by decide) (by decide))) ((f7.f (by decide)).trans r11) (hT6.of f7 (by decide)) (fun w => absurd w (show ¬ 1 = 0 by omega))
    · have eE : qEnd ev y n = (qst ev y n).1 := by unfold qEnd; rw [if_neg (fun w => g0 w.1)]
      refine b27_75 (fun _ => b27_101 ?_) (fun w => absurd (fun z => g0 (by rw [r3] at z; exact (i_inj (b := 0) (by omega) (by omega)).1 z)) w)
      rw [r3]
      rw [eE] at K
      exact K _ F6 r11 hT6 (fun w => absurd w g0)
  refine b27_38 (bi01 _) (fun w => ?_) (fun w => ?_)
  · rw [hS3] at w ⊢
    rw [p4] at w
    exact body (Or.inl (bi1.1 w))
  · rw [hS3] at w ⊢
    rw [p4] at w
    have q1 := bi0.1 (Classical.byContradiction w)
    refine b27_48 (c56 (w := wFirst) hT3 (Nat.zero_le _) (by decide) (by decide +kernel) (by decide)) ?_
    rintro _ _ ⟨rfl, rfl⟩
    refine b27_57 (fun z => body (Or.inr (bi1.1 z))) (fun z => b27_60 ?_)
    have q2 := bi0.1 (Classical.byContradiction z)
    have eH : qHd y n = (1, 0) := by
      unfold qHd
      rw [q1, q2, if_neg (by decide)]
      exact if_neg (show ¬ 1 = 0 by omega)
    have eq : (qst ev y n).1 = (1, 0) := by
      have h := (tst_okg (y := y) (fct_okg (ev := ev) (y := y) (n := n) 6) (qHd y n) qHd_le).2.1 (by rw [eH]; exact (show ¬ 1 = 0 by omega))
      rw [eH] at h
      unfold qst
      rw [eH]
      exact h
    have eE : qEnd ev y n = (1, 0) := by
      unfold qEnd
      rw [eq, if_neg (fun w => absurd w.1 (show ¬ 1 = 0 by omega))]
    rw [eE] at K
    exact K S3 F3 p11 hT3 (fun w => absurd w (show ¬ 1 = 0 by omega))
theorem c28 {d b : Nat} {p : Nat → Bool} {mn : Bool} {S : St} (h4 : S.1 11 4 = bi mn) (h7 : S.1 11 7 = mk p 20) : Wp (d + 2) b 28 0 [.ref 11] [] S (Ri (fun v S1 => S = S1 ∧ (mn = true → v = Int32.ofNat (cnt p 20)) ∧ (mn = false → LeastR p 20 v))) := by
  have hl : Low 20 (mk p 20) := low_mk p (by omega)
  have ec : pcn (mk p 20) = cnt p 20 := by
    rw [pcn_low hl (by omega)]
    exact cnt_congr (fun k hk => by rw [tb_mk _ (by omega), decide_eq_true hk, Bool.true_and])
  refine b28_0 (fun q => ?_) (fun q => b28_7 (s0 _) ?_)
  · have e := bi0.1 (h4 ▸ q)
    refine b28_15 (fun z => ?_) (fun z => b28_22 (b28_33 ⟨_, rfl, rfl, (fun w => by rw [e] at w; cases w), fun _ => Or.inl ⟨rfl, fun r hr => ?_⟩⟩))
    · rw [h7] at z
      obtain ⟨l, l32, h1, h2⟩ := least_ex z
      refine b28_26 (P := Vx (Int32.ofNat l) S) (by rw [h7]; exact s148l h1 h2) ?_
      rintro _ _ ⟨rfl, rfl⟩
      have l20 := hl l h1
      rw [tb_mk _ (by omega), decide_eq_true l20, Bool.true_and] at h1
      refine b28_33 ⟨_, rfl, rfl, (fun w => by rw [e] at w; cases w), fun _ => Or.inr ⟨l, l20, h1, fun r hr => ?_, rfl⟩⟩
      have := h2 r hr
      rw [tb_mk _ (by omega), decide_eq_true (by omega), Bool.true_and] at this
      exact this
    · have z := Classical.byContradiction z
      rw [h7] at z
      have : tb (mk p 20) r = false := by rw [z, tb_zero]
      rw [tb_mk _ (by omega), decide_eq_true hr, Bool.true_and] at this
      exact this
  · rintro _ _ ⟨rfl, rfl⟩
    have e := bi1.1 (h4 ▸ q)
    refine b28_14 ⟨_, rfl, rfl, fun _ => ?_, (fun w => by rw [e] at w; cases w)⟩
    rw [h7, ec]
end CQUEST3
