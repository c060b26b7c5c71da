/-! RAYS READ: the class, all -/
section CREAD2
variable {b D : Nat} {y : Nat → Int32} {n : Nat}
theorem mustR_good {p : Nat} {c : Int32} : mustR y n (0, p) c = if isS y n p c = true then (0, en y n p) else (1, p) := by
  unfold mustR
  rw [isSR_good]
  by_cases h : isS y n p c = true
  · rw [if_pos h, if_pos h]
    exact if_pos rfl
  · rw [if_neg h, if_neg h]
    unfold wrgR
    rw [if_pos rfl]
    exact if_neg (show ¬ 1 = 0 by omega)
theorem c59 {d : Nat} {S : St} {Q : Out → St → Prop} (hT : TA y n 0 S) (K : ∀ S1, Fz [(1, 3), (1, 4), (1, 5), (1, 6), (3, 0), (3, 1)] [] S S1 → TA y n (hdR y n).2 S1 → ((hdR y n).1 = 0 → S1.1 3 0 = Int32.ofNat (DN y n) ∧ S1.1 3 1 = 0) → Q (.inl (some (.int (Int32.ofNat (hdR y n).1)))) S1) : Wp (d + 2) b 59 0 [.ref 4] [] S Q := by
  have hp : 0 ≤ n := Nat.zero_le _
  refine b59_0 (c56 (w := wSides) hT hp (by decide) (by decide +kernel) (by decide)) ?_
  rintro _ _ ⟨rfl, rfl⟩
  refine b59_9 (fun q => ?_) (fun q => b59_12 ?_)
  rotate_left
  · have q := bi0.1 (Classical.byContradiction q)
    have e1 : hd1 y n = (1, 0) := by
      unfold hd1
      rw [isWR_good, q, if_neg Bool.false_ne_true]
      rfl
    have e : hdR y n = (1, 0) := by
      unfold hdR
      rw [e1]
      have : numR y n 3 4 (1, 0) = (1, 0) := by
        unfold numR
        rw [if_neg (show ¬ 1 = 0 by omega)]
        exact if_neg (show ¬ 1 = 0 by omega)
      rw [this, mustR_bad (show ¬ 1 = 0 by omega)]
    rw [e] at K
    exact K S Fz.refl hT (fun w => absurd w (show ¬ 1 = 0 by omega))
  have q := bi1.1 q
  have e1 : hd1 y n = (0, en y n 0) := by
    unfold hd1
    rw [isWR_good, q, if_pos rfl]
    rfl
  have he := en_le (y := y) hp
  refine b59_14 (P := fun S1 => Fz TF [] S S1 ∧ TA y n (en y n 0) S1) (c51 hT.1 he.2.1 hT.2.2.2.1 (fun S1 a1 a2 => ⟨rfl, a1, a2⟩)) ?_
  rintro S1 ⟨a1, a2⟩
  have eR : hdR y n = mustR y n (numR y n 3 4 (0, en y n 0)) 59 := by unfold hdR; rw [e1]
  rw [eR] at K
  rw [numR_good] at K
  refine b59_21 (c54 a2) ?_
  rintro _ _ ⟨rfl, rfl⟩
  refine b59_28 (fun z => ?_) (fun z => b59_31 ?_)
  rotate_left
  · have k2 := of_decide_eq_false (bi0.1 (Classical.byContradiction z))
    rw [if_neg k2, mustR_bad (show ¬ 1 = 0 by omega)] at K
    exact K S1 (a1.mono (by decide) (by decide)) a2 (fun w => absurd w (show ¬ 1 = 0 by omega))
  have k2 := of_decide_eq_true (bi1.1 z)
  rw [if_pos k2] at K
  have e6 : S1.1 1 6 = nv y n (en y n 0) := a2.2.2.2.2 k2
  have eD : hdD y n = nv y n (en y n 0) := by
    unfold hdD
    rw [e1, numV_good k2]
  have good : ((3 : Int32) ≤ nv y n (en y n 0) ∧ nv y n (en y n 0) ≤ 4) → Wp (d + 2) b 59 57 [.ref 4] [] S1 Q := by
    intro hb
    rw [if_pos hb] at K
    rw [mustR_good] at K
    refine b59_57 (P := fun S2 => S2 = setI (setI S1 3 0 (S1.1 1 6)) 3 1 0) (b69_0 ⟨rfl, rfl⟩) ?_
    rintro _ rfl
    have f1 : Fz [(3, 0), (3, 1)] [] S1 (setI (setI S1 3 0 (S1.1 1 6)) 3 1 0) := (Fz.refl.seti (by decide)).seti (by decide)
    have e30 : (setI (setI S1 3 0 (S1.1 1 6)) 3 1 0).1 3 0 = Int32.ofNat (DN y n) := (seti_ne (by decide)).trans (seti_same.trans (by rw [e6, ← eD]; exact hdD_of))
    have e31 : (setI (setI S1 3 0 (S1.1 1 6)) 3 1 0).1 3 1 = 0 := seti_same
    have hT2 := a2.of f1 (by decide)
    generalize setI (setI S1 3 0 (S1.1 1 6)) 3 1 0 = S2 at *
    have he2 := en_le (y := y) he.2.1
    have f2 : Fz [(1, 3), (1, 4), (1, 5), (1, 6), (3, 0), (3, 1)] [] S S2 := (a1.mono (by decide) (by decide)).trans (f1.mono (by decide) (by decide))
    refine b59_71 (P := fun S3 => Fz TF [] S2 S3 ∧ TA y n (en y n (en y n 0)) S3) (c51 hT2.1 he2.2.1 hT2.2.2.2.1 (fun S3 b1 b2 => ⟨rfl, b1, b2⟩)) ?_
    rintro S3 ⟨b1, b2⟩
    have f3 : Fz [(1, 3), (1, 4), (1, 5), (1, 6), (3, 0), (3, 1)] [] S S3 := f2.trans (b1.mono (by decide) (by decide))
    refine b59_78 (c55 b2) ?_
    rintro _ _ ⟨rfl, rfl⟩
    refine b59_87 (fun z => ?_) (fun z => b59_90 ?_)
    rotate_left
    · rw [bi0.1 (Classical.byContradiction z), if_neg Bool.false_ne_true] at K
      exact K S3 f3 b2 (fun w => absurd w (show ¬ 1 = 0 by omega))
    rw [bi1.1 z, if_pos rfl] at K
    have he3 := en_le (y := y) he2.2.1
    refine b59_92 (P := fun S4 => Fz TF [] S3 S4 ∧ TA y n (en y n (en y n (en y n 0))) S4) (c51 b2.1 he3.2.1 b2.2.2.2.1 (fun S4 c1 c2 => ⟨rfl, c1, c2⟩)) ?_
    rintro S4 ⟨c1, c2⟩
    exact b59_99 (K S4 (f3.trans (c1.mono (by decide) (by decide))) c2 (fun _ => ⟨(c1.f (by decide)).trans ((b1.f (by decide)).trans e30), (c1.f (by decide)).trans ((b1.f (by decide)).trans e31)⟩))
  refine b59_33 (fun z => good ?_) (fun z => b59_44 (fun w => good ?_) (fun w => b59_55 ?_))
  · rw [e6] at z
    rw [z]
    exact ⟨by decide, by decide⟩
  · rw [e6] at w
    rw [w]
    exact ⟨by decide, by decide⟩
  · rw [e6] at z w
    have nb : ¬ ((3 : Int32) ≤ nv y n (en y n 0) ∧ nv y n (en y n 0) ≤ 4) := fun hb => by
      have b1 := Int32.le_iff_toInt_le.1 hb.1
      have b2 := Int32.le_iff_toInt_le.1 hb.2
      have e3 : (3 : Int32).toInt = 3 := by decide
      have e4 : (4 : Int32).toInt = 4 := by decide
      have : (nv y n (en y n 0)).toInt = 3 ∨ (nv y n (en y n 0)).toInt = 4 := by omega
      rcases this with h | h
      · exact z (ti_ext (h.trans e3.symm))
      · exact w (ti_ext (h.trans e4.symm))
    rw [if_neg nb, mustR_bad (show ¬ 2 = 0 by omega)] at K
    exact K S1 (a1.mono (by decide) (by decide)) a2 (fun w => absurd w (show ¬ 2 = 0 by omega))
theorem pasR_lt {r : Nat × Nat} (h : r.1 < 1000) : (pasR y n r).1 < 1000 := by
  unfold pasR
  split
  · exact (show 0 < 1000 by omega)
  · exact h
theorem wrgR_lt {r : Nat × Nat} {k : Nat} (hk : k < 1000) (h : r.1 < 1000) : (wrgR k r).1 < 1000 := by
  unfold wrgR
  split
  · exact hk
  · exact h
theorem numR_lt {r : Nat × Nat} {lo hi : Int32} (h : r.1 < 1000) : (numR y n lo hi r).1 < 1000 := by
  unfold numR
  refine pasR_lt ?_
  split
  · split
    · split
      · exact h
      · exact (show 2 < 1000 by omega)
    · exact (show 1 < 1000 by omega)
  · exact h
theorem mustR_lt {x : Nat × Nat} {c : Int32} (h : x.1 < 1000) : (mustR y n x c).1 < 1000 := by
  by_cases h0 : x.1 = 0
  · have e : x = (0, x.2) := Prod.ext h0 rfl
    rw [e, mustR_good]
    split
    · exact (show 0 < 1000 by omega)
    · exact (show 1 < 1000 by omega)
  · rw [mustR_bad h0]
    exact h
theorem sgR_lt {r : Nat × Nat} {hi : Int32} (h : r.1 < 1000) : (sgR y n hi r).1 < 1000 := by
  unfold sgR
  refine numR_lt ?_
  split
  · exact pasR_lt h
  · exact h
theorem sdR_lt {a : Nat × Nat} (h : a.1 < 1000) (j : Nat) : (sdR y n a j).1 < 1000 := by
  induction j with
  | zero => exact h
  | succ j ih => exact sgR_lt ih
theorem rayA_lt {q : Nat × Nat} {c : Nat} (h : q.1 < 1000) : (rayA y n q c).1 < 1000 := by
  unfold rayA
  refine pasR_lt ?_
  split
  · split
    · exact (show 4 < 1000 by omega)
    · exact h
  · exact wrgR_lt (by omega) h
theorem rq_lt {q : Nat × Nat} (h : q.1 < 1000) (r : Nat) : (rq y n D q r).1.1 < 1000 := by
  induction r with
  | zero => exact h
  | succ r ih =>
    show (rayZ y n D _ r (rayA y n (rq y n D q r).1 r)).1 < 1000
    unfold rayZ
    refine mustR_lt ?_
    split
    · exact (show 3 < 1000 by omega)
    · exact sdR_lt (rayA_lt ih) D
theorem hdR_lt : (hdR y n).1 < 1000 := by
  unfold hdR
  refine mustR_lt (numR_lt ?_)
  unfold hd1
  refine pasR_lt ?_
  split
  · exact (show 0 < 1000 by omega)
  · exact wrgR_lt (by omega) (show 0 < 1000 by omega)
abbrev TF3 : List (Nat × Nat) := [(1, 1), (1, 2), (1, 3), (1, 4), (1, 5), (1, 6), (3, 0), (3, 1)]
theorem c58 {d : Nat} {S : St} {Q : Out → St → Prop} (hn : n ≤ 400) (hy : ∀ i, i < n → S.2.1 14 i &&& 255 = y i) (K : ∀ R S1, IsR y n (DN y n) (hdR y n) R → Fz TF3 [19, 20, 21, 22] S S1 → S1.1 1 1 = 0 → TA y n (rq y n (DN y n) (hdR y n) R).1.2 S1 → ((rq y n (DN y n) (hdR y n) R).1.1 = 0 → R ≤ 20 ∧ RWd (DN y n) R (rq y n (DN y n) (hdR y n) R).2 ∧ Dft (DN y n) R (rq y n (DN y n) (hdR y n) R).2 S1) → Q (.inl (some (.int (Int32.ofNat (rq y n (DN y n) (hdR y n) R).1.1)))) S1) : Wp (d + 6) b 58 0 [.ref 4, .int (Int32.ofNat n)] [] S Q := by
  refine b58_0 (P := fun S1 => Fz TF3 [19, 20, 21, 22] S S1 ∧ S1.1 1 1 = 0 ∧ TA y n 0 S1) (c50 hn hy (fun S1 a1 a2 a3 => ⟨rfl, a1.mono (by decide) (by decide), a2, a3⟩)) ?_
  rintro S1 ⟨a1, a2, a3⟩
  refine b58_8 (P := fun v S2 => v = Int32.ofNat (hdR y n).1 ∧ Fz TF3 [19, 20, 21, 22] S S2 ∧ S2.1 1 1 = 0 ∧ TA y n (hdR y n).2 S2 ∧ ((hdR y n).1 = 0 → S2.1 3 0 = Int32.ofNat (DN y n) ∧ S2.1 3 1 = 0)) (c59 a3 (fun S2 b1 b2 b3 => ⟨_, rfl, rfl, a1.trans (b1.mono (by decide) (by decide)), (b1.f (by decide)).trans a2, b2, b3⟩)) ?_
  rintro _ S2 ⟨rfl, b1, b2, b3, b4⟩
  refine b58_12 ?_
  have loop : ∀ j r S', r + j = 21 → (∀ r', r' < r → (rq y n (DN y n) (hdR y n) r').1.1 = 0 ∧ ¬ kd y n (rq y n (DN y n) (hdR y n) r').1.2 = 0) → Fz TF3 [19, 20, 21, 22] S S' → S'.1 1 1 = 0 → TA y n (rq y n (DN y n) (hdR y n) r).1.2 S' → ((rq y n (DN y n) (hdR y n) r).1.1 = 0 → (DN y n = 3 ∨ DN y n = 4) ∧ r ≤ 20 ∧ RWd (DN y n) r (rq y n (DN y n) (hdR y n) r).2 ∧ Dft (DN y n) r (rq y n (DN y n) (hdR y n) r).2 S') → Wp (d + 6) b 58 15 [.ref 4, .int (Int32.ofNat n), .int (Int32.ofNat (rq y n (DN y n) (hdR y n) r).1.1), .int (Int32.ofNat r)] [] S' Q := by
    intro j
    induction j with
    | zero =>
      intro r S' hr hbef hF h11 hT hg
      have hb : ¬ (rq y n (DN y n) (hdR y n) r).1.1 = 0 := fun w => by
        have := (hg w).2.1
        omega
      exact b58_15 (fun _ => b58_47 (K r S' ⟨hbef, Or.inl hb⟩ hF h11 hT (fun w => absurd w hb))) (fun q => absurd ((i_lt (a := 20) (by omega) (by omega)).2 (by omega)) q)
    | succ j ih =>
      intro r S' hr hbef hF h11 hT hg
      have hlt := rq_lt (y := y) (n := n) (D := DN y n) (hdR_lt (y := y) (n := n)) r
      have fin : (¬ (rq y n (DN y n) (hdR y n) r).1.1 = 0 ∨ kd y n (rq y n (DN y n) (hdR y n) r).1.2 = 0) → Wp (d + 6) b 58 47 [.ref 4, .int (Int32.ofNat n), .int (Int32.ofNat (rq y n (DN y n) (hdR y n) r).1.1), .int (Int32.ofNat r)] [] S' Q := fun w => b58_47 (K r S' ⟨hbef, w⟩ hF h11 hT (fun v => (hg v).2))
      refine b58_15 (fun q => ?_) (fun _ => b58_21 (fun q => fin (Or.inl (fun w => q (by rw [w]; rfl)))) (fun q => b58_25 (c53 hT) ?_))
      · have := (i_lt (a := 20) (by omega) (by omega)).1 q
        omega
      rintro _ _ ⟨rfl, rfl⟩
      have z0 := (i_inj (b := 0) (by omega) (by omega)).1 (Classical.byContradiction q)
      refine b58_32 (fun w => fin (Or.inr (of_decide_eq_true (bi1.1 w)))) (fun w => ?_)
      have k0 := of_decide_eq_false (bi0.1 (Classical.byContradiction w))
      obtain ⟨hD, hr20, hRW, hDf⟩ := hg z0
      have es : stepR y n (DN y n) r ((0, (rq y n (DN y n) (hdR y n) r).1.2), (rq y n (DN y n) (hdR y n) r).2) = rq y n (DN y n) (hdR y n) (r + 1) := by
        have : ((0, (rq y n (DN y n) (hdR y n) r).1.2) : Nat × Nat) = (rq y n (DN y n) (hdR y n) r).1 := Prod.ext z0.symm rfl
        rw [this]
        rfl
      refine b58_35 (P := fun v S3 => v = Int32.ofNat (rq y n (DN y n) (hdR y n) (r + 1)).1.1 ∧ Fz TF2 [19, 20, 21, 22] S' S3 ∧ TA y n (rq y n (DN y n) (hdR y n) (r + 1)).1.2 S3 ∧ ((rq y n (DN y n) (hdR y n) (r + 1)).1.1 = 0 → Dft (DN y n) (r + 1) (rq y n (DN y n) (hdR y n) (r + 1)).2 S3)) (c60 hD hT (rq_le hdR_le r) hDf hr20 hRW (fun S3 c1 c2 c3 => by rw [es] at c2 c3 ⊢; exact ⟨_, rfl, rfl, c1, c2, c3⟩)) ?_
      rintro _ S3 ⟨rfl, c1, c2, c3⟩
      refine b58_40 ?_
      rw [i_suc]
      refine ih (r + 1) S3 (by omega) (fun r' hr' => ?_) (hF.trans (c1.mono (by decide) (by decide))) ((c1.f (by decide)).trans h11) c2 (fun w' => ?_)
      · by_cases e : r' = r
        · rw [e]; exact ⟨z0, k0⟩
        · exact hbef r' (by omega)
      · have := rq_20 w'
        exact ⟨hD, by omega, rwd_step hD (rq_le hdR_le r) hRW w', c3 w'⟩
  exact loop 21 0 S2 (by omega) (fun r' hr' => absurd hr' (Nat.not_lt_zero _)) b1 b2 b3 (fun w => ⟨hd_D w, by omega, ⟨fun r hr => absurd hr (Nat.not_lt_zero _), fun r o hr => absurd hr (Nat.not_lt_zero _)⟩, (b4 w).1, (b4 w).2, fun o k ho => absurd ho (Nat.not_lt_zero _), fun o ho => absurd ho (Nat.not_lt_zero _), fun o ho => absurd ho (Nat.not_lt_zero _)⟩)
end CREAD2
