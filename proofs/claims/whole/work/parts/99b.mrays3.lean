/-! RAYS READ: the reference, all -/
section MRAYS3
variable {b D : Nat} {y : Nat → Int32} {n : Nat}
def hd1 (y : Nat → Int32) (n : Nat) : Nat × Nat := pasR y n (if isWR y n (0, 0) wSides = true then (0, 0) else wrgR 1 (0, 0))
def hdD (y : Nat → Int32) (n : Nat) : Int32 := numV y n (hd1 y n)
def hdR (y : Nat → Int32) (n : Nat) : Nat × Nat := mustR y n (numR y n 3 4 (hd1 y n)) 59
def DN (y : Nat → Int32) (n : Nat) : Nat := (hdD y n).toNatClampNeg
theorem hd1_le : (hd1 y n).2 ≤ n := by
  unfold hd1
  refine pasR_le ?_
  split
  · exact Nat.zero_le _
  · exact wrgR_le (Nat.zero_le _)
theorem hdR_le : (hdR y n).2 ≤ n := mustR_le (numR_le hd1_le)
theorem hdD_of : hdD y n = Int32.ofNat (DN y n) := i_of (fun q => by
  have := (numV_b (y := y) (n := n) (r := hd1 y n) hd1_le).1
  have q := Int32.lt_iff_toInt_lt.1 q
  have e0 : (0 : Int32).toInt = 0 := by decide
  have : 0 ≤ (hdD y n).toInt := this
  omega)
theorem hd_D (h : (hdR y n).1 = 0) : DN y n = 3 ∨ DN y n = 4 := by
  unfold hdR at h
  obtain ⟨h1, _, _⟩ := must_good h
  have hD := hdD_of (y := y) (n := n)
  unfold numR pasR at h1
  by_cases h0 : (hd1 y n).1 = 0
  · rw [if_pos h0] at h1
    by_cases k2 : kd y n (hd1 y n).2 = 2
    · rw [if_pos k2] at h1
      by_cases hb : (3 : Int32) ≤ nv y n (hd1 y n).2 ∧ nv y n (hd1 y n).2 ≤ 4
      · have e : hdD y n = nv y n (hd1 y n).2 := by
          show numV y n (hd1 y n) = _
          unfold numV
          rw [if_pos ⟨h0, k2⟩]
        have b1 := Int32.le_iff_toInt_le.1 hb.1
        have b2 := Int32.le_iff_toInt_le.1 hb.2
        rw [← e] at b1 b2
        have e3 : (3 : Int32).toInt = 3 := by decide
        have e4 : (4 : Int32).toInt = 4 := by decide
        unfold DN Int32.toNatClampNeg
        omega
      · rw [if_neg hb] at h1
        cases h1
    · rw [if_neg k2] at h1
      cases h1
  · rw [if_neg h0, if_neg h0] at h1
    exact absurd h1 h0
/-- how many rays there are before the end, or a fault -/
def IsR (y : Nat → Int32) (n D : Nat) (q : Nat × Nat) (R : Nat) : Prop := (∀ r, r < R → (rq y n D q r).1.1 = 0 ∧ ¬ kd y n (rq y n D q r).1.2 = 0) ∧ (¬ (rq y n D q R).1.1 = 0 ∨ kd y n (rq y n D q R).1.2 = 0)
theorem IsR.uniq {q : Nat × Nat} {R R' : Nat} (h : IsR y n D q R) (h2 : IsR y n D q R') : R = R' := by
  rcases Nat.lt_trichotomy R R' with l | l | l
  · have := h2.1 R l
    rcases h.2 with w | w
    · exact absurd this.1 w
    · exact absurd w this.2
  · exact l
  · have := h.1 R' l
    rcases h2.2 with w | w
    · exact absurd this.1 w
    · exact absurd w this.2
theorem rq_20 {q : Nat × Nat} {r : Nat} (h : (rq y n D q (r + 1)).1.1 = 0) : ¬ r = 20 := by
  have h : (rayZ y n D _ r (rayA y n (rq y n D q r).1 r)).1 = 0 := h
  exact (rayA_good (sdR_back (j := 0) D (by rw [Nat.zero_add]; exact (rayZ_good h).1))).2.2.1
abbrev RF3 : List (Nat × Nat) := [(46, 4), (46, 43), (46, 44), (46, 45), (46, 46), (46, 47), (46, 48), (46, 49), (46, 50), (46, 51), (46, 52), (46, 53), (46, 54)]
abbrev RF4 : List (Nat × Nat) := [(46, 0), (46, 1), (46, 2), (46, 3), (46, 4), (46, 9), (46, 10), (46, 11), (46, 40), (46, 43), (46, 44), (46, 45), (46, 46), (46, 47), (46, 48), (46, 49), (46, 50), (46, 51), (46, 52), (46, 53), (46, 54)]
theorem w253 {d m0 : Nat} {x : Int32} {S : St} {Q : Out → St → Prop} (hm : S.1 46 43 = Int32.ofNat m0) (hm4 : m0 ≤ 400) (hy : ∀ i, i < m0 → S.2.1 64 i = y i ∧ ¬ y i = -1)
    (K1 : ¬ (¬ x < 0 ∧ x.toNatClampNeg ≤ m0) → ∀ v S1, Fz [(46, 4)] [] S S1 → S1.1 46 4 = 1 → Q (.inl (some (.int v))) S1)
    (K2 : ∀ n R S1, x = Int32.ofNat n → n ≤ m0 → IsR y n (DN y n) (hdR y n) R → ¬ (rq y n (DN y n) (hdR y n) R).1.1 = 0 → Fz RF3 [65] S S1 → S1.1 46 4 = 0 → S1.1 46 43 = 0 → S1.1 46 51 = Int32.ofNat (bg y n (rq y n (DN y n) (hdR y n) R).1.2) → Q (.inl (some (.int ((-10 : Int32) - Int32.ofNat (rq y n (DN y n) (hdR y n) R).1.1)))) S1)
    (K0 : ∀ n R S1, x = Int32.ofNat n → n ≤ m0 → IsR y n (DN y n) (hdR y n) R → (rq y n (DN y n) (hdR y n) R).1.1 = 0 → (DN y n = 3 ∨ DN y n = 4) → R ≤ 20 → RWd (DN y n) R (rq y n (DN y n) (hdR y n) R).2 → Fz RF4 [47, 48, 49, 50, 65] S S1 → S1.1 46 4 = 0 → S1.1 46 43 = 0 → S1.1 46 51 = -1 → S1.1 46 40 = 0 → MTl (DN y n) R (rq y n (DN y n) (hdR y n) R).2 S1 → ML (DN y n) R 0 (bit R - 1) S1 → S1.1 46 10 = 0 → S1.1 46 11 = 0 → Q (.inl (some (.int (Int32.ofNat R)))) S1) : Wp (d + 9) b 253 0 [.ref 46, .int x] [] S Q := by
  have f0 : Fz [(46, 4)] [] S (setI S 46 4 0) := Fz.refl.seti (by decide)
  have fail : ¬ (¬ x < 0 ∧ x.toNatClampNeg ≤ m0) → Wp (d + 9) b 253 17 [.ref 46, .int x] [] (setI S 46 4 0) Q := by
    intro h
    refine b253_17 (s152 1) ?_
    rintro _ _ ⟨rfl, rfl⟩
    exact b253_22 (K1 h _ _ (f0.seti (by decide)) seti_same)
  refine b253_0 (fun z => fail (fun w => w.1 z)) (fun z => ?_)
  have ex := i_of z
  have e43 : (setI S 46 4 0).1 46 43 = Int32.ofNat m0 := (seti_ne (by decide)).trans hm
  have hcl := i_clt x
  refine b253_9 (fun w => ?_) (fun w => fail (fun v => w ?_))
  rotate_left
  · rw [e43, ex]
    exact (i_le (by omega) (by omega)).2 v.2
  rw [e43, ex] at w
  have hn := (i_le (by omega) (by omega)).1 w
  obtain ⟨n, en'⟩ : ∃ n, n = x.toNatClampNeg := ⟨_, rfl⟩
  rw [← en'] at ex hn
  subst ex
  have K2 := fun R S1 => K2 n R S1 rfl hn
  have K0 := fun R S1 => K0 n R S1 rfl hn
  clear K1 fail en' hcl z w
  refine b253_23 (P := fun S1 => Fz RF3 [65] S S1 ∧ S1.1 46 4 = 0 ∧ MS y n (0, 0) S1) (w240 (y := y) (by omega) (fun i hi => ⟨(f0.a (by decide) i).trans (hy i (by omega)).1, (hy i (by omega)).2⟩) (fun S1 a1 _ a3 => ⟨rfl, (f0.mono (by decide) (by decide)).trans (a1.mono (by decide) (by decide)), (a1.f (by decide)).trans seti_same, a3⟩)) ?_
  rintro S1 ⟨a1, a2, a3⟩
  -- the end of the reading
  have ends : ∀ R S', IsR y n (DN y n) (hdR y n) R → Fz RF3 [65] S S' → S'.1 46 4 = 0 → MS y n (rq y n (DN y n) (hdR y n) R).1 S' → ((rq y n (DN y n) (hdR y n) R).1.1 = 0 → (DN y n = 3 ∨ DN y n = 4) ∧ S'.1 46 53 = Int32.ofNat (DN y n) ∧ S'.1 46 54 = Int32.ofNat R ∧ R ≤ 20 ∧ RWd (DN y n) R (rq y n (DN y n) (hdR y n) R).2 ∧ MRd (DN y n) R (rq y n (DN y n) (hdR y n) R).2 S') → Wp (d + 9) b 253 89 [.ref 46, .int (Int32.ofNat n)] [] S' Q := by
    intro R S' hR hF h4 hS hg
    have K2 := K2 R
    have K0 := K0 R
    generalize (rq y n (DN y n) (hdR y n) R) = z at *
    refine b253_89 (P := fun v S2 => v = Int32.ofNat z.1.1 ∧ Fz [(46, 43), (46, 51)] [] S' S2 ∧ S2.1 46 43 = 0 ∧ S2.1 46 51 = (if z.1.1 = 0 then -1 else Int32.ofNat (bg y n z.1.2))) (w248 hS (fun S2 c1 c2 c3 => ⟨_, rfl, rfl, c1, c2, c3⟩)) ?_
    rintro _ S2 ⟨rfl, c1, c2, c3⟩
    have hb := hS.bad.2
    have f2 : Fz RF3 [65] S S2 := hF.trans (c1.mono (by decide) (by decide))
    have g4 : S2.1 46 4 = 0 := (c1.f (by decide)).trans h4
    refine b253_93 (fun q => ?_) (fun q => b253_98 ?_)
    · have z0 := (i_inj (b := 0) (by omega) (by omega)).1 q
      rw [if_pos z0] at c3
      obtain ⟨hD, e53, e54, hR20, hRW, hMR⟩ := hg z0
      have K0 := fun S1 => K0 S1 hR z0 hD hR20 hRW
      have g53 : S2.1 46 53 = Int32.ofNat (DN y n) := (c1.f (by decide)).trans e53
      have g54 : S2.1 46 54 = Int32.ofNat R := (c1.f (by decide)).trans e54
      refine b253_103 ?_
      have p1 : Fz RF4 [47, 48, 49, 50, 65] S (setI (setI S2 46 0 (S2.1 46 53)) 46 1 ((setI S2 46 0 (S2.1 46 53)).1 46 54)) := ((f2.mono (by decide) (by decide)).seti (by decide)).seti (by decide)
      have q0 : (setI (setI S2 46 0 (S2.1 46 53)) 46 1 ((setI S2 46 0 (S2.1 46 53)).1 46 54)).1 46 0 = Int32.ofNat (DN y n) := (seti_ne (by decide)).trans (seti_same.trans g53)
      have q1 : (setI (setI S2 46 0 (S2.1 46 53)) 46 1 ((setI S2 46 0 (S2.1 46 53)).1 46 54)).1 46 1 = Int32.ofNat R := seti_same.trans ((seti_ne (by decide)).trans g54)
      have q43 : (setI (setI S2 46 0 (S2.1 46 53)) 46 1 ((setI S2 46 0 (S2.1 46 53)).1 46 54)).1 46 43 = 0 := (seti_ne (by decide)).trans ((seti_ne (by decide)).trans c2)
      have q51 : (setI (setI S2 46 0 (S2.1 46 53)) 46 1 ((setI S2 46 0 (S2.1 46 53)).1 46 54)).1 46 51 = -1 := (seti_ne (by decide)).trans ((seti_ne (by decide)).trans c3)
      have q4 : (setI (setI S2 46 0 (S2.1 46 53)) 46 1 ((setI S2 46 0 (S2.1 46 53)).1 46 54)).1 46 4 = 0 := (seti_ne (by decide)).trans ((seti_ne (by decide)).trans g4)
      have q65 : MRd (DN y n) R z.2 (setI (setI S2 46 0 (S2.1 46 53)) 46 1 ((setI S2 46 0 (S2.1 46 53)).1 46 54)) := fun o k ho hk => by
        have : (setI (setI S2 46 0 (S2.1 46 53)) 46 1 ((setI S2 46 0 (S2.1 46 53)).1 46 54)).2.1 65 (4 * o + k) = S2.2.1 65 (4 * o + k) := rfl
        rw [this, c1.a (by decide)]
        exact hMR o k ho hk
      generalize setI (setI S2 46 0 (S2.1 46 53)) 46 1 ((setI S2 46 0 (S2.1 46 53)).1 46 54) = S3 at *
      -- the numbers are copied
      have copy : ∀ j k S4, k + j = 4 * R → Fz RF4 [47, 48, 49, 50, 65] S S4 → Fz [] [47] S3 S4 → (∀ i, i < k → S4.2.1 47 i = S3.2.1 65 i) → Wp (d + 9) b 253 121 [.ref 46, .int (Int32.ofNat n), .int (Int32.ofNat z.1.1), .int (Int32.ofNat k)] [] S4 Q := by
        intro j
        induction j with
        | zero =>
          intro k S4 hk p4 f4 h47
          have hk : k = 4 * R := hk
          refine b253_121 (fun _ => ?_) (fun q => absurd ?_ q)
          · have t1 : S4.1 46 1 = Int32.ofNat R := (f4.f (by decide)).trans q1
            have hM4 : MTl (DN y n) R z.2 S4 := fun o k' ho hk' => by
              rw [h47 _ (by omega)]
              exact q65 o k' ho hk'
            have e2 : ((1 : Int32) <<< ((S4.1 46 1) &&& 31)) - 1 = bit R - 1 := by rw [t1]; rfl
            refine b253_149 (P := fun S5 => Fz RF4 [47, 48, 49, 50, 65] S S5 ∧ S5.1 46 4 = 0 ∧ S5.1 46 43 = 0 ∧ S5.1 46 51 = -1 ∧ S5.1 46 40 = 0 ∧ MTl (DN y n) R z.2 S5 ∧ ML (DN y n) R 0 (bit R - 1) S5 ∧ S5.1 46 10 = 0 ∧ S5.1 46 11 = 0 ∧ S5.1 46 1 = Int32.ofNat R) ?_ ?_
            · rw [e2]
              have p5 : Fz RF4 [47, 48, 49, 50, 65] S (setI (setI (setI S4 46 2 (bit R - 1)) 46 3 0) 46 40 0) := ((p4.seti (by decide)).seti (by decide)).seti (by decide)
              have u0 : (setI (setI (setI S4 46 2 (bit R - 1)) 46 3 0) 46 40 0).1 46 0 = Int32.ofNat (DN y n) := (seti_ne (by decide)).trans ((seti_ne (by decide)).trans ((seti_ne (by decide)).trans ((f4.f (by decide)).trans q0)))
              have u1 : (setI (setI (setI S4 46 2 (bit R - 1)) 46 3 0) 46 40 0).1 46 1 = Int32.ofNat R := (seti_ne (by decide)).trans ((seti_ne (by decide)).trans ((seti_ne (by decide)).trans t1))
              have u2 : (setI (setI (setI S4 46 2 (bit R - 1)) 46 3 0) 46 40 0).1 46 2 = bit R - 1 := (seti_ne (by decide)).trans ((seti_ne (by decide)).trans seti_same)
              have u3 : (setI (setI (setI S4 46 2 (bit R - 1)) 46 3 0) 46 40 0).1 46 3 = Int32.ofNat 0 := (seti_ne (by decide)).trans seti_same
              have u40 : (setI (setI (setI S4 46 2 (bit R - 1)) 46 3 0) 46 40 0).1 46 40 = 0 := seti_same
              have u4 : (setI (setI (setI S4 46 2 (bit R - 1)) 46 3 0) 46 40 0).1 46 4 = 0 := (seti_ne (by decide)).trans ((seti_ne (by decide)).trans ((seti_ne (by decide)).trans ((f4.f (by decide)).trans q4)))
              have u43 : (setI (setI (setI S4 46 2 (bit R - 1)) 46 3 0) 46 40 0).1 46 43 = 0 := (seti_ne (by decide)).trans ((seti_ne (by decide)).trans ((seti_ne (by decide)).trans ((f4.f (by decide)).trans q43)))
              have u51 : (setI (setI (setI S4 46 2 (bit R - 1)) 46 3 0) 46 40 0).1 46 51 = -1 := (seti_ne (by decide)).trans ((seti_ne (by decide)).trans ((seti_ne (by decide)).trans ((f4.f (by decide)).trans q51)))
              have low : Low R (bit R - 1) := fun k hk => by
                have k32 := tb_lt hk
                rw [mask_bit (by omega) k32] at hk
                exact of_decide_eq_true hk
              refine w161 (D := DN y n) (m := R) (ins := bit R - 1) (rl := 0) ⟨u0, hD, u1, hR20, u2, low⟩ u3 (by omega) (fun S5 b1 b2 b3 b4 => ⟨rfl, p5.trans (b1.mono (by decide) (by decide)), (b1.f (by decide)).trans u4, (b1.f (by decide)).trans u43, (b1.f (by decide)).trans u51, (b1.f (by decide)).trans u40, fun o k' ho hk' => ?_, b2, b3, b4, (b1.f (by decide)).trans u1⟩)
              rw [b1.a (by decide)]
              exact hM4 o k' ho hk'
            · rintro S5 ⟨r1, r2, r3, r4, r5, r6, r7, r8, r9, r10⟩
              refine b253_175 ?_
              rw [r10]
              exact K0 S5 r1 r2 r3 r4 r5 r6 r7 r8 r9
          · rw [f4.f (by decide), q1, hk, show (4 : Int32) = Int32.ofNat 4 from rfl, i_mul]
            exact (i_le (by omega) (by omega)).2 (Nat.le_refl _)
        | succ j ih =>
          intro k S4 hk p4 f4 h47
          refine b253_121 (fun q => ?_) (fun _ => b253_131 (i_vp (by omega) (by omega)) (i_vp (by omega) (by omega)) ?_)
          · rw [f4.f (by decide), q1, show (4 : Int32) = Int32.ofNat 4 from rfl, i_mul] at q
            have := (i_le (by omega) (by omega)).1 q
            omega
          · rw [i_suc, i_cl (by omega)]
            refine ih (k + 1) _ (by omega) (p4.seta (by decide)) (f4.seta (by decide)) (fun i hi => ?_)
            by_cases e : i = k
            · rw [e, seta_same]
              exact f4.a (by decide) k
            · rw [seta_ne (by omega)]
              exact h47 i (by omega)
      exact copy (4 * R) 0 S3 (by omega) p1 Fz.refl (fun i hi => absurd hi (Nat.not_lt_zero _))
    · have z0 : ¬ z.1.1 = 0 := fun w => q (by rw [w]; rfl)
      rw [if_neg z0] at c3
      exact K2 S2 hR z0 f2 g4 c2 c3
  -- the rays
  have loop : ∀ j r S', r + j = 21 → (∀ r', r' < r → (rq y n (DN y n) (hdR y n) r').1.1 = 0 ∧ ¬ kd y n (rq y n (DN y n) (hdR y n) r').1.2 = 0) → Fz RF3 [65] S S' → S'.1 46 4 = 0 → MS y n (rq y n (DN y n) (hdR y n) r).1 S' → ((rq y n (DN y n) (hdR y n) r).1.1 = 0 → (DN y n = 3 ∨ DN y n = 4) ∧ S'.1 46 53 = Int32.ofNat (DN y n) ∧ S'.1 46 54 = Int32.ofNat r ∧ r ≤ 20 ∧ RWd (DN y n) r (rq y n (DN y n) (hdR y n) r).2 ∧ MRd (DN y n) r (rq y n (DN y n) (hdR y n) r).2 S') → Wp (d + 9) b 253 68 [.ref 46, .int (Int32.ofNat n)] [] S' Q := by
    intro j
    induction j with
    | zero =>
      intro r S' hr hbef hF h4 hS hg
      refine b253_68 (fun q => ends r S' ⟨hbef, Or.inl (fun w => q (hS.bad0.2 w))⟩ hF h4 hS hg) (fun q => ?_)
      have := (hg (hS.bad0.1 (Classical.byContradiction q))).2.2.2.1
      omega
    | succ j ih =>
      intro r S' hr hbef hF h4 hS hg
      refine b253_68 (fun q => ends r S' ⟨hbef, Or.inl (fun w => q (hS.bad0.2 w))⟩ hF h4 hS hg) (fun q => ?_)
      have z0 := hS.bad0.1 (Classical.byContradiction q)
      have hA := hS.good z0
      have hk := kd_lt (y := y) (n := n) (rq y n (DN y n) (hdR y n) r).1.2
      obtain ⟨hD, e53, e54, hr20, hRW, hMR⟩ := hg z0
      refine b253_75 (fun w => ends r S' ⟨hbef, Or.inr ?_⟩ hF h4 hS hg) (fun w => ?_)
      · rw [hA.2.2.1] at w
        exact (i_inj (b := 0) (by omega) (by omega)).1 w
      · have k0 : ¬ kd y n (rq y n (DN y n) (hdR y n) r).1.2 = 0 := fun v => w (by rw [hA.2.2.1, v]; rfl)
        have es : stepR y n (DN y n) r ((rq y n (DN y n) (hdR y n) r).1, (rq y n (DN y n) (hdR y n) r).2) = rq y n (DN y n) (hdR y n) (r + 1) := rfl
        refine b253_82 (P := fun S2 => Fz RF2 [65] S' S2 ∧ MS y n (rq y n (DN y n) (hdR y n) (r + 1)).1 S2 ∧ ((rq y n (DN y n) (hdR y n) (r + 1)).1.1 = 0 → S2.1 46 54 = Int32.ofNat (r + 1) ∧ MRd (DN y n) (r + 1) (rq y n (DN y n) (hdR y n) (r + 1)).2 S2)) (w252 hD hS z0 e53 e54 (by omega) hMR hRW (fun S2 b1 b2 b3 => ⟨rfl, b1, b2, b3⟩)) ?_
        rintro S2 ⟨b1, b2, b3⟩
        refine b253_86 (ih (r + 1) S2 (by omega) (fun r' hr' => ?_) (hF.trans (b1.mono (by decide) (by decide))) ((b1.f (by decide)).trans h4) b2 (fun w' => ?_))
        · by_cases e : r' = r
          · rw [e]; exact ⟨z0, k0⟩
          · exact hbef r' (by omega)
        · have := rq_20 w'
          exact ⟨hD, (b1.f (by decide)).trans e53, (b3 w').1, by omega, rwd_step hD (rq_le hdR_le r) hRW w', (b3 w').2⟩
  -- the head
  have f1 : Fz [(46, 54)] [] S1 (setI S1 46 54 0) := Fz.refl.seti (by decide)
  have a3' := a3.of f1 (by decide)
  have g1 : Fz RF3 [65] S (setI S1 46 54 0) := a1.trans (f1.mono (by decide) (by decide))
  have g4 : (setI S1 46 54 0).1 46 4 = 0 := (seti_ne (by decide)).trans a2
  have g54 : (setI S1 46 54 0).1 46 54 = Int32.ofNat 0 := seti_same
  refine b253_28 (w244 (w := wSides) a3' (by decide) (by decide +kernel) (by decide)) ?_
  rintro _ _ ⟨rfl, rfl⟩
  generalize setI S1 46 54 0 = S2 at *
  have head : ∀ S3 z, Fz RF [] S2 S3 → MS y n z S3 → pasR y n z = hd1 y n → Wp (d + 9) b 253 48 [.ref 46, .int (Int32.ofNat n)] [] S3 Q := by
    intro S3 z hF hz ez
    refine b253_48 (P := fun S4 => Fz RF [] S2 S4 ∧ MS y n (hd1 y n) S4) (w242 hz (fun S4 b1 b2 => ⟨rfl, hF.trans b1, by rw [← ez]; exact b2⟩)) ?_
    rintro S4 ⟨b1, b2⟩
    refine b253_52 (P := fun v S5 => v = hdD y n ∧ Fz RF [] S2 S5 ∧ MS y n (numR y n 3 4 (hd1 y n)) S5) (w246 b2 (fun S5 c1 c2 => ⟨_, rfl, rfl, b1.trans c1, c2⟩)) ?_
    rintro _ S5 ⟨rfl, c1, c2⟩
    have f5 : Fz [(46, 53)] [] S5 (setI S5 46 53 (hdD y n)) := Fz.refl.seti (by decide)
    refine b253_59 (P := fun S6 => Fz RF [] (setI S5 46 53 (hdD y n)) S6 ∧ MS y n (hdR y n) S6) (w245 (c2.of f5 (by decide)) (fun S6 e1 e2 => ⟨rfl, e1, e2⟩)) ?_
    rintro S6 ⟨e1, e2⟩
    have h6 : Fz RF3 [65] S S6 := (g1.trans (c1.mono (by decide) (by decide))).trans ((f5.mono (by decide) (by decide)).trans (e1.mono (by decide) (by decide)))
    have h64 : S6.1 46 4 = 0 := (e1.f (by decide)).trans ((f5.f (by decide)).trans ((c1.f (by decide)).trans g4))
    have h653 : S6.1 46 53 = Int32.ofNat (DN y n) := (e1.f (by decide)).trans (seti_same.trans hdD_of)
    have h654 : S6.1 46 54 = Int32.ofNat 0 := (e1.f (by decide)).trans ((f5.f (by decide)).trans ((c1.f (by decide)).trans g54))
    exact loop 21 0 S6 (by omega) (fun r' hr' => absurd hr' (Nat.not_lt_zero _)) h6 h64 e2 (fun w => ⟨hd_D w, h653, h654, by omega, ⟨fun r hr => absurd hr (Nat.not_lt_zero _), fun r o hr => absurd hr (Nat.not_lt_zero _)⟩, fun o k ho => absurd ho (Nat.not_lt_zero _)⟩)
  refine b253_40 (fun z => head S2 (0, 0) Fz.refl a3' ?_) (fun z => b253_43 (P := fun S3 => Fz RF [] S2 S3 ∧ MS y n (wrgR 1 (0, 0)) S3) (w241 (k := 1) a3' (by omega) (fun S3 b1 b2 => ⟨rfl, b1, b2⟩)) ?_)
  · unfold hd1
    rw [if_pos (bi1.1 z)]
  · rintro S3 ⟨b1, b2⟩
    refine head S3 _ b1 b2 ?_
    unfold hd1
    rw [bi0.1 (Classical.byContradiction z), if_neg (by decide)]
end MRAYS3
