/-! RAYS READ: the class -/
section CREAD
variable {b D r : Nat} {y : Nat → Int32} {n : Nat}
abbrev TF : List (Nat × Nat) := [(1, 3), (1, 4), (1, 5), (1, 6)]
abbrev TF2 : List (Nat × Nat) := [(1, 3), (1, 4), (1, 5), (1, 6), (3, 1)]
theorem sdR_bad {a : Nat × Nat} {j : Nat} (h : ¬ (sdR y n a j).1 = 0) : ∀ i, sdR y n a (j + i) = sdR y n a j := by
  intro i
  induction i with
  | zero => rfl
  | succ i ih =>
    show sgR y n 9 (sdR y n a (j + i)) = _
    rw [ih, sgR_bad h]
theorem mustR_bad {x : Nat × Nat} {c : Int32} (h : ¬ x.1 = 0) : mustR y n x c = x := by
  have e : isSR y n x c = false := by unfold isSR; rw [decide_eq_false h]; rfl
  unfold mustR
  rw [e, if_neg Bool.false_ne_true]
  unfold wrgR
  rw [if_neg h]
  unfold pasR
  rw [if_neg h]
theorem rayZ_bad {nu : Nat → Nat → Int} {a : Nat × Nat} (h : ¬ (sdR y n a D).1 = 0) : rayZ y n D nu r a = sdR y n a D := by
  have e : isSR y n (sdR y n a D) 59 = false := by unfold isSR; rw [decide_eq_false h]; rfl
  unfold rayZ
  rw [if_neg (fun w => by rw [e] at w; exact absurd w.1 (by decide)), mustR_bad h]
theorem isSR_good {p : Nat} {c : Int32} : isSR y n (0, p) c = isS y n p c := by
  unfold isSR
  rw [decide_eq_true rfl, Bool.true_and]
theorem numR_good {p : Nat} {lo hi : Int32} : numR y n lo hi (0, p) = (if kd y n p = 2 then (if lo ≤ nv y n p ∧ nv y n p ≤ hi then (0, en y n p) else (2, p)) else (1, p)) := by
  unfold numR
  rw [if_pos rfl]
  unfold pasR
  by_cases k2 : kd y n p = 2
  · rw [if_pos k2, if_pos k2]
    by_cases hb : lo ≤ nv y n p ∧ nv y n p ≤ hi
    · rw [if_pos hb, if_pos hb, if_pos rfl]
    · rw [if_neg hb, if_neg hb, if_neg (show ¬ 2 = 0 by omega)]
  · rw [if_neg k2, if_neg k2, if_neg (show ¬ 1 = 0 by omega)]
theorem numV_good {p : Nat} (h : kd y n p = 2) : numV y n (0, p) = nv y n p := by
  unfold numV
  rw [if_pos ⟨rfl, h⟩]
theorem nv_0 {p : Nat} (hp : p ≤ n) (h : kd y n p = 2) : (0 : Int32) ≤ nv y n p := by
  have := (nv_b (y := y) hp h).1
  rw [Int32.le_iff_toInt_le]
  have e : (0 : Int32).toInt = 0 := by decide
  omega
theorem c61 {d p k : Nat} {S : St} {Q : Out → St → Prop} (hT : TA y n p S) (hp : p ≤ n) (h1 : S.1 3 1 = Int32.ofNat r) (hr : r < 20) (hk : k < 4) (K : ∀ S1, Fz TF [19] S S1 → TA y n (sgR y n 9 (0, p)).2 S1 → (∀ i, ¬ i = 4 * r + k → S1.2.1 19 i = S.2.1 19 i) → ((sgR y n 9 (0, p)).1 = 0 → S1.2.1 19 (4 * r + k) = sgV y n (0, p)) → Q (.inl (some (.int (Int32.ofNat (sgR y n 9 (0, p)).1)))) S1) : Wp (d + 2) b 61 0 [.ref 4, .int (Int32.ofNat k)] [] S Q := by
  -- the number, behind the sign
  have num : ∀ (less : Bool) p0 S1, p0 ≤ n → Fz TF [] S S1 → TA y n p0 S1 → sgR y n 9 (0, p) = numR y n 0 9 (0, p0) → (sgV y n (0, p) = if less = true then - numV y n (0, p0) else numV y n (0, p0)) → Wp (d + 2) b 61 21 [.ref 4, .int (Int32.ofNat k), .int (bi less)] [] S1 Q := by
    intro less p0 S1 hp0 hF hT0 er ev
    have g1 : S1.1 3 1 = Int32.ofNat r := (hF.f (by decide)).trans h1
    rw [er, ev] at K
    rw [numR_good] at K
    refine b61_21 (c54 hT0) ?_
    rintro _ _ ⟨rfl, rfl⟩
    refine b61_28 (fun q => ?_) (fun q => b61_31 ?_)
    rotate_left
    · have k2 := of_decide_eq_false (bi0.1 (Classical.byContradiction q))
      rw [if_neg k2] at K
      exact K S1 (hF.mono (by decide) (by decide)) hT0 (fun i _ => hF.a (by decide) i) (fun w => absurd w (show ¬ 1 = 0 by omega))
    have k2 := of_decide_eq_true (bi1.1 q)
    rw [if_pos k2, numV_good k2] at K
    have e6 : S1.1 1 6 = nv y n p0 := hT0.2.2.2.2 k2
    have n0 := nv_0 (y := y) hp0 k2
    refine b61_33 (fun q => ?_) (fun q => b61_45 ?_)
    rotate_left
    · rw [e6] at q
      rw [if_neg (fun w => q w.2)] at K
      exact K S1 (hF.mono (by decide) (by decide)) hT0 (fun i _ => hF.a (by decide) i) (fun w => absurd w (show ¬ 2 = 0 by omega))
    rw [e6] at q
    rw [if_pos ⟨n0, q⟩] at K
    have put : ∀ v, v = (if less = true then - nv y n p0 else nv y n p0) → Wp (d + 2) b 61 74 [.ref 4, .int (Int32.ofNat k), .int (bi less)] [.int v, .int (Int32.ofNat k), .ref 3] S1 Q := by
      intro v hv
      have f2 : Fz TF [19] S1 (setA S1 19 (4 * r + k) v) := Fz.refl.seta (by decide)
      refine b61_74 (P := fun S2 => S2 = setA S1 19 (4 * r + k) v) (c73 g1 hr hk ⟨rfl, rfl⟩) ?_
      rintro _ rfl
      have f3 : Fz [] [19] S1 (setA S1 19 (4 * r + k) v) := Fz.refl.seta (by decide)
      have hT1 : TB1 y n (setA S1 19 (4 * r + k) v) := hT0.1.of f3 (by decide)
      have he := en_le (y := y) hp0
      refine b61_77 (P := fun S2 => Fz TF [] (setA S1 19 (4 * r + k) v) S2 ∧ TA y n (en y n p0) S2) (c51 hT1 he.2.1 hT0.2.2.2.1 (fun S2 a1 a2 => ⟨rfl, a1, a2⟩)) ?_
      rintro S2 ⟨a1, a2⟩
      refine b61_84 (K S2 ((hF.mono (by decide) (by decide)).trans (f2.trans (a1.mono (by decide) (by decide)))) a2 (fun i hi => ?_) (fun _ => ?_))
      · rw [a1.a (by decide), seta_ne (by omega)]
        exact hF.a (by decide) i
      · rw [a1.a (by decide), seta_same]
        exact hv
    refine b61_47 (fun z => b61_67 (put _ ?_)) (fun z => b61_56 (put _ ?_))
    · rw [e6, bi0.1 z, if_neg (by decide)]
    · rw [e6, bi1.1 z, if_pos rfl]
  refine b61_0 (c55 hT) ?_
  rintro _ _ ⟨rfl, rfl⟩
  have es : isSR y n (0, p) 45 = isS y n p 45 := isSR_good
  refine b61_9 (fun q => num _ p S hp Fz.refl hT ?_ ?_) (fun q => ?_)
  · unfold sgR
    rw [es, bi0.1 q, if_neg (by decide)]
  · unfold sgV
    rw [es, bi0.1 q, if_neg Bool.false_ne_true, if_neg Bool.false_ne_true]
  · have he := en_le (y := y) hp
    refine b61_14 (P := fun S1 => Fz TF [] S S1 ∧ TA y n (en y n p) S1) (c51 hT.1 he.2.1 hT.2.2.2.1 (fun S1 a1 a2 => ⟨rfl, a1, a2⟩)) ?_
    rintro S1 ⟨a1, a2⟩
    have ep : pasR y n (0, p) = (0, en y n p) := if_pos rfl
    refine num _ (en y n p) S1 he.2.1 a1 a2 ?_ ?_
    · unfold sgR
      rw [es, bi1.1 q, if_pos rfl, ep]
    · unfold sgV
      rw [es, bi1.1 q, ep, if_pos rfl, if_pos rfl]
/-- the draft, a ray having been told -/
def Dft (D r : Nat) (nu : Nat → Nat → Int) (S : St) : Prop := S.1 3 0 = Int32.ofNat D ∧ S.1 3 1 = Int32.ofNat r ∧ DNu r nu S ∧ DRw r nu S
theorem isWR_good {p : Nat} {w : List Int32} : isWR y n (0, p) w = isWl y n p w := by
  unfold isWR
  rw [decide_eq_true rfl, Bool.true_and]
theorem c60 {d p : Nat} {nu : Nat → Nat → Int} {S : St} {Q : Out → St → Prop} (hD : D = 3 ∨ D = 4) (hT : TA y n p S) (hp : p ≤ n) (hd : Dft D r nu S) (hr : r ≤ 20) (hR : RWd D r nu) (K : ∀ S1, Fz TF2 [19, 20, 21, 22] S S1 → TA y n (stepR y n D r ((0, p), nu)).1.2 S1 → ((stepR y n D r ((0, p), nu)).1.1 = 0 → Dft D (r + 1) (stepR y n D r ((0, p), nu)).2 S1) → Q (.inl (some (.int (Int32.ofNat (stepR y n D r ((0, p), nu)).1.1)))) S1) : Wp (d + 5) b 60 0 [.ref 4, .int (Int32.ofNat r)] [] S Q := by
  obtain ⟨h30, h31, hN, hW⟩ := hd
  obtain ⟨a, ea⟩ : ∃ a, a = rayA y n (0, p) r := ⟨_, rfl⟩
  obtain ⟨nu', en'⟩ : ∃ nu', nu' = addV nu r (vecR y n D (rayA y n (0, p) r)) := ⟨_, rfl⟩
  have eK1 : (stepR y n D r ((0, p), nu)).1 = rayZ y n D nu' r a := by rw [en', ea]; rfl
  have eK2 : (stepR y n D r ((0, p), nu)).2 = nu' := by rw [en']; rfl
  rw [eK1, eK2] at K
  have er : nu' r = vecR y n D a := by
    funext k
    rw [en', ea]
    show (if r = r then _ else _) = _
    rw [if_pos rfl]
  have eo : ∀ o, o < r → nu' o = nu o := by
    intro o ho
    funext k
    rw [en']
    show (if o = r then _ else _) = _
    rw [if_neg (by omega)]
  have bad : ∀ c, ¬ c = 0 → a = (c, p) → rayZ y n D nu' r a = (c, p) := by
    intro c hc e
    have h1 : sdR y n a D = a := by
      have := sdR_bad (y := y) (n := n) (a := a) (j := 0) (by rw [e]; exact hc) D
      rw [Nat.zero_add] at this
      exact this
    rw [rayZ_bad (by rw [h1, e]; exact hc), h1, e]
  refine b60_0 (c56 (w := wRay) hT hp (by decide) (by decide +kernel) (by decide)) ?_
  rintro _ _ ⟨rfl, rfl⟩
  refine b60_9 (fun q => ?_) (fun q => b60_12 ?_)
  rotate_left
  · have q := bi0.1 (Classical.byContradiction q)
    have e : a = (1, p) := by
      rw [ea]
      unfold rayA
      rw [isWR_good, q, if_neg Bool.false_ne_true]
      unfold wrgR
      rw [if_pos rfl]
      unfold pasR
      rw [if_neg (show ¬ 1 = 0 by omega)]
    rw [bad 1 (by omega) e] at K
    exact K S Fz.refl hT (fun w => absurd w (show ¬ 1 = 0 by omega))
  have q := bi1.1 q
  refine b60_14 (fun w => ?_) (fun w => b60_20 ?_)
  rotate_right
  · have r20 : r = 20 := by
      have : ¬ r < 20 := fun z => w ((i_lt (b := 20) (by omega) (by omega)).2 z)
      omega
    have e : a = (4, p) := by
      rw [ea]
      unfold rayA
      rw [isWR_good, q, if_pos rfl, if_pos r20]
      unfold pasR
      rw [if_neg (show ¬ 4 = 0 by omega)]
    rw [bad 4 (by omega) e] at K
    exact K S Fz.refl hT (fun w => absurd w (show ¬ 4 = 0 by omega))
  have r20 := (i_lt (b := 20) (by omega) (by omega)).1 w
  have e : a = (0, en y n p) := by
    rw [ea]
    unfold rayA
    rw [isWR_good, q, if_pos rfl, if_neg (by omega)]
    unfold pasR
    rw [if_pos rfl]
  have he := en_le (y := y) hp
  have ale : a.2 ≤ n := by rw [e]; exact he.2.1
  refine b60_22 (P := fun S1 => Fz TF [] S S1 ∧ TA y n a.2 S1) (c51 hT.1 he.2.1 hT.2.2.2.1 (fun S1 a1 a2 => ⟨rfl, a1, by rw [e]; exact a2⟩)) ?_
  rintro S1 ⟨a1, a2⟩
  have g31 : S1.1 3 1 = Int32.ofNat r := (a1.f (by decide)).trans h31
  refine b60_29 (P := fun S2 => S2 = setA S1 19 (4 * r + 3) 0) (c73 (k := 3) g31 r20 (by omega) ⟨rfl, rfl⟩) ?_
  rintro _ rfl
  have f2 : Fz TF2 [19, 20, 21, 22] S (setA S1 19 (4 * r + 3) 0) := (a1.mono (by decide) (by decide)).seta (by decide)
  have f3 : Fz [] [19] S1 (setA S1 19 (4 * r + 3) 0) := Fz.refl.seta (by decide)
  have hT2 : TA y n a.2 (setA S1 19 (4 * r + 3) 0) := a2.of f3 (by decide)
  have i1 : ∀ o k, o < r → k < 4 → ((setA S1 19 (4 * r + 3) 0).2.1 19 (4 * o + k)).toInt = nu o k := fun o k ho hk => by
    rw [seta_ne (by omega), a1.a (by decide)]
    exact hN o k ho hk
  have i2 : (setA S1 19 (4 * r + 3) 0).2.1 19 (4 * r + 3) = 0 := seta_same
  have i3 : ∀ j i, ¬ j = 19 → (setA S1 19 (4 * r + 3) 0).2.1 j i = S.2.1 j i := fun j i hj => by
    rw [seta_ne (by omega)]
    exact a1.a (by simp) i
  have i4 : (setA S1 19 (4 * r + 3) 0).1 3 1 = Int32.ofNat r := g31
  have i5 : (setA S1 19 (4 * r + 3) 0).1 3 0 = Int32.ofNat D := (a1.f (by decide)).trans h30
  refine b60_38 ?_
  have loop : ∀ j k S', k + j = D → Fz TF2 [19, 20, 21, 22] S S' → Fz TF [19] (setA S1 19 (4 * r + 3) 0) S' → (sdR y n a k).1 = 0 → TA y n (sdR y n a k).2 S' → (∀ i, ¬ (4 * r ≤ i ∧ i < 4 * r + k) → S'.2.1 19 i = (setA S1 19 (4 * r + 3) 0).2.1 19 i) → (∀ k', k' < k → (S'.2.1 19 (4 * r + k')).toInt = vecR y n D a k') → Wp (d + 5) b 60 40 [.ref 4, .int (Int32.ofNat r), .int (Int32.ofNat k)] [] S' Q := by
    intro j
    induction j with
    | zero =>
      intro k S' hk hF hF2 hs hT' ho hv
      have hk : k = D := hk
      subst hk
      have e30 : S'.1 3 0 = Int32.ofNat k := (hF2.f (by decide)).trans i5
      have e31 : S'.1 3 1 = Int32.ofNat r := (hF2.f (by decide)).trans i4
      refine b60_40 (fun _ => b60_69 (c55 hT') ?_) (fun q => absurd (by rw [e30]; exact (i_le (by omega) (by omega)).2 (Nat.le_refl _)) q)
      rintro _ _ ⟨rfl, rfl⟩
      have esd : sdR y n a k = (0, (sdR y n a k).2) := Prod.ext hs rfl
      have esS : isSR y n (sdR y n a k) 59 = isS y n (sdR y n a k).2 59 := by
        have := isSR_good (y := y) (n := n) (p := (sdR y n a k).2) (c := 59)
        rw [← esd] at this
        exact this
      refine b60_78 (fun z => ?_) (fun z => b60_81 ?_)
      rotate_left
      · have z := bi0.1 (Classical.byContradiction z)
        have eZ : rayZ y n k nu' r a = (1, (sdR y n a k).2) := by
          unfold rayZ
          rw [esS, z, if_neg (fun w => by exact absurd w.1 (by decide))]
          unfold mustR
          rw [esS, z, if_neg Bool.false_ne_true]
          unfold wrgR
          rw [if_pos hs]
          unfold pasR
          rw [if_neg (show ¬ 1 = 0 by omega)]
        rw [eZ] at K
        exact K S' hF hT' (fun w => absurd w (show ¬ 1 = 0 by omega))
      have z := bi1.1 z
      -- all numbers stand
      have hN' : DNu (r + 1) nu' S' := fun o k' ho' hk' => by
        by_cases eor : o = r
        · subst eor
          rw [er]
          by_cases k3 : k' < k
          · exact hv k' k3
          · rw [ho _ (by omega), show k' = 3 by omega, i2]
            unfold vecR
            rw [if_neg (by omega)]
            rfl
        · rw [eo o (by omega), ho _ (by omega)]
          exact i1 o k' (by omega) hk'
      have hW' : DRw r nu' S' := by
        have r20 : ∀ j i, (j = 20 ∨ j = 21 ∨ j = 22) → S'.2.1 j i = S.2.1 j i := fun j i hj => by
          rw [hF2.a (by rcases hj with rfl | rfl | rfl <;> decide)]
          exact i3 j i (by omega)
        refine ⟨fun o ho' => ?_, fun o ho' k' => ?_⟩
        · rw [r20 20 o (by omega), r20 21 o (by omega), eo o ho']
          exact hW.1 o ho'
        · rw [r20 22 o (by omega), eo o ho', hW.2 o ho' k']
          constructor
          · rintro ⟨w1, w2, w3⟩
            exact ⟨w1, w2, by rw [eo k' w1]; exact w3⟩
          · rintro ⟨w1, w2, w3⟩
            exact ⟨w1, w2, by rw [eo k' w1] at w3; exact w3⟩
      have hR' : RWd k r nu' := ⟨fun o ho' => by rw [eo o ho']; exact hR.1 o ho', fun o o' h1 h2 hp => hR.2 o o' h1 h2 (by rw [eo o h1, eo o' h2] at hp; exact hp)⟩
      have h9 : B9 (nu' r) := by rw [er]; exact vecR_b9 (by omega) ale hs
      have eZ : ∀ c, noR nu' r = c → rayZ y n k nu' r a = if c = true then (3, (sdR y n a k).2) else (0, en y n (sdR y n a k).2) := by
        intro c hc
        unfold rayZ
        cases c
        · rw [if_neg (fun w => by rw [hc] at w; exact absurd w.2 (by decide)), if_neg (by decide)]
          unfold mustR
          rw [esS, z, if_pos rfl]
          unfold pasR
          rw [if_pos hs]
        · rw [if_pos ⟨by rw [esS, z], hc⟩, if_pos rfl, mustR_bad (show ¬ 3 = 0 by omega)]
      refine b60_83 (P := fun v S2 => (v = 0 ∧ S2 = S' ∧ noR nu' r = true) ∨ (v = 1 ∧ noR nu' r = false ∧ Fz [(3, 1)] [20, 21, 22] S' S2 ∧ S2.1 3 1 = Int32.ofNat (r + 1) ∧ DRw (r + 1) nu' S2)) (c74 hD (by omega) e31 h9 hR' hN' hW' (fun w => ⟨_, rfl, Or.inl ⟨rfl, rfl, w⟩⟩) (fun w S2 b1 b2 b3 => ⟨_, rfl, Or.inr ⟨rfl, w, b1, b2, b3⟩⟩)) ?_
      rintro v S2 (⟨rfl, rfl, w⟩ | ⟨rfl, w, b1, b2, b3⟩)
      · refine b60_90 (fun q => absurd rfl q) (fun _ => b60_93 ?_)
        have := eZ true w
        rw [if_pos rfl] at this
        rw [this] at K
        exact K S2 hF hT' (fun w => absurd w (show ¬ 3 = 0 by omega))
      · refine b60_90 (fun _ => ?_) (fun q => absurd (by decide) q)
        have := eZ false w
        rw [if_neg (by decide)] at this
        rw [this] at K
        have hT3 := hT'.of b1 (by decide)
        have he2 := en_le (y := y) (n := n) (p := (sdR y n a k).2) (sdR_le ale k)
        refine b60_95 (P := fun S3 => Fz TF [] S2 S3 ∧ TA y n (en y n (sdR y n a k).2) S3) (c51 hT3.1 he2.2.1 hT3.2.2.2.1 (fun S3 c1 c2 => ⟨rfl, c1, c2⟩)) ?_
        rintro S3 ⟨c1, c2⟩
        refine b60_102 (K S3 ((hF.trans (b1.mono (by decide) (by decide))).trans (c1.mono (by decide) (by decide))) c2 (fun _ => ⟨?_, ?_, ?_, ?_⟩))
        · exact (c1.f (by decide)).trans ((b1.f (by decide)).trans e30)
        · exact (c1.f (by decide)).trans b2
        · intro o k' ho' hk'
          rw [c1.a (by decide), b1.a (by decide)]
          exact hN' o k' ho' hk'
        · refine ⟨fun o ho' => ?_, fun o ho' k' => ?_⟩
          · rw [c1.a (by decide), c1.a (by decide)]
            exact b3.1 o ho'
          · rw [c1.a (by decide)]
            exact b3.2 o ho' k'
    | succ j ih =>
      intro k S' hk hF hF2 hs hT' ho hv
      have e30 : S'.1 3 0 = Int32.ofNat D := (hF2.f (by decide)).trans i5
      have e31 : S'.1 3 1 = Int32.ofNat r := (hF2.f (by decide)).trans i4
      have esd : (0, (sdR y n a k).2) = sdR y n a k := Prod.ext hs.symm rfl
      have es1 : sgR y n 9 (0, (sdR y n a k).2) = sdR y n a (k + 1) := by rw [esd]; rfl
      have ev1 : sgV y n (0, (sdR y n a k).2) = sgV y n (sdR y n a k) := by rw [esd]
      refine b60_40 (fun q => ?_) (fun _ => b60_51 (P := fun v S2 => v = Int32.ofNat (sdR y n a (k + 1)).1 ∧ Fz TF [19] S' S2 ∧ TA y n (sdR y n a (k + 1)).2 S2 ∧ (∀ i, ¬ i = 4 * r + k → S2.2.1 19 i = S'.2.1 19 i) ∧ ((sdR y n a (k + 1)).1 = 0 → S2.2.1 19 (4 * r + k) = sgV y n (sdR y n a k))) (c61 hT' (sdR_le ale k) e31 r20 (by omega) (fun S2 b1 b2 b3 b4 => ⟨_, rfl, by rw [es1], b1, by rw [← es1]; exact b2, b3, fun w => by rw [← ev1]; exact b4 (by rw [es1]; exact w)⟩)) ?_)
      · rw [e30] at q
        have := (i_le (by omega) (by omega)).1 q
        omega
      rintro _ S2 ⟨rfl, b1, b2, b3, b4⟩
      have f5 : Fz TF2 [19, 20, 21, 22] S S2 := hF.trans (b1.mono (by decide) (by decide))
      have hlt : (sdR y n a (k + 1)).1 < 1000 := by
        have : (sdR y n a (k + 1)).1 = 0 ∨ (sdR y n a (k + 1)).1 = 1 ∨ (sdR y n a (k + 1)).1 = 2 := by
          rw [← es1]
          unfold sgR
          split
          · rw [show pasR y n (0, (sdR y n a k).2) = (0, en y n (sdR y n a k).2) from if_pos rfl, numR_good]
            split
            · split
              · exact Or.inl rfl
              · exact Or.inr (Or.inr rfl)
            · exact Or.inr (Or.inl rfl)
          · rw [numR_good]
            split
            · split
              · exact Or.inl rfl
              · exact Or.inr (Or.inr rfl)
            · exact Or.inr (Or.inl rfl)
        omega
      refine b60_56 (fun q => b60_63 ?_) (fun q => b60_61 ?_)
      · have z := (i_inj (b := 0) (by omega) (by omega)).1 q
        rw [i_suc]
        refine ih (k + 1) S2 (by omega) f5 (hF2.trans b1) z b2 (fun i hi => ?_) (fun k' hk' => ?_)
        · rw [b3 i (by omega)]
          exact ho i (by omega)
        · by_cases ek : k' = k
          · rw [ek, b4 z]
            unfold vecR
            rw [if_pos (by omega)]
          · rw [b3 _ (by omega)]
            exact hv k' (by omega)
      · have z : ¬ (sdR y n a (k + 1)).1 = 0 := fun w => q (by rw [w]; rfl)
        have e1 := sdR_bad z (D - (k + 1))
        rw [show k + 1 + (D - (k + 1)) = D by omega] at e1
        rw [rayZ_bad (by rw [e1]; exact z), e1] at K
        exact K S2 f5 b2 (fun w => absurd w z)
  exact loop D 0 _ (by omega) f2 Fz.refl (by show a.1 = 0; rw [e]) hT2 (fun i _ => rfl) (fun k' hk' => absurd hk' (Nat.not_lt_zero _))
end CREAD
