/-! RAYS READ: the reference, one ray after the other -/
section MRAYS2
variable {b D : Nat} {y : Nat → Int32} {n : Nat}
abbrev RF2 : List (Nat × Nat) := [(46, 45), (46, 46), (46, 47), (46, 48), (46, 49), (46, 50), (46, 54)]
theorem must_good {x : Nat × Nat} {c : Int32} (h : (mustR y n x c).1 = 0) : x.1 = 0 ∧ isSR y n x c = true ∧ mustR y n x c = (0, en y n x.2) := by
  unfold mustR at h ⊢
  by_cases hs : isSR y n x c = true
  · have h0 : x.1 = 0 := by
      unfold isSR at hs
      exact of_decide_eq_true (Bool.and_eq_true _ _ ▸ hs : _ ∧ _).1
    rw [if_pos hs]
    refine ⟨h0, hs, ?_⟩
    unfold pasR
    rw [if_pos h0]
  · rw [if_neg hs] at h
    unfold pasR wrgR at h
    by_cases h0 : x.1 = 0
    · rw [if_pos h0, if_neg (show ¬ 1 = 0 by omega)] at h
      cases h
    · rw [if_neg h0, if_neg h0] at h
      exact absurd h h0
theorem rayA_good {q : Nat × Nat} {c : Nat} (h : (rayA y n q c).1 = 0) : q.1 = 0 ∧ isWR y n q wRay = true ∧ ¬ c = 20 ∧ rayA y n q c = (0, en y n q.2) := by
  unfold rayA at h ⊢
  by_cases hs : isWR y n q wRay = true
  · have h0 : q.1 = 0 := by
      unfold isWR at hs
      exact of_decide_eq_true (Bool.and_eq_true _ _ ▸ hs : _ ∧ _).1
    rw [if_pos hs] at h ⊢
    by_cases hc : c = 20
    · rw [if_pos hc] at h
      unfold pasR at h
      rw [if_neg (show ¬ 4 = 0 by omega)] at h
      cases h
    · rw [if_neg hc]
      refine ⟨h0, hs, hc, ?_⟩
      unfold pasR
      rw [if_pos h0]
  · rw [if_neg hs] at h
    unfold pasR wrgR at h
    by_cases h0 : q.1 = 0
    · rw [if_pos h0, if_neg (show ¬ 1 = 0 by omega)] at h
      cases h
    · rw [if_neg h0, if_neg h0] at h
      exact absurd h h0
theorem wrgR_le {q : Nat × Nat} {k : Nat} (hq : q.2 ≤ n) : (wrgR k q).2 ≤ n := by
  unfold wrgR
  split
  · exact hq
  · exact hq
theorem rayA_le {q : Nat × Nat} {c : Nat} (hq : q.2 ≤ n) : (rayA y n q c).2 ≤ n := by
  unfold rayA
  refine pasR_le ?_
  split
  · split
    · exact hq
    · exact hq
  · exact wrgR_le hq
theorem mustR_le {x : Nat × Nat} {c : Int32} (hx : x.2 ≤ n) : (mustR y n x c).2 ≤ n := by
  unfold mustR
  refine pasR_le ?_
  split
  · exact hx
  · exact wrgR_le hx
theorem rayZ_le {nu : Nat → Nat → Int} {r : Nat} {a : Nat × Nat} (ha : a.2 ≤ n) : (rayZ y n D nu r a).2 ≤ n := by
  unfold rayZ
  refine mustR_le ?_
  split
  · exact sdR_le ha D
  · exact sdR_le ha D
theorem rq_le {q : Nat × Nat} (hq : q.2 ≤ n) (r : Nat) : (rq y n D q r).1.2 ≤ n := by
  induction r with
  | zero => exact hq
  | succ r ih => exact rayZ_le (rayA_le ih)
theorem rayZ_good {nu : Nat → Nat → Int} {r : Nat} {a : Nat × Nat} (h : (rayZ y n D nu r a).1 = 0) : (sdR y n a D).1 = 0 ∧ isSR y n (sdR y n a D) 59 = true ∧ noR nu r = false ∧ rayZ y n D nu r a = (0, en y n (sdR y n a D).2) := by
  unfold rayZ at h ⊢
  obtain ⟨h1, h2, h3⟩ := must_good h
  by_cases c : isSR y n (sdR y n a D) 59 = true ∧ noR nu r = true
  · rw [if_pos c] at h1
    cases h1
  · rw [if_neg c] at h1 h2 h3 ⊢
    exact ⟨h1, h2, Bool.eq_false_iff.2 (fun z => c ⟨h2, z⟩), h3⟩
theorem rwd_step (hD : D = 3 ∨ D = 4) {r : Nat} {s : (Nat × Nat) × (Nat → Nat → Int)} (hs : s.1.2 ≤ n) (hR : RWd D r s.2) (h : (stepR y n D r s).1.1 = 0) : RWd D (r + 1) (stepR y n D r s).2 := by
  obtain ⟨h1, _, h3, _⟩ := rayZ_good h
  have b9 := vecR_b9 (y := y) (n := n) (D := D) (by omega) (rayA_le (y := y) (c := r) hs) h1
  have hno : ¬ (¬ Nz ((stepR y n D r s).2 r) ∨ ∃ o, o < r ∧ Par ((stepR y n D r s).2 r) ((stepR y n D r s).2 o)) := fun q => by
    have := noR_iff.2 q
    have h3 : noR (stepR y n D r s).2 r = false := h3
    rw [h3] at this
    cases this
  have er : (stepR y n D r s).2 r = vecR y n D (rayA y n s.1 r) := by
    funext k
    show (if r = r then _ else _) = _
    rw [if_pos rfl]
  have eo : ∀ o, o < r → (stepR y n D r s).2 o = s.2 o := by
    intro o ho
    funext k
    show (if o = r then _ else _) = _
    rw [if_neg (by omega)]
  constructor
  · intro o ho
    by_cases e : o = r
    · subst e
      rw [er]
      refine ⟨b9, ?_, fun k hk => if_neg (by omega)⟩
      rw [← er]
      exact Classical.byContradiction (fun q => hno (Or.inl q))
    · rw [eo o (by omega)]
      exact hR.1 o (by omega)
  · intro o o' ho ho' hp
    by_cases e : o = r
    · by_cases e' : o' = r
      · omega
      · exact absurd (Or.inr ⟨o', by omega, e ▸ hp⟩) hno
    · by_cases e' : o' = r
      · refine absurd (Or.inr ⟨o, by omega, fun i k hi hk => ?_⟩) hno
        have := hp k i hk hi
        rw [e'] at this
        rw [Int.mul_comm, Int.mul_comm _ ((stepR y n D r s).2 o i)]
        exact this
      · rw [eo o (by omega), eo o' (by omega)] at hp
        exact hR.2 o o' (by omega) (by omega) hp
theorem w252 {d r : Nat} {q : Nat × Nat} {nu : Nat → Nat → Int} {S : St} {Q : Out → St → Prop} (hD : D = 3 ∨ D = 4) (hS : MS y n q S) (h0 : q.1 = 0) (h53 : S.1 46 53 = Int32.ofNat D) (h54 : S.1 46 54 = Int32.ofNat r) (hr : r < 21) (hM : MRd D r nu S) (hR : RWd D r nu) (K : ∀ S1, Fz RF2 [65] S S1 → MS y n (stepR y n D r (q, nu)).1 S1 → ((stepR y n D r (q, nu)).1.1 = 0 → S1.1 46 54 = Int32.ofNat (r + 1) ∧ MRd D (r + 1) (stepR y n D r (q, nu)).2 S1) → Q (.inl none) S1) : Wp (d + 5) b 252 0 [.ref 46] [] S Q := by
  obtain ⟨a, ea⟩ : ∃ a, a = rayA y n q r := ⟨_, rfl⟩
  obtain ⟨nu', en'⟩ : ∃ nu', nu' = addV nu r (vecR y n D (rayA y n q r)) := ⟨_, rfl⟩
  have eK1 : (stepR y n D r (q, nu)).1 = rayZ y n D nu' r a := by rw [en', ea]; rfl
  have eK2 : (stepR y n D r (q, nu)).2 = nu' := by rw [en']; rfl
  rw [eK1, eK2] at K
  have ale : a.2 ≤ n := by rw [ea]; exact rayA_le hS.1
  have er : nu' r = vecR y n D a := by
    funext k
    rw [en', ea]
    show (if r = r then _ else _) = _
    rw [if_pos rfl]
  have eo : ∀ o, o < r → nu' o = nu o := by
    intro o ho
    funext k
    rw [en']
    show (if o = r then _ else _) = _
    rw [if_neg (by omega)]
  -- the end
  have fin : ∀ S1 x1, Fz RF2 [65] S S1 → S1.1 46 54 = Int32.ofNat r → MS y n (rayZ y n D nu' r a) S1 → ((rayZ y n D nu' r a).1 = 0 → MRd D (r + 1) nu' S1) → Wp (d + 5) b 252 111 [.ref 46, .int x1] [] S1 Q := by
    intro S1 x1 hF e54 hZ hMr
    refine b252_111 (fun z => b252_127 (b252_128 ?_)) (fun z => b252_123 (b252_128 ?_))
    · have f1 : Fz RF2 [65] S (setI S1 46 54 (S1.1 46 54 + 0)) := hF.seti (by decide)
      have f2 : Fz [(46, 54)] [] S1 (setI S1 46 54 (S1.1 46 54 + 0)) := Fz.refl.seti (by decide)
      exact K _ f1 (hZ.of f2 (by decide)) (fun w => absurd (hZ.bad0.2 w) z)
    · have z0 := hZ.bad0.1 (Classical.byContradiction z)
      have f1 : Fz RF2 [65] S (setI S1 46 54 (S1.1 46 54 + 1)) := hF.seti (by decide)
      have f2 : Fz [(46, 54)] [] S1 (setI S1 46 54 (S1.1 46 54 + 1)) := Fz.refl.seti (by decide)
      refine K _ f1 (hZ.of f2 (by decide)) (fun _ => ⟨?_, fun o k ho hk => by rw [f2.a (by decide)]; exact hMr z0 o k ho hk⟩)
      rw [seti_same, e54, i_suc]
  have tail : ∀ S1 x1 z, Fz RF2 [65] S S1 → S1.1 46 54 = Int32.ofNat r → MS y n z S1 → z = (if isSR y n (sdR y n a D) 59 = true ∧ noR nu' r = true then (3, (sdR y n a D).2) else sdR y n a D) → ((sdR y n a D).1 = 0 → MRd D (r + 1) nu' S1) → Wp (d + 5) b 252 105 [.ref 46, .int x1] [] S1 Q := by
    intro S1 x1 z hF e54 hz ez hMr
    refine b252_105 (P := fun S2 => Fz RF [] S1 S2 ∧ MS y n (mustR y n z 59) S2) (w245 hz (fun S2 a1 a2 => ⟨rfl, a1, a2⟩)) ?_
    rintro S2 ⟨a1, a2⟩
    have ez2 : mustR y n z 59 = rayZ y n D nu' r a := by rw [ez]; rfl
    rw [ez2] at a2
    exact fin S2 _ (hF.trans (a1.mono (by decide) (by decide))) ((a1.f (by decide)).trans e54) a2 (fun w o k ho hk => by rw [a1.a (by decide)]; exact hMr (rayZ_good w).1 o k ho hk)
  have body : ∀ S1, Fz RF [] S S1 → S1.1 46 54 = Int32.ofNat r → MS y n a S1 → Wp (d + 5) b 252 40 [.ref 46] [] S1 Q := by
    intro S1 hF1 e54 hA
    refine b252_40 ?_
    have loop : ∀ j k S', k + j = D → Fz RF2 [65] S S' → S'.1 46 54 = Int32.ofNat r → MS y n (sdR y n a k) S' → ((sdR y n a k).1 = 0 → (∀ o k', o < r → k' < D → (S'.2.1 65 (4 * o + k')).toInt = nu o k') ∧ ∀ k', k' < k → (S'.2.1 65 (4 * r + k')).toInt = vecR y n D a k') → Wp (d + 5) b 252 42 [.ref 46, .int (Int32.ofNat k)] [] S' Q := by
      intro j
      induction j with
      | zero =>
        intro k S' hk hF e54 hA hv
        have hk : k = D := hk
        subst hk
        have e53 : S'.1 46 53 = Int32.ofNat k := (hF.f (by decide)).trans h53
        refine b252_42 (fun _ => b252_84 (w243 hA) ?_) (fun z => absurd ?_ z)
        · rintro _ _ ⟨rfl, rfl⟩
          have hMr : (sdR y n a k).1 = 0 → MRd k (r + 1) nu' S' := fun w o k' ho hk' => by
            by_cases e : o = r
            · rw [e, er]; exact (hv w).2 k' hk'
            · rw [eo o (by omega)]; exact (hv w).1 o k' (by omega) hk'
          refine b252_90 (fun z => tail S' _ _ hF e54 hA ?_ hMr) (fun z => ?_)
          · rw [if_neg (fun w => by rw [bi0.1 z] at w; exact absurd w.1 (by decide))]
          · have zs := bi1.1 z
            have z0 : (sdR y n a k).1 = 0 := by
              unfold isSR at zs
              exact of_decide_eq_true (Bool.and_eq_true _ _ ▸ zs : _ ∧ _).1
            refine b252_93 (w251 hD e53 e54 hr (hMr z0) (fun o ho => ?_)) ?_
            · by_cases e : o = r
              · rw [e, er]
                exact ⟨vecR_b9 (by omega) ale z0, fun k' hk' => if_neg (by omega)⟩
              · rw [eo o (by omega)]
                exact ⟨(hR.1 o (by omega)).1, (hR.1 o (by omega)).2.2⟩
            · rintro _ _ ⟨rfl, rfl⟩
              refine b252_97 (fun w => tail S' _ _ hF e54 hA ?_ hMr) (fun w => b252_100 (P := fun S2 => Fz RF [] S' S2 ∧ MS y n (wrgR 3 (sdR y n a k)) S2) (w241 (k := 3) hA (by omega) (fun S2 a1 a2 => ⟨rfl, a1, a2⟩)) ?_)
              · rw [if_neg (fun v => by rw [bi0.1 w] at v; exact absurd v.2 (by decide))]
              · rintro S2 ⟨a1, a2⟩
                refine tail S2 _ _ (hF.trans (a1.mono (by decide) (by decide))) ((a1.f (by decide)).trans e54) a2 ?_ (fun w o k' ho hk' => by rw [a1.a (by decide)]; exact hMr w o k' ho hk')
                rw [if_pos ⟨zs, bi1.1 w⟩]
                unfold wrgR
                rw [if_pos z0]
        · rw [e53]
          exact (i_le (by omega) (by omega)).2 (Nat.le_refl _)
      | succ j ih =>
        intro k S' hk hF e54 hA hv
        have e53 : S'.1 46 53 = Int32.ofNat D := (hF.f (by decide)).trans h53
        refine b252_42 (fun z => ?_) (fun _ => b252_50 (P := fun v S2 => v = sgV y n (sdR y n a k) ∧ Fz RF [] S' S2 ∧ MS y n (sdR y n a (k + 1)) S2) (w247 hA (fun S2 a1 a2 => ⟨_, rfl, rfl, a1, a2⟩)) ?_)
        · rw [e53] at z
          have := (i_le (by omega) (by omega)).1 z
          omega
        rintro _ S2 ⟨rfl, a1, a2⟩
        have f2 : Fz RF2 [65] S S2 := hF.trans (a1.mono (by decide) (by decide))
        have g54 : S2.1 46 54 = Int32.ofNat r := (a1.f (by decide)).trans e54
        refine b252_56 (fun z => b252_78 ?_) (fun z => ?_)
        · rw [i_suc]
          exact ih (k + 1) S2 (by omega) f2 g54 a2 (fun w => absurd (a2.bad0.2 w) z)
        · have w := a2.bad0.1 (Classical.byContradiction z)
          have w' : (sdR y n a k).1 = 0 := sdR_back 1 w
          have e : (4 : Int32) * Int32.ofNat r + Int32.ofNat k = Int32.ofNat (4 * r + k) := by rw [show (4 : Int32) = Int32.ofNat 4 from rfl, i_mul, i_add]
          refine b252_64 (by rw [g54, e]; exact i_vp (by omega) (by omega)) (b252_78 ?_)
          rw [i_suc, g54, e, i_cl (by omega)]
          have f3 : Fz RF2 [65] S (setA S2 65 (4 * r + k) (sgV y n (sdR y n a k))) := f2.seta (by decide)
          have f4 : Fz [] [65] S2 (setA S2 65 (4 * r + k) (sgV y n (sdR y n a k))) := Fz.refl.seta (by decide)
          obtain ⟨v1, v2⟩ := hv w'
          refine ih (k + 1) _ (by omega) f3 g54 (a2.of f4 (by decide)) (fun _ => ⟨fun o k' ho hk' => ?_, fun k' hk' => ?_⟩)
          · rw [seta_ne (by omega), a1.a (by decide)]
            exact v1 o k' ho hk'
          · by_cases ek : k' = k
            · subst ek
              rw [seta_same]
              unfold vecR
              rw [if_pos (by omega)]
            · rw [seta_ne (by omega), a1.a (by decide)]
              exact v2 k' (by omega)
    refine loop D 0 S1 (by omega) (hF1.mono (by decide) (by decide)) e54 hA (fun w => ⟨fun o k' ho hk' => ?_, fun k' hk' => absurd hk' (Nat.not_lt_zero _)⟩)
    -- no number has been written yet
    have := hM o k' ho hk'
    rw [hF1.a (by decide)]
    exact this
  -- the word
  have pass : ∀ S1 z, Fz RF [] S S1 → MS y n z S1 → pasR y n z = a → Wp (d + 5) b 252 36 [.ref 46] [] S1 Q := by
    intro S1 z hF hz ez
    refine b252_36 (P := fun S2 => Fz RF [] S S2 ∧ MS y n a S2) (w242 hz (fun S2 a1 a2 => ⟨rfl, hF.trans a1, by rw [← ez]; exact a2⟩)) ?_
    rintro S2 ⟨a1, a2⟩
    exact body S2 a1 ((a1.f (by decide)).trans h54) a2
  refine b252_0 (w244 (w := wRay) hS (by decide) (by decide +kernel) (by decide)) ?_
  rintro _ _ ⟨rfl, rfl⟩
  refine b252_7 (fun z => ?_) (fun z => b252_10 (P := fun S1 => Fz RF [] S S1 ∧ MS y n (wrgR 1 q) S1) (w241 (k := 1) hS (by omega) (fun S1 a1 a2 => ⟨rfl, a1, a2⟩)) ?_)
  · have zw := bi1.1 z
    refine b252_15 (fun w => absurd (hS.bad0.2 h0) w) (fun _ => b252_22 (fun w => pass S q Fz.refl hS ?_) (fun w => b252_31 (P := fun S1 => Fz RF [] S S1 ∧ MS y n (wrgR 4 q) S1) (w241 (k := 4) hS (by omega) (fun S1 a1 a2 => ⟨rfl, a1, a2⟩)) ?_))
    · rw [h54] at w
      rw [ea]
      unfold rayA
      rw [if_pos zw, if_neg (fun e => w (by rw [e]; rfl))]
    · rintro S1 ⟨a1, a2⟩
      rw [h54] at w
      have e20 := (i_inj (b := 20) (by omega) (by omega)).1 (Classical.byContradiction w)
      refine pass S1 _ a1 a2 ?_
      rw [ea]
      unfold rayA wrgR
      rw [if_pos zw, if_pos e20, if_pos h0]
  · rintro S1 ⟨a1, a2⟩
    have zw := bi0.1 (Classical.byContradiction z)
    have nb : ¬ (wrgR 1 q).1 = 0 := by unfold wrgR; rw [if_pos h0]; exact (show ¬ 1 = 0 by omega)
    refine b252_15 (fun _ => pass S1 _ a1 a2 ?_) (fun w => absurd (fun z => nb (a2.bad0.1 z)) w)
    rw [ea]
    unfold rayA
    rw [zw, if_neg (by decide)]
end MRAYS2
