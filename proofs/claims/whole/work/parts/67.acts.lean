/-! ACTS: what was, ahead of each of the latest -/
def pushN (n : Nat) : Nat := if n < 20 then n + 1 else 20
def pushF (n : Nat) (a : Nat → Int32 × Int32) (x : Int32 × Int32) : Nat → Int32 × Int32 := fun i => if n < 20 then (if i = n then x else a i) else (if i = 19 then x else a (i + 1))
/-- the reference's -/
def MA (n : Nat) (a : Nat → Int32 × Int32) (S : St) : Prop := S.1 46 40 = Int32.ofNat n ∧ n ≤ 20 ∧ ∀ i, i < n → S.2.1 62 i = (a i).1 ∧ S.2.1 63 i = (a i).2
/-- the class's: a ring -/
def CA (n : Nat) (a : Nat → Int32 × Int32) (S : St) : Prop := S.1 12 3 = Int32.ofNat n ∧ n ≤ 20 ∧ ∃ o, o < 20 ∧ S.1 12 2 = Int32.ofNat o ∧ ∀ i, i < n → S.2.1 43 ((o + i) % 20) = (a i).1 ∧ S.2.1 44 ((o + i) % 20) = (a i).2
theorem MA.of {n : Nat} {a : Nat → Int32 × Int32} {fs : List (Nat × Nat)} {as : List Nat} {S S1 : St} (h : MA n a S) (hF : Fz fs as S S1) (q : (46, 40) ∉ fs ∧ 62 ∉ as ∧ 63 ∉ as) : MA n a S1 := ⟨(hF.f q.1).trans h.1, h.2.1, fun i hi => ⟨(hF.a q.2.1 i).trans (h.2.2 i hi).1, (hF.a q.2.2 i).trans (h.2.2 i hi).2⟩⟩
theorem CA.of {n : Nat} {a : Nat → Int32 × Int32} {fs : List (Nat × Nat)} {as : List Nat} {S S1 : St} (h : CA n a S) (hF : Fz fs as S S1) (q : (12, 2) ∉ fs ∧ (12, 3) ∉ fs ∧ 43 ∉ as ∧ 44 ∉ as) : CA n a S1 := by
  obtain ⟨h1, h2, o, h3, h4, h5⟩ := h
  exact ⟨(hF.f q.2.1).trans h1, h2, o, h3, (hF.f q.1).trans h4, fun i hi => ⟨(hF.a q.2.2.1 _).trans (h5 i hi).1, (hF.a q.2.2.2 _).trans (h5 i hi).2⟩⟩
section ACTS
variable {b n : Nat} {a : Nat → Int32 × Int32}
theorem w229 {d : Nat} {S : St} {Q : Out → St → Prop} (hA : MA n a S) (K : ∀ S1, Fz [(46, 40)] [62, 63] S S1 → MA (pushN n) (pushF n a (S.1 46 2, S.1 46 3)) S1 → Q (.inl none) S1) : Wp d b 229 0 [.ref 46] [] S Q := by
  obtain ⟨h1, h2, h3⟩ := hA
  -- the latest is written
  have put : ∀ k (a' : Nat → Int32 × Int32) S', k < 20 → Fz [(46, 40)] [62, 63] S S' → S'.1 46 40 = Int32.ofNat k → (∀ i, i < k → S'.2.1 62 i = (a' i).1 ∧ S'.2.1 63 i = (a' i).2) → k + 1 = pushN n → (∀ i, i < k → pushF n a (S.1 46 2, S.1 46 3) i = a' i) → pushF n a (S.1 46 2, S.1 46 3) k = (S.1 46 2, S.1 46 3) → Wp d b 229 61 [.ref 46] [] S' Q := by
    intro k a' S' hk hF e40 hi ek ea ex
    have e40' : ∀ v, (setA S' 62 k v).1 46 40 = Int32.ofNat k := fun v => e40
    refine b229_61 ?_ ?_ ?_
    · rw [e40]; exact i_vp hk (by omega)
    · show vp_in (S'.1 46 40) 20
      rw [e40]; exact i_vp hk (by omega)
    · show Q _ (setI (setA (setA S' 62 (S'.1 46 40).toNatClampNeg (S'.1 46 2)) 63 (S'.1 46 40).toNatClampNeg (S'.1 46 3)) 46 40 (S'.1 46 40 + 1))
      rw [e40, i_cl (by omega), i_suc, hF.f (by decide), hF.f (by decide)]
      refine K _ (((hF.seta (by decide)).seta (by decide)).seti (by decide)) ⟨?_, ?_, fun i hi' => ?_⟩
      · rw [seti_same, ek]
      · unfold pushN; split <;> omega
      · show (setA (setA S' 62 k (S.1 46 2)) 63 k (S.1 46 3)).2.1 62 i = _ ∧ (setA (setA S' 62 k (S.1 46 2)) 63 k (S.1 46 3)).2.1 63 i = _
        by_cases e : i = k
        · subst e
          rw [ex]
          exact ⟨by rw [seta_ne (by omega), seta_same], seta_same⟩
        · rw [seta_ne (by omega), seta_ne (by omega), seta_ne (by omega), seta_ne (by omega), ea i (by omega)]
          exact hi i (by omega)
  refine b229_0 (fun h => ?_) (fun h => b229_9 ?_)
  · have hn : n < 20 := by
      refine Nat.lt_of_le_of_ne h2 (fun e => h ?_)
      rw [h1, e]; rfl
    refine put n a S hn Fz.refl h1 h3 (by unfold pushN; rw [if_pos hn]) (fun i hi => ?_) ?_
    · unfold pushF
      rw [if_pos hn, if_neg (by omega)]
    · unfold pushF
      rw [if_pos hn, if_pos rfl]
  · have hn : n = 20 := by
      have h := Classical.not_not.1 h
      rw [h1] at h
      exact (i_inj (b := 20) (by omega) (by omega)).1 h
    have loop : ∀ k i S', i + k = 20 → 1 ≤ i → Fz [(46, 40)] [62, 63] S S' → S'.1 46 40 = Int32.ofNat n → (∀ j, j < 20 → if j + 1 < i then (S'.2.1 62 j = (a (j + 1)).1 ∧ S'.2.1 63 j = (a (j + 1)).2) else (S'.2.1 62 j = (a j).1 ∧ S'.2.1 63 j = (a j).2)) → Wp d b 229 11 [.ref 46, .int (Int32.ofNat i)] [] S' Q := by
      intro k
      induction k with
      | zero =>
        intro i S' hi h1i hF e40 hj
        have hi : i = 20 := hi
        refine b229_11 (fun _ => b229_51 ?_) (fun q => absurd ((i_le (a := 20) (by omega) (by omega)).2 (by omega)) q)
        rw [e40, hn, show (1 : Int32) = Int32.ofNat 1 from rfl, i_sub (by omega)]
        refine put 19 (fun i => a (i + 1)) _ (by omega) (hF.seti (by decide)) seti_same (fun j hj' => ?_) (by rw [hn]; rfl) (fun j hj' => ?_) ?_
        · have := hj j (by omega)
          rw [if_pos (by omega)] at this
          exact this
        · rw [hn]
          show (if _ then _ else _) = _
          rw [if_neg (by omega), if_neg (by omega)]
        · rw [hn]
          show (if _ then _ else _) = _
          rw [if_neg (by omega), if_pos rfl]
      | succ k ih =>
        intro i S' hi h1i hF e40 hj
        have vp := i_vp (k := i) (n := 20) (by omega) (by omega)
        have ei : Int32.ofNat i - 1 = Int32.ofNat (i - 1) := by rw [show (1 : Int32) = Int32.ofNat 1 from rfl, i_sub (by omega)]
        have vp1 : vp_in (Int32.ofNat i - 1) 20 := by rw [ei]; exact i_vp (by omega) (by omega)
        refine b229_11 (fun q => ?_) (fun _ => b229_17 vp vp1 vp vp1 (b229_45 ?_))
        · have := (i_le (a := 20) (by omega) (by omega)).1 q
          omega
        · rw [ei, i_cl (by omega), i_cl (by omega), i_suc]
          refine ih (i + 1) _ (by omega) (by omega) ((hF.seta (by decide)).seta (by decide)) e40 (fun j hj' => ?_)
          have hji := hj i (by omega)
          rw [if_neg (by omega)] at hji
          have hjj := hj j hj'
          by_cases e : j = i - 1
          · rw [if_pos (by omega), show j + 1 = i by omega, e]
            refine ⟨?_, ?_⟩
            · rw [seta_ne (by omega), seta_same]; exact hji.1
            · rw [seta_same, seta_ne (by omega)]; exact hji.2
          · rw [seta_ne (by omega), seta_ne (by omega), seta_ne (by omega), seta_ne (by omega)]
            by_cases e2 : j + 1 < i
            · rw [if_pos e2] at hjj
              rw [if_pos (by omega)]; exact hjj
            · rw [if_neg e2] at hjj
              rw [if_neg (by omega)]; exact hjj
    exact loop 19 1 S (by omega) (by omega) Fz.refl h1 (fun j hj => by rw [if_neg (by omega)]; exact h3 j (by omega))
theorem mod_ne {o i j : Nat} (ho : o < 20) (hi : i < 20) (hj : j < 20) (h : i ≠ j) : (o + i) % 20 ≠ (o + j) % 20 := by omega
theorem c2 {d : Nat} {S : St} {x y : Int32} {Q : Out → St → Prop} (hA : CA n a S) (K : ∀ S1, Fz [(12, 2), (12, 3)] [43, 44] S S1 → CA (pushN n) (pushF n a (x, y)) S1 → Q (.inl none) S1) : Wp d b 2 0 [.ref 12, .int x, .int y] [] S Q := by
  obtain ⟨h1, h2, o, h3, h4, h5⟩ := hA
  have put : ∀ k o' (a' : Nat → Int32 × Int32) S', k < 20 → o' < 20 → Fz [(12, 2), (12, 3)] [43, 44] S S' → S'.1 12 3 = Int32.ofNat k → S'.1 12 2 = Int32.ofNat o' → (∀ i, i < k → S'.2.1 43 ((o' + i) % 20) = (a' i).1 ∧ S'.2.1 44 ((o' + i) % 20) = (a' i).2) → k + 1 = pushN n → (∀ i, i < k → pushF n a (x, y) i = a' i) → pushF n a (x, y) k = (x, y) → Wp d b 2 32 [.ref 12, .int x, .int y] [] S' Q := by
    intro k o' a' S' hk ho hF e3 e2 hi ek ea ex
    have es : S'.1 12 2 + S'.1 12 3 - (S'.1 12 2 + S'.1 12 3) / 20 * 20 = Int32.ofNat ((o' + k) % 20) := by
      rw [e2, e3, i_add]
      exact i_mod (k := 20) (by omega) (by omega) (by omega)
    have vp : vp_in (Int32.ofNat ((o' + k) % 20)) 20 := i_vp (by omega) (by omega)
    refine b2_32 (by decide) ?_ ?_
    all_goals rw [es]
    · intro q
      exact absurd q (i_nneg (by omega))
    · intro _
      refine b2_49 (fun q => ?_) (fun _ => b2_55 vp vp (b2_79 ?_))
      · have := (i_le (a := 20) (by omega) (by omega)).1 q
        omega
      · show Q _ (setI (setA (setA S' 43 (Int32.ofNat ((o' + k) % 20)).toNatClampNeg x) 44 (Int32.ofNat ((o' + k) % 20)).toNatClampNeg y) 12 3 (S'.1 12 3 + 1))
        rw [i_cl (by omega), e3, i_suc]
        refine K _ (((hF.seta (by decide)).seta (by decide)).seti (by decide)) ⟨?_, ?_, o', ho, ?_, fun i hi' => ?_⟩
        · rw [seti_same, ek]
        · unfold pushN; split <;> omega
        · rw [seti_ne (by decide)]; exact e2
        · show (setA (setA S' 43 ((o' + k) % 20) x) 44 ((o' + k) % 20) y).2.1 43 ((o' + i) % 20) = _ ∧ (setA (setA S' 43 ((o' + k) % 20) x) 44 ((o' + k) % 20) y).2.1 44 ((o' + i) % 20) = _
          by_cases e : i = k
          · subst e
            rw [ex]
            exact ⟨by rw [seta_ne (by omega), seta_same], seta_same⟩
          · have hne := mod_ne ho (by omega : i < 20) hk e
            rw [seta_ne (by omega), seta_ne (by omega), seta_ne (by omega), seta_ne (by omega), ea i (by omega)]
            exact hi i (by omega)
  refine b2_0 (fun h => ?_) (fun h => b2_9 (by decide) ?_)
  · rw [h1] at h
    have hn := (i_lt (b := 20) (by omega) (by omega)).1 h
    refine put n o a S hn h3 Fz.refl h1 h4 h5 (by unfold pushN; rw [if_pos hn]) (fun i hi => ?_) ?_
    · unfold pushF
      rw [if_pos hn, if_neg (by omega)]
    · unfold pushF
      rw [if_pos hn, if_pos rfl]
  · have hn : n = 20 := by
      rw [h1] at h
      have := mt (i_lt (b := 20) (by omega) (by omega)).2 h
      omega
    have eo : S.1 12 2 + 1 - (S.1 12 2 + 1) / 20 * 20 = Int32.ofNat ((o + 1) % 20) := by
      rw [h4, i_suc]
      exact i_mod (k := 20) (by omega) (by omega) (by omega)
    rw [eo]
    have e3 : (setI S 12 2 (Int32.ofNat ((o + 1) % 20))).1 12 3 - 1 = Int32.ofNat 19 := by
      rw [seti_ne (by decide), h1, hn]; decide
    rw [e3]
    refine put 19 ((o + 1) % 20) (fun i => a (i + 1)) _ (by omega) (by omega) ((Fz.refl.seti (by decide)).seti (by decide)) seti_same (by rw [seti_ne (by decide), seti_same]) (fun i hi => ?_) (by rw [hn]; rfl) (fun i hi => ?_) ?_
    · have := h5 (i + 1) (by omega)
      rw [show ((o + 1) % 20 + i) % 20 = (o + (i + 1)) % 20 by omega]
      exact this
    · rw [hn]
      show (if _ then _ else _) = _
      rw [if_neg (by omega), if_neg (by omega)]
    · rw [hn]
      show (if _ then _ else _) = _
      rw [if_neg (by omega), if_pos rfl]
theorem c3 {d : Nat} {S : St} {Q : Out → St → Prop} (hA : CA (n + 1) a S) (K : ∀ S1, Fz [(12, 3), (12, 4), (12, 5)] [] S S1 → CA n a S1 → S1.1 12 4 = (a n).1 → S1.1 12 5 = (a n).2 → Q (.inl none) S1) : Wp (d + 1) b 3 0 [.ref 12] [] S Q := by
  obtain ⟨h1, h2, o, h3, h4, h5⟩ := hA
  have hlat := h5 n (by omega)
  refine b3_0 (fun h => ?_) (fun h => b3_7 (by decide) (P := Vx (a n).1 (setI S 12 3 (Int32.ofNat n))) ?_ ?_)
  · rw [h1] at h
    have := (i_le (b := 0) (by omega) (by omega)).1 h
    omega
  all_goals
    have e1 : S.1 12 3 - 1 = Int32.ofNat n := by rw [h1, i_pre]
    rw [e1]
    have es : (setI S 12 3 (Int32.ofNat n)).1 12 2 + (setI S 12 3 (Int32.ofNat n)).1 12 3 - ((setI S 12 3 (Int32.ofNat n)).1 12 2 + (setI S 12 3 (Int32.ofNat n)).1 12 3) / 20 * 20 = Int32.ofNat ((o + n) % 20) := by
      rw [seti_same, seti_ne (by decide), h4, i_add]
      exact i_mod (k := 20) (by omega) (by omega) (by omega)
    rw [es]
  · have := s147n (d := d) (b := 0) (S := setI S 12 3 (Int32.ofNat n)) (i := (o + n) % 20) (by omega)
    have e43 : (setI S 12 3 (Int32.ofNat n)).2.1 43 ((o + n) % 20) = (a n).1 := hlat.1
    rw [if_pos (by omega), e43] at this
    exact this
  · rintro _ _ ⟨rfl, rfl⟩
    refine b3_39 (P := Vx (a n).2 (setI (setI S 12 3 (Int32.ofNat n)) 12 4 (a n).1)) ?_ ?_
    · have := s147o (d := d) (b := 0) (S := setI (setI S 12 3 (Int32.ofNat n)) 12 4 (a n).1) (i := (o + n) % 20) (by omega)
      have e44 : (setI (setI S 12 3 (Int32.ofNat n)) 12 4 (a n).1).2.1 44 ((o + n) % 20) = (a n).2 := hlat.2
      rw [if_pos (by omega), e44] at this
      exact this
    · rintro _ _ ⟨rfl, rfl⟩
      refine b3_51 (b3_54 (K _ (((Fz.refl.seti (by decide)).seti (by decide)).seti (by decide)) ⟨?_, by omega, o, h3, ?_, fun i hi => h5 i (by omega)⟩ ?_ seti_same))
      · rw [seti_ne (by decide), seti_ne (by decide), seti_same]
      · rw [seti_ne (by decide), seti_ne (by decide), seti_ne (by decide)]; exact h4
      · rw [seti_ne (by decide), seti_same]
end ACTS
