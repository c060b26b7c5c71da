/-! THE CLASS: weaving -/
theorem i_half {e : Nat} (h : e < 2147483648) : Int32.ofNat e / 2 = Int32.ofNat (e / 2) := by
  apply Int32.toInt.inj
  rw [Int32.toInt_div_of_ne_right _ _ (by decide), i_toInt h, i_toInt (by omega)]
  have : (2 : Int32).toInt = 2 := by decide
  rw [this, Int.tdiv_eq_ediv_of_nonneg (by omega)]
  omega
/-- the web as it must be -/
def WB (ins : Int32) (up : Nat → Int32) (F : List Int32) (S : St) : Prop := S.1 5 1 = ins ∧ S.1 5 2 = Int32.ofNat (sumN (fun r => pcn (up r)) 20 / 2) ∧ (∀ r, r < 20 → S.2.1 23 r = up r) ∧ WF S F
theorem sumN_le {f : Nat → Nat} {c : Nat} (h : ∀ k, f k ≤ c) (n : Nat) : sumN f n ≤ n * c := by
  induction n with
  | zero => exact Nat.zero_le _
  | succ n ih =>
    show sumN f n + f n ≤ _
    have := h n
    rw [Nat.succ_mul]
    omega
section WEAVE
variable {b : Nat} {up : Nat → Int32} {ins : Int32}
theorem w91 {d D : Nat} {S : St} {Q : Out → St → Prop} (hD : D = 3 ∨ D = 4) (hS : S.1 2 0 = Int32.ofNat D) (hu : ∀ r, r < 20 → up r = if tb ins r = true then S.2.1 18 r &&& ins else 0) (hsym : ∀ r o, tb (up r) o = tb (up o) r) (hin : ∀ r o, tb (up r) o = true → tb ins o = true) (hlen : (ff up ins 20 20 D 0).length ≤ 300) (K : ∀ S1, Fz [(5, 1), (5, 2), (5, 3)] [23, 24, 25, 26] S S1 → WB ins up (ff up ins 20 20 D 0) S1 → Q (.inl none) S1) : Wp (d + 4) b 91 0 [.ref 5, .int ins] [] S Q := by
  -- frames of two rays
  have inner : ∀ k j a S' x2 L, a < 20 → j = 20 - (a + 1) → k ≤ j → Fz [(5, 1), (5, 2), (5, 3)] [23, 24, 25, 26] S S' → S'.1 5 1 = ins → S'.1 5 2 = Int32.ofNat (sumN (fun r => pcn (up r)) 20 / 2) → (∀ r, r < 20 → S'.2.1 23 r = up r) → WF S' L → (L ++ ff up ins 20 k (D - 1) (bit a)).length ≤ 300 →
      (∀ S1, Fz [(5, 1), (5, 2), (5, 3)] [23, 24, 25, 26] S S1 → S1.1 5 1 = ins → S1.1 5 2 = Int32.ofNat (sumN (fun r => pcn (up r)) 20 / 2) → (∀ r, r < 20 → S1.2.1 23 r = up r) → WF S1 (L ++ ff up ins 20 k (D - 1) (bit a)) → Wp (d + 4) b 91 96 [.ref 5, .int ins, .int x2, .int (Int32.ofNat (a + 1))] [] S1 Q) →
      Wp (d + 4) b 91 107 [.ref 5, .int ins, .int x2, .int (Int32.ofNat a), .int (Int32.ofNat (20 - k))] [] S' Q := by
    intro k
    induction k with
    | zero =>
      intro j a S' x2 L ha hj hk hF e1 e2 e3 hW hl K'
      refine b91_107 (fun _ => b91_164 ?_) (fun h => absurd ((i_le (a := 20) (by omega) (by omega)).2 (by omega)) h)
      rw [i_suc]
      refine K' S' hF e1 e2 e3 ?_
      have e : ff up ins 20 0 (D - 1) (bit a) = [] := by
        rcases hD with rfl | rfl <;> rfl
      rw [e, List.append_nil]
      exact hW
    | succ k ih =>
      intro j a S' x2 L ha hj hk hF e1 e2 e3 hW hl K'
      have er : 20 - (k + 1) + 1 = 20 - k := by omega
      obtain ⟨s, hs, hDs⟩ : ∃ s, s ≤ 1 ∧ D = s + 3 := by
        rcases hD with rfl | rfl
        · exact ⟨0, by omega, rfl⟩
        · exact ⟨1, by omega, rfl⟩
      have eD : D - 1 = (s + 1) + 1 := by omega
      have cond : (tb ins (20 - (k + 1)) = true ∧ bit a &&& (up (20 - (k + 1)) ^^^ -1) = 0) ↔ tb (up a) (20 - (k + 1)) = true := by
        rw [sb_sub0]
        constructor
        · rintro ⟨_, q2⟩
          rw [hsym]
          exact q2 a (by rw [tb_bit (by omega)]; simp)
        · intro q
          refine ⟨hin _ _ q, fun z hz => ?_⟩
          rw [tb_bit (by omega)] at hz
          have : z = a := by simpa using hz
          subst this
          rw [hsym]; exact q
      refine b91_107 (fun h => ?_) (fun _ => b91_114 (i_vp (by omega) (by omega)) (P := Vx (bi (tb (up a) (20 - (k + 1)))) S') ?_ ?_)
      · have := (i_le (a := 20) (by omega) (by omega)).1 h
        omega
      · rw [i_cl (by omega), e3 a ha]
        exact s146 _ (by omega)
      · rintro _ _ ⟨rfl, rfl⟩
        refine b91_125 (fun h => b91_158 ?_) (fun h => b91_128 (i_vp (by omega) (by omega)) (i_vp (by omega) (by omega)) (P := fun S1 => Fz [(5, 3)] [24, 25, 26] S' S1 ∧ WF S1 (L ++ ff up ins 20 k (s + 1) (bit a ||| bit (20 - (k + 1))))) ?_ ?_)
        · have hn : ¬ (tb ins (20 - (k + 1)) = true ∧ bit a &&& (up (20 - (k + 1)) ^^^ -1) = 0) := fun q => by
            have := cond.1 q
            rw [bi0.1 h] at this
            cases this
          have e : ff up ins 20 (k + 1) (D - 1) (bit a) = ff up ins 20 k (D - 1) (bit a) := by
            rw [eD]
            show (if _ then _ else _) ++ _ = _
            rw [if_neg hn]; rfl
          rw [e] at hl K'
          rw [i_suc, er]
          exact ih j a S' x2 L ha hj (by omega) hF e1 e2 e3 hW hl K'
        · have hy := cond.2 (bi1.1 h)
          have e : ff up ins 20 (k + 1) (D - 1) (bit a) = ff up ins 20 k (s + 1) (bit a ||| bit (20 - (k + 1))) ++ ff up ins 20 k (D - 1) (bit a) := by
            rw [eD]
            show (if _ then _ else _) ++ _ = _
            rw [if_pos hy]; rfl
          rw [e, ← List.append_assoc] at hl
          rw [i_cl (by omega), i_cl (by omega), e3 a ha, e3 _ (by omega), i_suc, er]
          refine w92 (d := d) (up := up) (ins := ins) (two := bit a ||| bit (20 - (k + 1))) hs (by rw [← hDs]; exact (hF.f (by decide)).trans hS) e3 hsym k L (by omega) hW (fun r h1 h2 => ?_) (by rw [List.length_append] at hl; omega) (fun S1 h1 h2 => ⟨rfl, h1, h2⟩)
          rw [tb_and, Bool.and_eq_true, sb_sub0]
          constructor
          · rintro ⟨q1, q2⟩
            refine ⟨hin _ _ q1, sb_or (fun z hz => ?_) (fun z hz => ?_)⟩
            · have hz : tb (bit a) z = true := hz
              rw [tb_bit (by omega)] at hz
              have : z = a := by simpa using hz
              subst this
              rw [hsym]; exact q1
            · have hz : tb (bit (20 - (k + 1))) z = true := hz
              rw [tb_bit (by omega)] at hz
              have : z = 20 - (k + 1) := by simpa using hz
              subst this
              rw [hsym]; exact q2
          · rintro ⟨q1, q2⟩
            constructor
            · rw [hsym]
              exact q2 a (sb_orl (bit a) _ a (by rw [tb_bit (by omega)]; simp))
            · rw [hsym]
              exact q2 _ (sb_orr _ (bit (20 - (k + 1))) _ (by rw [tb_bit (by omega)]; simp))
        · rintro S1 ⟨hF1, hW1⟩
          have hy := cond.2 (bi1.1 h)
          have e : ff up ins 20 (k + 1) (D - 1) (bit a) = ff up ins 20 k (s + 1) (bit a ||| bit (20 - (k + 1))) ++ ff up ins 20 k (D - 1) (bit a) := by
            rw [eD]
            show (if _ then _ else _) ++ _ = _
            rw [if_pos hy]; rfl
          rw [e, ← List.append_assoc] at hl K'
          refine b91_158 ?_
          rw [i_suc, er]
          exact ih j a S1 x2 _ ha hj (by omega) (hF.trans (hF1.mono (by decide) (by decide))) ((hF1.f (by decide)).trans e1) ((hF1.f (by decide)).trans e2) (fun r hr => (hF1.a (by decide) r).trans (e3 r hr)) hW1 hl K'
  have outer : ∀ k S' x2 L, k ≤ 20 → Fz [(5, 1), (5, 2), (5, 3)] [23, 24, 25, 26] S S' → S'.1 5 1 = ins → S'.1 5 2 = Int32.ofNat (sumN (fun r => pcn (up r)) 20 / 2) → (∀ r, r < 20 → S'.2.1 23 r = up r) → WF S' L → L ++ ff up ins 20 k D 0 = ff up ins 20 20 D 0 → Wp (d + 4) b 91 96 [.ref 5, .int ins, .int x2, .int (Int32.ofNat (20 - k))] [] S' Q := by
    intro k
    induction k with
    | zero =>
      intro S' x2 L hk hF e1 e2 e3 hW hl
      refine b91_96 (fun _ => b91_170 (K S' hF ⟨e1, e2, e3, ?_⟩)) (fun h => absurd ((i_le (a := 20) (by omega) (by omega)).2 (by omega)) h)
      rw [← hl]
      have e : ff up ins 20 0 D 0 = [] := by
        rcases hD with rfl | rfl <;> rfl
      rw [e, List.append_nil]
      exact hW
    | succ k ih =>
      intro S' x2 L hk hF e1 e2 e3 hW hl
      have er : 20 - (k + 1) + 1 = 20 - k := by omega
      have e : ff up ins 20 (k + 1) D 0 = ff up ins 20 k (D - 1) (bit (20 - (k + 1))) ++ ff up ins 20 k D 0 := by
        obtain ⟨s, rfl⟩ : ∃ s, D = s + 2 := ⟨D - 2, by omega⟩
        show (if _ then ff up ins 20 k (s + 1) (0 ||| bit (20 - (k + 1))) else _) ++ _ = ff up ins 20 k (s + 1) (bit (20 - (k + 1))) ++ _
        rw [or_zero_l]
        by_cases hi : tb ins (20 - (k + 1)) = true
        · rw [if_pos ⟨hi, and_zero_l _⟩]
        · rw [if_neg (fun q => hi q.1), ff_none k s _ (fun r h1 h2 q => hi (hin r _ ?_)) (by omega)]
          exact sb_sub0.1 q.2 _ (by rw [tb_bit (by omega)]; simp)
      rw [e, ← List.append_assoc] at hl
      refine b91_96 (fun h => ?_) (fun _ => b91_102 ?_)
      · have := (i_le (a := 20) (by omega) (by omega)).1 h
        omega
      · rw [i_suc, er]
        refine inner k k (20 - (k + 1)) S' x2 L (by omega) (by omega) (Nat.le_refl _) hF e1 e2 e3 hW ?_ (fun S1 h1 h2 h3 h4 h5 => ?_)
        · have := congrArg List.length hl
          rw [List.length_append] at this
          omega
        · rw [er]
          exact ih S1 x2 _ (by omega) h1 h2 h3 h4 h5 hl
  have first : ∀ k r S', r + k = 20 → Fz [(5, 1), (5, 2), (5, 3)] [23, 24, 25, 26] S S' → S'.1 5 1 = ins → (∀ q, q < r → S'.2.1 23 q = up q ∧ S'.2.1 24 q = 0 ∧ S'.2.1 25 q = 0) → Wp (d + 4) b 91 9 [.ref 5, .int ins, .int (Int32.ofNat (sumN (fun r => pcn (up r)) r)), .int (Int32.ofNat r)] [] S' Q := by
    intro k
    induction k with
    | zero =>
      intro r S' hk hF e1 hq
      have hr : r = 20 := by omega
      subst hr
      refine b91_9 (fun _ => b91_82 (by decide) ?_) (fun h => absurd ((i_le (a := 20) (by omega) (by omega)).2 (by omega)) h)
      have hsum := sumN_le (f := fun r => pcn (up r)) (c := 32) (fun k => pcn_le _) 20
      rw [i_half (by omega)]
      refine outer 20 _ _ [] (by omega) ((hF.seti (by decide)).seti (by decide)) ((seti_ne (by decide)).trans ((seti_ne (by decide)).trans e1)) ((seti_ne (by decide)).trans seti_same) (fun q hq' => (hq q hq').1) ⟨seti_same, fun i hi => absurd hi (Nat.not_lt_zero i), fun q hq' => ?_⟩ rfl
      exact ⟨(hq q hq').2.1, (hq q hq').2.2⟩
    | succ k ih =>
      intro r S' hk hF e1 hq
      have hr20 : r < 20 := by omega
      have vp := i_vp (k := r) (n := 20) hr20 (by omega)
      have go : ∀ v, v = up r → Wp (d + 4) b 91 49 [.ref 5, .int ins, .int (Int32.ofNat (sumN (fun r => pcn (up r)) r)), .int (Int32.ofNat r)] [.int v, .int (Int32.ofNat r), .ref 23] S' Q := by
        rintro v rfl
        refine b91_49 vp vp vp vp (s0 _) ?_
        rintro _ _ ⟨rfl, rfl⟩
        rw [i_cl (by omega)]
        have e23 : (setA (setA (setA S' 23 r (up r)) 24 r 0) 25 r 0).2.1 23 r = up r := by
          rw [seta_ne (by omega), seta_ne (by omega), seta_same]
        rw [e23]
        refine b91_74 ?_
        rw [i_add, i_suc]
        refine ih (r + 1) _ (by omega) (((hF.seta (by decide)).seta (by decide)).seta (by decide)) e1 (fun q hq' => ?_)
        by_cases e : q = r
        · subst e
          refine ⟨e23, ?_, seta_same⟩
          rw [seta_ne (by omega), seta_same]
        · obtain ⟨q1, q2, q3⟩ := hq q (by omega)
          refine ⟨?_, ?_, ?_⟩
          · rw [seta_ne (by omega), seta_ne (by omega), seta_ne (by omega)]; exact q1
          · rw [seta_ne (by omega), seta_ne (by omega), seta_ne (by omega)]; exact q2
          · rw [seta_ne (by omega), seta_ne (by omega), seta_ne (by omega)]; exact q3
      refine b91_9 (fun h => ?_) (fun _ => b91_15 (P := Vx (bi (tb ins r)) S') ?_ ?_)
      · have := (i_le (a := 20) (by omega) (by omega)).1 h
        omega
      · rw [e1]; exact s146 _ (by omega)
      · rintro _ _ ⟨rfl, rfl⟩
        refine b91_28 (fun h => b91_48 (go 0 ?_)) (fun h => b91_31 vp (go _ ?_))
        · rw [hu r hr20, if_neg (by rw [bi0.1 h]; decide)]
        · rw [hu r hr20, if_pos (bi1.1 h), i_cl (by omega), e1, hF.a (by decide)]
  exact b91_0 (first 20 0 _ (by omega) (Fz.refl.seti (by decide)) seti_same (fun q h => absurd h (by omega)))
end WEAVE
