/-! THE REFERENCE: the fewest rays -/
section MFEW2
variable {b m rl : Nat} {ins : Int32} {up : Nat → Int32} {F : List Int32}
theorem w190 {d : Nat} {S : St} {A : List Int32} {Q : Out → St → Prop} (hA : A.length ≤ 131072) (hne : 0 < A.length) (h52 : ∀ i, i < A.length → S.2.1 52 i = A.getD i 0) (K : ∀ X, X ∈ A → (∀ Y, Y ∈ A → X ≤ Y) → Q (.inl (some (.int X))) S) : Wp d b 190 0 [.ref 46, .int (Int32.ofNat A.length)] [] S Q := by
  have loop : ∀ k i X, i + k = A.length → X ∈ A → (∀ j, j < i → X ≤ A.getD j 0) → Wp d b 190 9 [.ref 46, .int (Int32.ofNat A.length), .int X, .int (Int32.ofNat i)] [] S Q := by
    intro k
    induction k with
    | zero =>
      intro i X hi hX hj
      refine b190_9 (fun _ => b190_31 (K X hX (fun Y hY => ?_))) (fun h => absurd ((i_le (by omega) (by omega)).2 (by omega)) h)
      obtain ⟨j, h1, rfl⟩ := mem_get hY
      exact hj j (by omega)
    | succ k ih =>
      intro i X hi hX hj
      have e : S.2.1 52 (Int32.ofNat i).toNatClampNeg = A.getD i 0 := by rw [i_cl (by omega)]; exact h52 i (by omega)
      refine b190_9 (fun h => ?_) (fun _ => b190_14 (i_vp (by omega) (by omega)) ?_)
      · have := (i_le (by omega) (by omega)).1 h
        omega
      · rw [i_suc, e]
        by_cases hlt : A.getD i 0 < X
        · rw [if_pos hlt]
          refine ih (i + 1) _ (by omega) (get_mem (by omega)) (fun j hj' => ?_)
          by_cases ej : j = i
          · subst ej; exact i_le_refl _
          · have := hj j (by omega)
            rw [Int32.le_iff_toInt_le] at *
            rw [Int32.lt_iff_toInt_lt] at hlt
            omega
        · rw [if_neg hlt]
          refine ih (i + 1) _ (by omega) hX (fun j hj' => ?_)
          by_cases ej : j = i
          · subst ej
            rw [Int32.le_iff_toInt_le]
            rw [Int32.lt_iff_toInt_lt] at hlt
            omega
          · exact hj j (by omega)
  refine b190_0 (i_vp (k := 0) (by omega) (by omega)) ?_
  have e0 : S.2.1 52 ((0 : Int32)).toNatClampNeg = A.getD 0 0 := h52 0 hne
  rw [e0]
  refine loop (A.length - 1) 1 _ (by omega) (get_mem hne) (fun j hj => ?_)
  have : j = 0 := by omega
  subst this
  exact i_le_refl _
/-- if there is none of s rays, there is none of fewer -/
theorem none_fewer (hU : UW m rl ins up F) {s : Nat} (hs : s ≤ pcn ins) (h : ∀ X, sb X ins → pcn X = s → rfB m rl up F X = false) : ∀ k R, sb R ins → pcn R + k = s → rfB m rl up F R = false := by
  intro k
  induction k with
  | zero => intro R h1 h2; exact h R h1 (by omega)
  | succ k ih =>
    intro R h1 h2
    have hne : ∃ z, tb ins z = true ∧ tb R z = false := by
      refine Classical.byContradiction fun q => ?_
      have : sb ins R := fun z hz => bpos (fun e => q ⟨z, hz, e⟩)
      have := pcn_mono this
      omega
    obtain ⟨z, z1, z2⟩ := hne
    have z32 := tb_lt z1
    have only : ∀ q, tb (bit z) q = true → q = z := fun q hq => by
      rw [tb_bit z32] at hq
      simpa using hq
    have hsup : sb (R ||| bit z) ins := sb_or h1 (fun q hq => by rw [only q hq]; exact z1)
    have hp : pcn (R ||| bit z) = pcn R + 1 := by
      rw [pcn_or]
      · have : ∀ r : Fin 32, pcn (bit r.val) = 1 := by decide +kernel
        rw [this ⟨z, z32⟩]
      · refine and0.2 (fun q _ w => ?_)
        rw [only q w.2, z2] at w
        cases w.1
    have := ih (R ||| bit z) hsup (by omega)
    refine bneg (fun e => ?_)
    rw [rf_mono hU (sb_orl _ _) hsup e] at this
    cases this
theorem w191 {d : Nat} {S : St} {Q : Out → St → Prop} (hU : UW m rl ins up F) (hW : MW m rl ins up F S) (hB : ∀ X, sb X ins → rfB m rl up F X = true → 12 ≤ pcn X) (K : ∀ S1 v, Fz [(46, 4), (46, 13), (46, 14)] [51, 52, 53] S S1 → S1.1 46 4 = 0 → (rfB m rl up F ins = true → IsFew (rfB m rl up F) ins v) → (rfB m rl up F ins = false → v = 0) → Q (.inl (some (.int v))) S1) : Wp (d + 26) b 191 0 [.ref 46] [] S Q := by
  obtain ⟨hm, h20, hi, hlow, hrl, h1, hup, hL, hlen, hbs⟩ := id hW
  have ins20 : Low 20 ins := low_le hlow h20
  have hF0 : Fz [(46, 4), (46, 13), (46, 14)] [51, 52, 53] S (setI S 46 4 0) := Fz.refl.seti (by decide)
  -- layer by layer
  have layers : ∀ s (S' : St) (A : List Int32), Lay (rfB m rl up F) ins s A → A.length ≤ 131072 → 0 < A.length → Fz [(46, 4), (46, 13), (46, 14)] [51, 52, 53] S S' → S'.1 46 4 = 0 → rfB m rl up F ins = true → (∀ i, i < A.length → S'.2.1 52 i = A.getD i 0) → (∀ X, Low 20 X → Sn S' (tn X) = true → s ≤ pcn X) → s ≤ pcn ins → Wp (d + 26) b 191 51 [.ref 46, .int (Int32.ofNat A.length)] [] S' Q := by
    intro s
    induction s with
    | zero =>
      intro S' A hA hAl hA0 hF h4 hr h52 hsn hs
      obtain ⟨x, hx⟩ : ∃ x, x ∈ A := ⟨_, get_mem hA0⟩
      have := (hA.2 x).1 hx
      have := hB x this.1 this.2.2
      omega
    | succ s ih =>
      intro S' A hA hAl hA0 hF h4 hr h52 hsn hs
      refine b191_51 (P := fun v S1 => ∃ B, v = Int32.ofNat B.length ∧ Fz [(46, 13), (46, 14)] [51, 53] S' S1 ∧ Lay (rfB m rl up F) ins s B ∧ B.length ≤ 131072 ∧ (∀ i, i < B.length → S1.2.1 53 i = B.getD i 0) ∧ (∀ X, Low 20 X → Sn S1 (tn X) = true → s ≤ pcn X)) (w189 hU (hW.of hF (by decide)) hA hAl h52 (fun X a1 a2 => hsn X a1 a2) (by omega) hB (fun S1 B k1 k2 k3 k4 k5 => ⟨_, rfl, B, rfl, k1, k2, k3, k4, k5⟩)) ?_
      rintro _ S1 ⟨B, rfl, hF1, hBl, hBn, h53, hsn1⟩
      have hF1' : Fz [(46, 4), (46, 13), (46, 14)] [51, 52, 53] S S1 := hF.trans (hF1.mono (by decide) (by decide))
      have h41 : S1.1 46 4 = 0 := (hF1.f (by decide)).trans h4
      have h521 : ∀ i, i < A.length → S1.2.1 52 i = A.getD i 0 := fun i hi' => (hF1.a (by decide) i).trans (h52 i hi')
      refine b191_56 (fun h => b191_67 ?_) (fun h => b191_61 (P := fun v S2 => S1 = S2 ∧ v ∈ A ∧ ∀ Y, Y ∈ A → v ≤ Y) (w190 hAl hA0 h521 (fun X h1 h2 => ⟨_, rfl, rfl, h1, h2⟩)) ?_)
      · -- one layer more
        have hB0 : 0 < B.length := Nat.pos_of_ne_zero (fun q => h (by rw [q]; rfl))
        have copy : ∀ k i S2, i + k = B.length → Fz [] [52] S1 S2 → (∀ j, j < i → S2.2.1 52 j = B.getD j 0) → Wp (d + 26) b 191 69 [.ref 46, .int (Int32.ofNat A.length), .int (Int32.ofNat B.length), .int (Int32.ofNat i)] [] S2 Q := by
          intro k
          induction k with
          | zero =>
            intro i S2 hi' hF2 hj
            refine b191_69 (fun _ => b191_92 ?_) (fun h => absurd ((i_le (by omega) (by omega)).2 (by omega)) h)
            refine ih S2 B hBl hBn hB0 (hF1'.trans (hF2.mono (by decide) (by decide))) ((hF2.f (by decide)).trans h41) hr (fun j hj' => hj j (by omega)) (fun X a1 a2 => hsn1 X a1 ?_) (by omega)
            unfold Sn at a2 ⊢
            rw [hF2.a (by decide)] at a2
            exact a2
          | succ k ihk =>
            intro i S2 hi' hF2 hj
            have vp := i_vp (k := i) (n := 131072) (by omega) (by omega)
            refine b191_69 (fun h => ?_) (fun _ => b191_74 vp vp ?_)
            · have := (i_le (by omega) (by omega)).1 h
              omega
            · rw [i_suc, i_cl (by omega)]
              refine ihk (i + 1) _ (by omega) (hF2.seta (by decide)) (fun j hj' => ?_)
              by_cases e : j = i
              · rw [e, seta_same, hF2.a (by decide)]
                exact h53 i (by omega)
              · rw [seta_ne (by omega)]; exact hj j (by omega)
        exact copy B.length 0 S1 (by omega) Fz.refl (fun j hj => absurd hj (by omega))
      · rintro v _ ⟨rfl, hv1, hv2⟩
        refine b191_66 (K S1 v hF1' h41 (fun _ => ?_) (fun q => by rw [hr] at q; cases q))
        have hB0 : B = [] := by
          have := (i_inj (b := 0) (by omega) (by omega)).1 (Classical.not_not.1 h)
          exact List.length_eq_zero_iff.1 this
        have hvA := (hA.2 v).1 hv1
        refine ⟨hvA.2.2, hvA.1, fun R hR hRi => ?_⟩
        have hnone : ∀ X, sb X ins → pcn X = s → rfB m rl up F X = false := fun X a1 a2 => bneg (fun e => by
          have := (hBl.2 X).2 ⟨a1, a2, e⟩
          rw [hB0] at this
          exact absurd this List.not_mem_nil)
        by_cases hp : pcn R ≤ s
        · have := none_fewer hU (by omega) hnone (s - pcn R) R hRi (by omega)
          rw [hR] at this
          cases this
        · by_cases hp2 : pcn R = s + 1
          · exact Or.inr ⟨by rw [hvA.2.1, hp2], hv2 R ((hA.2 R).2 ⟨hRi, hp2, hR⟩)⟩
          · exact Or.inl (by rw [hvA.2.1]; omega)
  refine b191_0 (P := fun v S1 => v = bi (rfB m rl up F ins) ∧ Fz [(46, 4), (46, 13), (46, 14)] [51, 52, 53] S S1 ∧ S1.1 46 4 = 0) ?_ ?_
  · have e : (setI S 46 4 0).1 46 2 = ins := hi
    rw [e]
    refine w171 (d := d + 1) ins (hW.of hF0 (by decide)) (fun S1 h => ⟨_, rfl, ?_, hF0.trans (h.mono (by decide) (by decide)), ?_⟩)
    · rw [refB_rf (sb.refl _)]
    · rw [h.f (by decide), seti_same]
  · rintro _ S1 ⟨rfl, hF1, h4⟩
    refine b191_13 (fun h => b191_18 ?_) (fun h => b191_16 ?_)
    · have hr := bi1.1 h
      have clear : ∀ k i S', i + k = 32768 → Fz [(46, 4), (46, 13), (46, 14)] [51, 52, 53] S S' → S'.1 46 4 = 0 → (∀ j, j < i → S'.2.1 51 j = 0) → Wp (d + 26) b 191 20 [.ref 46, .int (Int32.ofNat i)] [] S' Q := by
        intro k
        induction k with
        | zero =>
          intro i S' hi' hF h4' hj
          refine b191_20 (fun _ => b191_39 (i_vp (k := 0) (by omega) (by omega)) ?_) (fun h => absurd ((i_le (a := 32768) (by omega) (by omega)).2 (by omega)) h)
          have e2 : S'.1 46 2 = ins := (hF.f (by decide)).trans hi
          rw [e2]
          refine layers (pcn ins) (setA S' 52 0 ins) [ins] ⟨List.pairwise_singleton _ _, fun X => ?_⟩ (by show 1 ≤ 131072; omega) (by show 0 < 1; omega) (hF.seta (by decide)) h4' hr (fun i hi2 => ?_) (fun X a1 a2 => ?_) (Nat.le_refl _)
          · rw [List.mem_singleton]
            constructor
            · rintro rfl; exact ⟨sb.refl _, rfl, hr⟩
            · rintro ⟨a1, a2, _⟩
              refine Classical.byContradiction fun q => ?_
              have := pcn_lt a1 q
              omega
          · have : i = 0 := by
              have : i < 1 := hi2
              omega
            subst this
            exact seta_same
          · unfold Sn at a2
            have hx := tn_low a1
            rw [seta_ne (by omega), hj _ (by omega), tb_zero] at a2
            cases a2
        | succ k ih =>
          intro i S' hi' hF h4' hj
          refine b191_20 (fun h => ?_) (fun _ => b191_26 (i_vp (by omega) (by omega)) ?_)
          · have := (i_le (a := 32768) (by omega) (by omega)).1 h
            omega
          · rw [i_suc, i_cl (by omega)]
            refine ih (i + 1) _ (by omega) (hF.seta (by decide)) h4' (fun j hj' => ?_)
            by_cases e : j = i
            · rw [e, seta_same]
            · rw [seta_ne (by omega)]; exact hj j (by omega)
      exact clear 32768 0 S1 (by omega) hF1 h4 (fun j hj => absurd hj (by omega))
    · have hr := bi0.1 (Classical.not_not.1 h)
      exact K S1 0 hF1 h4 (fun q => by rw [hr] at q; cases q) (fun _ => rfl)
end MFEW2
