/-! THE CLASS: the web of the rays that are in -/
def fcn (F : List Int32) (r : Nat) : Nat := (F.filter (fun f => tb f r)).length
def sumN (f : Nat → Nat) : Nat → Nat
  | 0 => 0
  | n + 1 => sumN f n + f n
/-- the frames of the web -/
def WF (S : St) (F : List Int32) : Prop := S.1 5 3 = Int32.ofNat F.length ∧ (∀ i, i < F.length → S.2.1 26 i = F.getD i 0) ∧ ∀ r, r < 20 → S.2.1 24 r = matesL F r ∧ S.2.1 25 r = Int32.ofNat (fcn F r)
theorem matesL_app (F : List Int32) (x : Int32) (r : Nat) : matesL (F ++ [x]) r = mateStep r (matesL F r) x := by
  unfold matesL
  rw [List.foldl_append]
  rfl
theorem fcn_app (F : List Int32) (x : Int32) (r : Nat) : fcn (F ++ [x]) r = fcn F r + if tb x r = true then 1 else 0 := by
  unfold fcn
  rw [List.filter_append, List.length_append, List.filter_cons]
  split <;> rfl
theorem shr0 {x : Int32} {c : Nat} (hc : c < 32) (h : x >>> (Int32.ofNat c &&& 31) = 0) {k : Nat} (hk : c ≤ k) : tb x k = false := by
  by_cases h32 : k < 32
  · have := tb_shr x (r := c) (k := k - c) hc
    rw [h, tb_zero, if_pos (by omega), show c + (k - c) = k by omega] at this
    rw [decide_eq_true (by omega), Bool.true_and] at this
    exact this.symm
  · exact tb_ge (by omega)
theorem or_zero_l (s : Int32) : 0 ||| s = s := by
  apply tb_ext
  intro k _
  rw [tb_or, tb_zero, Bool.false_or]
theorem and_zero_l (s : Int32) : 0 &&& s = 0 := by
  apply tb_ext
  intro k _
  rw [tb_and, tb_zero, Bool.false_and]
/-- nothing comes of rays that don't fit -/
theorem ff_none {up : Nat → Int32} {ins : Int32} {M : Nat} : ∀ (k s : Nat) (set : Int32), (∀ r, M - k ≤ r → r < M → ¬ (tb ins r = true ∧ set &&& (up r ^^^ -1) = 0)) → k ≤ M → ff up ins M k (s + 1) set = [] := by
  intro k
  induction k with
  | zero => intro s set _ _; rfl
  | succ k ih =>
    intro s set h hk
    show (if _ then _ else _) ++ _ = _
    rw [if_neg (h (M - (k + 1)) (Nat.le_refl _) (by omega)), ih s set (fun r h1 h2 => h r (by omega) h2) (by omega)]
    rfl
/-- rays that aren't there make no difference -/
theorem ff_more {up : Nat → Int32} {ins : Int32} {m : Nat} (hm : m ≤ 20) (hlow : Low m ins) : ∀ (k s : Nat) (set : Int32), k ≤ m → ff up ins 20 (k + (20 - m)) s set = ff up ins m k s set := by
  intro k
  induction k with
  | zero =>
    intro s set _
    cases s with
    | zero => rw [ff_zero, ff_zero]
    | succ s =>
      rw [ff_none (0 + (20 - m)) s set (fun r h1 h2 q => by have := hlow r q.1; omega) (by omega)]
      rfl
  | succ k ih =>
    intro s set hk
    cases s with
    | zero => rw [ff_zero, ff_zero]
    | succ s =>
      have e : k + 1 + (20 - m) = (k + (20 - m)) + 1 := by omega
      have er : 20 - ((k + (20 - m)) + 1) = m - (k + 1) := by omega
      rw [e]
      show (if tb ins (20 - ((k + (20 - m)) + 1)) = true ∧ set &&& (up (20 - ((k + (20 - m)) + 1)) ^^^ -1) = 0 then ff up ins 20 (k + (20 - m)) s (set ||| bit (20 - ((k + (20 - m)) + 1))) else []) ++ ff up ins 20 (k + (20 - m)) (s + 1) set = (if tb ins (m - (k + 1)) = true ∧ set &&& (up (m - (k + 1)) ^^^ -1) = 0 then ff up ins m k s (set ||| bit (m - (k + 1))) else []) ++ ff up ins m k (s + 1) set
      rw [er, ih s _ (by omega), ih (s + 1) set (by omega)]
section WEB
variable {b : Nat} {up : Nat → Int32} {ins : Int32}
theorem w94 {d : Nat} {S : St} {L : List Int32} {x : Int32} {Q : Out → St → Prop} (hW : WF S L) (hl : L.length + 1 ≤ 300) (K : ∀ S1, Fz [(5, 3)] [24, 25, 26] S S1 → WF S1 (L ++ [x]) → Q (.inl none) S1) : Wp (d + 1) b 94 0 [.ref 5, .int x] [] S Q := by
  obtain ⟨h3, h26, hr⟩ := hW
  have loop : ∀ k r S', r + k = 20 → Fz [(5, 3)] [24, 25, 26] S S' → S'.1 5 3 = Int32.ofNat (L.length + 1) → (∀ i, i < L.length + 1 → S'.2.1 26 i = (L ++ [x]).getD i 0) → (∀ q, q < r → S'.2.1 24 q = matesL (L ++ [x]) q ∧ S'.2.1 25 q = Int32.ofNat (fcn (L ++ [x]) q)) → (∀ q, r ≤ q → q < 20 → S'.2.1 24 q = matesL L q ∧ S'.2.1 25 q = Int32.ofNat (fcn L q)) → Wp (d + 1) b 94 35 [.ref 5, .int x, .int (Int32.ofNat r)] [] S' Q := by
    intro k
    induction k with
    | zero =>
      intro r S' hk hF e3 e26 eq1 eq2
      refine b94_35 (fun _ => b94_81 (K S' hF ⟨?_, ?_, fun q hq => eq1 q (by omega)⟩)) (fun h => absurd ((i_le (a := 20) (by omega) (by omega)).2 (by omega)) h)
      · rw [e3, List.length_append]; rfl
      · rw [List.length_append]; exact e26
    | succ k ih =>
      intro r S' hk hF e3 e26 eq1 eq2
      have hr20 : r < 20 := by omega
      obtain ⟨m1, m2⟩ := eq2 r (Nat.le_refl _) hr20
      have vp := i_vp (k := r) (n := 20) hr20 (by omega)
      refine b94_35 (fun h => ?_) (fun _ => b94_41 (s146 x (by omega)) ?_)
      · have := (i_le (a := 20) (by omega) (by omega)).1 h
        omega
      · rintro _ _ ⟨rfl, rfl⟩
        refine b94_46 (fun h => b94_75 ?_) (fun h => b94_49 vp vp vp (b94_73 vp (b94_75 ?_)))
        · rw [i_suc]
          refine ih (r + 1) S' (by omega) hF e3 e26 (fun q hq => ?_) (fun q h1 h2 => eq2 q (by omega) h2)
          by_cases e : q = r
          · subst e
            rw [matesL_app, fcn_app]
            unfold mateStep
            rw [bi0.1 h]
            exact ⟨m1, m2⟩
          · exact eq1 q (by omega)
        · rw [i_suc, i_cl (by omega)]
          refine ih (r + 1) _ (by omega) ((hF.seta (by decide)).seta (by decide)) e3 (fun i hi => ?_) (fun q hq => ?_) (fun q h1 h2 => ?_)
          · rw [seta_ne (by omega), seta_ne (by omega)]; exact e26 i hi
          · by_cases e : q = r
            · subst e
              rw [matesL_app, fcn_app]
              unfold mateStep
              rw [bi1.1 h]
              constructor
              · rw [seta_ne (by omega), seta_same, m1]
                rfl
              · rw [seta_same, seta_ne (by omega), m2, i_suc]
                rfl
            · rw [seta_ne (by omega), seta_ne (by omega), seta_ne (by omega), seta_ne (by omega)]
              exact eq1 q (by omega)
          · rw [seta_ne (by omega), seta_ne (by omega), seta_ne (by omega), seta_ne (by omega)]
            exact eq2 q (by omega) h2
  refine b94_0 (fun _ => b94_13 ?_ ?_) (fun h => ?_)
  · rw [h3]; exact i_vp (by omega) (by omega)
  · show Wp (d + 1) b 94 35 [.ref 5, .int x, .int (Int32.ofNat 0)] [] (setI (setA S 26 (S.1 5 3).toNatClampNeg x) 5 3 (S.1 5 3 + 1)) Q
    rw [h3, i_cl (by omega), i_suc]
    refine loop 20 0 _ (by omega) ((Fz.refl.seta (by decide)).seti (by decide)) seti_same (fun i hi => ?_) (fun q hq => absurd hq (by omega)) (fun q _ h2 => ?_)
    · show (setA S 26 L.length x).2.1 26 i = _
      by_cases e : i = L.length
      · subst e; rw [seta_same, getD_app2]
      · rw [seta_ne (by omega), getD_app (by omega)]; exact h26 i (by omega)
    · show (setA S 26 L.length x).2.1 24 q = _ ∧ (setA S 26 L.length x).2.1 25 q = _
      rw [seta_ne (by omega), seta_ne (by omega)]
      exact hr q h2
  · rw [h3] at h
    exact absurd ((i_lt (b := 300) (by omega) (by omega)).2 (by omega)) h
theorem w93 {d : Nat} {S : St} {three beside : Int32} {Q : Out → St → Prop} : ∀ (k : Nat) (L : List Int32), k ≤ 20 → WF S L → (∀ r, 20 - k ≤ r → r < 20 → (tb beside r = true ↔ (tb ins r = true ∧ three &&& (up r ^^^ -1) = 0))) → (L ++ ff up ins 20 k 1 three).length ≤ 300 → (∀ S1, Fz [(5, 3)] [24, 25, 26] S S1 → WF S1 (L ++ ff up ins 20 k 1 three) → Q (.inl none) S1) → Wp (d + 2) b 93 0 [.ref 5, .int three, .int beside, .int (Int32.ofNat (20 - k))] [] S Q := by
  intro k L hk hW hbs hlen K
  have loop : ∀ (k : Nat) (S' : St) (L' : List Int32) (f0 : Int32), k ≤ 20 → Fz [(5, 3)] [24, 25, 26] S S' → WF S' L' → (∀ r, 20 - k ≤ r → r < 20 → (tb beside r = true ↔ (tb ins r = true ∧ three &&& (up r ^^^ -1) = 0))) → (L' ++ ff up ins 20 k 1 three).length ≤ 300 → (∀ S1, Fz [(5, 3)] [24, 25, 26] S S1 → WF S1 (L' ++ ff up ins 20 k 1 three) → Q (.inl none) S1) → Wp (d + 2) b 93 3 [.ref 5, .int three, .int beside, .int f0, .int (Int32.ofNat (20 - k))] [] S' Q := by
    intro k
    induction k with
    | zero =>
      intro S' L' f0 hk hF hW' hbs' hlen' K'
      refine b93_3 (fun _ => b93_42 (K' S' hF ?_)) (fun h => absurd ((i_le (a := 20) (by omega) (by omega)).2 (by omega)) h)
      show WF S' (L' ++ [])
      rw [List.append_nil]
      exact hW'
    | succ k ih =>
      intro S' L' f0 hk hF hW' hbs' hlen' K'
      have er : 20 - (k + 1) + 1 = 20 - k := by omega
      have hh := hbs' (20 - (k + 1)) (Nat.le_refl _) (by omega)
      refine b93_3 (fun h => ?_) (fun _ => b93_10 (fun h => b93_42 (K' S' hF ?_)) (fun _ => b93_17 (s146 _ (by omega)) ?_))
      · have := (i_le (a := 20) (by omega) (by omega)).1 h
        omega
      · rw [ff_none (k + 1) 0 three (fun r h1 h2 q => by
          have q2 := (hbs' r h1 h2).2 q
          rw [shr0 (by omega) h h1] at q2
          cases q2) (by omega), List.append_nil]
        exact hW'
      · rintro _ _ ⟨rfl, rfl⟩
        refine b93_23 (fun h => b93_36 ?_) (fun h => ?_)
        · have hn : ¬ (tb ins (20 - (k + 1)) = true ∧ three &&& (up (20 - (k + 1)) ^^^ -1) = 0) := fun q => by
            have := hh.2 q
            rw [bi0.1 h] at this
            cases this
          have e : ff up ins 20 (k + 1) 1 three = ff up ins 20 k 1 three := by
            show (if _ then _ else _) ++ _ = _
            rw [if_neg hn]; rfl
          rw [e] at hlen' K'
          rw [i_suc, er]
          exact ih S' L' f0 (by omega) hF hW' (fun r h1 h2 => hbs' r (by omega) h2) hlen' K'
        · have hy := hh.1 (bi1.1 h)
          have e : ff up ins 20 (k + 1) 1 three = [three ||| bit (20 - (k + 1))] ++ ff up ins 20 k 1 three := by
            show (if _ then ff up ins 20 k 0 _ else _) ++ _ = _
            rw [if_pos hy, ff_zero]
          rw [e, ← List.append_assoc] at hlen' K'
          refine b93_26 (P := fun S1 => Fz [(5, 3)] [24, 25, 26] S' S1 ∧ WF S1 (L' ++ [three ||| bit (20 - (k + 1))])) (w94 hW' (by rw [List.length_append, List.length_append] at hlen'; simp only [List.length_cons, List.length_nil] at hlen'; omega) (fun S1 h1 h2 => ⟨rfl, h1, h2⟩)) ?_
          rintro S1 ⟨hF1, hW1⟩
          refine b93_36 ?_
          rw [i_suc, er]
          exact ih S1 _ f0 (by omega) (hF.trans hF1) hW1 (fun r h1 h2 => hbs' r (by omega) h2) hlen' K'
  exact b93_0 (loop k S L _ hk Fz.refl hW hbs hlen K)
theorem w92 {d s : Nat} {S : St} {two beside : Int32} {Q : Out → St → Prop} (hs : s ≤ 1) (hS : S.1 2 0 = Int32.ofNat (s + 3)) (hu : ∀ r, r < 20 → S.2.1 23 r = up r) (hsym : ∀ r o, tb (up r) o = tb (up o) r) (k : Nat) (L : List Int32) (hk : k ≤ 20) (hW : WF S L) (hbs : ∀ r, 20 - k ≤ r → r < 20 → (tb beside r = true ↔ (tb ins r = true ∧ two &&& (up r ^^^ -1) = 0))) (hlen : (L ++ ff up ins 20 k (s + 1) two).length ≤ 300) (K : ∀ S1, Fz [(5, 3)] [24, 25, 26] S S1 → WF S1 (L ++ ff up ins 20 k (s + 1) two) → Q (.inl none) S1) : Wp (d + 3) b 92 0 [.ref 5, .int two, .int beside, .int (Int32.ofNat (20 - k))] [] S Q := by
  have loop : ∀ (k : Nat) (S' : St) (L' : List Int32) (f0 : Int32), k ≤ 20 → Fz [(5, 3)] [24, 25, 26] S S' → WF S' L' → (∀ r, 20 - k ≤ r → r < 20 → (tb beside r = true ↔ (tb ins r = true ∧ two &&& (up r ^^^ -1) = 0))) → (L' ++ ff up ins 20 k (s + 1) two).length ≤ 300 → (∀ S1, Fz [(5, 3)] [24, 25, 26] S S1 → WF S1 (L' ++ ff up ins 20 k (s + 1) two) → Q (.inl none) S1) → Wp (d + 3) b 92 3 [.ref 5, .int two, .int beside, .int f0, .int (Int32.ofNat (20 - k))] [] S' Q := by
    intro k
    induction k with
    | zero =>
      intro S' L' f0 hk hF hW' hbs' hlen' K'
      refine b92_3 (fun _ => b92_82 (K' S' hF ?_)) (fun h => absurd ((i_le (a := 20) (by omega) (by omega)).2 (by omega)) h)
      show WF S' (L' ++ [])
      rw [List.append_nil]
      exact hW'
    | succ k ih =>
      intro S' L' f0 hk hF hW' hbs' hlen' K'
      have er : 20 - (k + 1) + 1 = 20 - k := by omega
      have hh := hbs' (20 - (k + 1)) (Nat.le_refl _) (by omega)
      refine b92_3 (fun h => ?_) (fun _ => b92_10 (fun h => b92_82 (K' S' hF ?_)) (fun _ => b92_17 (s146 _ (by omega)) ?_))
      · have := (i_le (a := 20) (by omega) (by omega)).1 h
        omega
      · rw [ff_none (k + 1) s two (fun r h1 h2 q => by
          have q2 := (hbs' r h1 h2).2 q
          rw [shr0 (by omega) h h1] at q2
          cases q2) (by omega), List.append_nil]
        exact hW'
      · rintro _ _ ⟨rfl, rfl⟩
        refine b92_23 (fun h => ?_) (fun h => b92_26 (b92_76 ?_))
        · have hy := hh.1 (bi1.1 h)
          have e : ff up ins 20 (k + 1) (s + 1) two = ff up ins 20 k s (two ||| bit (20 - (k + 1))) ++ ff up ins 20 k (s + 1) two := by
            show (if _ then _ else _) ++ _ = _
            rw [if_pos hy]; rfl
          rw [e, ← List.append_assoc] at hlen' K'
          have hl2 : (L' ++ ff up ins 20 k s (two ||| bit (20 - (k + 1)))).length ≤ 300 := by
            rw [List.length_append] at hlen'; omega
          have hS' : S'.1 2 0 = Int32.ofNat (s + 3) := (hF.f (by decide)).trans hS
          have goon : ∀ S1, Fz [(5, 3)] [24, 25, 26] S' S1 → WF S1 (L' ++ ff up ins 20 k s (two ||| bit (20 - (k + 1)))) → Wp (d + 3) b 92 76 [.ref 5, .int two, .int beside, .int f0, .int (Int32.ofNat (20 - (k + 1)))] [] S1 Q := by
            intro S1 hF1 hW1
            refine b92_76 ?_
            rw [i_suc, er]
            exact ih S1 _ f0 (by omega) (hF.trans hF1) hW1 (fun r h1 h2 => hbs' r (by omega) h2) hlen' K'
          refine b92_29 (fun h3 => ?_) (fun h3 => ?_)
          · have s1 : s = 1 := by
              by_cases e0 : s = 0
              · subst e0; rw [hS'] at h3; exact absurd rfl h3
              · omega
            subst s1
            refine b92_53 (i_vp (by omega) (by omega)) (P := fun S1 => Fz [(5, 3)] [24, 25, 26] S' S1 ∧ WF S1 (L' ++ ff up ins 20 k 1 (two ||| bit (20 - (k + 1))))) ?_ ?_
            · rw [i_suc, er, i_cl (by omega), hF.a (by decide), hu _ (by omega)]
              refine w93 (up := up) (ins := ins) k L' (by omega) hW' (fun r h1 h2 => ?_) hl2 (fun S1 h1 h2 => ⟨rfl, h1, h2⟩)
              have hb := hbs' r (by omega) h2
              rw [tb_and, Bool.and_eq_true, hb, sb_sub0, sb_sub0]
              constructor
              · rintro ⟨⟨q1, q2⟩, q3⟩
                refine ⟨q1, sb_or q2 (fun z hz => ?_)⟩
                have hz : tb (bit (20 - (k + 1))) z = true := hz
                rw [tb_bit (by omega)] at hz
                have : z = 20 - (k + 1) := by simpa using hz
                subst this
                rw [hsym]; exact q3
              · rintro ⟨q1, q2⟩
                refine ⟨⟨q1, (sb_orl _ _).trans q2⟩, ?_⟩
                rw [hsym]
                exact q2 _ (sb_orr _ (bit (20 - (k + 1))) _ (by rw [tb_bit (by omega)]; simp))
            · rintro S1 ⟨hF1, hW1⟩
              exact goon S1 hF1 hW1
          · have h3 := Classical.not_not.1 h3
            rw [hS'] at h3
            have s0' : s = 0 := by
              have := (i_inj (b := 3) (by omega) (by omega)).1 h3
              omega
            subst s0'
            rw [ff_zero] at hl2 goon
            refine b92_40 (P := fun S1 => Fz [(5, 3)] [24, 25, 26] S' S1 ∧ WF S1 (L' ++ [two ||| bit (20 - (k + 1))])) (w94 (d := d + 1) hW' (by rw [List.length_append] at hl2; simpa using hl2) (fun S1 h1 h2 => ⟨rfl, h1, h2⟩)) ?_
            rintro S1 ⟨hF1, hW1⟩
            exact b92_50 (goon S1 hF1 hW1)
        · have hn : ¬ (tb ins (20 - (k + 1)) = true ∧ two &&& (up (20 - (k + 1)) ^^^ -1) = 0) := fun q => by
            have := hh.2 q
            rw [bi0.1 (Classical.not_not.1 h)] at this
            cases this
          have e : ff up ins 20 (k + 1) (s + 1) two = ff up ins 20 k (s + 1) two := by
            show (if _ then _ else _) ++ _ = _
            rw [if_neg hn]; rfl
          rw [e] at hlen' K'
          rw [i_suc, er]
          exact ih S' L' f0 (by omega) hF hW' (fun r h1 h2 => hbs' r (by omega) h2) hlen' K'
  exact b92_0 (loop k S L _ hk Fz.refl hW hbs hlen K)
end WEB
