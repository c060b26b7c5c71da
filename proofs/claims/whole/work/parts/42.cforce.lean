/-! THE CLASS: what it forces, in both its choosers -/
/-- the chooser's own frames and bars, cell 6 -/
def CHa (m : Nat) (bs : Nat → Int32) (F : List Int32) (S : St) : Prop := S.1 6 2 = Int32.ofNat F.length ∧ F.length ≤ 300 ∧ (∀ i, i < F.length → S.2.1 27 i = F.getD i 0) ∧ (∀ r, r < m → S.2.1 28 r = bs r)
theorem CHa.of {m : Nat} {bs : Nat → Int32} {F : List Int32} {fs : List (Nat × Nat)} {as : List Nat} {S S1 : St} (h : CHa m bs F S) (hF : Fz fs as S S1) (n : (6, 2) ∉ fs ∧ 27 ∉ as ∧ 28 ∉ as) : CHa m bs F S1 := by
  obtain ⟨h1, h2, h3, h4⟩ := h
  exact ⟨(hF.f n.1).trans h1, h2, fun i hi => (hF.a n.2.1 i).trans (h3 i hi), fun r hr => (hF.a n.2.2 r).trans (h4 r hr)⟩
section CFa
variable {b m : Nat} {bs : Nat → Int32} {F : List Int32}
theorem c7a {d : Nat} {S : St} {Q : Out → St → Prop} (hC : CHa m bs F S) (K1 : (∃ f, f ∈ F ∧ f &&& S.1 6 5 = 0 ∧ sb f (S.1 6 6)) → Q (.inl (some (.int (-1)))) S) (K2 : ∀ x, (∀ f, f ∈ F → f &&& S.1 6 5 = 0 → ¬ sb f (S.1 6 6) ∧ (pcn (f &&& (S.1 6 6 ^^^ -1)) = 1 → sb (f &&& (S.1 6 6 ^^^ -1)) x)) → (∀ k, tb x k = true → ∃ f, f ∈ F ∧ f &&& S.1 6 5 = 0 ∧ pcn (f &&& (S.1 6 6 ^^^ -1)) = 1 ∧ tb (f &&& (S.1 6 6 ^^^ -1)) k = true) → Q (.inl (some (.int x))) S) : Wp d b 7 0 [.ref 6] [] S Q := by
  obtain ⟨hn, hlen, hf, hb⟩ := hC
  have L : ∀ k i x, i + k = F.length → (∀ j, j < i → F.getD j 0 &&& S.1 6 5 = 0 → ¬ sb (F.getD j 0) (S.1 6 6) ∧ (pcn (F.getD j 0 &&& (S.1 6 6 ^^^ -1)) = 1 → sb (F.getD j 0 &&& (S.1 6 6 ^^^ -1)) x)) → (∀ k, tb x k = true → ∃ f, f ∈ F ∧ f &&& S.1 6 5 = 0 ∧ pcn (f &&& (S.1 6 6 ^^^ -1)) = 1 ∧ tb (f &&& (S.1 6 6 ^^^ -1)) k = true) → Wp d b 7 4 [.ref 6, .int x, .int (Int32.ofNat i)] [] S Q := by
    intro k
    induction k with
    | zero =>
      intro i x hi h1 h2
      refine b7a_4 (fun _ => b7a_73 (K2 x (fun f hf' => ?_) h2)) (fun h => ?_)
      · obtain ⟨j, hj, rfl⟩ := mem_get hf'
        exact h1 j (by omega)
      · rw [hn] at h
        exact absurd ((i_le (by omega) (by omega)).2 (by omega)) h
    | succ k ih =>
      intro i x hi h1 h2
      have e : S.2.1 27 (Int32.ofNat i).toNatClampNeg = F.getD i 0 := by rw [i_cl (by omega)]; exact hf i (by omega)
      have hmem : F.getD i 0 ∈ F := get_mem (by omega)
      have next : ∀ x', (∀ j, j < i + 1 → F.getD j 0 &&& S.1 6 5 = 0 → ¬ sb (F.getD j 0) (S.1 6 6) ∧ (pcn (F.getD j 0 &&& (S.1 6 6 ^^^ -1)) = 1 → sb (F.getD j 0 &&& (S.1 6 6 ^^^ -1)) x')) → (∀ k, tb x' k = true → ∃ f, f ∈ F ∧ f &&& S.1 6 5 = 0 ∧ pcn (f &&& (S.1 6 6 ^^^ -1)) = 1 ∧ tb (f &&& (S.1 6 6 ^^^ -1)) k = true) → ∀ x3, Wp d b 7 67 [.ref 6, .int x', .int (Int32.ofNat i), .int x3] [] S Q := by
        intro x' q1 q2 x3
        refine b7a_67 ?_
        rw [i_suc]
        exact ih (i + 1) x' (by omega) q1 q2
      refine b7a_4 (fun h => ?_) (fun _ => b7a_12 (fun h => ?_) (fun _ => b7a_19 (i_vp (by omega) (by omega)) ?_ ?_))
      · rw [hn] at h
        have := (i_le (by omega) (by omega)).1 h
        omega
      · have := (i_le (a := 300) (by omega) (by omega)).1 h
        omega
      all_goals rw [e]
      · intro h
        refine next x (fun j hj => ?_) h2 _
        by_cases ej : j = i
        · subst ej; exact fun q => absurd q h
        · exact h1 j (by omega)
      · intro h
        have h := Classical.not_not.1 h
        refine b7a_35 (fun h3 => ?_) (fun h3 => b7a_50 (K1 ⟨_, hmem, h, sb_sub0.1 (Classical.not_not.1 h3)⟩))
        refine b7a_52 (fun h4 => next x (fun j hj => ?_) h2 _) (fun h4 => b7a_62 (next _ (fun j hj => ?_) (fun k hk => ?_) _))
        · by_cases ej : j = i
          · subst ej
            refine fun _ => ⟨fun q => h3 (sb_sub0.2 q), fun q => ?_⟩
            have p1 := pcn_drop h3
            have p2 := pcn_drop h4
            omega
          · exact h1 j (by omega)
        · by_cases ej : j = i
          · subst ej
            exact fun _ => ⟨fun q => h3 (sb_sub0.2 q), fun _ => sb_orr _ _⟩
          · exact fun q => ⟨(h1 j (by omega) q).1, fun q2 => ((h1 j (by omega) q).2 q2).trans (sb_orl _ _)⟩
        · rw [tb_or] at hk
          cases ek : tb x k
          · rw [ek, Bool.false_or] at hk
            refine ⟨_, hmem, h, ?_, hk⟩
            have p1 := pcn_drop h3
            rw [Classical.not_not.1 h4, pcn_zero] at p1
            exact p1
          · exact h2 k ek
  exact b7a_0 (L F.length 0 0 (by omega) (fun j h => absurd h (by omega)) (fun k h => by rw [tb_zero] at h; cases h))
/-- what the class forces is what is forced -/
theorem c6a {d : Nat} {S : St} {y n sp : Int32} {Q : Out → St → Prop} (hC : CHa m bs F S) (h20 : m ≤ 20) (hFl : ∀ f, f ∈ F → Low m f) (hbl : ∀ r, r < m → Low m (bs r)) (hy : Low m y) (hn : Low m n) (hsp : ∀ r, r < m → tb y r = true → tb sp r = true → sb (bs r) n) (K : ∀ S1 c, Fz [(6, 5), (6, 6)] [] S S1 → Fc bs F m y n (S1.1 6 5) (S1.1 6 6) c → Q (.inl (some (.int (bi (!c))))) S1) : Wp (d + 2) b 6 0 [.ref 6, .int y, .int n, .int sp] [] S Q := by
  have in1 : ∀ k i S' x4 x5, pcn x4 ≤ k → i + k ≤ 20 → Fz [(6, 5), (6, 6)] [] S S' → sb x4 (S'.1 6 5) → Low m (S'.1 6 5) → Low m (S'.1 6 6) → (∀ Y' N', Abo bs F m y n Y' N' → sb (S'.1 6 5) Y' ∧ sb (S'.1 6 6) N') → (∀ r, r < m → tb (S'.1 6 5) r = true → tb x4 r = false → sb (bs r) (S'.1 6 6)) →
      (∀ S1, Fz [(6, 5), (6, 6)] [] S S1 → S1.1 6 5 = S'.1 6 5 → sb (S'.1 6 6) (S1.1 6 6) → Low m (S1.1 6 6) → (∀ Y' N', Abo bs F m y n Y' N' → sb (S1.1 6 5) Y' ∧ sb (S1.1 6 6) N') → (∀ r, r < m → tb (S1.1 6 5) r = true → sb (bs r) (S1.1 6 6)) → ∀ x4 x6, Wp (d + 2) b 6 78 [.ref 6, .int y, .int n, .int sp, .int x4, .int x5, .int x6] [] S1 Q) →
      Wp (d + 2) b 6 30 [.ref 6, .int y, .int n, .int sp, .int x4, .int x5, .int (Int32.ofNat i)] [] S' Q := by
    intro k
    induction k with
    | zero =>
      intro i S' x4 x5 hp hi hF hx hlY hlN hab hcl K'
      have e0 : x4 = 0 := by
        refine Classical.byContradiction fun q => ?_
        have := pcn_drop q
        omega
      subst e0
      have fin := K' S' hF rfl (sb.refl _) hlN hab (fun r hr hq => hcl r hr hq (tb_zero r))
      exact b6a_30 (fun _ => fin _ _) (fun _ => b6a_37 (fun _ => fin _ _) (fun h => absurd rfl h))
    | succ k ih =>
      intro i S' x4 x5 hp hi hF hx hlY hlN hab hcl K'
      refine b6a_30 (fun h => ?_) (fun _ => b6a_37 (fun h => ?_) (fun h => ?_))
      · have := (i_le (a := 20) (by omega) (by omega)).1 h
        omega
      · subst h
        exact K' S' hF rfl (sb.refl _) hlN hab (fun r hr hq => hcl r hr hq (tb_zero r)) _ _
      · obtain ⟨l, l32, hl, hlm⟩ := least_ex h
        have hlr : l < m := hlY l (hx l hl)
        refine b6a_42 (s148l hl hlm) ?_
        rintro _ _ ⟨rfl, rfl⟩
        refine b6a_56 (s147h (by omega)) ?_
        rintro _ _ ⟨rfl, rfl⟩
        have eb : (if l < 20 then S'.2.1 28 l else 0) = bs l := by
          rw [if_pos (by omega)]
          exact (hF.a (by decide) l).trans (hC.2.2.2 l hlr)
        rw [eb]
        refine b6a_59 ?_
        rw [i_suc]
        have e5 : (setI S' 6 6 (S'.1 6 6 ||| bs l)).1 6 5 = S'.1 6 5 := seti_ne (by decide)
        refine ih (i + 1) (setI S' 6 6 (S'.1 6 6 ||| bs l)) _ _ ?_ (by omega) (hF.seti (by decide)) ?_ ?_ ?_ ?_ ?_ ?_
        · have := pcn_drop h; omega
        · rw [e5]; exact (sb_andl _ _).trans hx
        · rw [e5]; exact hlY
        · rw [seti_same]; exact low_or hlN (hbl l hlr)
        · intro Y' N' hA
          obtain ⟨q1, q2⟩ := hab Y' N' hA
          rw [e5, seti_same]
          exact ⟨q1, sb_or q2 (hA.1.2.2.1 l hlr (q1 l (hx l hl)))⟩
        · intro r hr
          rw [e5, seti_same]
          intro q1 q2
          by_cases er : r = l
          · subst er; exact sb_orr _ _
          · rw [drop1 hl hlm (by omega)] at q2
            refine (hcl r hr q1 ?_).trans (sb_orl _ _)
            simpa [er] using q2
        · intro S1 k1 k2 k3
          rw [e5] at k2
          rw [seti_same] at k3
          exact K' S1 k1 k2 ((sb_orl _ _).trans k3)
  have rounds : ∀ k i S' x4, i + k = 22 → i ≤ pcn (S'.1 6 5) + 1 → Fz [(6, 5), (6, 6)] [] S S' → sb x4 (S'.1 6 5) → Low m (S'.1 6 5) → Low m (S'.1 6 6) → sb y (S'.1 6 5) → sb n (S'.1 6 6) → (∀ Y' N', Abo bs F m y n Y' N' → sb (S'.1 6 5) Y' ∧ sb (S'.1 6 6) N') → (∀ r, r < m → tb (S'.1 6 5) r = true → tb x4 r = false → sb (bs r) (S'.1 6 6)) → Wp (d + 2) b 6 20 [.ref 6, .int y, .int n, .int sp, .int x4, .int (Int32.ofNat i)] [] S' Q := by
    intro k
    induction k with
    | zero =>
      intro i S' x4 hi hp hF hx hlY hlN hsy hsn hab hcl
      have := pcn_lown hlY (by omega)
      omega
    | succ k ih =>
      intro i S' x4 hi hp hF hx hlY hlN hsy hsn hab hcl
      have px : pcn x4 ≤ 20 := by
        have := pcn_lown (sb_low hx hlY) (by omega)
        omega
      refine b6a_20 (fun h => ?_) (fun _ => b6a_27 (in1 20 0 S' x4 _ px (by omega) hF hx hlY hlN hab hcl ?_))
      · have := (i_le (a := 22) (by omega) (by omega)).1 h
        omega
      · intro S1 f1 y1 n1 l1 a1 c1 x4' x6
        have clash : (∀ Y' N', ¬ Abo bs F m y n Y' N') → Q (.inl (some (.int 0))) S1 := by
          intro hno
          exact K S1 true f1 ⟨by rw [y1]; exact hlY, l1, Or.inr ⟨rfl, hno⟩⟩
        refine b6a_78 (fun h => b6a_92 (P := fun v S2 => S2 = S1 ∧ ((v = -1 ∧ ∃ f, f ∈ F ∧ f &&& S1.1 6 5 = 0 ∧ sb f (S1.1 6 6)) ∨ ((∀ f, f ∈ F → f &&& S1.1 6 5 = 0 → ¬ sb f (S1.1 6 6) ∧ (pcn (f &&& (S1.1 6 6 ^^^ -1)) = 1 → sb (f &&& (S1.1 6 6 ^^^ -1)) v)) ∧ (∀ k, tb v k = true → ∃ f, f ∈ F ∧ f &&& S1.1 6 5 = 0 ∧ pcn (f &&& (S1.1 6 6 ^^^ -1)) = 1 ∧ tb (f &&& (S1.1 6 6 ^^^ -1)) k = true)))) (c7a (hC.of f1 (by decide)) (fun q => ⟨_, rfl, rfl, Or.inl ⟨rfl, q⟩⟩) (fun x q1 q2 => ⟨_, rfl, rfl, Or.inr ⟨q1, q2⟩⟩)) ?_) (fun h => b6a_90 (Or.inl rfl) (clash ?_))
        · rintro v S2 ⟨rfl, hv⟩
          have hov : ∀ k, ¬ (tb (S2.1 6 5) k = true ∧ tb (S2.1 6 6) k = true) := fun k hk => and0.1 h k (tb_lt hk.1) hk
          rcases hv with ⟨rfl, f, hfm, hf0, hfs⟩ | ⟨hv1, hv2⟩
          · refine b6a_96 (fun q => absurd rfl q) (fun _ => b6a_104 (Or.inl rfl) (clash (fun Y' N' hA => ?_)))
            exact hA.1.2.1 f hfm (hfs.trans (a1 Y' N' hA).2)
          · have hvl : Low m v := by
              intro k hk
              obtain ⟨f, hfm, _, _, q⟩ := hv2 k hk
              exact hFl f hfm k (sb_andl _ _ k q)
            have hv1' : ¬ v = -1 := by
              rintro rfl
              have := hvl 31 (tb_m1 (by omega))
              omega
            refine b6a_96 (fun _ => b6a_106 (fun h0 => b6a_113 ?_) (fun h0 => b6a_111 (Or.inr rfl) ?_)) (fun q => absurd (Classical.not_not.1 q) hv1')
            · -- more of them
              rw [i_suc]
              have e6 : (setI S2 6 5 (S2.1 6 5 ||| v)).1 6 6 = S2.1 6 6 := seti_ne (by decide)
              have hdis : ∀ k, tb v k = true → tb (S2.1 6 5) k = false := by
                intro k hk
                obtain ⟨f, _, hf0, _, q⟩ := hv2 k hk
                cases ek : tb (S2.1 6 5) k
                · rfl
                · exact absurd ⟨sb_andl _ _ k q, ek⟩ (and0.1 hf0 k (tb_lt hk))
              have hlt : pcn (S2.1 6 5) < pcn (S2.1 6 5 ||| v) := by
                apply pcn_lt (sb_orl _ _)
                intro q
                obtain ⟨k, hk⟩ := ne0 h0
                have q1 := sb_orr (S2.1 6 5) v k hk
                rw [← q, hdis k hk] at q1
                cases q1
              refine ih (i + 1) (setI S2 6 5 (S2.1 6 5 ||| v)) v (by omega) ?_ (f1.seti (by decide)) ?_ ?_ ?_ ?_ ?_ ?_ ?_
              · rw [seti_same]; rw [y1] at hlt ⊢; omega
              · rw [seti_same]; exact sb_orr _ _
              · rw [seti_same]; exact low_or (by rw [y1]; exact hlY) hvl
              · rw [e6]; exact l1
              · rw [seti_same, y1]; exact hsy.trans (sb_orl _ _)
              · rw [e6]; exact hsn.trans n1
              · intro Y' N' hA
                obtain ⟨q1, q2⟩ := a1 Y' N' hA
                rw [seti_same, e6]
                refine ⟨sb_or q1 (fun k hk => ?_), q2⟩
                obtain ⟨f, hfm, hf0, hf1, q⟩ := hv2 k hk
                obtain ⟨g1, g2, g3, g4⟩ := hA.1
                have hsub : sb (f &&& (N' ^^^ -1)) (f &&& (S2.1 6 6 ^^^ -1)) := by
                  intro j hj
                  rw [tb_diff] at hj ⊢
                  simp only [Bool.and_eq_true, Bool.not_eq_true'] at hj ⊢
                  refine ⟨hj.1, ?_⟩
                  cases e : tb (S2.1 6 6) j
                  · rfl
                  · rw [q2 j e] at hj; exact absurd hj.2 (by decide)
                have hne : ¬ f &&& (N' ^^^ -1) = 0 := fun q => g2 _ hfm (sb_sub0.1 q)
                have hpos := pcn_drop hne
                have hle := pcn_mono hsub
                have heq : f &&& (N' ^^^ -1) = f &&& (S2.1 6 6 ^^^ -1) := by
                  refine Classical.byContradiction fun q => ?_
                  have := pcn_lt hsub q
                  omega
                exact g4 f hfm (by omega) k (by rw [heq]; exact q)
              · intro r hr
                rw [seti_same, e6]
                intro q1 q2
                rw [tb_or, q2, Bool.or_false] at q1
                exact c1 r hr q1
            · -- closed
              have h0 := Classical.not_not.1 h0
              subst h0
              refine K S2 false f1 ⟨by rw [y1]; exact hlY, l1, Or.inl ⟨rfl, ⟨⟨hov, ?_, c1, ?_⟩, by rw [y1]; exact hsy, hsn.trans n1⟩, a1⟩⟩
              · intro f hfm hfs
                by_cases hf0 : f &&& S2.1 6 5 = 0
                · exact (hv1 f hfm hf0).1 hfs
                · obtain ⟨k, hk⟩ := ne0 hf0
                  exact hov k ⟨sb_andr _ _ k hk, hfs k (sb_andl _ _ k hk)⟩
              · intro f hfm hp1
                by_cases hf0 : f &&& S2.1 6 5 = 0
                · have q := (hv1 f hfm hf0).2 hp1
                  intro k hk
                  have := q k hk
                  rw [tb_zero] at this
                  cases this
                · obtain ⟨k, hk⟩ := ne0 hf0
                  have hkf : tb (f &&& (S2.1 6 6 ^^^ -1)) k = true := by
                    rw [tb_diff, sb_andl _ _ k hk]
                    cases e : tb (S2.1 6 6) k
                    · rfl
                    · exact absurd ⟨sb_andr _ _ k hk, e⟩ (hov k)
                  intro j hj
                  by_cases ejk : j = k
                  · subst ejk; exact sb_andr _ _ j hk
                  · exfalso
                    have p2 : 2 ≤ pcn (f &&& (S2.1 6 6 ^^^ -1)) := by
                      have l1 : pcn (bit k) < pcn (f &&& (S2.1 6 6 ^^^ -1)) := by
                        refine pcn_lt (fun q hq => ?_) (fun q => ?_)
                        · rw [tb_bit (tb_lt hk)] at hq
                          have : q = k := by simpa using hq
                          subst this; exact hkf
                        · rw [← q, tb_bit (tb_lt hk)] at hj
                          exact ejk (by simpa using hj)
                      have l2 : ¬ bit k = 0 := by
                        intro q
                        have := tb_bit (tb_lt hk) k
                        rw [q, tb_zero] at this
                        simp at this
                      have := pcn_drop l2
                      omega
                    omega
        · intro Y' N' hA
          obtain ⟨q1, q2⟩ := a1 Y' N' hA
          obtain ⟨k, hk⟩ := ne0 h
          exact hA.1.1 k ⟨q1 k (sb_andl _ _ k hk), q2 k (sb_andr _ _ k hk)⟩
  have f0 : Fz [(6, 5), (6, 6)] [] S (setI (setI S 6 5 y) 6 6 n) := (Fz.refl.seti (by decide)).seti (by decide)
  have g5 : (setI (setI S 6 5 y) 6 6 n).1 6 5 = y := by rw [seti_ne (by decide), seti_same]
  have g6 : (setI (setI S 6 5 y) 6 6 n).1 6 6 = n := seti_same
  refine b6a_0 (rounds 22 0 _ _ (by omega) (by omega) f0 ?_ ?_ ?_ ?_ ?_ ?_ ?_)
  · rw [g5]; exact sb_andl _ _
  · rw [g5]; exact hy
  · rw [g6]; exact hn
  · rw [g5]; exact sb.refl _
  · rw [g6]; exact sb.refl _
  · intro Y' N' hA
    rw [g5, g6]; exact hA.2
  · intro r hr
    rw [g5, g6]
    intro q1 q2
    refine hsp r hr q1 ?_
    rw [tb_diff, q1] at q2
    cases e : tb sp r
    · rw [e] at q2; cases q2
    · rfl
end CFa
/-- the chooser's own frames and bars, cell 13 -/
def CHb (m : Nat) (bs : Nat → Int32) (F : List Int32) (S : St) : Prop := S.1 13 2 = Int32.ofNat F.length ∧ F.length ≤ 300 ∧ (∀ i, i < F.length → S.2.1 29 i = F.getD i 0) ∧ (∀ r, r < m → S.2.1 30 r = bs r)
theorem CHb.of {m : Nat} {bs : Nat → Int32} {F : List Int32} {fs : List (Nat × Nat)} {as : List Nat} {S S1 : St} (h : CHb m bs F S) (hF : Fz fs as S S1) (n : (13, 2) ∉ fs ∧ 29 ∉ as ∧ 30 ∉ as) : CHb m bs F S1 := by
  obtain ⟨h1, h2, h3, h4⟩ := h
  exact ⟨(hF.f n.1).trans h1, h2, fun i hi => (hF.a n.2.1 i).trans (h3 i hi), fun r hr => (hF.a n.2.2 r).trans (h4 r hr)⟩
section CFb
variable {b m : Nat} {bs : Nat → Int32} {F : List Int32}
theorem c7b {d : Nat} {S : St} {Q : Out → St → Prop} (hC : CHb m bs F S) (K1 : (∃ f, f ∈ F ∧ f &&& S.1 13 5 = 0 ∧ sb f (S.1 13 6)) → Q (.inl (some (.int (-1)))) S) (K2 : ∀ x, (∀ f, f ∈ F → f &&& S.1 13 5 = 0 → ¬ sb f (S.1 13 6) ∧ (pcn (f &&& (S.1 13 6 ^^^ -1)) = 1 → sb (f &&& (S.1 13 6 ^^^ -1)) x)) → (∀ k, tb x k = true → ∃ f, f ∈ F ∧ f &&& S.1 13 5 = 0 ∧ pcn (f &&& (S.1 13 6 ^^^ -1)) = 1 ∧ tb (f &&& (S.1 13 6 ^^^ -1)) k = true) → Q (.inl (some (.int x))) S) : Wp d b 7 0 [.ref 13] [] S Q := by
  obtain ⟨hn, hlen, hf, hb⟩ := hC
  have L : ∀ k i x, i + k = F.length → (∀ j, j < i → F.getD j 0 &&& S.1 13 5 = 0 → ¬ sb (F.getD j 0) (S.1 13 6) ∧ (pcn (F.getD j 0 &&& (S.1 13 6 ^^^ -1)) = 1 → sb (F.getD j 0 &&& (S.1 13 6 ^^^ -1)) x)) → (∀ k, tb x k = true → ∃ f, f ∈ F ∧ f &&& S.1 13 5 = 0 ∧ pcn (f &&& (S.1 13 6 ^^^ -1)) = 1 ∧ tb (f &&& (S.1 13 6 ^^^ -1)) k = true) → Wp d b 7 4 [.ref 13, .int x, .int (Int32.ofNat i)] [] S Q := by
    intro k
    induction k with
    | zero =>
      intro i x hi h1 h2
      refine b7b_4 (fun _ => b7b_73 (K2 x (fun f hf' => ?_) h2)) (fun h => ?_)
      · obtain ⟨j, hj, rfl⟩ := mem_get hf'
        exact h1 j (by omega)
      · rw [hn] at h
        exact absurd ((i_le (by omega) (by omega)).2 (by omega)) h
    | succ k ih =>
      intro i x hi h1 h2
      have e : S.2.1 29 (Int32.ofNat i).toNatClampNeg = F.getD i 0 := by rw [i_cl (by omega)]; exact hf i (by omega)
      have hmem : F.getD i 0 ∈ F := get_mem (by omega)
      have next : ∀ x', (∀ j, j < i + 1 → F.getD j 0 &&& S.1 13 5 = 0 → ¬ sb (F.getD j 0) (S.1 13 6) ∧ (pcn (F.getD j 0 &&& (S.1 13 6 ^^^ -1)) = 1 → sb (F.getD j 0 &&& (S.1 13 6 ^^^ -1)) x')) → (∀ k, tb x' k = true → ∃ f, f ∈ F ∧ f &&& S.1 13 5 = 0 ∧ pcn (f &&& (S.1 13 6 ^^^ -1)) = 1 ∧ tb (f &&& (S.1 13 6 ^^^ -1)) k = true) → ∀ x3, Wp d b 7 67 [.ref 13, .int x', .int (Int32.ofNat i), .int x3] [] S Q := by
        intro x' q1 q2 x3
        refine b7b_67 ?_
        rw [i_suc]
        exact ih (i + 1) x' (by omega) q1 q2
      refine b7b_4 (fun h => ?_) (fun _ => b7b_12 (fun h => ?_) (fun _ => b7b_19 (i_vp (by omega) (by omega)) ?_ ?_))
      · rw [hn] at h
        have := (i_le (by omega) (by omega)).1 h
        omega
      · have := (i_le (a := 300) (by omega) (by omega)).1 h
        omega
      all_goals rw [e]
      · intro h
        refine next x (fun j hj => ?_) h2 _
        by_cases ej : j = i
        · subst ej; exact fun q => absurd q h
        · exact h1 j (by omega)
      · intro h
        have h := Classical.not_not.1 h
        refine b7b_35 (fun h3 => ?_) (fun h3 => b7b_50 (K1 ⟨_, hmem, h, sb_sub0.1 (Classical.not_not.1 h3)⟩))
        refine b7b_52 (fun h4 => next x (fun j hj => ?_) h2 _) (fun h4 => b7b_62 (next _ (fun j hj => ?_) (fun k hk => ?_) _))
        · by_cases ej : j = i
          · subst ej
            refine fun _ => ⟨fun q => h3 (sb_sub0.2 q), fun q => ?_⟩
            have p1 := pcn_drop h3
            have p2 := pcn_drop h4
            omega
          · exact h1 j (by omega)
        · by_cases ej : j = i
          · subst ej
            exact fun _ => ⟨fun q => h3 (sb_sub0.2 q), fun _ => sb_orr _ _⟩
          · exact fun q => ⟨(h1 j (by omega) q).1, fun q2 => ((h1 j (by omega) q).2 q2).trans (sb_orl _ _)⟩
        · rw [tb_or] at hk
          cases ek : tb x k
          · rw [ek, Bool.false_or] at hk
            refine ⟨_, hmem, h, ?_, hk⟩
            have p1 := pcn_drop h3
            rw [Classical.not_not.1 h4, pcn_zero] at p1
            exact p1
          · exact h2 k ek
  exact b7b_0 (L F.length 0 0 (by omega) (fun j h => absurd h (by omega)) (fun k h => by rw [tb_zero] at h; cases h))
/-- what the class forces is what is forced -/
theorem c6b {d : Nat} {S : St} {y n sp : Int32} {Q : Out → St → Prop} (hC : CHb m bs F S) (h20 : m ≤ 20) (hFl : ∀ f, f ∈ F → Low m f) (hbl : ∀ r, r < m → Low m (bs r)) (hy : Low m y) (hn : Low m n) (hsp : ∀ r, r < m → tb y r = true → tb sp r = true → sb (bs r) n) (K : ∀ S1 c, Fz [(13, 5), (13, 6)] [] S S1 → Fc bs F m y n (S1.1 13 5) (S1.1 13 6) c → Q (.inl (some (.int (bi (!c))))) S1) : Wp (d + 2) b 6 0 [.ref 13, .int y, .int n, .int sp] [] S Q := by
  have in1 : ∀ k i S' x4 x5, pcn x4 ≤ k → i + k ≤ 20 → Fz [(13, 5), (13, 6)] [] S S' → sb x4 (S'.1 13 5) → Low m (S'.1 13 5) → Low m (S'.1 13 6) → (∀ Y' N', Abo bs F m y n Y' N' → sb (S'.1 13 5) Y' ∧ sb (S'.1 13 6) N') → (∀ r, r < m → tb (S'.1 13 5) r = true → tb x4 r = false → sb (bs r) (S'.1 13 6)) →
      (∀ S1, Fz [(13, 5), (13, 6)] [] S S1 → S1.1 13 5 = S'.1 13 5 → sb (S'.1 13 6) (S1.1 13 6) → Low m (S1.1 13 6) → (∀ Y' N', Abo bs F m y n Y' N' → sb (S1.1 13 5) Y' ∧ sb (S1.1 13 6) N') → (∀ r, r < m → tb (S1.1 13 5) r = true → sb (bs r) (S1.1 13 6)) → ∀ x4 x6, Wp (d + 2) b 6 78 [.ref 13, .int y, .int n, .int sp, .int x4, .int x5, .int x6] [] S1 Q) →
      Wp (d + 2) b 6 30 [.ref 13, .int y, .int n, .int sp, .int x4, .int x5, .int (Int32.ofNat i)] [] S' Q := by
    intro k
    induction k with
    | zero =>
      intro i S' x4 x5 hp hi hF hx hlY hlN hab hcl K'
      have e0 : x4 = 0 := by
        refine Classical.byContradiction fun q => ?_
        have := pcn_drop q
        omega
      subst e0
      have fin := K' S' hF rfl (sb.refl _) hlN hab (fun r hr hq => hcl r hr hq (tb_zero r))
      exact b6b_30 (fun _ => fin _ _) (fun _ => b6b_37 (fun _ => fin _ _) (fun h => absurd rfl h))
    | succ k ih =>
      intro i S' x4 x5 hp hi hF hx hlY hlN hab hcl K'
      refine b6b_30 (fun h => ?_) (fun _ => b6b_37 (fun h => ?_) (fun h => ?_))
      · have := (i_le (a := 20) (by omega) (by omega)).1 h
        omega
      · subst h
        exact K' S' hF rfl (sb.refl _) hlN hab (fun r hr hq => hcl r hr hq (tb_zero r)) _ _
      · obtain ⟨l, l32, hl, hlm⟩ := least_ex h
        have hlr : l < m := hlY l (hx l hl)
        refine b6b_42 (s148l hl hlm) ?_
        rintro _ _ ⟨rfl, rfl⟩
        refine b6b_56 (s147i (by omega)) ?_
        rintro _ _ ⟨rfl, rfl⟩
        have eb : (if l < 20 then S'.2.1 30 l else 0) = bs l := by
          rw [if_pos (by omega)]
          exact (hF.a (by decide) l).trans (hC.2.2.2 l hlr)
        rw [eb]
        refine b6b_59 ?_
        rw [i_suc]
        have e5 : (setI S' 13 6 (S'.1 13 6 ||| bs l)).1 13 5 = S'.1 13 5 := seti_ne (by decide)
        refine ih (i + 1) (setI S' 13 6 (S'.1 13 6 ||| bs l)) _ _ ?_ (by omega) (hF.seti (by decide)) ?_ ?_ ?_ ?_ ?_ ?_
        · have := pcn_drop h; omega
        · rw [e5]; exact (sb_andl _ _).trans hx
        · rw [e5]; exact hlY
        · rw [seti_same]; exact low_or hlN (hbl l hlr)
        · intro Y' N' hA
          obtain ⟨q1, q2⟩ := hab Y' N' hA
          rw [e5, seti_same]
          exact ⟨q1, sb_or q2 (hA.1.2.2.1 l hlr (q1 l (hx l hl)))⟩
        · intro r hr
          rw [e5, seti_same]
          intro q1 q2
          by_cases er : r = l
          · subst er; exact sb_orr _ _
          · rw [drop1 hl hlm (by omega)] at q2
            refine (hcl r hr q1 ?_).trans (sb_orl _ _)
            simpa [er] using q2
        · intro S1 k1 k2 k3
          rw [e5] at k2
          rw [seti_same] at k3
          exact K' S1 k1 k2 ((sb_orl _ _).trans k3)
  have rounds : ∀ k i S' x4, i + k = 22 → i ≤ pcn (S'.1 13 5) + 1 → Fz [(13, 5), (13, 6)] [] S S' → sb x4 (S'.1 13 5) → Low m (S'.1 13 5) → Low m (S'.1 13 6) → sb y (S'.1 13 5) → sb n (S'.1 13 6) → (∀ Y' N', Abo bs F m y n Y' N' → sb (S'.1 13 5) Y' ∧ sb (S'.1 13 6) N') → (∀ r, r < m → tb (S'.1 13 5) r = true → tb x4 r = false → sb (bs r) (S'.1 13 6)) → Wp (d + 2) b 6 20 [.ref 13, .int y, .int n, .int sp, .int x4, .int (Int32.ofNat i)] [] S' Q := by
    intro k
    induction k with
    | zero =>
      intro i S' x4 hi hp hF hx hlY hlN hsy hsn hab hcl
      have := pcn_lown hlY (by omega)
      omega
    | succ k ih =>
      intro i S' x4 hi hp hF hx hlY hlN hsy hsn hab hcl
      have px : pcn x4 ≤ 20 := by
        have := pcn_lown (sb_low hx hlY) (by omega)
        omega
      refine b6b_20 (fun h => ?_) (fun _ => b6b_27 (in1 20 0 S' x4 _ px (by omega) hF hx hlY hlN hab hcl ?_))
      · have := (i_le (a := 22) (by omega) (by omega)).1 h
        omega
      · intro S1 f1 y1 n1 l1 a1 c1 x4' x6
        have clash : (∀ Y' N', ¬ Abo bs F m y n Y' N') → Q (.inl (some (.int 0))) S1 := by
          intro hno
          exact K S1 true f1 ⟨by rw [y1]; exact hlY, l1, Or.inr ⟨rfl, hno⟩⟩
        refine b6b_78 (fun h => b6b_92 (P := fun v S2 => S2 = S1 ∧ ((v = -1 ∧ ∃ f, f ∈ F ∧ f &&& S1.1 13 5 = 0 ∧ sb f (S1.1 13 6)) ∨ ((∀ f, f ∈ F → f &&& S1.1 13 5 = 0 → ¬ sb f (S1.1 13 6) ∧ (pcn (f &&& (S1.1 13 6 ^^^ -1)) = 1 → sb (f &&& (S1.1 13 6 ^^^ -1)) v)) ∧ (∀ k, tb v k = true → ∃ f, f ∈ F ∧ f &&& S1.1 13 5 = 0 ∧ pcn (f &&& (S1.1 13 6 ^^^ -1)) = 1 ∧ tb (f &&& (S1.1 13 6 ^^^ -1)) k = true)))) (c7b (hC.of f1 (by decide)) (fun q => ⟨_, rfl, rfl, Or.inl ⟨rfl, q⟩⟩) (fun x q1 q2 => ⟨_, rfl, rfl, Or.inr ⟨q1, q2⟩⟩)) ?_) (fun h => b6b_90 (Or.inl rfl) (clash ?_))
        · rintro v S2 ⟨rfl, hv⟩
          have hov : ∀ k, ¬ (tb (S2.1 13 5) k = true ∧ tb (S2.1 13 6) k = true) := fun k hk => and0.1 h k (tb_lt hk.1) hk
          rcases hv with ⟨rfl, f, hfm, hf0, hfs⟩ | ⟨hv1, hv2⟩
          · refine b6b_96 (fun q => absurd rfl q) (fun _ => b6b_104 (Or.inl rfl) (clash (fun Y' N' hA => ?_)))
            exact hA.1.2.1 f hfm (hfs.trans (a1 Y' N' hA).2)
          · have hvl : Low m v := by
              intro k hk
              obtain ⟨f, hfm, _, _, q⟩ := hv2 k hk
              exact hFl f hfm k (sb_andl _ _ k q)
            have hv1' : ¬ v = -1 := by
              rintro rfl
              have := hvl 31 (tb_m1 (by omega))
              omega
            refine b6b_96 (fun _ => b6b_106 (fun h0 => b6b_113 ?_) (fun h0 => b6b_111 (Or.inr rfl) ?_)) (fun q => absurd (Classical.not_not.1 q) hv1')
            · -- more of them
              rw [i_suc]
              have e6 : (setI S2 13 5 (S2.1 13 5 ||| v)).1 13 6 = S2.1 13 6 := seti_ne (by decide)
              have hdis : ∀ k, tb v k = true → tb (S2.1 13 5) k = false := by
                intro k hk
                obtain ⟨f, _, hf0, _, q⟩ := hv2 k hk
                cases ek : tb (S2.1 13 5) k
                · rfl
                · exact absurd ⟨sb_andl _ _ k q, ek⟩ (and0.1 hf0 k (tb_lt hk))
              have hlt : pcn (S2.1 13 5) < pcn (S2.1 13 5 ||| v) := by
                apply pcn_lt (sb_orl _ _)
                intro q
                obtain ⟨k, hk⟩ := ne0 h0
                have q1 := sb_orr (S2.1 13 5) v k hk
                rw [← q, hdis k hk] at q1
                cases q1
              refine ih (i + 1) (setI S2 13 5 (S2.1 13 5 ||| v)) v (by omega) ?_ (f1.seti (by decide)) ?_ ?_ ?_ ?_ ?_ ?_ ?_
              · rw [seti_same]; rw [y1] at hlt ⊢; omega
              · rw [seti_same]; exact sb_orr _ _
              · rw [seti_same]; exact low_or (by rw [y1]; exact hlY) hvl
              · rw [e6]; exact l1
              · rw [seti_same, y1]; exact hsy.trans (sb_orl _ _)
              · rw [e6]; exact hsn.trans n1
              · intro Y' N' hA
                obtain ⟨q1, q2⟩ := a1 Y' N' hA
                rw [seti_same, e6]
                refine ⟨sb_or q1 (fun k hk => ?_), q2⟩
                obtain ⟨f, hfm, hf0, hf1, q⟩ := hv2 k hk
                obtain ⟨g1, g2, g3, g4⟩ := hA.1
                have hsub : sb (f &&& (N' ^^^ -1)) (f &&& (S2.1 13 6 ^^^ -1)) := by
                  intro j hj
                  rw [tb_diff] at hj ⊢
                  simp only [Bool.and_eq_true, Bool.not_eq_true'] at hj ⊢
                  refine ⟨hj.1, ?_⟩
                  cases e : tb (S2.1 13 6) j
                  · rfl
                  · rw [q2 j e] at hj; exact absurd hj.2 (by decide)
                have hne : ¬ f &&& (N' ^^^ -1) = 0 := fun q => g2 _ hfm (sb_sub0.1 q)
                have hpos := pcn_drop hne
                have hle := pcn_mono hsub
                have heq : f &&& (N' ^^^ -1) = f &&& (S2.1 13 6 ^^^ -1) := by
                  refine Classical.byContradiction fun q => ?_
                  have := pcn_lt hsub q
                  omega
                exact g4 f hfm (by omega) k (by rw [heq]; exact q)
              · intro r hr
                rw [seti_same, e6]
                intro q1 q2
                rw [tb_or, q2, Bool.or_false] at q1
                exact c1 r hr q1
            · -- closed
              have h0 := Classical.not_not.1 h0
              subst h0
              refine K S2 false f1 ⟨by rw [y1]; exact hlY, l1, Or.inl ⟨rfl, ⟨⟨hov, ?_, c1, ?_⟩, by rw [y1]; exact hsy, hsn.trans n1⟩, a1⟩⟩
              · intro f hfm hfs
                by_cases hf0 : f &&& S2.1 13 5 = 0
                · exact (hv1 f hfm hf0).1 hfs
                · obtain ⟨k, hk⟩ := ne0 hf0
                  exact hov k ⟨sb_andr _ _ k hk, hfs k (sb_andl _ _ k hk)⟩
              · intro f hfm hp1
                by_cases hf0 : f &&& S2.1 13 5 = 0
                · have q := (hv1 f hfm hf0).2 hp1
                  intro k hk
                  have := q k hk
                  rw [tb_zero] at this
                  cases this
                · obtain ⟨k, hk⟩ := ne0 hf0
                  have hkf : tb (f &&& (S2.1 13 6 ^^^ -1)) k = true := by
                    rw [tb_diff, sb_andl _ _ k hk]
                    cases e : tb (S2.1 13 6) k
                    · rfl
                    · exact absurd ⟨sb_andr _ _ k hk, e⟩ (hov k)
                  intro j hj
                  by_cases ejk : j = k
                  · subst ejk; exact sb_andr _ _ j hk
                  · exfalso
                    have p2 : 2 ≤ pcn (f &&& (S2.1 13 6 ^^^ -1)) := by
                      have l1 : pcn (bit k) < pcn (f &&& (S2.1 13 6 ^^^ -1)) := by
                        refine pcn_lt (fun q hq => ?_) (fun q => ?_)
                        · rw [tb_bit (tb_lt hk)] at hq
                          have : q = k := by simpa using hq
                          subst this; exact hkf
                        · rw [← q, tb_bit (tb_lt hk)] at hj
                          exact ejk (by simpa using hj)
                      have l2 : ¬ bit k = 0 := by
                        intro q
                        have := tb_bit (tb_lt hk) k
                        rw [q, tb_zero] at this
                        simp at this
                      have := pcn_drop l2
                      omega
                    omega
        · intro Y' N' hA
          obtain ⟨q1, q2⟩ := a1 Y' N' hA
          obtain ⟨k, hk⟩ := ne0 h
          exact hA.1.1 k ⟨q1 k (sb_andl _ _ k hk), q2 k (sb_andr _ _ k hk)⟩
  have f0 : Fz [(13, 5), (13, 6)] [] S (setI (setI S 13 5 y) 13 6 n) := (Fz.refl.seti (by decide)).seti (by decide)
  have g5 : (setI (setI S 13 5 y) 13 6 n).1 13 5 = y := by rw [seti_ne (by decide), seti_same]
  have g6 : (setI (setI S 13 5 y) 13 6 n).1 13 6 = n := seti_same
  refine b6b_0 (rounds 22 0 _ _ (by omega) (by omega) f0 ?_ ?_ ?_ ?_ ?_ ?_ ?_)
  · rw [g5]; exact sb_andl _ _
  · rw [g5]; exact hy
  · rw [g6]; exact hn
  · rw [g5]; exact sb.refl _
  · rw [g6]; exact sb.refl _
  · intro Y' N' hA
    rw [g5, g6]; exact hA.2
  · intro r hr
    rw [g5, g6]
    intro q1 q2
    refine hsp r hr q1 ?_
    rw [tb_diff, q1] at q2
    cases e : tb sp r
    · rw [e] at q2; cases q2
    · rfl
end CFb
