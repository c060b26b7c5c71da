/-! THE CLASS: whether there is a choice -/
/-- a choice: none beside another, each frame has one -/
def Valid (bs : Nat → Int32) (F : List Int32) (m : Nat) (Y : Int32) : Prop := Low m Y ∧ (∀ r, r < m → tb Y r = true → ∀ j, ¬ (tb (bs r) j = true ∧ tb Y j = true)) ∧ (∀ f, f ∈ F → ¬ f &&& Y = 0)
theorem valid_good {bs : Nat → Int32} {F : List Int32} {m : Nat} {Y : Int32} (h : Valid bs F m Y) : Goo bs F m Y (Y ^^^ -1) := by
  obtain ⟨hl, hi, hf⟩ := h
  refine ⟨fun k hk => ?_, fun f hfm hs => hf f hfm ?_, fun r hr hq j hj => ?_, fun f hfm _ k hk => ?_⟩
  · rw [tb_not _ (tb_lt hk.1), hk.1] at hk
    exact absurd hk.2 (by decide)
  · rw [and0]
    intro k hk ⟨h1, h2⟩
    have := hs k h1
    rw [tb_not _ hk, h2] at this
    cases this
  · rw [tb_not _ (tb_lt hj)]
    cases e : tb Y j
    · rfl
    · exact absurd ⟨hj, e⟩ (hi r hr hq j)
  · rw [tb_diff] at hk
    cases e : tb Y k
    · have hk32 : k < 32 := by
        refine Classical.byContradiction fun q => ?_
        rw [tb_ge (s := f) (by omega)] at hk
        cases hk
      rw [tb_not _ hk32, e] at hk
      cases ef : tb f k
      · rw [ef] at hk; cases hk
      · rw [ef] at hk; cases hk
    · rfl
/-- where a search may begin -/
def Start (bs : Nat → Int32) (F : List Int32) (m : Nat) (y n : Int32) : Prop := (∀ k, ¬ (tb y k = true ∧ tb n k = true)) ∧ (∀ r, r < m → tb y r = true → sb (bs r) n) ∧ (∀ f, f ∈ F → ¬ sb f n)
theorem good_begin {bs : Nat → Int32} {F : List Int32} {m : Nat} {y n : Int32} (h : Goo bs F m y n) : Start bs F m y n := ⟨h.1, h.2.2.1, h.2.1⟩
section CTa
variable {b m : Nat} {bs : Nat → Int32} {F : List Int32}
theorem c9a {d : Nat} {S : St} {y n : Int32} {Q : Out → St → Prop} (hC : CHa m bs F S) (hp : ∀ f, f ∈ F → pcn f < 20) (K : ∀ x, ((x = 0 ∧ ∃ f, f ∈ F ∧ f &&& y = 0 ∧ f &&& (n ^^^ -1) = 0) ∨ (x = 0 ∧ ∀ f, f ∈ F → ¬ f &&& y = 0) ∨ (¬ x = 0 ∧ ∃ f, f ∈ F ∧ f &&& y = 0 ∧ x = f &&& (n ^^^ -1))) → Q (.inl (some (.int x))) S) : Wp (d + 1) b 9 0 [.ref 6, .int y, .int n] [] S Q := by
  obtain ⟨hn, hlen, hf, hb⟩ := hC
  have L : ∀ k i x s, i + k = F.length → ((s = 20 ∧ x = 0 ∧ ∀ j, j < i → ¬ F.getD j 0 &&& y = 0) ∨ (s < 20 ∧ s = pcn x ∧ ∃ f, f ∈ F ∧ f &&& y = 0 ∧ x = f &&& (n ^^^ -1))) → Wp (d + 1) b 9 9 [.ref 6, .int y, .int n, .int x, .int (Int32.ofNat s), .int (Int32.ofNat i)] [] S Q := by
    intro k
    induction k with
    | zero =>
      intro i x s hi h1
      refine b9a_9 (fun _ => b9a_78 (K x ?_)) (fun h => ?_)
      · rcases h1 with ⟨_, rfl, h1⟩ | ⟨_, _, f, h2, h3, rfl⟩
        · refine Or.inr (Or.inl ⟨rfl, fun f hf' => ?_⟩)
          obtain ⟨j, hj, rfl⟩ := mem_get hf'
          exact h1 j (by omega)
        · by_cases e : f &&& (n ^^^ -1) = 0
          · exact Or.inl ⟨e, f, h2, h3, e⟩
          · exact Or.inr (Or.inr ⟨e, f, h2, h3, rfl⟩)
      · rw [hn] at h
        exact absurd ((i_le (by omega) (by omega)).2 (by omega)) h
    | succ k ih =>
      intro i x s hi h1
      have hs : s ≤ 20 := by
        rcases h1 with ⟨q, _⟩ | ⟨q, _⟩ <;> omega
      have e : S.2.1 27 (Int32.ofNat i).toNatClampNeg = F.getD i 0 := by rw [i_cl (by omega)]; exact hf i (by omega)
      have hmem : F.getD i 0 ∈ F := get_mem (by omega)
      have vp := i_vp (k := i) (n := 300) (by omega) (by omega)
      refine b9a_9 (fun h => ?_) (fun _ => b9a_18 (fun h => ?_) (fun _ => b9a_26 vp ?_ ?_))
      · rw [hn] at h
        have := (i_le (by omega) (by omega)).1 h
        omega
      · have := (i_le (a := 300) (by omega) (by omega)).1 h
        omega
      all_goals rw [e]
      · intro h
        refine b9a_72 ?_
        rw [i_suc]
        refine ih (i + 1) x s (by omega) ?_
        rcases h1 with ⟨q1, q2, q3⟩ | q
        · refine Or.inl ⟨q1, q2, fun j hj => ?_⟩
          by_cases ej : j = i
          · subst ej; exact h
          · exact q3 j (by omega)
        · exact Or.inr q
      · intro h
        have h := Classical.not_not.1 h
        refine b9a_38 vp (s0 _) ?_
        rintro _ _ ⟨rfl, rfl⟩
        rw [e]
        have pl : pcn (F.getD i 0 &&& (n ^^^ -1)) < 20 := Nat.lt_of_le_of_lt (pcn_mono (sb_andl _ _)) (hp _ hmem)
        refine b9a_56 (fun h2 => b9a_72 ?_) (fun h2 => b9a_65 (b9a_72 ?_))
        · rw [i_suc]
          have h2' := (i_le (by omega) (by omega)).1 h2
          refine ih (i + 1) x s (by omega) ?_
          rcases h1 with ⟨q1, _⟩ | q
          · omega
          · exact Or.inr q
        · rw [i_suc]
          exact ih (i + 1) _ _ (by omega) (Or.inr ⟨pl, rfl, _, hmem, h, rfl⟩)
  exact b9a_0 (L F.length 0 0 20 (by omega) (Or.inl ⟨rfl, rfl, fun j h => absurd h (by omega)⟩))
theorem c8a (h20 : m ≤ 20) (hFl : ∀ f, f ∈ F → Low m f) (hbl : ∀ r, r < m → Low m (bs r)) (hp : ∀ f, f ∈ F → pcn f < 20) : ∀ (k dd deep : Nat) (y n : Int32) (S : St) (Q : Out → St → Prop), k + 4 ≤ dd → CHa m bs F S → Low m y → Low m n → 21 ≤ pcn y + k → deep ≤ pcn y → Start bs F m y n →
    (∀ S1 (c : Bool), Fz [(6, 5), (6, 6)] [] S S1 → (c = true ↔ ∃ Y, Valid bs F m Y ∧ sb y Y ∧ ∀ q, ¬ (tb Y q = true ∧ tb n q = true)) → Q (.inl (some (.int (bi c)))) S1) →
    Wp dd 0 8 0 [.ref 6, .int y, .int n, .int (Int32.ofNat deep)] [] S Q := by
  intro k
  induction k with
  | zero =>
    intro dd deep y n S Q hdd hC hy hn hk hde hSt K
    have := pcn_lown hy (by omega)
    omega
  | succ k ih =>
    intro dd deep y n S Q hdd hC hy hn hk hde hSt K
    obtain ⟨e, rfl⟩ : ∃ e, dd = e + 4 := ⟨dd - 4, by omega⟩
    have py := pcn_lown hy (by omega)
    refine b8a_0 (P := fun x S1 => S1 = S ∧ ((x = 0 ∧ ∃ f, f ∈ F ∧ f &&& y = 0 ∧ f &&& (n ^^^ -1) = 0) ∨ (x = 0 ∧ ∀ f, f ∈ F → ¬ f &&& y = 0) ∨ (¬ x = 0 ∧ ∃ f, f ∈ F ∧ f &&& y = 0 ∧ x = f &&& (n ^^^ -1)))) (c9a hC hp (fun x q => ⟨_, rfl, rfl, q⟩)) ?_
    rintro x S1 ⟨rfl, hx⟩
    have one : x = 0 → Q (.inl (some (.int 1))) S1 := by
      intro h0
      have hall : ∀ f, f ∈ F → ¬ f &&& y = 0 := by
        rcases hx with ⟨_, f, q1, q2, q3⟩ | ⟨_, q⟩ | ⟨q, _⟩
        · exact absurd (sb_sub0.1 q3) (hSt.2.2 f q1)
        · exact q
        · exact absurd h0 q
      refine K S1 true Fz.refl ⟨fun _ => ⟨y, ⟨hy, fun r hr hq j hj => ?_, hall⟩, sb.refl _, hSt.1⟩, fun _ => rfl⟩
      exact hSt.1 j ⟨hj.2, hSt.2.1 r hr hq j hj.1⟩
    refine b8a_6 (fun h0 => b8a_15 ?_) (fun h0 => b8a_13 (Or.inr rfl) (one (Classical.not_not.1 h0)))
    obtain ⟨f, hfm, hf0, hxe⟩ : ∃ f, f ∈ F ∧ f &&& y = 0 ∧ x = f &&& (n ^^^ -1) := by
      rcases hx with ⟨q, _⟩ | ⟨q, _⟩ | ⟨_, q⟩
      · exact absurd q h0
      · exact absurd q h0
      · exact q
    have loop : ∀ j i S' t, i + j = 20 → Fz [(6, 5), (6, 6)] [] S1 S' → sb n t → Low m t → (∀ q, tb t q = true → tb n q = true ∨ (tb x q = true ∧ q < i)) → (∀ q, q < i → tb x q = true → tb t q = true) →
        (∀ Y, Valid bs F m Y → sb y Y → (∀ q, ¬ (tb Y q = true ∧ tb n q = true)) → ∀ q, ¬ (tb Y q = true ∧ tb t q = true)) →
        Wp (e + 4) 0 8 21 [.ref 6, .int y, .int n, .int (Int32.ofNat deep), .int x, .int t, .int (Int32.ofNat i)] [] S' Q := by
      intro j
      induction j with
      | zero =>
        intro i S' t hi hF hnt htl ht1 ht2 hno
        refine b8a_21 (fun _ => b8a_97 (Or.inl rfl) (K S' false hF ⟨(fun q => by cases q), ?_⟩)) (fun h => absurd ((i_le (a := 20) (by omega) (by omega)).2 (by omega)) h)
        rintro ⟨Y, hV, hyY, hYn⟩
        exfalso
        obtain ⟨q, hq⟩ := ne0 (hV.2.2 f hfm)
        have hqf := sb_andl _ _ q hq
        have hqY := sb_andr _ _ q hq
        have hqx : tb x q = true := by
          rw [hxe, tb_diff, hqf]
          cases en : tb n q
          · rfl
          · exact absurd ⟨hqY, en⟩ (hYn q)
        have hqm : q < m := hFl f hfm q hqf
        exact hno Y hV hyY hYn q ⟨hqY, ht2 q (by omega) hqx⟩
      | succ j ihj =>
        intro i S' t hi hF hnt htl ht1 ht2 hno
        refine b8a_21 (fun h => ?_) (fun _ => b8a_28 (fun h => ?_) (fun _ => b8a_34 (s146 x (by omega)) ?_))
        · have := (i_le (a := 20) (by omega) (by omega)).1 h
          omega
        · have := (i_le (a := 45) (by omega) (by omega)).1 h
          omega
        · rintro _ _ ⟨rfl, rfl⟩
          refine b8a_41 (fun h => b8a_91 ?_) (fun h => ?_)
          · rw [i_suc]
            refine ihj (i + 1) S' t (by omega) hF hnt htl (fun q hq => ?_) (fun q hq hx' => ?_) hno
            · rcases ht1 q hq with q1 | ⟨q1, q2⟩
              · exact Or.inl q1
              · exact Or.inr ⟨q1, by omega⟩
            · by_cases eq : q = i
              · subst eq; rw [bi0.1 h] at hx'; cases hx'
              · exact ht2 q (by omega) hx'
          · have hxi := bi1.1 h
            have hfi : tb f i = true := by rw [hxe] at hxi; exact sb_andl _ _ i hxi
            have him : i < m := hFl f hfm i hfi
            have hyi : tb y i = false := by
              cases ey : tb y i
              · rfl
              · exact absurd ⟨hfi, ey⟩ (and0.1 hf0 i (by omega))
            have lb : Low m (bit i) := low_bit him (by omega)
            have tbl : tb (bit i) i = true := by rw [tb_bit (by omega)]; simp
            have plt : pcn y < pcn (y ||| bit i) := pcn_lt (sb_orl _ _) (fun q => by
              have := sb_orr y (bit i) i tbl
              rw [← q, hyi] at this
              cases this)
            -- none of those tried
            have cont : (¬ ∃ Y, Valid bs F m Y ∧ sb (y ||| bit i) Y ∧ ∀ q, ¬ (tb Y q = true ∧ tb t q = true)) → ∀ S2, Fz [(6, 5), (6, 6)] [] S1 S2 → Wp (e + 4) 0 8 84 [.ref 6, .int y, .int n, .int (Int32.ofNat deep), .int x, .int t, .int (Int32.ofNat i), .int (bit i)] [] S2 Q := by
              intro hnone S2 hF2
              refine b8a_84 (b8a_91 ?_)
              rw [i_suc]
              refine ihj (i + 1) S2 (t ||| bit i) (by omega) hF2 (hnt.trans (sb_orl _ _)) (low_or htl lb) (fun q hq => ?_) (fun q hq hx' => ?_) (fun Y hV hyY hYn q hq => ?_)
              · rw [tb_or, tb_bit (by omega)] at hq
                cases et : tb t q
                · rw [et] at hq
                  have : q = i := by simpa using hq
                  subst this
                  exact Or.inr ⟨hxi, by omega⟩
                · rcases ht1 q et with q1 | ⟨q1, q2⟩
                  · exact Or.inl q1
                  · exact Or.inr ⟨q1, by omega⟩
              · by_cases eq : q = i
                · subst eq; exact sb_orr _ _ q tbl
                · exact sb_orl _ _ q (ht2 q (by omega) hx')
              · have hY0 := hno Y hV hyY hYn
                rw [tb_or, tb_bit (by omega)] at hq
                cases et : tb t q
                · rw [et] at hq
                  have : q = i := by simpa using hq.2
                  subst this
                  refine hnone ⟨Y, hV, sb_or hyY (fun z hz => ?_), hY0⟩
                  rw [tb_bit (by omega)] at hz
                  have : z = q := by simpa using hz
                  subst this; exact hq.1
                · exact hY0 q ⟨hq.1, et⟩
            refine b8a_44 (P := fun v S2 => ∃ c, v = bi (!c) ∧ Fz [(6, 5), (6, 6)] [] S' S2 ∧ Fc bs F m (y ||| bit i) t (S2.1 6 5) (S2.1 6 6) c) ?_ ?_
            · refine c6a (d := e + 1) (hC.of hF (by decide)) h20 hFl hbl (low_or hy lb) htl (fun r hr h1 h2 => (hSt.2.1 r hr h2).trans hnt) (fun S2 c h1 h2 => ⟨_, rfl, c, rfl, h1, h2⟩)
            · rintro _ S2 ⟨c, rfl, hF2, hlY, hlN, hfc⟩
              have hF12 := hF.trans hF2
              have toAbo : ∀ Y, Valid bs F m Y → sb (y ||| bit i) Y → (∀ q, ¬ (tb Y q = true ∧ tb t q = true)) → Abo bs F m (y ||| bit i) t Y (Y ^^^ -1) := fun Y hV h1 h2 => ⟨valid_good hV, h1, fun q hq => by
                rw [tb_not _ (tb_lt hq)]
                cases eY : tb Y q
                · rfl
                · exact absurd ⟨eY, hq⟩ (h2 q)⟩
              rcases hfc with ⟨rfl, hA, hleast⟩ | ⟨rfl, hnone⟩
              · refine b8a_61 (fun q => absurd q (by decide)) (fun _ => b8a_64 (P := fun v S3 => ∃ c : Bool, v = bi c ∧ Fz [(6, 5), (6, 6)] [] S2 S3 ∧ (c = true ↔ ∃ Y, Valid bs F m Y ∧ sb (S2.1 6 5) Y ∧ ∀ q, ¬ (tb Y q = true ∧ tb (S2.1 6 6) q = true))) ?_ ?_)
                · rw [i_suc]
                  have p2 := pcn_mono hA.2.1
                  exact ih (e + 3) (deep + 1) _ _ S2 _ (by omega) (hC.of hF12 (by decide)) hlY hlN (by omega) (by omega) (good_begin hA.1) (fun S3 c h1 h2 => ⟨_, rfl, c, rfl, h1, h2⟩)
                · rintro _ S3 ⟨c, rfl, hF3, hc⟩
                  cases c with
                  | true =>
                    obtain ⟨Y, hV, h1, h2⟩ := hc.1 rfl
                    refine b8a_79 (fun q => absurd q (by decide)) (fun _ => b8a_82 (Or.inr rfl) (K S3 true (hF12.trans hF3) ⟨fun _ => ⟨Y, hV, ((sb_orl _ _).trans hA.2.1).trans h1, fun q hq => ?_⟩, fun _ => rfl⟩))
                    exact h2 q ⟨hq.1, hA.2.2 q (hnt q hq.2)⟩
                  | false =>
                    refine b8a_79 (fun _ => cont ?_ S3 (hF12.trans hF3)) (fun q => absurd rfl q)
                    rintro ⟨Y, hV, h1, h2⟩
                    obtain ⟨l1, l2⟩ := hleast _ _ (toAbo Y hV h1 h2)
                    have := hc.2 ⟨Y, hV, l1, fun q hq => ?_⟩
                    · cases this
                    · have := l2 q hq.2
                      rw [tb_not _ (tb_lt hq.2), hq.1] at this
                      cases this
              · refine b8a_61 (fun _ => cont ?_ S2 hF12) (fun q => absurd rfl q)
                rintro ⟨Y, hV, h1, h2⟩
                exact hnone _ _ (toAbo Y hV h1 h2)
    exact loop 20 0 S1 n (by omega) Fz.refl (sb.refl _) hn (fun q hq => Or.inl hq) (fun q hq => absurd hq (by omega)) (fun Y _ _ h => h)
end CTa
section CTb
variable {b m : Nat} {bs : Nat → Int32} {F : List Int32}
theorem c9b {d : Nat} {S : St} {y n : Int32} {Q : Out → St → Prop} (hC : CHb m bs F S) (hp : ∀ f, f ∈ F → pcn f < 20) (K : ∀ x, ((x = 0 ∧ ∃ f, f ∈ F ∧ f &&& y = 0 ∧ f &&& (n ^^^ -1) = 0) ∨ (x = 0 ∧ ∀ f, f ∈ F → ¬ f &&& y = 0) ∨ (¬ x = 0 ∧ ∃ f, f ∈ F ∧ f &&& y = 0 ∧ x = f &&& (n ^^^ -1))) → Q (.inl (some (.int x))) S) : Wp (d + 1) b 9 0 [.ref 13, .int y, .int n] [] S Q := by
  obtain ⟨hn, hlen, hf, hb⟩ := hC
  have L : ∀ k i x s, i + k = F.length → ((s = 20 ∧ x = 0 ∧ ∀ j, j < i → ¬ F.getD j 0 &&& y = 0) ∨ (s < 20 ∧ s = pcn x ∧ ∃ f, f ∈ F ∧ f &&& y = 0 ∧ x = f &&& (n ^^^ -1))) → Wp (d + 1) b 9 9 [.ref 13, .int y, .int n, .int x, .int (Int32.ofNat s), .int (Int32.ofNat i)] [] S Q := by
    intro k
    induction k with
    | zero =>
      intro i x s hi h1
      refine b9b_9 (fun _ => b9b_78 (K x ?_)) (fun h => ?_)
      · rcases h1 with ⟨_, rfl, h1⟩ | ⟨_, _, f, h2, h3, rfl⟩
        · refine Or.inr (Or.inl ⟨rfl, fun f hf' => ?_⟩)
          obtain ⟨j, hj, rfl⟩ := mem_get hf'
          exact h1 j (by omega)
        · by_cases e : f &&& (n ^^^ -1) = 0
          · exact Or.inl ⟨e, f, h2, h3, e⟩
          · exact Or.inr (Or.inr ⟨e, f, h2, h3, rfl⟩)
      · rw [hn] at h
        exact absurd ((i_le (by omega) (by omega)).2 (by omega)) h
    | succ k ih =>
      intro i x s hi h1
      have hs : s ≤ 20 := by
        rcases h1 with ⟨q, _⟩ | ⟨q, _⟩ <;> omega
      have e : S.2.1 29 (Int32.ofNat i).toNatClampNeg = F.getD i 0 := by rw [i_cl (by omega)]; exact hf i (by omega)
      have hmem : F.getD i 0 ∈ F := get_mem (by omega)
      have vp := i_vp (k := i) (n := 300) (by omega) (by omega)
      refine b9b_9 (fun h => ?_) (fun _ => b9b_18 (fun h => ?_) (fun _ => b9b_26 vp ?_ ?_))
      · rw [hn] at h
        have := (i_le (by omega) (by omega)).1 h
        omega
      · have := (i_le (a := 300) (by omega) (by omega)).1 h
        omega
      all_goals rw [e]
      · intro h
        refine b9b_72 ?_
        rw [i_suc]
        refine ih (i + 1) x s (by omega) ?_
        rcases h1 with ⟨q1, q2, q3⟩ | q
        · refine Or.inl ⟨q1, q2, fun j hj => ?_⟩
          by_cases ej : j = i
          · subst ej; exact h
          · exact q3 j (by omega)
        · exact Or.inr q
      · intro h
        have h := Classical.not_not.1 h
        refine b9b_38 vp (s0 _) ?_
        rintro _ _ ⟨rfl, rfl⟩
        rw [e]
        have pl : pcn (F.getD i 0 &&& (n ^^^ -1)) < 20 := Nat.lt_of_le_of_lt (pcn_mono (sb_andl _ _)) (hp _ hmem)
        refine b9b_56 (fun h2 => b9b_72 ?_) (fun h2 => b9b_65 (b9b_72 ?_))
        · rw [i_suc]
          have h2' := (i_le (by omega) (by omega)).1 h2
          refine ih (i + 1) x s (by omega) ?_
          rcases h1 with ⟨q1, _⟩ | q
          · omega
          · exact Or.inr q
        · rw [i_suc]
          exact ih (i + 1) _ _ (by omega) (Or.inr ⟨pl, rfl, _, hmem, h, rfl⟩)
  exact b9b_0 (L F.length 0 0 20 (by omega) (Or.inl ⟨rfl, rfl, fun j h => absurd h (by omega)⟩))
theorem c8b (h20 : m ≤ 20) (hFl : ∀ f, f ∈ F → Low m f) (hbl : ∀ r, r < m → Low m (bs r)) (hp : ∀ f, f ∈ F → pcn f < 20) : ∀ (k dd deep : Nat) (y n : Int32) (S : St) (Q : Out → St → Prop), k + 4 ≤ dd → CHb m bs F S → Low m y → Low m n → 21 ≤ pcn y + k → deep ≤ pcn y → Start bs F m y n →
    (∀ S1 (c : Bool), Fz [(13, 5), (13, 6)] [] S S1 → (c = true ↔ ∃ Y, Valid bs F m Y ∧ sb y Y ∧ ∀ q, ¬ (tb Y q = true ∧ tb n q = true)) → Q (.inl (some (.int (bi c)))) S1) →
    Wp dd 0 8 0 [.ref 13, .int y, .int n, .int (Int32.ofNat deep)] [] S Q := by
  intro k
  induction k with
  | zero =>
    intro dd deep y n S Q hdd hC hy hn hk hde hSt K
    have := pcn_lown hy (by omega)
    omega
  | succ k ih =>
    intro dd deep y n S Q hdd hC hy hn hk hde hSt K
    obtain ⟨e, rfl⟩ : ∃ e, dd = e + 4 := ⟨dd - 4, by omega⟩
    have py := pcn_lown hy (by omega)
    refine b8b_0 (P := fun x S1 => S1 = S ∧ ((x = 0 ∧ ∃ f, f ∈ F ∧ f &&& y = 0 ∧ f &&& (n ^^^ -1) = 0) ∨ (x = 0 ∧ ∀ f, f ∈ F → ¬ f &&& y = 0) ∨ (¬ x = 0 ∧ ∃ f, f ∈ F ∧ f &&& y = 0 ∧ x = f &&& (n ^^^ -1)))) (c9b hC hp (fun x q => ⟨_, rfl, rfl, q⟩)) ?_
    rintro x S1 ⟨rfl, hx⟩
    have one : x = 0 → Q (.inl (some (.int 1))) S1 := by
      intro h0
      have hall : ∀ f, f ∈ F → ¬ f &&& y = 0 := by
        rcases hx with ⟨_, f, q1, q2, q3⟩ | ⟨_, q⟩ | ⟨q, _⟩
        · exact absurd (sb_sub0.1 q3) (hSt.2.2 f q1)
        · exact q
        · exact absurd h0 q
      refine K S1 true Fz.refl ⟨fun _ => ⟨y, ⟨hy, fun r hr hq j hj => ?_, hall⟩, sb.refl _, hSt.1⟩, fun _ => rfl⟩
      exact hSt.1 j ⟨hj.2, hSt.2.1 r hr hq j hj.1⟩
    refine b8b_6 (fun h0 => b8b_15 ?_) (fun h0 => b8b_13 (Or.inr rfl) (one (Classical.not_not.1 h0)))
    obtain ⟨f, hfm, hf0, hxe⟩ : ∃ f, f ∈ F ∧ f &&& y = 0 ∧ x = f &&& (n ^^^ -1) := by
      rcases hx with ⟨q, _⟩ | ⟨q, _⟩ | ⟨_, q⟩
      · exact absurd q h0
      · exact absurd q h0
      · exact q
    have loop : ∀ j i S' t, i + j = 20 → Fz [(13, 5), (13, 6)] [] S1 S' → sb n t → Low m t → (∀ q, tb t q = true → tb n q = true ∨ (tb x q = true ∧ q < i)) → (∀ q, q < i → tb x q = true → tb t q = true) →
        (∀ Y, Valid bs F m Y → sb y Y → (∀ q, ¬ (tb Y q = true ∧ tb n q = true)) → ∀ q, ¬ (tb Y q = true ∧ tb t q = true)) →
        Wp (e + 4) 0 8 21 [.ref 13, .int y, .int n, .int (Int32.ofNat deep), .int x, .int t, .int (Int32.ofNat i)] [] S' Q := by
      intro j
      induction j with
      | zero =>
        intro i S' t hi hF hnt htl ht1 ht2 hno
        refine b8b_21 (fun _ => b8b_97 (Or.inl rfl) (K S' false hF ⟨(fun q => by cases q), ?_⟩)) (fun h => absurd ((i_le (a := 20) (by omega) (by omega)).2 (by omega)) h)
        rintro ⟨Y, hV, hyY, hYn⟩
        exfalso
        obtain ⟨q, hq⟩ := ne0 (hV.2.2 f hfm)
        have hqf := sb_andl _ _ q hq
        have hqY := sb_andr _ _ q hq
        have hqx : tb x q = true := by
          rw [hxe, tb_diff, hqf]
          cases en : tb n q
          · rfl
          · exact absurd ⟨hqY, en⟩ (hYn q)
        have hqm : q < m := hFl f hfm q hqf
        exact hno Y hV hyY hYn q ⟨hqY, ht2 q (by omega) hqx⟩
      | succ j ihj =>
        intro i S' t hi hF hnt htl ht1 ht2 hno
        refine b8b_21 (fun h => ?_) (fun _ => b8b_28 (fun h => ?_) (fun _ => b8b_34 (s146 x (by omega)) ?_))
        · have := (i_le (a := 20) (by omega) (by omega)).1 h
          omega
        · have := (i_le (a := 45) (by omega) (by omega)).1 h
          omega
        · rintro _ _ ⟨rfl, rfl⟩
          refine b8b_41 (fun h => b8b_91 ?_) (fun h => ?_)
          · rw [i_suc]
            refine ihj (i + 1) S' t (by omega) hF hnt htl (fun q hq => ?_) (fun q hq hx' => ?_) hno
            · rcases ht1 q hq with q1 | ⟨q1, q2⟩
              · exact Or.inl q1
              · exact Or.inr ⟨q1, by omega⟩
            · by_cases eq : q = i
              · subst eq; rw [bi0.1 h] at hx'; cases hx'
              · exact ht2 q (by omega) hx'
          · have hxi := bi1.1 h
            have hfi : tb f i = true := by rw [hxe] at hxi; exact sb_andl _ _ i hxi
            have him : i < m := hFl f hfm i hfi
            have hyi : tb y i = false := by
              cases ey : tb y i
              · rfl
              · exact absurd ⟨hfi, ey⟩ (and0.1 hf0 i (by omega))
            have lb : Low m (bit i) := low_bit him (by omega)
            have tbl : tb (bit i) i = true := by rw [tb_bit (by omega)]; simp
            have plt : pcn y < pcn (y ||| bit i) := pcn_lt (sb_orl _ _) (fun q => by
              have := sb_orr y (bit i) i tbl
              rw [← q, hyi] at this
              cases this)
            -- none of those tried
            have cont : (¬ ∃ Y, Valid bs F m Y ∧ sb (y ||| bit i) Y ∧ ∀ q, ¬ (tb Y q = true ∧ tb t q = true)) → ∀ S2, Fz [(13, 5), (13, 6)] [] S1 S2 → Wp (e + 4) 0 8 84 [.ref 13, .int y, .int n, .int (Int32.ofNat deep), .int x, .int t, .int (Int32.ofNat i), .int (bit i)] [] S2 Q := by
              intro hnone S2 hF2
              refine b8b_84 (b8b_91 ?_)
              rw [i_suc]
              refine ihj (i + 1) S2 (t ||| bit i) (by omega) hF2 (hnt.trans (sb_orl _ _)) (low_or htl lb) (fun q hq => ?_) (fun q hq hx' => ?_) (fun Y hV hyY hYn q hq => ?_)
              · rw [tb_or, tb_bit (by omega)] at hq
                cases et : tb t q
                · rw [et] at hq
                  have : q = i := by simpa using hq
                  subst this
                  exact Or.inr ⟨hxi, by omega⟩
                · rcases ht1 q et with q1 | ⟨q1, q2⟩
                  · exact Or.inl q1
                  · exact Or.inr ⟨q1, by omega⟩
              · by_cases eq : q = i
                · subst eq; exact sb_orr _ _ q tbl
                · exact sb_orl _ _ q (ht2 q (by omega) hx')
              · have hY0 := hno Y hV hyY hYn
                rw [tb_or, tb_bit (by omega)] at hq
                cases et : tb t q
                · rw [et] at hq
                  have : q = i := by simpa using hq.2
                  subst this
                  refine hnone ⟨Y, hV, sb_or hyY (fun z hz => ?_), hY0⟩
                  rw [tb_bit (by omega)] at hz
                  have : z = q := by simpa using hz
                  subst this; exact hq.1
                · exact hY0 q ⟨hq.1, et⟩
            refine b8b_44 (P := fun v S2 => ∃ c, v = bi (!c) ∧ Fz [(13, 5), (13, 6)] [] S' S2 ∧ Fc bs F m (y ||| bit i) t (S2.1 13 5) (S2.1 13 6) c) ?_ ?_
            · refine c6b (d := e + 1) (hC.of hF (by decide)) h20 hFl hbl (low_or hy lb) htl (fun r hr h1 h2 => (hSt.2.1 r hr h2).trans hnt) (fun S2 c h1 h2 => ⟨_, rfl, c, rfl, h1, h2⟩)
            · rintro _ S2 ⟨c, rfl, hF2, hlY, hlN, hfc⟩
              have hF12 := hF.trans hF2
              have toAbo : ∀ Y, Valid bs F m Y → sb (y ||| bit i) Y → (∀ q, ¬ (tb Y q = true ∧ tb t q = true)) → Abo bs F m (y ||| bit i) t Y (Y ^^^ -1) := fun Y hV h1 h2 => ⟨valid_good hV, h1, fun q hq => by
                rw [tb_not _ (tb_lt hq)]
                cases eY : tb Y q
                · rfl
                · exact absurd ⟨eY, hq⟩ (h2 q)⟩
              rcases hfc with ⟨rfl, hA, hleast⟩ | ⟨rfl, hnone⟩
              · refine b8b_61 (fun q => absurd q (by decide)) (fun _ => b8b_64 (P := fun v S3 => ∃ c : Bool, v = bi c ∧ Fz [(13, 5), (13, 6)] [] S2 S3 ∧ (c = true ↔ ∃ Y, Valid bs F m Y ∧ sb (S2.1 13 5) Y ∧ ∀ q, ¬ (tb Y q = true ∧ tb (S2.1 13 6) q = true))) ?_ ?_)
                · rw [i_suc]
                  have p2 := pcn_mono hA.2.1
                  exact ih (e + 3) (deep + 1) _ _ S2 _ (by omega) (hC.of hF12 (by decide)) hlY hlN (by omega) (by omega) (good_begin hA.1) (fun S3 c h1 h2 => ⟨_, rfl, c, rfl, h1, h2⟩)
                · rintro _ S3 ⟨c, rfl, hF3, hc⟩
                  cases c with
                  | true =>
                    obtain ⟨Y, hV, h1, h2⟩ := hc.1 rfl
                    refine b8b_79 (fun q => absurd q (by decide)) (fun _ => b8b_82 (Or.inr rfl) (K S3 true (hF12.trans hF3) ⟨fun _ => ⟨Y, hV, ((sb_orl _ _).trans hA.2.1).trans h1, fun q hq => ?_⟩, fun _ => rfl⟩))
                    exact h2 q ⟨hq.1, hA.2.2 q (hnt q hq.2)⟩
                  | false =>
                    refine b8b_79 (fun _ => cont ?_ S3 (hF12.trans hF3)) (fun q => absurd rfl q)
                    rintro ⟨Y, hV, h1, h2⟩
                    obtain ⟨l1, l2⟩ := hleast _ _ (toAbo Y hV h1 h2)
                    have := hc.2 ⟨Y, hV, l1, fun q hq => ?_⟩
                    · cases this
                    · have := l2 q hq.2
                      rw [tb_not _ (tb_lt hq.2), hq.1] at this
                      cases this
              · refine b8b_61 (fun _ => cont ?_ S2 hF12) (fun q => absurd rfl q)
                rintro ⟨Y, hV, h1, h2⟩
                exact hnone _ _ (toAbo Y hV h1 h2)
    exact loop 20 0 S1 n (by omega) Fz.refl (sb.refl _) hn (fun q hq => Or.inl hq) (fun q hq => absurd hq (by omega)) (fun Y _ _ h => h)
end CTb
