/-! THE CLASS: how many ways -/
theorem cnt_dis {p q : Nat → Bool} {n : Nat} (h : ∀ k, k < n → ¬ (p k = true ∧ q k = true)) : cnt (fun k => p k || q k) n = cnt p n + cnt q n := by
  induction n with
  | zero => rfl
  | succ n ih =>
    have ih := ih (fun k hk => h k (by omega))
    have hn := h n (by omega)
    unfold cnt
    rw [ih]
    cases e1 : p n <;> cases e2 : q n
    · simp
    · simp; omega
    · simp; omega
    · exact absurd ⟨e1, e2⟩ hn
theorem pcn_or {s t : Int32} (h : s &&& t = 0) : pcn (s ||| t) = pcn s + pcn t := by
  unfold pcn
  rw [← cnt_dis (p := tb s) (q := tb t) (fun k hk q => and0.1 h k hk q)]
  exact cnt_congr (fun k _ => tb_or s t k)
theorem CHa.le {m : Nat} {bs : Nat → Int32} {F : List Int32} {S : St} (h : CHa 20 bs F S) (hm : m ≤ 20) : CHa m bs F S := ⟨h.1, h.2.1, h.2.2.1, fun r hr => h.2.2.2 r (by omega)⟩
section CWAYS
variable {b : Nat} {bs : Nat → Int32} {F : List Int32} {m : Nat} {ins : Int32}
theorem c149a {d : Nat} {S : St} {st wi : Int32} {Q : Out → St → Prop} (lk : ∀ r, r < 20 → S.2.1 23 r = bs r) (hwi : Low 20 wi) (hst : sb st wi) (K : ∀ R, sb st R → sb R wi → (∀ r, tb R r = true → ∀ o, tb wi o = true → tb (bs r) o = true → tb R o = true) → Q (.inl (some (.int R))) S) : Wp (d + 2) b 149 0 [.ref 23, .int st, .int wi] [] S Q := by
  have loop : ∀ k i R E, i + k = 20 → pcn R = pcn E + i → sb st R → sb R wi → sb E R → (∀ r, tb R r = true → tb E r = false → ∀ o, tb wi o = true → tb (bs r) o = true → tb R o = true) → Wp (d + 2) b 149 8 [.ref 23, .int st, .int wi, .int R, .int E, .int (Int32.ofNat i)] [] S Q := by
    intro k
    induction k with
    | zero =>
      intro i R E hi hp h1 h2 h3 h4
      have e0 : E = 0 := by
        refine Classical.byContradiction fun q => ?_
        have := pcn_drop q
        have := pcn_lown (sb_low h2 hwi) (by omega)
        omega
      subst e0
      exact b149a_8 (fun _ => b149a_60 (K R h1 h2 (fun r hr => h4 r hr (tb_zero r)))) (fun h => absurd ((i_le (a := 20) (by omega) (by omega)).2 (by omega)) h)
    | succ k ih =>
      intro i R E hi hp h1 h2 h3 h4
      refine b149a_8 (fun h => ?_) (fun _ => b149a_15 (fun h => ?_) (fun h => ?_))
      · have := (i_le (a := 20) (by omega) (by omega)).1 h
        omega
      · subst h
        exact b149a_60 (K R h1 h2 (fun r hr => h4 r hr (tb_zero r)))
      · obtain ⟨l, l32, hl, hlm⟩ := least_ex h
        have l20 : l < 20 := hwi l (h2 l (h3 l hl))
        refine b149a_20 (s148l hl hlm) ?_
        rintro _ _ ⟨rfl, rfl⟩
        refine b149a_26 (s147d (by omega)) ?_
        rintro _ _ ⟨rfl, rfl⟩
        rw [if_pos l20, lk l l20]
        refine b149a_29 ?_
        rw [i_suc]
        have td : ∀ k, tb (E &&& (E - 1)) k = true → tb E k = true ∧ k ≠ l := fun k hk => by
          have hk32 := tb_lt hk
          rw [drop1 hl hlm hk32, Bool.and_eq_true] at hk
          exact ⟨hk.1, by simpa using hk.2⟩
        have dis : (E &&& (E - 1)) &&& ((bs l &&& wi) &&& (R ^^^ -1)) = 0 := and0.2 (fun k _ q => by
          have := (dif_t.1 q.2).2
          rw [h3 k (td k q.1).1] at this
          cases this)
        have dis2 : R &&& ((bs l &&& wi) &&& (R ^^^ -1)) = 0 := and0.2 (fun k _ q => by
          have := (dif_t.1 q.2).2
          rw [q.1] at this
          cases this)
        refine ih (i + 1) _ _ (by omega) ?_ (h1.trans (sb_orl _ _)) (sb_or h2 ((sb_andl _ _).trans (sb_andr _ _))) (sb_or (fun k hk => or_t.2 (Or.inl (h3 k (td k hk).1))) (sb_orr _ _)) (fun r hr hE o ho hb => ?_)
        · rw [pcn_or dis, pcn_or dis2]
          have := pcn_drop h
          omega
        · by_cases e : r = l
          · subst e
            cases eR : tb R o
            · exact or_t.2 (Or.inr (dif_t.2 ⟨and_t.2 ⟨hb, ho⟩, eR⟩))
            · exact or_t.2 (Or.inl eR)
          · have hE' : tb (E &&& (E - 1)) r = false ∧ tb ((bs l &&& wi) &&& (R ^^^ -1)) r = false := by
              rw [tb_or, Bool.or_eq_false_iff] at hE
              exact hE
            rcases or_t.1 hr with q | q
            · have : tb E r = false := by
                have := hE'.1
                rw [drop1 hl hlm (tb_lt q)] at this
                simpa [e] using this
              exact or_t.2 (Or.inl (h4 r q this o ho hb))
            · rw [hE'.2] at q; cases q
  exact b149a_0 (loop 20 0 st st (by omega) rfl (sb.refl _) hst (sb.refl _) (fun r hr hE => by rw [hr] at hE; cases hE))
theorem c149b {d : Nat} {S : St} {st wi : Int32} {Q : Out → St → Prop} (lk : ∀ r, r < 20 → S.2.1 28 r = bs r) (hwi : Low 20 wi) (hst : sb st wi) (K : ∀ R, sb st R → sb R wi → (∀ r, tb R r = true → ∀ o, tb wi o = true → tb (bs r) o = true → tb R o = true) → Q (.inl (some (.int R))) S) : Wp (d + 2) b 149 0 [.ref 28, .int st, .int wi] [] S Q := by
  have loop : ∀ k i R E, i + k = 20 → pcn R = pcn E + i → sb st R → sb R wi → sb E R → (∀ r, tb R r = true → tb E r = false → ∀ o, tb wi o = true → tb (bs r) o = true → tb R o = true) → Wp (d + 2) b 149 8 [.ref 28, .int st, .int wi, .int R, .int E, .int (Int32.ofNat i)] [] S Q := by
    intro k
    induction k with
    | zero =>
      intro i R E hi hp h1 h2 h3 h4
      have e0 : E = 0 := by
        refine Classical.byContradiction fun q => ?_
        have := pcn_drop q
        have := pcn_lown (sb_low h2 hwi) (by omega)
        omega
      subst e0
      exact b149b_8 (fun _ => b149b_60 (K R h1 h2 (fun r hr => h4 r hr (tb_zero r)))) (fun h => absurd ((i_le (a := 20) (by omega) (by omega)).2 (by omega)) h)
    | succ k ih =>
      intro i R E hi hp h1 h2 h3 h4
      refine b149b_8 (fun h => ?_) (fun _ => b149b_15 (fun h => ?_) (fun h => ?_))
      · have := (i_le (a := 20) (by omega) (by omega)).1 h
        omega
      · subst h
        exact b149b_60 (K R h1 h2 (fun r hr => h4 r hr (tb_zero r)))
      · obtain ⟨l, l32, hl, hlm⟩ := least_ex h
        have l20 : l < 20 := hwi l (h2 l (h3 l hl))
        refine b149b_20 (s148l hl hlm) ?_
        rintro _ _ ⟨rfl, rfl⟩
        refine b149b_26 (s147h (by omega)) ?_
        rintro _ _ ⟨rfl, rfl⟩
        rw [if_pos l20, lk l l20]
        refine b149b_29 ?_
        rw [i_suc]
        have td : ∀ k, tb (E &&& (E - 1)) k = true → tb E k = true ∧ k ≠ l := fun k hk => by
          have hk32 := tb_lt hk
          rw [drop1 hl hlm hk32, Bool.and_eq_true] at hk
          exact ⟨hk.1, by simpa using hk.2⟩
        have dis : (E &&& (E - 1)) &&& ((bs l &&& wi) &&& (R ^^^ -1)) = 0 := and0.2 (fun k _ q => by
          have := (dif_t.1 q.2).2
          rw [h3 k (td k q.1).1] at this
          cases this)
        have dis2 : R &&& ((bs l &&& wi) &&& (R ^^^ -1)) = 0 := and0.2 (fun k _ q => by
          have := (dif_t.1 q.2).2
          rw [q.1] at this
          cases this)
        refine ih (i + 1) _ _ (by omega) ?_ (h1.trans (sb_orl _ _)) (sb_or h2 ((sb_andl _ _).trans (sb_andr _ _))) (sb_or (fun k hk => or_t.2 (Or.inl (h3 k (td k hk).1))) (sb_orr _ _)) (fun r hr hE o ho hb => ?_)
        · rw [pcn_or dis, pcn_or dis2]
          have := pcn_drop h
          omega
        · by_cases e : r = l
          · subst e
            cases eR : tb R o
            · exact or_t.2 (Or.inr (dif_t.2 ⟨and_t.2 ⟨hb, ho⟩, eR⟩))
            · exact or_t.2 (Or.inl eR)
          · have hE' : tb (E &&& (E - 1)) r = false ∧ tb ((bs l &&& wi) &&& (R ^^^ -1)) r = false := by
              rw [tb_or, Bool.or_eq_false_iff] at hE
              exact hE
            rcases or_t.1 hr with q | q
            · have : tb E r = false := by
                have := hE'.1
                rw [drop1 hl hlm (tb_lt q)] at this
                simpa [e] using this
              exact or_t.2 (Or.inl (h4 r q this o ho hb))
            · rw [hE'.2] at q; cases q
  exact b149b_0 (loop 20 0 st st (by omega) rfl (sb.refl _) hst (sb.refl _) (fun r hr hE => by rw [hr] at hE; cases hE))
theorem c14 {d : Nat} {S : St} {P : Int32} {Q : Out → St → Prop} (hP : Low 20 P) (hne : ¬ P = 0) (K : ∀ l, tb P l = true → Q (.inl (some (.int (bit l)))) S) : Wp (d + 1) b 14 0 [.ref 6, .int P] [] S Q := by
  have loop : ∀ k i x2 x3, i + k = 20 → ((x3 = -1 ∧ ∀ j, j < i → tb P j = false) ∨ (∃ l c, l < i ∧ tb P l = true ∧ x2 = bit l ∧ x3 = Int32.ofNat c ∧ c ≤ 32)) → Wp (d + 1) b 14 7 [.ref 6, .int P, .int x2, .int x3, .int (Int32.ofNat i)] [] S Q := by
    intro k
    induction k with
    | zero =>
      intro i x2 x3 hi h
      refine b14_7 (fun _ => b14_57 ?_) (fun h => absurd ((i_le (a := 20) (by omega) (by omega)).2 (by omega)) h)
      rcases h with ⟨_, h⟩ | ⟨l, c, _, h1, rfl, _⟩
      · obtain ⟨z, hz⟩ := ne0 hne
        have := hP z hz
        rw [h z (by omega)] at hz
        cases hz
      · exact K l h1
    | succ k ih =>
      intro i x2 x3 hi h
      refine b14_7 (fun h => ?_) (fun _ => b14_14 (s146 _ (by omega)) ?_)
      · have := (i_le (a := 20) (by omega) (by omega)).1 h
        omega
      · rintro _ _ ⟨rfl, rfl⟩
        refine b14_20 (fun h0 => b14_51 ?_) (fun h0 => b14_23 (i_vp (by omega) (by omega)) (s0 _) ?_)
        · rw [i_suc]
          refine ih (i + 1) x2 x3 (by omega) ?_
          rcases h with ⟨q1, q2⟩ | ⟨l, c, q1, q2⟩
          · refine Or.inl ⟨q1, fun j hj => ?_⟩
            by_cases e : j = i
            · subst e; exact bi0.1 h0
            · exact q2 j (by omega)
          · exact Or.inr ⟨l, c, by omega, q2⟩
        · rintro _ _ ⟨rfl, rfl⟩
          have hp := pcn_le (S.2.1 28 (Int32.ofNat i).toNatClampNeg &&& P)
          refine b14_35 (fun h2 => b14_51 ?_) (fun h2 => b14_43 (b14_51 ?_))
          · rw [i_suc]
            refine ih (i + 1) x2 x3 (by omega) ?_
            rcases h with ⟨rfl, _⟩ | ⟨l, c, q1, q2⟩
            · rw [Int32.le_iff_toInt_le, i_toInt (by omega)] at h2
              have : (-1 : Int32).toInt = -1 := by decide
              omega
            · exact Or.inr ⟨l, c, by omega, q2⟩
          · rw [i_suc]
            exact ih (i + 1) _ _ (by omega) (Or.inr ⟨i, _, by omega, bi1.1 h0, rfl, rfl, hp⟩)
  exact b14_0 (loop 20 0 0 (-1) (by omega) (Or.inl ⟨rfl, fun j h => absurd h (by omega)⟩))
theorem wn_le (P y : Int32) : Wn bs F P y ≤ 1048576 := by
  refine Nat.le_trans (List.length_filter_le _ _) ?_
  exact chl_len 20 0 (-1)
/-- the ways of parts, and of one part -/
theorem c12 (hWd : Wd bs F m ins) (hFl : ∀ f, f ∈ F → Low m f) (hbl : ∀ r, r < m → Low m (bs r)) : ∀ (k dd deep : Nat) (P y n : Int32) (S : St) (Q : Out → St → Prop), 2 * k + 4 ≤ dd → CHa 20 bs F S → Low m y → Low m n → Goo bs F m y n → Cls bs ins P y n → pcn P ≤ k → deep + k ≤ 30 → (∀ S1, Fz [(6, 5), (6, 6)] [] S S1 → Q (.inl (some (.int (Int32.ofNat (Wn bs F P y))))) S1) → Wp dd 0 12 0 [.ref 6, .int P, .int y, .int n, .int (Int32.ofNat deep)] [] S Q := by
  obtain ⟨w1, w2, w3, w4, w5, w6, w7⟩ := id hWd
  intro k
  induction k with
  | zero =>
    intro dd deep P y n S Q hdd hC hy hn hG hCl hp hde K
    have e0 : P = 0 := by
      refine Classical.byContradiction fun q => ?_
      have := pcn_drop q
      omega
    subst e0
    have k0 := K S Fz.refl
    rw [ways_none] at k0
    exact b12_0 (b12_9 (fun h => absurd h (by decide)) (fun _ => b12_16 (fun _ => b12_88 k0) (fun h => absurd rfl h)))
  | succ k ih =>
    intro dd deep P y n S Q hdd hC hy hn hG hCl hp hde K
    obtain ⟨e, rfl⟩ : ∃ e, dd = e + 4 := ⟨dd - 4, by omega⟩
    -- one part
    have part : ∀ (R : Int32) (S' : St) (Q' : Out → St → Prop), Fz [(6, 5), (6, 6)] [] S S' → Cls bs ins R y n → pcn R ≤ k + 1 → ¬ R = 0 → (∀ S1, Fz [(6, 5), (6, 6)] [] S S1 → Q' (.inl (some (.int (Int32.ofNat (Wn bs F R y))))) S1) → Wp (e + 3) 0 13 0 [.ref 6, .int R, .int y, .int n, .int (Int32.ofNat deep)] [] S' Q' := by
      intro R S' Q' hF hR hpR hne K'
      have hR20 : Low 20 R := fun z hz => by
        have := w2 z (hR.1 z hz).1
        omega
      refine b13_0 (fun _ => b13_9 (P := fun v S1 => S' = S1 ∧ ∃ l, tb R l = true ∧ v = bit l) (c14 hR20 hne (fun l hl => ⟨_, rfl, rfl, l, hl, rfl⟩)) ?_) (fun h => ?_)
      · rintro _ _ ⟨rfl, l, hl, rfl⟩
        have hlm : l < m := w2 l (hR.1 l hl).1
        have l32 : l < 32 := by omega
        have lb : Low m (bit l) := low_bit hlm l32
        have tl : tb (bit l) l = true := by rw [tb_bit l32]; simp
        have only : ∀ z, tb (bit l) z = true → z = l := fun z hz => by
          rw [tb_bit l32] at hz
          simpa using hz
        have lR : sb (bit l) R := fun z hz => by rw [only z hz]; exact hl
        have hsum : Wn bs F R y = cd (fun T => LV bs F R y T ∧ tb T l = true) + cd (fun T => LV bs F R y T ∧ ¬ tb T l = true) := cd_split (fun T => tb T l = true) _
        have c1 : ∀ Y N c, Fc bs F m (y ||| bit l) n Y N c → cd (fun T => LV bs F R y T ∧ tb T l = true) = if c = true then 0 else Wn bs F (R &&& ((Y ||| N) ^^^ -1)) Y := by
          intro Y N c hfc
          rw [← ways_step hWd hG hR (sb_orl _ _) (sb.refl _) (sb_or (sb_orl _ _) (lR.trans (sb_orr _ _))) (sb_orl _ _) hfc]
          refine cd_congr (fun T _ => ⟨fun h => ⟨h.1, sb_or (sb_orl _ _) (fun z hz => or_t.2 (Or.inr (by rw [only z hz]; exact h.2))), fun z hz => ?_⟩, fun h => ⟨h.1, ?_⟩⟩)
          · have := (hR.1 z (h.1.1 z hz.2)).2.2
            rw [hz.1] at this
            cases this
          · rcases or_t.1 (h.2.1 l (or_t.2 (Or.inr tl))) with q | q
            · rw [(hR.1 l hl).2.1] at q; cases q
            · exact q
        have c2 : ∀ Y N c, Fc bs F m y (n ||| bit l) Y N c → cd (fun T => LV bs F R y T ∧ ¬ tb T l = true) = if c = true then 0 else Wn bs F (R &&& ((Y ||| N) ^^^ -1)) Y := by
          intro Y N c hfc
          rw [← ways_step hWd hG hR (sb.refl _) (sb_orl _ _) (sb_orl _ _) (sb_or (sb_orl _ _) (lR.trans (sb_orr _ _))) hfc]
          refine cd_congr (fun T _ => ⟨fun h => ⟨h.1, sb_orl _ _, fun z hz => ?_⟩, fun h => ⟨h.1, fun q => h.2.2 l ⟨or_t.2 (Or.inr tl), q⟩⟩⟩)
          rcases or_t.1 hz.1 with q | q
          · have := (hR.1 z (h.1.1 z hz.2)).2.2
            rw [q] at this
            cases this
          · rw [only z q] at hz; exact h.2 hz.2
        -- fewer
        have less : ∀ Y N, (tb Y l = true ∨ tb N l = true) → pcn (R &&& ((Y ||| N) ^^^ -1)) ≤ k := by
          intro Y N h
          have : pcn (R &&& ((Y ||| N) ^^^ -1)) < pcn R := by
            refine pcn_lt (sb_andl _ _) (fun q => ?_)
            have := hl
            rw [← q, dif_t, tb_or] at this
            rcases h with h | h <;> rw [h] at this
            · cases this.2
            · rw [Bool.or_true] at this; cases this.2
          omega
        -- the second half
        have second : ∀ (v : Nat) (S1 : St), Fz [(6, 5), (6, 6)] [] S S1 → v = cd (fun T => LV bs F R y T ∧ tb T l = true) → Wp (e + 3) 0 13 66 [.ref 6, .int R, .int y, .int n, .int (Int32.ofNat deep), .int (bit l), .int (Int32.ofNat v)] [] S1 Q' := by
          intro v S1 hF1 hv
          refine b13_66 (P := fun u S2 => ∃ c, u = bi (!c) ∧ Fz [(6, 5), (6, 6)] [] S1 S2 ∧ Fc bs F m y (n ||| bit l) (S2.1 6 5) (S2.1 6 6) c) (c6a (d := e) ((hC.of hF1 (by decide)).le w1) w1 hFl hbl hy (low_or hn lb) (fun r hr _ h2 => (hG.2.2.1 r hr h2).trans (sb_orl _ _)) (fun S2 c h1 h2 => ⟨_, rfl, c, rfl, h1, h2⟩)) ?_
          rintro _ S2 ⟨c, rfl, hF2, hfc⟩
          have q2 := c2 _ _ c hfc
          cases c with
          | true =>
            refine b13_76 (fun _ => b13_113 ?_) (fun q => absurd rfl q)
            have := K' S2 (hF1.trans hF2)
            rw [hsum, q2, ← hv] at this
            exact this
          | false =>
            rw [if_neg (by decide)] at q2
            obtain ⟨l1, l2, hA⟩ : Low m (S2.1 6 5) ∧ Low m (S2.1 6 6) ∧ Abo bs F m y (n ||| bit l) (S2.1 6 5) (S2.1 6 6) := by
              obtain ⟨a1, a2, a3⟩ := hfc
              rcases a3 with ⟨_, a3, _⟩ | ⟨a3, _⟩
              · exact ⟨a1, a2, a3⟩
              · cases a3
            refine b13_76 (fun q => absurd q (by decide)) (fun _ => b13_79 (P := fun u S3 => u = Int32.ofNat (Wn bs F (R &&& ((S2.1 6 5 ||| S2.1 6 6) ^^^ -1)) (S2.1 6 5)) ∧ Fz [(6, 5), (6, 6)] [] S2 S3) ?_ ?_)
            · rw [i_suc]
              exact ih (e + 2) (deep + 1) _ _ _ S2 _ (by omega) (hC.of (hF1.trans hF2) (by decide)) l1 l2 hA.1 (cls_step hR hA.2.1 ((sb_orl _ _).trans hA.2.2)) (less _ _ (Or.inr (hA.2.2 l (or_t.2 (Or.inr tl))))) (by omega) (fun S3 h => ⟨_, rfl, rfl, h⟩)
            · rintro _ S3 ⟨rfl, hF3⟩
              refine b13_110 (b13_113 ?_)
              rw [i_add, ← q2, hv, ← hsum]
              exact K' S3 ((hF1.trans hF2).trans hF3)
        refine b13_14 (P := fun u S2 => ∃ c, u = bi (!c) ∧ Fz [(6, 5), (6, 6)] [] S' S2 ∧ Fc bs F m (y ||| bit l) n (S2.1 6 5) (S2.1 6 6) c) (c6a (d := e) ((hC.of hF (by decide)).le w1) w1 hFl hbl (low_or hy lb) hn (fun r hr _ h2 => hG.2.2.1 r hr h2) (fun S2 c h1 h2 => ⟨_, rfl, c, rfl, h1, h2⟩)) ?_
        rintro _ S2 ⟨c, rfl, hF2, hfc⟩
        have q1 := c1 _ _ c hfc
        cases c with
        | true => exact b13_29 (fun _ => second 0 S2 (hF.trans hF2) q1.symm) (fun q => absurd rfl q)
        | false =>
          rw [if_neg (by decide)] at q1
          obtain ⟨l1, l2, hA⟩ : Low m (S2.1 6 5) ∧ Low m (S2.1 6 6) ∧ Abo bs F m (y ||| bit l) n (S2.1 6 5) (S2.1 6 6) := by
            obtain ⟨a1, a2, a3⟩ := hfc
            rcases a3 with ⟨_, a3, _⟩ | ⟨a3, _⟩
            · exact ⟨a1, a2, a3⟩
            · cases a3
          refine b13_29 (fun q => absurd q (by decide)) (fun _ => b13_32 (P := fun u S3 => u = Int32.ofNat (Wn bs F (R &&& ((S2.1 6 5 ||| S2.1 6 6) ^^^ -1)) (S2.1 6 5)) ∧ Fz [(6, 5), (6, 6)] [] S2 S3) ?_ ?_)
          · rw [i_suc]
            exact ih (e + 2) (deep + 1) _ _ _ S2 _ (by omega) (hC.of (hF.trans hF2) (by decide)) l1 l2 hA.1 (cls_step hR ((sb_orl _ _).trans hA.2.1) hA.2.2) (less _ _ (Or.inl (hA.2.1 l (or_t.2 (Or.inr tl))))) (by omega) (fun S3 h => ⟨_, rfl, rfl, h⟩)
          · rintro _ S3 ⟨rfl, hF3⟩
            refine b13_63 ?_
            show Wp (e + 3) 0 13 66 [.ref 6, .int R, .int y, .int n, .int (Int32.ofNat deep), .int (bit l), .int (Int32.ofNat 0 + Int32.ofNat _)] [] S3 Q'
            rw [i_add, Nat.zero_add]
            exact second _ S3 ((hF.trans hF2).trans hF3) q1.symm
      · exact absurd ((i_lt (b := 45) (by omega) (by omega)).2 (by omega)) h
    -- part by part
    have loop : ∀ j i E S', i + j = 20 → pcn (P &&& (E ^^^ -1)) ≤ j → sb E P → (∀ r, tb E r = true → ∀ o, tb P o = true → tb (bs r) o = true → tb E o = true) → Fz [(6, 5), (6, 6)] [] S S' → Wp (e + 4) 0 12 9 [.ref 6, .int P, .int y, .int n, .int (Int32.ofNat deep), .int (Int32.ofNat (Wn bs F E y)), .int (P &&& (E ^^^ -1)), .int (Int32.ofNat i)] [] S' Q := by
      intro j
      induction j with
      | zero =>
        intro i E S' hi hpE hE hcl hF
        have e0 : P &&& (E ^^^ -1) = 0 := by
          refine Classical.byContradiction fun q => ?_
          have := pcn_drop q
          omega
        have eE : E = P := sb_anti hE (sb_sub0.1 e0)
        refine b12_9 (fun _ => b12_88 ?_) (fun h => absurd ((i_le (a := 20) (by omega) (by omega)).2 (by omega)) h)
        rw [eE]
        exact K S' hF
      | succ j ihj =>
        intro i E S' hi hpE hE hcl hF
        have hmul := ways_mul hWd hCl hE hcl
        refine b12_9 (fun h => ?_) (fun _ => b12_16 (fun h => b12_88 ?_) (fun h => b12_21 (fun h0 => b12_88 ?_) (fun h0 => ?_)))
        · have := (i_le (a := 20) (by omega) (by omega)).1 h
          omega
        · have eE : E = P := sb_anti hE (sb_sub0.1 h)
          rw [eE]
          exact K S' hF
        · have hb := wn_le (bs := bs) (F := F) E y
          have z : Wn bs F E y = 0 := (i_inj (b := 0) (by omega) (by omega)).1 h0
          have k0 := K S' hF
          rw [← hmul.1, z, Nat.zero_mul] at k0
          rw [z]
          exact k0
        · obtain ⟨l, l32, hl, hlm⟩ := least_ex h
          have hlP := (dif_t.1 hl).1
          have l20 : l < 20 := by
            have := w2 l (hCl.1 l hlP).1
            omega
          have tl : tb (bit l) l = true := by rw [tb_bit l32]; simp
          have hCr := hmul.2.2
          have hrl : Low 20 (P &&& (E ^^^ -1)) := fun z hz => by
            have := w2 z (hCr.1 z hz).1
            omega
          refine b12_26 (P := fun R S1 => S' = S1 ∧ sb (bit l) R ∧ sb R (P &&& (E ^^^ -1)) ∧ (∀ r, tb R r = true → ∀ o, tb (P &&& (E ^^^ -1)) o = true → tb (bs r) o = true → tb R o = true)) ?_ ?_
          · rw [low1 hl hlm]
            refine c149b (d := e + 1) (bs := bs) (fun r hr => (hF.a (by decide) r).trans (hC.2.2.2 r hr)) hrl (fun z hz => ?_) (fun R h1 h2 h3 => ⟨_, rfl, rfl, h1, h2, h3⟩)
            rw [tb_bit l32] at hz
            have : z = l := by simpa using hz
            subst this; exact hl
          · rintro R _ ⟨rfl, r1, r2, r3⟩
            obtain ⟨m1, m2, m3⟩ := ways_mul hWd hCr r2 r3
            -- what is done now
            have hE' : sb (E ||| R) P := sb_or hE (r2.trans (sb_andl _ _))
            have noER : ∀ r o, tb R r = true → tb E o = true → tb (bs r) o = true → False := fun r o hr ho hb => by
              obtain ⟨a1, a2⟩ := dif_t.1 (r2 r hr)
              have rm : r < m := w2 r (hCl.1 r a1).1
              have := hcl o ho r a1 (w4 r o rm hb)
              rw [a2] at this
              cases this
            have hcl' : ∀ r, tb (E ||| R) r = true → ∀ o, tb P o = true → tb (bs r) o = true → tb (E ||| R) o = true := fun r hr o ho hb => by
              rcases or_t.1 hr with q | q
              · exact or_t.2 (Or.inl (hcl r q o ho hb))
              · refine or_t.2 (Or.inr (r3 r q o (dif_t.2 ⟨ho, bneg (fun e => noER r o q e hb)⟩) hb))
            have eR : (E ||| R) &&& (E ^^^ -1) = R := by
              refine sb_anti (fun z hz => ?_) (fun z hz => dif_t.2 ⟨or_t.2 (Or.inr hz), (dif_t.1 (r2 z hz)).2⟩)
              obtain ⟨a1, a2⟩ := dif_t.1 hz
              rcases or_t.1 a1 with q | q
              · rw [a2] at q; cases q
              · exact q
            have erest : (P &&& (E ^^^ -1)) &&& (R ^^^ -1) = P &&& ((E ||| R) ^^^ -1) := by
              apply tb_ext
              intro z _
              rw [tb_diff, tb_diff, tb_diff, tb_or]
              cases tb P z <;> cases tb E z <;> cases tb R z <;> rfl
            have eW : Wn bs F E y * Wn bs F R y = Wn bs F (E ||| R) y := by
              have hC' := (ways_mul hWd hCl hE' hcl').2.1
              have := (ways_mul hWd hC' (sb_orl E R) (fun r hr o ho hb => hcl r hr o (hE' o ho) hb)).1
              rw [eR] at this
              exact this
            have hpR : pcn R ≤ pcn P := pcn_mono (r2.trans (sb_andl _ _))
            have hlt : pcn (P &&& ((E ||| R) ^^^ -1)) < pcn (P &&& (E ^^^ -1)) := by
              rw [← erest]
              refine pcn_lt (sb_andl _ _) (fun q => ?_)
              have := hl
              rw [← q] at this
              have := (dif_t.1 this).2
              rw [r1 l tl] at this
              cases this
            have next : ∀ (v : Int32) (S2 : St) (x8 : Int32), v = Int32.ofNat (Wn bs F R y) → Fz [(6, 5), (6, 6)] [] S S2 → Wp (e + 4) 0 12 79 [.ref 6, .int P, .int y, .int n, .int (Int32.ofNat deep), .int (Int32.ofNat (Wn bs F E y)), .int ((P &&& (E ^^^ -1)) &&& (R ^^^ -1)), .int (Int32.ofNat i), .int x8, .int R] [.int v, .int (Int32.ofNat (Wn bs F E y))] S2 Q := by
              rintro v S2 x8 rfl hF2
              refine b12_79 ?_
              rw [i_mul, i_suc, eW, erest]
              exact ihj (i + 1) (E ||| R) S2 (by omega) (by omega) hE' hcl' hF2
            refine b12_45 (fun hne => b12_69 (P := fun v S2 => v = Int32.ofNat (Wn bs F R y) ∧ Fz [(6, 5), (6, 6)] [] S S2) ?_ ?_) (fun heq => b12_65 (next 2 S' _ ?_ hF))
            · exact part R S' _ hF m2 (by omega) (fun q => by
                have := r1 l tl
                rw [q, tb_zero] at this
                cases this) (fun S2 h => ⟨_, rfl, rfl, h⟩)
            · rintro _ S2 ⟨rfl, hF2⟩
              exact next _ S2 _ rfl hF2
            · have heq := Classical.not_not.1 heq
              rw [low1 hl hlm] at heq
              rw [heq, ways_lone hWd hG (by rw [← heq]; exact m2) l20]
              rfl
    have l0 := loop 20 0 0 S (by omega) (Nat.le_trans (pcn_mono (sb_andl _ _)) (Nat.le_trans (pcn_lown (n := 20) (fun z hz => by
      have := w2 z (hCl.1 z hz).1
      omega) (by omega)) (by omega))) (sb_zero _) (fun r hr => by rw [tb_zero] at hr; cases hr) Fz.refl
    have eP : P &&& ((0 : Int32) ^^^ -1) = P := by
      apply tb_ext
      intro z _
      rw [tb_diff, tb_zero]
      cases tb P z <;> rfl
    rw [ways_none, eP] at l0
    exact b12_0 l0
end CWAYS
