/-! PARTS, and how far -/
def widN (up : Nat → Int32) (set : Int32) : Nat → Int32
  | 0 => set
  | n + 1 => if tb set n = true then widN up set n ||| up n else widN up set n
theorem tb_wid {up : Nat → Int32} {set : Int32} (n k : Nat) : tb (widN up set n) k = true ↔ (tb set k = true ∨ ∃ r, r < n ∧ tb set r = true ∧ tb (up r) k = true) := by
  induction n with
  | zero =>
    constructor
    · exact fun h => Or.inl h
    · rintro (h | ⟨r, h, _⟩)
      · exact h
      · omega
  | succ n ih =>
    unfold widN
    by_cases e : tb set n = true
    · rw [if_pos e, or_t, ih]
      constructor
      · rintro ((h | ⟨r, h1, h2⟩) | h)
        · exact Or.inl h
        · exact Or.inr ⟨r, by omega, h2⟩
        · exact Or.inr ⟨n, by omega, e, h⟩
      · rintro (h | ⟨r, h1, h2, h3⟩)
        · exact Or.inl (Or.inl h)
        · by_cases er : r = n
          · subst er; exact Or.inr h3
          · exact Or.inl (Or.inr ⟨r, by omega, h2, h3⟩)
    · rw [if_neg e, ih]
      constructor
      · rintro (h | ⟨r, h1, h2⟩)
        · exact Or.inl h
        · exact Or.inr ⟨r, by omega, h2⟩
      · rintro (h | ⟨r, h1, h2, h3⟩)
        · exact Or.inl h
        · by_cases er : r = n
          · subst er; exact absurd h2 e
          · exact Or.inr ⟨r, by omega, h2, h3⟩
/-- closed under what is upright -/
def Clo (up : Nat → Int32) (X : Int32) : Prop := ∀ r, tb X r = true → ∀ o, tb (up r) o = true → tb X o = true
/-- a part: the least closed set with a ray -/
def Cmp (up : Nat → Int32) (r : Nat) (X : Int32) : Prop := tb X r = true ∧ Clo up X ∧ ∀ Y, tb Y r = true → Clo up Y → sb X Y
def Lead (up : Nat → Int32) (r : Nat) : Prop := ∃ X, Cmp up r X ∧ ∀ j, j < r → tb X j = false
noncomputable def leadB (up : Nat → Int32) (r : Nat) : Bool := @decide (Lead up r) (Classical.propDecidable _)
theorem leadB_t {up : Nat → Int32} {r : Nat} : leadB up r = true ↔ Lead up r := ⟨fun h => @of_decide_eq_true _ (Classical.propDecidable _) h, fun h => @decide_eq_true _ (Classical.propDecidable _) h⟩
theorem Cmp.uniq {up : Nat → Int32} {r : Nat} {X Y : Int32} (h : Cmp up r X) (h2 : Cmp up r Y) : X = Y := sb_anti (h.2.2 Y h2.1 h2.2.1) (h2.2.2 X h.1 h.2.1)
/-- a part is that of all its rays -/
theorem Cmp.other {up : Nat → Int32} {r q : Nat} {X : Int32} (hsym : ∀ r o, tb (up r) o = tb (up o) r) (h : Cmp up r X) (hq : tb X q = true) : Cmp up q X := by
  refine ⟨hq, h.2.1, fun Y hY hC => ?_⟩
  have hr : tb Y r = true := by
    refine bpos (fun e => ?_)
    have : sb X (X &&& (Y ^^^ -1)) := h.2.2 _ (dif_t.2 ⟨h.1, e⟩) (fun a ha o ho => by
      obtain ⟨a1, a2⟩ := dif_t.1 ha
      refine dif_t.2 ⟨h.2.1 a a1 o ho, bneg (fun w => ?_)⟩
      have := hC o w a (by rw [hsym]; exact ho)
      rw [a2] at this; cases this)
    have := (dif_t.1 (this q hq)).2
    rw [hY] at this; cases this
  exact h.2.2 Y hr hC
section PARTS
variable {b m rl : Nat} {ins : Int32} {up : Nat → Int32} {F : List Int32}
theorem s216 {d : Nat} {S : St} {set : Int32} (hW : MW m rl ins up F S) : Wp (d + 1) b 216 0 [.ref 46, .int set] [] S (Ri (Vx (widN up set m) S)) := by
  obtain ⟨hm, h20, hi', hlow, hrl, h1, hup, hL, hlen, hbs⟩ := id hW
  have loop : ∀ k i, i + k = m → Wp (d + 1) b 216 4 [.ref 46, .int set, .int (widN up set i), .int (Int32.ofNat i)] [] S (Ri (Vx (widN up set m) S)) := by
    intro k
    induction k with
    | zero =>
      intro i hi
      have e : i = m := by omega
      subst e
      refine b216_4 (fun _ => b216_35 ⟨_, rfl, rfl, rfl⟩) (fun h => ?_)
      rw [hm] at h
      exact absurd ((i_le (by omega) (by omega)).2 (Nat.le_refl _)) h
    | succ k ih =>
      intro i hi
      have ih' := ih (i + 1) (by omega)
      refine b216_4 (fun h => ?_) (fun _ => b216_12 (s154 _ (by omega)) ?_)
      · rw [hm] at h
        have := (i_le (by omega) (by omega)).1 h
        omega
      · rintro _ _ ⟨rfl, rfl⟩
        have eW : widN up set (i + 1) = if tb set i = true then widN up set i ||| up i else widN up set i := rfl
        rw [eW] at ih'
        refine b216_17 (fun h => b216_29 ?_) (fun h => b216_20 (i_vp (by omega) (by omega)) (b216_29 ?_))
        · rw [if_neg (by rw [bi0.1 h]; decide)] at ih'
          rw [i_suc]
          exact ih'
        · rw [if_pos (bi1.1 h)] at ih'
          rw [i_suc, i_cl (by omega), hup i (by omega)]
          exact ih'
  exact b216_0 (loop m 0 (by omega))
theorem s217 {d : Nat} {S : St} {r : Nat} {Q : Out → St → Prop} (hU : UW m rl ins up F) (hW : MW m rl ins up F S) (hr : tb ins r = true) (K : ∀ X, Cmp up r X → sb X ins → Q (.inl (some (.int X))) S) : Wp (d + 2) b 217 0 [.ref 46, .int (Int32.ofNat r)] [] S Q := by
  obtain ⟨u1, u2, u3, u4, u5, u6, u7, u8, u9, u10⟩ := id hU
  have hrm := u3 r hr
  have tl : tb (bit r) r = true := by rw [tb_bit (by omega)]; simp
  have only : ∀ z, tb (bit r) z = true → z = r := fun z hz => by
    rw [tb_bit (by omega)] at hz
    simpa using hz
  have loop : ∀ k X was, 20 ≤ pcn X + k → tb X r = true → sb X ins → (∀ Y, tb Y r = true → Clo up Y → sb X Y) → (was = X → Clo up X) → Wp (d + 2) b 217 6 [.ref 46, .int (Int32.ofNat r), .int X, .int was] [] S Q := by
    intro k
    induction k with
    | zero =>
      intro X was hk h1 h2 h3 h4
      have hfull : widN up X m = X := by
        refine Classical.byContradiction fun q => ?_
        have hs : sb X (widN up X m) := fun z hz => (tb_wid m z).2 (Or.inl hz)
        have := pcn_lt hs (fun e => q e.symm)
        have hl : Low 20 (widN up X m) := fun z hz => by
          rcases (tb_wid m z).1 hz with w | ⟨a, _, _, w⟩
          · have := u3 z (h2 z w); omega
          · have := u3 z (u6 a z w); omega
        have := pcn_lown hl (by omega)
        omega
      have hC : Clo up X := fun a ha o ho => by
        have : tb (widN up X m) o = true := (tb_wid m o).2 (Or.inr ⟨a, u3 a (h2 a ha), ha, ho⟩)
        rw [hfull] at this; exact this
      refine b217_6 (fun e => b217_22 (K X ⟨h1, hC, h3⟩ h2)) (fun e => b217_11 (s216 hW) ?_)
      rintro _ _ ⟨rfl, rfl⟩
      refine b217_18 ?_
      rw [hfull]
      exact b217_6 (fun _ => b217_22 (K X ⟨h1, hC, h3⟩ h2)) (fun e => absurd rfl e)
    | succ k ih =>
      intro X was hk h1 h2 h3 h4
      refine b217_6 (fun e => b217_22 (K X ⟨h1, h4 e, h3⟩ h2)) (fun e => b217_11 (s216 hW) ?_)
      rintro _ _ ⟨rfl, rfl⟩
      refine b217_18 ?_
      have hs : sb X (widN up X m) := fun z hz => (tb_wid m z).2 (Or.inl hz)
      by_cases q : X = widN up X m
      · have hC : Clo up X := fun a ha o ho => by
          rw [q]
          exact (tb_wid m o).2 (Or.inr ⟨a, u3 a (h2 a ha), ha, ho⟩)
        rw [← q]
        exact b217_6 (fun _ => b217_22 (K X ⟨h1, hC, h3⟩ h2)) (fun e => absurd rfl e)
      · have hlt := pcn_lt hs q
        refine ih (widN up X m) X (by omega) (hs r h1) (fun z hz => ?_) (fun Y hY hC z hz => ?_) (fun e => absurd e q)
        · rcases (tb_wid m z).1 hz with w | ⟨a, _, _, w⟩
          · exact h2 z w
          · exact u6 a z w
        · rcases (tb_wid m z).1 hz with w | ⟨a, _, a2, w⟩
          · exact h3 Y hY hC z w
          · exact hC a (h3 Y hY hC a a2) z w
  refine b217_0 (loop 20 (bit r) 0 (by omega) tl (fun z hz => by rw [only z hz]; exact hr) (fun Y hY _ z hz => by rw [only z hz]; exact hY) (fun e => ?_))
  have := tl
  rw [← e, tb_zero] at this
  cases this
theorem w218 {d : Nat} {S : St} {Q : Out → St → Prop} (hU : UW m rl ins up F) (hW : MW m rl ins up F S) (K : ∀ S1, Fz [(46, 4)] [] S S1 → S1.1 46 4 = 0 → Q (.inl (some (.int (Int32.ofNat (cnt (fun r => tb ins r && leadB up r) m))))) S1) : Wp (d + 3) b 218 0 [.ref 46] [] S Q := by
  obtain ⟨hm, h20, hi', hlow, hrl, h1, hup, hL, hlen, hbs⟩ := id hW
  have hF0 : Fz [(46, 4)] [] S (setI S 46 4 0) := Fz.refl.seti (by decide)
  have hW0 := hW.of hF0 (by decide)
  have loop : ∀ k i, i + k = m → Wp (d + 3) b 218 9 [.ref 46, .int (Int32.ofNat (cnt (fun r => tb ins r && leadB up r) i)), .int (Int32.ofNat i)] [] (setI S 46 4 0) Q := by
    intro k
    induction k with
    | zero =>
      intro i hi
      have e : i = m := by omega
      subst e
      refine b218_9 (fun _ => b218_51 (K _ hF0 seti_same)) (fun h => ?_)
      have e1 : (setI S 46 4 0).1 46 1 = Int32.ofNat i := hm
      rw [e1] at h
      exact absurd ((i_le (by omega) (by omega)).2 (Nat.le_refl _)) h
    | succ k ih =>
      intro i hi
      have e1 : (setI S 46 4 0).1 46 1 = Int32.ofNat m := hm
      have ih' := ih (i + 1) (by omega)
      have fin : ∀ v c : Nat, c = cnt (fun r => tb ins r && leadB up r) i → v = (if (tb ins i && leadB up i) = true then 1 else 0) → Wp (d + 3) b 218 43 [.ref 46, .int (Int32.ofNat c), .int (Int32.ofNat i)] [.int (Int32.ofNat v), .int (Int32.ofNat c)] (setI S 46 4 0) Q := by
        rintro v c rfl rfl
        refine b218_43 ?_
        rw [i_add, i_suc]
        exact ih'
      refine b218_9 (fun h => ?_) (fun _ => b218_17 (s159n (d := d) (by omega) e1 h20 hi') ?_)
      · rw [e1] at h
        have := (i_le (by omega) (by omega)).1 h
        omega
      · rintro _ _ ⟨rfl, rfl⟩
        refine b218_23 (fun h => b218_42 (fin 0 _ rfl ?_)) (fun h => b218_26 (P := fun X S1 => setI S 46 4 0 = S1 ∧ Cmp up i X ∧ sb X ins) (s217 hU hW0 (bi1.1 h) (fun X a1 a2 => ⟨_, rfl, rfl, a1, a2⟩)) ?_)
        · rw [bi0.1 h]; rfl
        · rintro X _ ⟨rfl, hX, hXi⟩
          have hne : ¬ X = 0 := fun q => by
            have := hX.1
            rw [q, tb_zero] at this; cases this
          obtain ⟨l, l32, hl, hlm⟩ := least_ex hne
          have l20 := hlow l (hXi l hl)
          refine b218_31 (s156 (d := d + 1) hl hlm) ?_
          rintro _ _ ⟨rfl, rfl⟩
          refine b218_34 (fun q => b218_42 (fin 0 _ rfl ?_)) (fun q => b218_38 (fin 1 _ rfl ?_))
          · rw [if_neg]
            intro w
            rw [Bool.and_eq_true, leadB_t] at w
            obtain ⟨Y, hY, hYm⟩ := w.2
            rw [hY.uniq hX] at hYm
            have : l = i := by
              rcases Nat.lt_trichotomy l i with z | z | z
              · rw [hYm l z] at hl; cases hl
              · exact z
              · have := hlm i z
                rw [hX.1] at this; cases this
            rw [this] at q
            exact q rfl
          · have e := (i_inj (by omega) (by omega)).1 (Classical.not_not.1 q)
            subst e
            rw [if_pos]
            rw [bi1.1 h, Bool.true_and, leadB_t]
            exact ⟨X, hX, hlm⟩
  exact b218_0 (loop m 0 (by omega))
theorem c149p {d : Nat} {S : St} {st wi : Int32} {Q : Out → St → Prop} (lk : ∀ r, r < 20 → S.2.1 23 r = up r) (hwi : Low 20 wi) (hst : sb st wi) (K : ∀ R, sb st R → sb R wi → (∀ r, tb R r = true → ∀ o, tb wi o = true → tb (up r) o = true → tb R o = true) → (∀ X, sb st X → Clo up X → sb R X) → Q (.inl (some (.int R))) S) : Wp (d + 2) b 149 0 [.ref 23, .int st, .int wi] [] S Q := by
  have loop : ∀ k i R E, i + k = 20 → pcn R = pcn E + i → sb st R → sb R wi → sb E R → (∀ r, tb R r = true → tb E r = false → ∀ o, tb wi o = true → tb (up r) o = true → tb R o = true) → (∀ X, sb st X → Clo up X → sb R X) → Wp (d + 2) b 149 8 [.ref 23, .int st, .int wi, .int R, .int E, .int (Int32.ofNat i)] [] S Q := by
    intro k
    induction k with
    | zero =>
      intro i R E hi hp h1 h2 h3 h4 h5
      have e0 : E = 0 := by
        refine Classical.byContradiction fun q => ?_
        have := pcn_drop q
        have := pcn_lown (sb_low h2 hwi) (by omega)
        omega
      subst e0
      exact b149a_8 (fun _ => b149a_60 (K R h1 h2 (fun r hr => h4 r hr (tb_zero r)) h5)) (fun h => absurd ((i_le (a := 20) (by omega) (by omega)).2 (by omega)) h)
    | succ k ih =>
      intro i R E hi hp h1 h2 h3 h4 h5
      refine b149a_8 (fun h => ?_) (fun _ => b149a_15 (fun h => ?_) (fun h => ?_))
      · have := (i_le (a := 20) (by omega) (by omega)).1 h
        omega
      · subst h
        exact b149a_60 (K R h1 h2 (fun r hr => h4 r hr (tb_zero r)) h5)
      · obtain ⟨l, l32, hl, hlm⟩ := least_ex h
        have l20 : l < 20 := hwi l (h2 l (h3 l hl))
        refine b149a_20 (s148l hl hlm) ?_
        rintro _ _ ⟨rfl, rfl⟩
        refine b149a_26 (s147d (by omega)) ?_
        rintro _ _ ⟨rfl, rfl⟩
        rw [if_pos l20, lk l l20]
        refine b149a_29 ?_
        rw [i_suc]
        have td : ∀ k, tb (E &&& (E - 1)) k = true → tb E k = true ∧ k ≠ l := fun k hk => by
          have hk32 := tb_lt hk
          rw [drop1 hl hlm hk32, Bool.and_eq_true] at hk
          exact ⟨hk.1, by simpa using hk.2⟩
        have dis : (E &&& (E - 1)) &&& ((up l &&& wi) &&& (R ^^^ -1)) = 0 := and0.2 (fun k _ q => by
          have := (dif_t.1 q.2).2
          rw [h3 k (td k q.1).1] at this
          cases this)
        have dis2 : R &&& ((up l &&& wi) &&& (R ^^^ -1)) = 0 := and0.2 (fun k _ q => by
          have := (dif_t.1 q.2).2
          rw [q.1] at this
          cases this)
        refine ih (i + 1) _ _ (by omega) ?_ (h1.trans (sb_orl _ _)) (sb_or h2 ((sb_andl _ _).trans (sb_andr _ _))) (sb_or (fun k hk => or_t.2 (Or.inl (h3 k (td k hk).1))) (sb_orr _ _)) (fun r hr hE o ho hb => ?_) (fun X a1 a2 => sb_or (h5 X a1 a2) (fun z hz => a2 l (h5 X a1 a2 l (h3 l hl)) z (and_t.1 (dif_t.1 hz).1).1))
        · rw [pcn_or dis, pcn_or dis2]
          have := pcn_drop h
          omega
        · by_cases e : r = l
          · subst e
            cases eR : tb R o
            · exact or_t.2 (Or.inr (dif_t.2 ⟨and_t.2 ⟨hb, ho⟩, eR⟩))
            · exact or_t.2 (Or.inl eR)
          · have hE' : tb (E &&& (E - 1)) r = false ∧ tb ((up l &&& wi) &&& (R ^^^ -1)) r = false := by
              rw [tb_or, Bool.or_eq_false_iff] at hE
              exact hE
            rcases or_t.1 hr with q | q
            · have : tb E r = false := by
                have := hE'.1
                rw [drop1 hl hlm (tb_lt q)] at this
                simpa [e] using this
              exact or_t.2 (Or.inl (h4 r q this o ho hb))
            · rw [hE'.2] at q; cases q
  exact b149a_0 (loop 20 0 st st (by omega) rfl (sb.refl _) hst (sb.refl _) (fun r hr hE => by rw [hr] at hE; cases hE) (fun X a _ => a))
theorem c98 {d : Nat} {S : St} {Q : Out → St → Prop} (hU : UW m rl ins up F) (hW : WB ins up F S) (K : Q (.inl (some (.int (Int32.ofNat (cnt (fun r => tb ins r && leadB up r) 20))))) S) : Wp (d + 3) b 98 0 [.ref 5] [] S Q := by
  obtain ⟨u1, u2, u3, u4, u5, u6, u7, u8, u9, u10⟩ := id hU
  have i20 : Low 20 ins := low_le u3 u1
  have loop : ∀ k i rest f, i + k = 20 → pcn rest ≤ k → sb rest ins → Clo up rest → f + cnt (fun r => tb rest r && leadB up r) 20 = cnt (fun r => tb ins r && leadB up r) 20 → Wp (d + 3) b 98 9 [.ref 5, .int rest, .int (Int32.ofNat f), .int (Int32.ofNat i)] [] S Q := by
    intro k
    have done : ∀ f, f + cnt (fun r => tb 0 r && leadB up r) 20 = cnt (fun r => tb ins r && leadB up r) 20 → Q (.inl (some (.int (Int32.ofNat f)))) S := fun f hf => by
      have e0 : cnt (fun r => tb 0 r && leadB up r) 20 = 0 := cnt_zero (fun k _ => by rw [tb_zero]; rfl)
      rw [e0] at hf
      rw [← hf] at K
      exact K
    induction k with
    | zero =>
      intro i rest f hi hp hs hC hf
      have e0 : rest = 0 := by
        refine Classical.byContradiction fun q => ?_
        have := pcn_drop q
        omega
      subst e0
      exact b98_9 (fun _ => b98_48 (done f hf)) (fun h => absurd ((i_le (a := 20) (by omega) (by omega)).2 (by omega)) h)
    | succ k ih =>
      intro i rest f hi hp hs hC hf
      refine b98_9 (fun h => ?_) (fun _ => b98_15 (fun h => ?_) (fun h => ?_))
      · have := (i_le (a := 20) (by omega) (by omega)).1 h
        omega
      · subst h
        exact b98_48 (done f hf)
      · obtain ⟨l, l32, hl, hlm⟩ := least_ex h
        have hli := hs l hl
        have l20 := i20 l hli
        have tl : tb (bit l) l = true := by rw [tb_bit l32]; simp
        have only : ∀ z, tb (bit l) z = true → z = l := fun z hz => by
          rw [tb_bit l32] at hz
          simpa using hz
        refine b98_19 (P := fun R S1 => S = S1 ∧ Cmp up l R ∧ sb R ins) ?_ ?_
        · rw [low1 hl hlm, hW.1]
          refine c149p (d := d) (up := up) hW.2.2.1 i20 (fun z hz => by rw [only z hz]; exact hli) (fun R a1 a2 a3 a4 => ⟨_, rfl, rfl, ⟨a1 l tl, fun r hr o ho => a3 r hr o (u6 r o ho) ho, fun Y hY hYC => a4 Y (fun z hz => by rw [only z hz]; exact hY) hYC⟩, a2⟩)
        · rintro R _ ⟨rfl, hR, hRi⟩
          refine b98_35 ?_
          rw [i_suc, i_suc]
          have hRr : sb R rest := hR.2.2 rest hl hC
          refine ih (i + 1) (rest &&& (R ^^^ -1)) (f + 1) (by omega) ?_ ((sb_andl _ _).trans hs) (fun r hr o ho => ?_) ?_
          · have : pcn (rest &&& (R ^^^ -1)) < pcn rest := pcn_lt (sb_andl _ _) (fun q => by
              have := hl
              rw [← q] at this
              have := (dif_t.1 this).2
              rw [hR.1] at this; cases this)
            omega
          · obtain ⟨r1, r2⟩ := dif_t.1 hr
            refine dif_t.2 ⟨hC r r1 o ho, bneg (fun e => ?_)⟩
            have := hR.2.1 o e r (by rw [u4]; exact ho)
            rw [r2] at this; cases this
          · have : cnt (fun r => tb rest r && leadB up r) 20 = cnt (fun r => tb (rest &&& (R ^^^ -1)) r && leadB up r) 20 + 1 := by
              refine cnt_flip (l := l) l20 ?_ ?_ (fun q _ hne => ?_)
              · show (tb rest l && leadB up l) = true
                rw [hl, Bool.true_and, leadB_t]
                exact ⟨R, hR, fun j hj => bneg (fun e => by
                  have := hRr j e
                  rw [hlm j hj] at this; cases this)⟩
              · show (tb (rest &&& (R ^^^ -1)) l && leadB up l) = false
                rw [tb_diff, hR.1]; simp
              · show (tb rest q && leadB up q) = (tb (rest &&& (R ^^^ -1)) q && leadB up q)
                rw [tb_diff]
                cases eR : tb R q
                · simp
                · have hq := hRr q eR
                  have : leadB up q = false := bneg (fun e => by
                    rw [leadB_t] at e
                    obtain ⟨Y, hY, hYm⟩ := e
                    rw [hY.uniq (hR.other u4 eR)] at hYm
                    have lq : l < q := by
                      rcases Nat.lt_trichotomy l q with z | z | z
                      · exact z
                      · exact absurd z.symm hne
                      · rw [hlm q z] at hq; cases hq
                    have := hYm l lq
                    rw [hR.1] at this; cases this)
                  rw [this, Bool.and_false, Bool.and_false]
            omega
  have l0 := loop 20 0 ins 0 (by omega) (pcn_lown i20 (by omega)) (sb.refl _) (fun r _ o ho => u6 r o ho) (by omega)
  refine b98_0 ?_
  rw [hW.1]
  exact l0
/-- within so many steps -/
def ball (up : Nat → Int32) (m : Nat) (r : Nat) : Nat → Int32
  | 0 => bit r
  | n + 1 => widN up (ball up m r n) m
/-- how far it is -/
def Dist (up : Nat → Int32) (m r o : Nat) (v : Int32) : Prop := (∃ n, n < 20 ∧ v = Int32.ofNat n ∧ tb (ball up m r n) o = true ∧ ∀ k, k < n → tb (ball up m r k) o = false) ∨ (v = -1 ∧ ∀ k, k < 20 → tb (ball up m r k) o = false)
theorem Dist.uniq {m r o : Nat} {v w : Int32} (h : Dist up m r o v) (h2 : Dist up m r o w) : v = w := by
  rcases h with ⟨n, n1, rfl, n3, n4⟩ | ⟨rfl, n1⟩ <;> rcases h2 with ⟨k, k1, rfl, k3, k4⟩ | ⟨rfl, k1⟩
  · congr 1
    rcases Nat.lt_trichotomy n k with q | q | q
    · rw [k4 n q] at n3; cases n3
    · exact q
    · rw [n4 k q] at k3; cases k3
  · rw [k1 n n1] at n3; cases n3
  · rw [n1 k k1] at k3; cases k3
  · rfl
theorem w219 {d : Nat} {S : St} {x y : Int32} {Q : Out → St → Prop} (hW : MW m rl ins up F S) (K1 : ¬ ((rayB m x && tb ins x.toNatClampNeg) = true ∧ (rayB m y && tb ins y.toNatClampNeg) = true) → ∀ v S1, Fz [(46, 4)] [] S S1 → S1.1 46 4 = 1 → Q (.inl (some (.int v))) S1) (K0 : (rayB m x && tb ins x.toNatClampNeg) = true → (rayB m y && tb ins y.toNatClampNeg) = true → ∀ v S1, Fz [(46, 4)] [] S S1 → S1.1 46 4 = 0 → Dist up m x.toNatClampNeg y.toNatClampNeg v → Q (.inl (some (.int v))) S1) : Wp (d + 3) b 219 0 [.ref 46, .int x, .int y] [] S Q := by
  obtain ⟨hm, h20, hi', hlow, hrl, h1, hup, hL, hlen, hbs⟩ := id hW
  have hF0 : Fz [(46, 4)] [] S (setI S 46 4 0) := Fz.refl.seti (by decide)
  have hW0 := hW.of hF0 (by decide)
  have bad : ¬ ((rayB m x && tb ins x.toNatClampNeg) = true ∧ (rayB m y && tb ins y.toNatClampNeg) = true) → Wp (d + 3) b 219 21 [.ref 46, .int x, .int y] [] (setI S 46 4 0) Q := by
    intro hn
    refine b219_21 (s152 1) ?_
    rintro _ _ ⟨rfl, rfl⟩
    exact b219_26 (K1 hn _ _ (hF0.seti (by decide)) seti_same)
  refine b219_0 (P := Vx (bi (rayB m x && tb ins x.toNatClampNeg)) (setI S 46 4 0)) (s159 (d := d) x hm h20 hi') ?_
  rintro _ _ ⟨rfl, rfl⟩
  refine b219_10 (fun h => bad (fun q => by rw [bi0.1 h] at q; cases q.1)) (fun h => b219_13 (P := Vx (bi (rayB m y && tb ins y.toNatClampNeg)) (setI S 46 4 0)) (s159 (d := d) y hm h20 hi') ?_)
  rintro _ _ ⟨rfl, rfl⟩
  refine b219_18 (fun h2 => b219_27 ?_) (fun h2 => bad (fun q => by rw [bi0.1 (Classical.not_not.1 h2)] at q; cases q.2))
  have hx := bi1.1 h
  have hy := bi1.1 h2
  have hx' := hx
  have hy' := hy
  rw [Bool.and_eq_true] at hx' hy'
  unfold rayB at hx' hy'
  have rx := of_decide_eq_true hx'.1
  have ry := of_decide_eq_true hy'.1
  have ex := i_of rx.1
  have ey := i_of ry.1
  have loop : ∀ k n, n + k = 20 → (∀ j, j < n → tb (ball up m x.toNatClampNeg j) y.toNatClampNeg = false) → Wp (d + 3) b 219 34 [.ref 46, .int x, .int y, .int (ball up m x.toNatClampNeg n), .int (Int32.ofNat n)] [] (setI S 46 4 0) Q := by
    intro k
    induction k with
    | zero =>
      intro n hn hno
      exact b219_34 (fun _ => b219_64 (K0 hx hy _ _ hF0 seti_same (Or.inr ⟨rfl, fun k hk => hno k (by omega)⟩))) (fun q => absurd ((i_le (a := 20) (by omega) (by omega)).2 (by omega)) q)
    | succ k ih =>
      intro n hn hno
      refine b219_34 (fun q => ?_) (fun _ => b219_41 (P := Vx (bi (tb (ball up m x.toNatClampNeg n) y.toNatClampNeg)) (setI S 46 4 0)) ?_ ?_)
      · have := (i_le (a := 20) (by omega) (by omega)).1 q
        omega
      · conv => rw [ey]
        rw [i_cl (i_clt y)]
        exact s154 _ (by omega)
      · rintro _ _ ⟨rfl, rfl⟩
        refine b219_46 (fun q => b219_52 (s216 hW0) ?_) (fun q => b219_49 (K0 hx hy _ _ hF0 seti_same (Or.inl ⟨n, by omega, rfl, bi1.1 q, hno⟩)))
        rintro _ _ ⟨rfl, rfl⟩
        refine b219_57 ?_
        rw [i_suc]
        refine ih (n + 1) (by omega) (fun j hj => ?_)
        by_cases e : j = n
        · subst e; exact bi0.1 q
        · exact hno j (by omega)
  have l0 := loop 20 0 (by omega) (fun j hj => absurd hj (by omega))
  have eb : (1 : Int32) <<< (x &&& 31) = ball up m x.toNatClampNeg 0 := by
    show _ = (1 : Int32) <<< (Int32.ofNat x.toNatClampNeg &&& 31)
    rw [← ex]
  rw [eb]
  exact l0
theorem c99 {d r o : Nat} {S : St} {Q : Out → St → Prop} (hU : UW m rl ins up F) (hW : WB ins up F S) (hr : tb ins r = true) (ho : tb ins o = true) (K : ∀ v, Dist up m r o v → Q (.inl (some (.int v))) S) : Wp (d + 1) b 99 0 [.ref 5, .int (Int32.ofNat r), .int (Int32.ofNat o)] [] S Q := by
  obtain ⟨u1, u2, u3, u4, u5, u6, u7, u8, u9, u10⟩ := id hU
  have i20 : Low 20 ins := low_le u3 u1
  have r20 := i20 r hr
  have o20 := i20 o ho
  have only : ∀ z, tb (bit r) z = true → z = r := fun z hz => by
    rw [tb_bit (by omega)] at hz
    simpa using hz
  have balls : ∀ n, sb (ball up m r n) ins := by
    intro n
    induction n with
    | zero => intro z hz; rw [only z hz]; exact hr
    | succ n ih =>
      intro z hz
      rcases (tb_wid m z).1 hz with w | ⟨a, _, _, w⟩
      · exact ih z w
      · exact u6 a z w
  have grow : ∀ n, sb (ball up m r n) (ball up m r (n + 1)) := fun n z hz => (tb_wid m z).2 (Or.inl hz)
  have loop : ∀ k n (E : Int32), n + k = 20 → (∀ z, tb E z = true ↔ (tb (ball up m r n) z = true ∧ (n = 0 ∨ tb (ball up m r (n - 1)) z = false))) → (∀ j, j < n → tb (ball up m r j) o = false) → Wp (d + 1) b 99 10 [.ref 5, .int (Int32.ofNat r), .int (Int32.ofNat o), .int (ball up m r n), .int E, .int (Int32.ofNat n)] [] S Q := by
    intro k
    induction k with
    | zero =>
      intro n E hn hE hno
      exact b99_10 (fun _ => b99_94 (K _ (Or.inr ⟨rfl, fun k hk => hno k (by omega)⟩))) (fun q => absurd ((i_le (a := 20) (by omega) (by omega)).2 (by omega)) q)
    | succ k ih =>
      intro n E hn hE hno
      have eo : tb E o = tb (ball up m r n) o := by
        rw [Bool.eq_iff_iff, hE]
        constructor
        · exact fun q => q.1
        · intro q
          refine ⟨q, ?_⟩
          by_cases e : n = 0
          · exact Or.inl e
          · exact Or.inr (hno (n - 1) (by omega))
      refine b99_10 (fun q => ?_) (fun _ => b99_17 (fun q => b99_94 (K _ (Or.inr ⟨rfl, ?_⟩))) (fun q => b99_22 (s146 _ (by omega)) ?_))
      · have := (i_le (a := 20) (by omega) (by omega)).1 q
        omega
      · -- nothing new: it stays so
        subst q
        have stop : ∀ j, ball up m r (n + j) = ball up m r n ∧ tb (ball up m r n) o = false := by
          have hb : n ≠ 0 := fun e => by
            have := (hE r).2 ⟨by rw [e]; show tb (bit r) r = true; rw [tb_bit (by omega)]; simp, Or.inl e⟩
            rw [tb_zero] at this; cases this
          have same : sb (ball up m r n) (ball up m r (n - 1)) := fun z hz => bpos (fun e => by
            have := (hE z).2 ⟨hz, Or.inr e⟩
            rw [tb_zero] at this; cases this)
          have eq : ball up m r n = ball up m r (n - 1) := by
            refine sb_anti same ?_
            have := grow (n - 1)
            rw [show n - 1 + 1 = n by omega] at this
            exact this
          intro j
          refine ⟨?_, by rw [← eo, tb_zero]⟩
          induction j with
          | zero => rfl
          | succ j ihj =>
            show widN up (ball up m r (n + j)) m = _
            rw [ihj]
            have : ball up m r n = widN up (ball up m r (n - 1)) m := by
              conv => lhs; rw [show n = n - 1 + 1 by omega]
              rfl
            rw [← eq] at this
            exact this.symm
        intro k hk
        by_cases e : k < n
        · exact hno k e
        · have := stop (k - n)
          rw [show n + (k - n) = k by omega] at this
          rw [this.1]; exact this.2
      · rintro _ _ ⟨rfl, rfl⟩
        rw [eo]
        refine b99_28 (fun q2 => b99_34 ?_) (fun q2 => b99_31 (K _ (Or.inl ⟨n, by omega, rfl, bi1.1 q2, hno⟩)))
        have inner : ∀ j i X, i + j = 20 → (∀ z, tb X z = true ↔ ∃ a, a < i ∧ tb E a = true ∧ tb (up a) z = true) → Wp (d + 1) b 99 40 [.ref 5, .int (Int32.ofNat r), .int (Int32.ofNat o), .int (ball up m r n), .int E, .int (Int32.ofNat n), .int X, .int (Int32.ofNat i)] [] S Q := by
          intro j
          induction j with
          | zero =>
            intro i X hi hX
            refine b99_40 (fun _ => b99_75 ?_) (fun w => absurd ((i_le (a := 20) (by omega) (by omega)).2 (by omega)) w)
            rw [i_suc]
            have eb : ball up m r n ||| (X &&& (ball up m r n ^^^ -1)) = ball up m r (n + 1) := by
              refine sb_anti (sb_or (grow n) (fun z hz => ?_)) (fun z hz => ?_)
              · obtain ⟨a, _, a2, a3⟩ := (hX z).1 (dif_t.1 hz).1
                have ab := ((hE a).1 a2).1
                exact (tb_wid m z).2 (Or.inr ⟨a, u3 a (balls n a ab), ab, a3⟩)
              · cases ez : tb (ball up m r n) z
                · refine or_t.2 (Or.inr (dif_t.2 ⟨(hX z).2 ?_, ez⟩))
                  rcases (tb_wid m z).1 hz with w | ⟨a, a1, a2, a3⟩
                  · rw [ez] at w; cases w
                  · refine ⟨a, by have := i20 a (balls n a a2); omega, (hE a).2 ⟨a2, ?_⟩, a3⟩
                    by_cases e : n = 0
                    · exact Or.inl e
                    · refine Or.inr (bneg (fun w => ?_))
                      have : tb (ball up m r (n - 1 + 1)) z = true := (tb_wid m z).2 (Or.inr ⟨a, a1, w, a3⟩)
                      rw [show n - 1 + 1 = n by omega, ez] at this
                      cases this
                · exact or_t.2 (Or.inl ez)
            rw [eb]
            refine ih (n + 1) (X &&& (ball up m r n ^^^ -1)) (by omega) (fun z => ?_) (fun j hj => ?_)
            · rw [← eb, or_t, dif_t]
              constructor
              · rintro ⟨w1, w2⟩
                exact ⟨Or.inr ⟨w1, w2⟩, Or.inr w2⟩
              · rintro ⟨w1, w2⟩
                rcases w2 with w2 | w2
                · omega
                · have w2 : tb (ball up m r n) z = false := w2
                  rcases w1 with w1 | w1
                  · rw [w2] at w1; cases w1
                  · exact w1
            · by_cases e : j = n
              · subst e; exact bi0.1 q2
              · exact hno j (by omega)
          | succ j ihj =>
            intro i X hi hX
            refine b99_40 (fun w => ?_) (fun _ => b99_47 (s146 _ (by omega)) ?_)
            · have := (i_le (a := 20) (by omega) (by omega)).1 w
              omega
            · rintro _ _ ⟨rfl, rfl⟩
              refine b99_54 (fun w => b99_69 ?_) (fun w => b99_57 (i_vp (by omega) (by omega)) (b99_69 ?_))
              · rw [i_suc]
                refine ihj (i + 1) X (by omega) (fun z => ?_)
                rw [hX]
                constructor
                · rintro ⟨a, a1, a2⟩; exact ⟨a, by omega, a2⟩
                · rintro ⟨a, a1, a2, a3⟩
                  by_cases e : a = i
                  · subst e; rw [bi0.1 w] at a2; cases a2
                  · exact ⟨a, by omega, a2, a3⟩
              · rw [i_suc, i_cl (by omega), hW.2.2.1 i (by omega)]
                refine ihj (i + 1) _ (by omega) (fun z => ?_)
                rw [or_t, hX]
                constructor
                · rintro (⟨a, a1, a2⟩ | a)
                  · exact ⟨a, by omega, a2⟩
                  · exact ⟨i, by omega, bi1.1 w, a⟩
                · rintro ⟨a, a1, a2, a3⟩
                  by_cases e : a = i
                  · subst e; exact Or.inr a3
                  · exact Or.inl ⟨a, by omega, a2, a3⟩
        exact inner 20 0 0 (by omega) (fun z => ⟨(fun q => by rw [tb_zero] at q; cases q), fun ⟨a, a1, _⟩ => absurd a1 (by omega)⟩)
  exact b99_0 (loop 20 0 (bit r) (by omega) (fun z => ⟨fun q => ⟨q, Or.inl rfl⟩, fun q => q.1⟩) (fun j hj => absurd hj (by omega)))
end PARTS
