/-! THE DRAFT: the class -/
section DRAFT
variable {b D r : Nat} {nu : Nat → Nat → Int}
/-- the numbers of the draft -/
def DNu (r : Nat) (nu : Nat → Nat → Int) (S : St) : Prop := ∀ o k, o < r → k < 4 → (S.2.1 19 (4 * o + k)).toInt = nu o k
def DRw (r : Nat) (nu : Nat → Nat → Int) (S : St) : Prop := (∀ o, o < r → S.2.1 20 o = Int32.ofNat (gc (nu o)) ∧ S.2.1 21 o = Int32.ofNat (codeN (rd (nu o)))) ∧ ∀ o, o < r → ∀ k, tb (S.2.1 22 o) k = true ↔ (k < r ∧ ¬ o = k ∧ dt (nu o) (nu k) = 0)
theorem c77b {d m : Nat} {S : St} {c : Int32} {Q : Out → St → Prop} (h1 : S.1 3 1 = Int32.ofNat m) (hm : m ≤ 20) (K1 : ∀ t, t < m → S.2.1 21 t = c → Q (.inl (some (.int (Int32.ofNat t)))) S) (K2 : (∀ t, t < m → ¬ S.2.1 21 t = c) → Q (.inl (some (.int (-1)))) S) : Wp d b 77 0 [.ref 3, .int c] [] S Q := by
  refine b77b_0 ?_
  have loop : ∀ n i, i + n = m → (∀ t, t < i → ¬ S.2.1 21 t = c) → Wp d b 77 2 [.ref 3, .int c, .int (Int32.ofNat i)] [] S Q := by
    intro n
    induction n with
    | zero =>
      intro i hi h
      have hi : i = m := hi
      subst hi
      exact b77b_2 (fun _ => b77b_37 (K2 h)) (fun q => absurd (by rw [h1]; exact (i_le (by omega) (by omega)).2 (Nat.le_refl _)) q)
    | succ n ih =>
      intro i hi h
      refine b77b_2 (fun q => ?_) (fun _ => b77b_10 (fun q => ?_) (fun _ => b77b_19 (i_vp (by omega) (by omega)) (fun q => b77b_31 ?_) (fun q => b77b_29 (K1 i (by omega) ?_))))
      · rw [h1] at q
        have := (i_le (by omega) (by omega)).1 q
        omega
      · have := (i_le (a := 20) (by omega) (by omega)).1 q
        omega
      · rw [i_cl (by omega)] at q
        rw [i_suc]
        refine ih (i + 1) (by omega) (fun t ht => ?_)
        by_cases e : t = i
        · rw [e]; exact q
        · exact h t (by omega)
      · rw [i_cl (by omega)] at q
        exact Classical.byContradiction q
  exact loop m 0 (by omega) (fun t ht => absurd ht (Nat.not_lt_zero _))
theorem c73 {d k : Nat} {v : Int32} {S : St} {Q : Out → St → Prop} (h1 : S.1 3 1 = Int32.ofNat r) (hr : r < 20) (hk : k < 4) (K : Q (.inl none) (setA S 19 (4 * r + k) v)) : Wp d b 73 0 [.ref 3, .int (Int32.ofNat k), .int v] [] S Q := by
  have e : S.1 3 1 * 4 + Int32.ofNat k = Int32.ofNat (4 * r + k) := by rw [h1, show (4 : Int32) = Int32.ofNat 4 from rfl, i_mul, i_add, Nat.mul_comm]
  refine b73_0 (fun q => absurd q (i_nneg (by omega))) (fun _ => ?_)
  rw [e]
  refine b73_13 (fun q => ?_) (fun _ => b73_18 (fun q => absurd q (i_nneg (by omega))) (fun _ => b73_22 (fun q => ?_) (fun _ => b73_31 (i_vp (by omega) (by omega)) (b73_38 ?_))))
  · have := (i_le (a := 4) (by omega) (by omega)).1 q
    omega
  · have := (i_le (a := 80) (by omega) (by omega)).1 q
    omega
  · rw [i_cl (by omega)]
    exact K
theorem rwd4 {m : Nat} (hD : D = 3 ∨ D = 4) (h : RWd D m nu) : RWd 4 m nu := ⟨fun r hr => ⟨(h.1 r hr).1, (h.1 r hr).2.1, fun k hk => (h.1 r hr).2.2 k (by omega)⟩, h.2⟩
/-- the product of two of the draft, the later of which may be none yet -/
theorem ti_dot4 {num : Nat → Int32} {o : Nat} (hn : ∀ k, k < 4 → (num (4 * r + k)).toInt = nu r k ∧ (num (4 * o + k)).toInt = nu o k) (h1 : B9 (nu r)) (h2 : B9 (nu o)) : (dotN num r o 4).toInt = dt (nu r) (nu o) := by
  have step : ∀ k (x : Int32), k < 4 → -1000000 ≤ x.toInt → x.toInt ≤ 1000000 → (x + num (4 * r + k) * num (4 * o + k)).toInt = x.toInt + nu r k * nu o k := by
    intro k x hk hx1 hx2
    obtain ⟨e1, e2⟩ := hn k hk
    have mm := mul_9 (h1 k (by omega)) (h2 k (by omega))
    have t1 : (num (4 * r + k) * num (4 * o + k)).toInt = nu r k * nu o k := by
      rw [ti_mul (by rw [e1, e2]; omega) (by rw [e1, e2]; omega), e1, e2]
    rw [ti_add (by rw [t1]; omega) (by rw [t1]; omega), t1]
  have b0 := mul_9 (h1 0 (by omega)) (h2 0 (by omega))
  have b1 := mul_9 (h1 1 (by omega)) (h2 1 (by omega))
  have b2 := mul_9 (h1 2 (by omega)) (h2 2 (by omega))
  have z : ((0 : Int32)).toInt = 0 := by decide
  have s0 : (dotN num r o 1).toInt = nu r 0 * nu o 0 := by
    show ((0 : Int32) + _ * _).toInt = _
    rw [step 0 0 (by omega) (by rw [z]; omega) (by rw [z]; omega), z, Int.zero_add]
  have s1 : (dotN num r o 2).toInt = nu r 0 * nu o 0 + nu r 1 * nu o 1 := by
    show (dotN num r o 1 + _ * _).toInt = _
    rw [step 1 _ (by omega) (by rw [s0]; omega) (by rw [s0]; omega), s0]
  have s2 : (dotN num r o 3).toInt = nu r 0 * nu o 0 + nu r 1 * nu o 1 + nu r 2 * nu o 2 := by
    show (dotN num r o 2 + _ * _).toInt = _
    rw [step 2 _ (by omega) (by rw [s1]; omega) (by rw [s1]; omega), s1]
  show (dotN num r o 3 + _ * _).toInt = _
  rw [step 3 _ (by omega) (by rw [s2]; omega) (by rw [s2]; omega), s2]
  rfl
theorem c75 {d : Nat} {S : St} {Q : Out → St → Prop} (hr : r < 20) (h9 : ∀ o, o ≤ r → B9 (nu o)) (hN : DNu (r + 1) nu S) (K : ∀ S1, Fz [] [22] S S1 → (∀ o, o < r → S1.2.1 22 o = if dt (nu r) (nu o) = 0 then S.2.1 22 o ||| bit r else S.2.1 22 o) → S1.2.1 22 r = mk (fun o => decide (dt (nu r) (nu o) = 0)) r → Q (.inl none) S1) : Wp (d + 3) b 75 0 [.ref 3, .int (Int32.ofNat r)] [] S Q := by
  refine b75_0 ?_
  have loop : ∀ j o S', o + j = r → Fz [] [22] S S' → (∀ o', o' < o → S'.2.1 22 o' = if dt (nu r) (nu o') = 0 then S.2.1 22 o' ||| bit r else S.2.1 22 o') → (∀ o', o ≤ o' → S'.2.1 22 o' = S.2.1 22 o') → Wp (d + 3) b 75 4 [.ref 3, .int (Int32.ofNat r), .int (mk (fun o => decide (dt (nu r) (nu o) = 0)) o), .int (Int32.ofNat o)] [] S' Q := by
    intro j
    induction j with
    | zero =>
      intro o S' ho hF h1 h2
      have ho : o = r := ho
      subst ho
      refine b75_4 (fun _ => b75_51 (fun q => absurd q (i_nneg (by omega))) (fun _ => b75_55 (fun q => ?_) (fun _ => b75_64 (i_vp (by omega) (by omega)) (b75_71 ?_)))) (fun q => absurd ((i_le (by omega) (by omega)).2 (Nat.le_refl _)) q)
      · have := (i_le (a := 20) (by omega) (by omega)).1 q
        omega
      · rw [i_cl (by omega)]
        refine K _ (hF.seta (by decide)) (fun o' ho' => ?_) seta_same
        rw [seta_ne (by omega)]
        exact h1 o' ho'
    | succ j ih =>
      intro o S' ho hF h1 h2
      have hN' : DNu (r + 1) nu S' := fun o k ho hk => by rw [hF.a (by decide)]; exact hN o k ho hk
      have hd := ti_dot4 (num := S'.2.1 19) (r := r) (o := o) (nu := nu) (fun k hk => ⟨hN' r k (by omega) hk, hN' o k (by omega) hk⟩) (h9 r (Nat.le_refl _)) (h9 o (by omega))
      refine b75_4 (fun q => ?_) (fun _ => b75_9 (fun q => ?_) (fun _ => b75_18 (s78b (by omega) (by omega)) ?_))
      · have := (i_le (by omega) (by omega)).1 q
        omega
      · have := (i_le (a := 20) (by omega) (by omega)).1 q
        omega
      rintro _ _ ⟨rfl, rfl⟩
      have mks : ∀ p : Nat → Bool, mk p (o + 1) = if p o = true then mk p o ||| bit o else mk p o := fun p => tb_ext (fun k hk => by
        rw [tb_mk _ (by omega)]
        by_cases hp : p o = true
        · rw [if_pos hp, tb_or, tb_mk _ (by omega), tb_bit (by omega)]
          by_cases e : k = o
          · rw [e, decide_eq_true (by omega : o < o + 1), decide_eq_true rfl, hp, Bool.or_true]; rfl
          · rw [decide_eq_false e, Bool.or_false]
            congr 1
            exact decide_eq_decide.2 (by omega)
        · rw [if_neg hp, tb_mk _ (by omega)]
          by_cases e : k = o
          · rw [e, Bool.eq_false_iff.2 hp, Bool.and_false, Bool.and_false]
          · congr 1
            exact decide_eq_decide.2 (by omega))
      refine b75_24 (fun q => b75_45 ?_) (fun q => b75_27 (i_vp (by omega) (by omega)) (i_vp (by omega) (by omega)) (b75_45 ?_))
      · have q : ¬ dt (nu r) (nu o) = 0 := fun z => q (ti_0.2 (hd.trans z))
        have := mks (fun o => decide (dt (nu r) (nu o) = 0))
        rw [if_neg (by rw [decide_eq_false q]; decide)] at this
        rw [i_suc, ← this]
        refine ih (o + 1) S' (by omega) hF (fun o' ho' => ?_) (fun o' ho' => h2 o' (by omega))
        by_cases e : o' = o
        · rw [e, if_neg q]; exact h2 o (Nat.le_refl _)
        · exact h1 o' (by omega)
      · have q : dt (nu r) (nu o) = 0 := by rw [← hd]; exact ti_0.1 (Classical.byContradiction q)
        have := mks (fun o => decide (dt (nu r) (nu o) = 0))
        rw [if_pos (decide_eq_true q)] at this
        rw [i_suc, i_cl (by omega)]
        have e2 : mk (fun o => decide (dt (nu r) (nu o) = 0)) o ||| ((1 : Int32) <<< (Int32.ofNat o &&& 31)) = mk (fun o => decide (dt (nu r) (nu o) = 0)) (o + 1) := this.symm
        rw [e2]
        refine ih (o + 1) _ (by omega) (hF.seta (by decide)) (fun o' ho' => ?_) (fun o' ho' => ?_)
        · by_cases e : o' = o
          · rw [e, seta_same, if_pos q, h2 o (Nat.le_refl _)]; rfl
          · rw [seta_ne (by omega)]
            exact h1 o' (by omega)
        · rw [seta_ne (by omega)]
          exact h2 o' (by omega)
  exact loop r 0 S (by omega) Fz.refl (fun o' ho' => absurd ho' (Nat.not_lt_zero _)) (fun _ _ => rfl)
def gk (a : Nat → Int) : Nat → Nat
  | 0 => 0
  | k + 1 => Nat.gcd (gk a k) (a k).natAbs
theorem gk_gc (a : Nat → Int) : gk a 4 = gc a := by
  unfold gc
  show Nat.gcd (Nat.gcd (Nat.gcd (Nat.gcd 0 _) _) _) _ = _
  rw [Nat.gcd_zero_left]
theorem gk_le {a : Nat → Int} (h : B9 a) : ∀ k, k ≤ 4 → gk a k ≤ 9 := by
  intro k
  induction k with
  | zero => intro _; exact Nat.zero_le _
  | succ k ih =>
    intro hk
    have h9 := h k (by omega)
    have ih := ih (by omega)
    show Nat.gcd (gk a k) (a k).natAbs ≤ 9
    by_cases e : (a k).natAbs = 0
    · rw [e, Nat.gcd_zero_right]; exact ih
    · exact Nat.le_trans (Nat.gcd_le_right _ (by omega)) (by omega)
theorem c74 {d : Nat} {S : St} {Q : Out → St → Prop} (hD : D = 3 ∨ D = 4) (hr : r < 20) (h1 : S.1 3 1 = Int32.ofNat r) (h9 : B9 (nu r)) (hR : RWd D r nu) (hN : DNu (r + 1) nu S) (hW : DRw r nu S) (K1 : noR nu r = true → Q (.inl (some (.int 0))) S) (K0 : noR nu r = false → ∀ S1, Fz [(3, 1)] [20, 21, 22] S S1 → S1.1 3 1 = Int32.ofNat (r + 1) → DRw (r + 1) nu S1 → Q (.inl (some (.int 1))) S1) : Wp (d + 4) b 74 0 [.ref 3] [] S Q := by
  have hg := gk_gc (nu r)
  have gle := gk_le h9
  have gcl : gc (nu r) ≤ 9 := by rw [← hg]; exact gle 4 (by omega)
  refine b74_0 (fun q => absurd q (by rw [h1]; exact i_nneg (by omega))) (fun _ => ?_)
  rw [h1]
  refine b74_9 (fun _ => b74_17 ?_) (fun q => absurd ((i_lt (b := 20) (by omega) (by omega)).2 hr) q)
  -- the second half
  have half : ∀ x3, Wp (d + 4) b 74 43 [.ref 3, .int (Int32.ofNat r), .int (Int32.ofNat (gc (nu r))), .int x3] [] S Q := by
    intro x3
    refine b74_43 (fun q => b74_49 ?_) (fun q => b74_47 (Or.inl rfl) (K1 ?_))
    rotate_left
    · have q := (i_inj (b := 0) (by omega) (by omega)).1 (Classical.byContradiction q)
      exact noR_iff.2 (Or.inl (fun ⟨k, hk, hz⟩ => hz (gc_zero q hk)))
    have g0 : 0 < gc (nu r) := Nat.pos_of_ne_zero (fun z => q (by rw [z]; rfl))
    have nz : Nz (nu r) := Classical.byContradiction (fun z => by
      have : gc (nu r) = 0 := by
        have zz : ∀ k, k < 4 → nu r k = 0 := fun k hk => Classical.byContradiction (fun w => z ⟨k, hk, w⟩)
        unfold gc
        rw [zz 0 (by omega), zz 1 (by omega), zz 2 (by omega), zz 3 (by omega)]
        rfl
      omega)
    have r9 := rd_b9 h9
    have dv := fun k hk => gc_dvd (nu r) (k := k) hk
    have cl := code_le r9
    have last : ∀ x3 x4 : Int32, x3.toInt = lin (rd (nu r)) → Wp (d + 4) b 74 84 [.ref 3, .int (Int32.ofNat r), .int (Int32.ofNat (gc (nu r))), .int x3, .int x4] [] S Q := by
      intro x3 x4 h3
      have l1 : -2147483648 < x3.toInt := by
        rw [h3]
        unfold codeN at cl
        omega
      refine b74_84 (P := fun v S1 => S = S1 ∧ (v = -1 ↔ ¬ ∃ o, o < r ∧ Par (nu r) (nu o))) ?_ ?_
      · rw [ti_abs l1, h3]
        refine c77b h1 (by omega) (fun t ht h => ⟨_, rfl, rfl, ?_⟩) (fun h => ⟨_, rfl, rfl, ?_⟩)
        · rw [(hW.1 t ht).2] at h
          have hc := (rd_code hR ht).2
          have e := (i_inj (by omega) (by unfold codeN at cl; omega)).1 h
          have p := (par_code nz (hR.1 t ht).2.1 h9 (hR.1 t ht).1).2 e.symm
          constructor
          · intro e
            have := congrArg Int32.toInt e
            rw [i_toInt (by omega)] at this
            have e : (-1 : Int32).toInt = -1 := by decide
            omega
          · intro e
            exact absurd ⟨t, ht, p⟩ e
        · refine ⟨fun _ => fun ⟨o, ho, hp⟩ => h o ho ?_, fun _ => rfl⟩
          rw [(hW.1 o ho).2, ← (par_code nz (hR.1 o ho).2.1 h9 (hR.1 o ho).1).1 hp]
          rfl
      · rintro v _ ⟨rfl, hv⟩
        rw [ti_abs l1, h3]
        refine b74_94 (fun q => ?_) (fun q => b74_98 (Or.inl rfl) (K1 (noR_iff.2 (Or.inr (Classical.byContradiction (fun z => q (hv.2 z)))))))
        have hno : noR nu r = false := Bool.eq_false_iff.2 (fun z => by
          rcases noR_iff.1 z with w | w
          · exact w nz
          · exact hv.1 q w)
        have K0 := K0 hno
        have rv := i_vp (k := r) (n := 20) hr (by omega)
        refine b74_100 rv rv (P := fun S1 => Fz [] [20, 21, 22] S S1 ∧ S1.2.1 20 r = Int32.ofNat (gc (nu r)) ∧ S1.2.1 21 r = Int32.ofNat (codeN (rd (nu r))) ∧ (∀ o, o < r → S1.2.1 20 o = S.2.1 20 o ∧ S1.2.1 21 o = S.2.1 21 o) ∧ (∀ o, o < r → S1.2.1 22 o = if dt (nu r) (nu o) = 0 then S.2.1 22 o ||| bit r else S.2.1 22 o) ∧ S1.2.1 22 r = mk (fun o => decide (dt (nu r) (nu o) = 0)) r) ?_ ?_
        · rw [i_cl (by omega)]
          have f1 : Fz [] [20, 21, 22] S (setA (setA S 20 r (Int32.ofNat (gc (nu r)))) 21 r (Int32.ofNat (lin (rd (nu r))).natAbs)) := (Fz.refl.seta (by decide)).seta (by decide)
          refine c75 hr (fun o ho => ?_) (fun o k ho hk => hN o k ho hk) (fun S1 a1 a2 a3 => ⟨rfl, f1.trans (a1.mono (by decide) (by decide)), ?_, ?_, fun o ho => ⟨?_, ?_⟩, fun o ho => ?_, a3⟩)
          · by_cases e : o = r
            · rw [e]; exact h9
            · exact (hR.1 o (by omega)).1
          · rw [a1.a (by decide), seta_ne (by omega), seta_same]
          · rw [a1.a (by decide), seta_same]; rfl
          · rw [a1.a (by decide), seta_ne (by omega), seta_ne (by omega)]
          · rw [a1.a (by decide), seta_ne (by omega), seta_ne (by omega)]
          · rw [a2 o ho, seta_ne (by omega), seta_ne (by omega)]
        · rintro S1 ⟨a1, a2, a3, a4, a5, a6⟩
          refine b74_119 (Or.inr rfl) (K0 _ ((a1.mono (by decide) (by decide)).seti (by decide)) ?_ ⟨fun o ho => ?_, fun o ho k => ?_⟩)
          · rw [seti_same, a1.f (by decide), h1, i_suc]
          · by_cases e : o = r
            · rw [e]; exact ⟨a2, a3⟩
            · obtain ⟨w1, w2⟩ := a4 o (by omega)
              obtain ⟨w3, w4⟩ := hW.1 o (by omega)
              exact ⟨w1.trans w3, w2.trans w4⟩
          · show tb (S1.2.1 22 o) k = true ↔ _
            by_cases e : o = r
            · rw [e, a6, tb_mk _ (by omega), Bool.and_eq_true, decide_eq_true_eq, decide_eq_true_eq]
              constructor
              · rintro ⟨w1, w2⟩
                exact ⟨by omega, by omega, w2⟩
              · rintro ⟨w1, w2, w3⟩
                exact ⟨by omega, w3⟩
            · have hor : o < r := by omega
              have old := hW.2 o hor k
              rw [a5 o hor]
              by_cases z : dt (nu r) (nu o) = 0
              · rw [if_pos z, or_t, tb_bit (by omega), decide_eq_true_eq, old]
                constructor
                · rintro (⟨w1, w2, w3⟩ | w)
                  · exact ⟨by omega, w2, w3⟩
                  · rw [w]
                    exact ⟨by omega, e, by rw [dt_comm]; exact z⟩
                · rintro ⟨w1, w2, w3⟩
                  by_cases ek : k = r
                  · exact Or.inr ek
                  · exact Or.inl ⟨by omega, w2, w3⟩
              · rw [if_neg z, old]
                constructor
                · rintro ⟨w1, w2, w3⟩
                  exact ⟨by omega, w2, w3⟩
                · rintro ⟨w1, w2, w3⟩
                  refine ⟨?_, w2, w3⟩
                  by_cases ek : k = r
                  · rw [ek, dt_comm] at w3
                    exact absurd w3 z
                  · omega
    have p0 : (pw32 0).toInt = 6859 := by decide
    have p1 : (pw32 1).toInt = 361 := by decide
    have p2 : (pw32 2).toInt = 19 := by decide
    have p3 : (pw32 3).toInt = 1 := by decide
    have loop : ∀ j k (x3 : Int32), k + j = 4 → x3.toInt = (if 0 < k then 6859 * rd (nu r) 0 else 0) + (if 1 < k then 361 * rd (nu r) 1 else 0) + (if 2 < k then 19 * rd (nu r) 2 else 0) + (if 3 < k then rd (nu r) 3 else 0) → Wp (d + 4) b 74 54 [.ref 3, .int (Int32.ofNat r), .int (Int32.ofNat (gc (nu r))), .int x3, .int (Int32.ofNat k)] [] S Q := by
      intro j
      induction j with
      | zero =>
        intro k x3 hk h3
        have hk : k = 4 := hk
        subst hk
        refine b74_54 (fun _ => last x3 _ ?_) (fun q => absurd ((i_le (a := 4) (by omega) (by omega)).2 (by omega)) q)
        rw [h3]
        simp
        rfl
      | succ j ih =>
        intro k x3 hk h3
        refine b74_54 (fun q => ?_) (fun _ => b74_60 (s72b (by omega) (by omega)) ?_)
        · have := (i_le (a := 4) (by omega) (by omega)).1 q
          omega
        rintro _ _ ⟨rfl, rfl⟩
        refine b74_68 q (s76 (by omega)) ?_
        rintro _ _ ⟨rfl, rfl⟩
        refine b74_75 ?_
        rw [i_suc]
        have hq : (S.2.1 19 (4 * r + k) / Int32.ofNat (gc (nu r))).toInt = rd (nu r) k := by
          rw [ti_div g0 (by omega) (by rw [hN r k (by omega) (by omega)]; exact dv k (by omega)), hN r k (by omega) (by omega)]
          rfl
        have bb := r9 k (by omega)
        have b0 := r9 0 (by omega)
        have b1 := r9 1 (by omega)
        have b2 := r9 2 (by omega)
        refine ih (k + 1) _ (by omega) ?_
        have ek : k = 0 ∨ k = 1 ∨ k = 2 ∨ k = 3 := by omega
        rcases ek with rfl | rfl | rfl | rfl
        · have mu : (S.2.1 19 (4 * r + 0) / Int32.ofNat (gc (nu r)) * pw32 0).toInt = rd (nu r) 0 * 6859 := by
            rw [ti_mul (by rw [hq, p0]; omega) (by rw [hq, p0]; omega), hq, p0]
          simp at h3
          rw [ti_add (by rw [h3, mu]; omega) (by rw [h3, mu]; omega), h3, mu]
          simp
          omega
        · have mu : (S.2.1 19 (4 * r + 1) / Int32.ofNat (gc (nu r)) * pw32 1).toInt = rd (nu r) 1 * 361 := by
            rw [ti_mul (by rw [hq, p1]; omega) (by rw [hq, p1]; omega), hq, p1]
          simp at h3
          rw [ti_add (by rw [h3, mu]; omega) (by rw [h3, mu]; omega), h3, mu]
          simp
          omega
        · have mu : (S.2.1 19 (4 * r + 2) / Int32.ofNat (gc (nu r)) * pw32 2).toInt = rd (nu r) 2 * 19 := by
            rw [ti_mul (by rw [hq, p2]; omega) (by rw [hq, p2]; omega), hq, p2]
          simp at h3
          rw [ti_add (by rw [h3, mu]; omega) (by rw [h3, mu]; omega), h3, mu]
          simp
          omega
        · have mu : (S.2.1 19 (4 * r + 3) / Int32.ofNat (gc (nu r)) * pw32 3).toInt = rd (nu r) 3 * 1 := by
            rw [ti_mul (by rw [hq, p3]; omega) (by rw [hq, p3]; omega), hq, p3]
          simp at h3
          rw [ti_add (by rw [h3, mu]; omega) (by rw [h3, mu]; omega), h3, mu]
          simp
    exact loop 4 0 0 (by omega) rfl
  have loop1 : ∀ j k, k + j = 4 → Wp (d + 4) b 74 21 [.ref 3, .int (Int32.ofNat r), .int (Int32.ofNat (gk (nu r) k)), .int (Int32.ofNat k)] [] S Q := by
    intro j
    induction j with
    | zero =>
      intro k hk
      have hk : k = 4 := hk
      subst hk
      rw [hg]
      exact b74_21 (fun _ => half _) (fun q => absurd ((i_le (a := 4) (by omega) (by omega)).2 (by omega)) q)
    | succ j ih =>
      intro k hk
      refine b74_21 (fun q => ?_) (fun _ => b74_26 (s72b (by omega) (by omega)) ?_)
      · have := (i_le (a := 4) (by omega) (by omega)).1 q
        omega
      rintro _ _ ⟨rfl, rfl⟩
      have e := hN r k (by omega) (by omega)
      have bb := h9 k (by omega)
      have gl := gle k (by omega)
      refine b74_33 (P := Vx (Int32.ofNat (gk (nu r) (k + 1))) S) ?_ ?_
      · have := c150 (d := d + 3) (b := 0) (S := S) (x := Int32.ofNat (gk (nu r) k)) (y := S.2.1 19 (4 * r + k)) (by rw [i_toInt (by omega)]; omega) (by rw [e]; omega)
        rw [i_toInt (by omega), e, Int.natAbs_natCast] at this
        exact this
      rintro _ _ ⟨rfl, rfl⟩
      refine b74_36 ?_
      rw [i_suc]
      exact ih (k + 1) (by omega)
  exact loop1 4 0 (by omega)
end DRAFT
