/-! SYMMETRIES: the class's numbers, codes, slots -/
section TURN1
variable {b D m : Nat} {ins : Int32} {nu : Nat → Nat → Int}
theorem ti_mul {x y : Int32} (h1 : -2147483648 ≤ x.toInt * y.toInt) (h2 : x.toInt * y.toInt < 2147483648) : (x * y).toInt = x.toInt * y.toInt := by
  rw [Int32.toInt_mul, Int.bmod_eq_of_le (by omega) (by omega)]
theorem ti_add {x y : Int32} (h1 : -2147483648 ≤ x.toInt + y.toInt) (h2 : x.toInt + y.toInt < 2147483648) : (x + y).toInt = x.toInt + y.toInt := by
  rw [Int32.toInt_add, Int.bmod_eq_of_le (by omega) (by omega)]
theorem ti_sub {x y : Int32} (h1 : -2147483648 ≤ x.toInt - y.toInt) (h2 : x.toInt - y.toInt < 2147483648) : (x - y).toInt = x.toInt - y.toInt := by
  rw [Int32.toInt_sub, Int.bmod_eq_of_le (by omega) (by omega)]
theorem ti_neg {x : Int32} (h1 : -2147483648 < x.toInt) (h2 : x.toInt < 2147483648) : (-x).toInt = - x.toInt := by
  rw [Int32.toInt_neg, Int.bmod_eq_of_le (by omega) (by omega)]
theorem ti_ext {x y : Int32} (h : x.toInt = y.toInt) : x = y := Int32.toInt.inj h
theorem ti_abs {x : Int32} (h : -2147483648 < x.toInt) : (if 0 ≤ x then x else 0 - x) = Int32.ofNat x.toInt.natAbs := by
  have hlt : x.toInt < 2147483648 := Int32.toInt_lt x
  have z : ((0 : Int32)).toInt = 0 := by decide
  apply ti_ext
  rw [i_toInt (by omega)]
  by_cases q : 0 ≤ x
  · rw [if_pos q]
    have := Int32.le_iff_toInt_le.1 q
    omega
  · rw [if_neg q]
    have := mt Int32.le_iff_toInt_le.2 q
    rw [ti_sub (by omega) (by omega)]
    omega
theorem ti_div {x : Int32} {g : Nat} (hg : 0 < g) (hg2 : g < 2147483648) (hd : (g : Int) ∣ x.toInt) : (x / Int32.ofNat g).toInt = x.toInt / (g : Int) := by
  rw [Int32.toInt_div_of_ne_right, i_toInt hg2, Int.tdiv_eq_ediv_of_dvd hd]
  intro q
  have := congrArg Int32.toInt q
  rw [i_toInt hg2] at this
  have e : (-1 : Int32).toInt = -1 := by decide
  omega
/-- what is told, as the class keeps it -/
def Tld (D m : Nat) (nu : Nat → Nat → Int) (S : St) : Prop := S.1 2 0 = Int32.ofNat D ∧ S.1 2 1 = Int32.ofNat m ∧ (∀ r k, r < m → k < 4 → (S.2.1 15 (4 * r + k)).toInt = nu r k) ∧ (∀ r, r < m → S.2.1 16 r = Int32.ofNat (gc (nu r))) ∧ ∀ r, r < m → S.2.1 17 r = Int32.ofNat (codeN (rd (nu r)))
theorem Tld.of {fs : List (Nat × Nat)} {as : List Nat} {S S1 : St} (h : Tld D m nu S) (hF : Fz fs as S S1) (n : (2, 0) ∉ fs ∧ (2, 1) ∉ fs ∧ 15 ∉ as ∧ 16 ∉ as ∧ 17 ∉ as) : Tld D m nu S1 := by
  obtain ⟨h1, h2, h3, h4, h5⟩ := h
  obtain ⟨n1, n2, n3, n4, n5⟩ := n
  exact ⟨(hF.f n1).trans h1, (hF.f n2).trans h2, fun r k hr hk => by rw [hF.a n3]; exact h3 r k hr hk, fun r hr => (hF.a n4 r).trans (h4 r hr), fun r hr => (hF.a n5 r).trans (h5 r hr)⟩
theorem gc_le {a : Nat → Int} (h : B9 a) (hn : Nz a) : gc a ≤ 9 := by
  obtain ⟨k, hk, hne⟩ := hn
  have h1 := Int.natAbs_pos.2 hne
  have := Nat.le_of_dvd h1 (dvd_gc.1 (Nat.dvd_refl _) k hk)
  have := h k hk
  omega
theorem c85 {d r : Nat} {S : St} {Q : Out → St → Prop} (hm : m ≤ 20) (hR : RWd D m nu) (hT : Tld D m nu S) (hr : r < m) (K : ∀ S1, Fz [] [40] S S1 → (∀ k, k < 4 → (S1.2.1 40 (4 * r + k)).toInt = rd (nu r) k) → (∀ i, (i < 4 * r ∨ 4 * r + 4 ≤ i) → S1.2.1 40 i = S.2.1 40 i) → Q (.inl none) S1) : Wp (d + 2) b 85 0 [.ref 10, .int (Int32.ofNat r)] [] S Q := by
  obtain ⟨r1, r2, _⟩ := hR.1 r hr
  have gp := gc_pos r2
  have g9 := gc_le r1 r2
  refine b85_0 (s147b (by omega)) ?_
  rintro _ _ ⟨rfl, rfl⟩
  rw [if_pos (by omega), hT.2.2.2.1 r hr]
  refine b85_12 ?_
  have eg : (if (1 : Int32) < Int32.ofNat (gc (nu r)) then Int32.ofNat (gc (nu r)) else 1) = Int32.ofNat (gc (nu r)) := by
    by_cases q : (1 : Int32) < Int32.ofNat (gc (nu r))
    · rw [if_pos q]
    · rw [if_neg q]
      have := mt (i_lt (a := 1) (by omega) (by omega)).2 q
      rw [show gc (nu r) = 1 by omega]; rfl
  rw [eg]
  have loop : ∀ n k S', k + n = 4 → Fz [] [40] S S' → (∀ j, j < k → (S'.2.1 40 (4 * r + j)).toInt = rd (nu r) j) → (∀ i, (i < 4 * r ∨ 4 * r + 4 ≤ i) → S'.2.1 40 i = S.2.1 40 i) → Wp (d + 2) b 85 18 [.ref 10, .int (Int32.ofNat r), .int (Int32.ofNat (gc (nu r))), .int (Int32.ofNat k)] [] S' Q := by
    intro n
    induction n with
    | zero =>
      intro k S' hk hF h1 h2
      exact b85_18 (fun _ => b85_69 (K S' hF (fun j hj => h1 j (by omega)) h2)) (fun q => absurd ((i_le (a := 4) (by omega) (by omega)).2 (by omega)) q)
    | succ n ih =>
      intro k S' hk hF h1 h2
      have e : Int32.ofNat r * 4 + Int32.ofNat k = Int32.ofNat (4 * r + k) := by
        rw [show (4 : Int32) = Int32.ofNat 4 from rfl, i_mul, i_add, Nat.mul_comm]
      refine b85_18 (fun q => ?_) (fun _ => b85_23 (fun q => ?_) (fun _ => ?_))
      · have := (i_le (a := 4) (by omega) (by omega)).1 q
        omega
      · rw [e] at q
        exact absurd q (i_nneg (by omega))
      rw [e]
      refine b85_35 (fun q => ?_) (fun _ => b85_45 (s72a (by omega) (by omega)) ?_)
      · have := (i_le (a := 80) (by omega) (by omega)).1 q
        omega
      rintro _ _ ⟨rfl, rfl⟩
      refine b85_60 (fun q => ?_) (i_vp (by omega) (by omega)) (b85_63 ?_)
      · have := (i_inj (b := 0) (by omega) (by omega)).1 q
        omega
      rw [i_cl (by omega), i_suc]
      have hv : (S'.2.1 15 (4 * r + k)).toInt = nu r k := by rw [hF.a (by decide)]; exact hT.2.2.1 r k hr (by omega)
      have hdv : (S'.2.1 15 (4 * r + k) / Int32.ofNat (gc (nu r))).toInt = rd (nu r) k := by
        rw [ti_div gp (by omega) (by rw [hv]; exact gc_dvd _ (by omega)), hv]; rfl
      refine ih (k + 1) _ (by omega) (hF.seta (by decide)) (fun j hj => ?_) (fun i hi => (seta_ne (by omega)).trans (h2 i hi))
      by_cases q : j = k
      · rw [q, seta_same]; exact hdv
      · rw [seta_ne (by omega)]; exact h1 j (by omega)
  exact loop 4 0 S (by omega) Fz.refl (fun j hj => by omega) (fun _ _ => rfl)
theorem i_63 {c : Nat} (hc : c < 2147483648) : Int32.ofNat c &&& 63 = Int32.ofNat (c % 64) := by
  apply tn_inj
  rw [tn_and, tn_of (by omega), tn_of (by omega), show tn 63 = 2 ^ 6 - 1 from rfl, Nat.and_two_pow_sub_one_eq_mod]
/-- a slot looked for -/
def sl (S : St) (c i : Nat) : Int32 := S.2.1 41 ((c + i) % 64)
theorem c86 {d c : Nat} {S : St} {Q : Out → St → Prop} (hc : c < 1000000) (K1 : ∀ j, j < 64 → (∀ i, i < j → ¬ sl S c i = 0 ∧ ¬ sl S c i = Int32.ofNat c) → (sl S c j = 0 ∨ sl S c j = Int32.ofNat c) → Q (.inl (some (.int (Int32.ofNat ((c + j) % 64))))) S) (K2 : (∀ i, i < 64 → ¬ sl S c i = 0 ∧ ¬ sl S c i = Int32.ofNat c) → Q (.inl (some (.int (Int32.ofNat ((c + 64) % 64))))) S) : Wp d b 86 0 [.ref 10, .int (Int32.ofNat c)] [] S Q := by
  have loop : ∀ n j, j + n = 64 → (∀ i, i < j → ¬ sl S c i = 0 ∧ ¬ sl S c i = Int32.ofNat c) → Wp d b 86 7 [.ref 10, .int (Int32.ofNat c), .int (Int32.ofNat ((c + j) % 64)), .int (Int32.ofNat j)] [] S Q := by
    intro n
    induction n with
    | zero =>
      intro j hj hno
      have hj : j = 64 := hj
      subst hj
      exact b86_7 (fun _ => b86_45 (K2 hno)) (fun q => absurd ((i_le (a := 64) (by omega) (by omega)).2 (by omega)) q)
    | succ n ih =>
      intro j hj hno
      have hlt : (c + j) % 64 < 64 := Nat.mod_lt _ (by omega)
      have e1 : S.2.1 41 (Int32.ofNat ((c + j) % 64)).toNatClampNeg = sl S c j := by rw [i_cl (by omega)]; rfl
      refine b86_7 (fun q => ?_) (fun _ => b86_13 (i_vp hlt (by omega)) (fun h0 => b86_45 (K1 j (by omega) hno (Or.inl (by rw [← e1]; exact h0)))) (fun hn => b86_22 (i_vp hlt (by omega)) (fun hc => b86_45 (K1 j (by omega) hno (Or.inr (by rw [← e1]; exact hc)))) (fun hnc => b86_32 ?_)))
      · have := (i_le (a := 64) (by omega) (by omega)).1 q
        omega
      · rw [i_suc, i_suc, i_63 (by omega), show ((c + j) % 64 + 1) % 64 = (c + (j + 1)) % 64 by omega]
        rw [e1] at hn hnc
        refine ih (j + 1) (by omega) (fun i hi => ?_)
        by_cases q : i = j
        · rw [q]; exact ⟨hn, hnc⟩
        · exact hno i (by omega)
  refine b86_0 ?_
  rw [i_63 (by omega)]
  exact loop 64 0 (by omega) (fun i hi => by omega)
/-- the slots hold the codes of the rays in T -/
def SLo (m : Nat) (nu : Nat → Nat → Int) (T : Nat → Bool) (S : St) : Prop := (∀ p, p < 64 → S.2.1 41 p = 0 ∨ ∃ r, r < m ∧ T r = true ∧ S.2.1 41 p = Int32.ofNat (codeN (rd (nu r))) ∧ S.2.1 42 p = bit r) ∧ ∀ r, r < m → T r = true → ∃ j, j < 64 ∧ sl S (codeN (rd (nu r))) j = Int32.ofNat (codeN (rd (nu r))) ∧ ∀ i, i < j → ¬ sl S (codeN (rd (nu r))) i = 0
theorem rd_code {r : Nat} (hR : RWd D m nu) (hr : r < m) : 0 < codeN (rd (nu r)) ∧ codeN (rd (nu r)) ≤ 65160 := by
  obtain ⟨r1, r2, _⟩ := hR.1 r hr
  exact ⟨code_pos (rd_b9 r1) (rd_nz r2), code_le (rd_b9 r1)⟩
theorem code_inj {r o : Nat} (hR : RWd D m nu) (hr : r < m) (ho : o < m) (h : codeN (rd (nu r)) = codeN (rd (nu o))) : r = o := by
  obtain ⟨r1, r2, _⟩ := hR.1 r hr
  obtain ⟨o1, o2, _⟩ := hR.1 o ho
  exact hR.2 r o hr ho ((par_code r2 o2 r1 o1).2 h)
theorem c84 {d : Nat} {S : St} {Q : Out → St → Prop} (hm : m ≤ 20) (hins : Low m ins) (hR : RWd D m nu) (hT : Tld D m nu S) (h51 : S.1 5 1 = ins) (K : ∀ S1, Fz [] [37, 38, 40, 41, 42] S S1 → (∀ r, r < 20 → S1.2.1 37 r = 0 ∧ S1.2.1 38 r = 0) → (∀ r k, r < m → tb ins r = true → k < 4 → (S1.2.1 40 (4 * r + k)).toInt = rd (nu r) k) → SLo m nu (tb ins) S1 → Q (.inl none) S1) : Wp (d + 3) b 84 0 [.ref 10] [] S Q := by
  refine b84_0 ?_
  have two : ∀ n r S', r + n = 20 → Fz [] [37, 38, 40, 41, 42] S S' → (∀ o, o < r → S'.2.1 37 o = 0 ∧ S'.2.1 38 o = 0) → (∀ o k, o < m → tb ins o = true → o < r → k < 4 → (S'.2.1 40 (4 * o + k)).toInt = rd (nu o) k) → SLo m nu (fun o => tb ins o && decide (o < r)) S' → cnt (fun p => !decide (S'.2.1 41 p = 0)) 64 ≤ r → Wp (d + 3) b 84 23 [.ref 10, .int (Int32.ofNat r)] [] S' Q := by
    intro n
    induction n with
    | zero =>
      intro r S' hr hF h1 h2 h3 _
      have hr : r = 20 := hr
      subst hr
      refine b84_23 (fun _ => b84_116 (K S' hF h1 (fun o k ho hi hk => h2 o k ho hi (by omega) hk) ?_)) (fun q => absurd ((i_le (a := 20) (by omega) (by omega)).2 (by omega)) q)
      refine ⟨fun p hp => ?_, fun o ho hi => h3.2 o ho ?_⟩
      · rcases h3.1 p hp with h | ⟨o, o1, o2, o3⟩
        · exact Or.inl h
        · exact Or.inr ⟨o, o1, (Bool.and_eq_true _ _ ▸ o2 : _ ∧ _).1, o3⟩
      · show (tb ins o && decide (o < 20)) = true
        rw [hi, decide_eq_true (by omega : o < 20)]; rfl
    | succ n ih =>
      intro r S' hr hF h1 h2 h3 hcn
      have r20 : r < 20 := by omega
      have vp := i_vp (k := r) (n := 20) r20 (by omega)
      let S2 := setA (setA S' 37 r 0) 38 r 0
      have F2 : Fz [] [37, 38] S' S2 := (Fz.refl.seta (by decide)).seta (by decide)
      have hF2 : Fz [] [37, 38, 40, 41, 42] S S2 := hF.trans (F2.mono (by decide) (by decide))
      have h12 : ∀ o, o < r + 1 → S2.2.1 37 o = 0 ∧ S2.2.1 38 o = 0 := by
        intro o ho
        by_cases q : o = r
        · subst q
          exact ⟨(seta_ne (by omega)).trans seta_same, seta_same⟩
        · exact ⟨((seta_ne (by omega)).trans (seta_ne (by omega))).trans (h1 o (by omega)).1, ((seta_ne (by omega)).trans (seta_ne (by omega))).trans (h1 o (by omega)).2⟩
      refine b84_23 (fun q => ?_) (fun _ => b84_29 (P := Vx (bi (tb ins r)) S2) vp vp ?_ ?_)
      · have := (i_le (a := 20) (by omega) (by omega)).1 q
        omega
      · rw [i_cl (by omega)]
        have e : S2.1 5 1 = ins := (hF2.f (by simp)).trans h51
        show Wp (d + 2) 0 146 0 [.int (S2.1 5 1), .int (Int32.ofNat r)] [] S2 (Ri (Vx (bi (tb ins r)) S2))
        rw [e]
        exact s146 ins (by omega)
      rintro _ _ ⟨rfl, rfl⟩
      have next : ∀ S3, Fz [] [40, 41, 42] S2 S3 → (∀ o k, o < m → tb ins o = true → o < r + 1 → k < 4 → (S3.2.1 40 (4 * o + k)).toInt = rd (nu o) k) → SLo m nu (fun o => tb ins o && decide (o < r + 1)) S3 → cnt (fun p => !decide (S3.2.1 41 p = 0)) 64 ≤ r + 1 → Wp (d + 3) b 84 110 [.ref 10, .int (Int32.ofNat r)] [] S3 Q := by
        intro S3 f3 g1 g2 g3
        refine b84_110 ?_
        rw [i_suc]
        exact ih (r + 1) S3 (by omega) (hF2.trans (f3.mono (by simp) (by simp))) (fun o ho => ⟨(f3.a (by decide) o).trans (h12 o ho).1, (f3.a (by decide) o).trans (h12 o ho).2⟩) g1 g2 g3
      have e41 : ∀ p, S2.2.1 41 p = S'.2.1 41 p := fun p => F2.a (by decide) p
      have e42 : ∀ p, S2.2.1 42 p = S'.2.1 42 p := fun p => F2.a (by decide) p
      have e40 : ∀ p, S2.2.1 40 p = S'.2.1 40 p := fun p => F2.a (by decide) p
      refine b84_54 (fun h0 => next S2 Fz.refl (fun o k ho hi hor hk => ?_) ⟨fun p hp => ?_, fun o ho hi => ?_⟩ ?_) (fun h1' => ?_)
      · have : ¬ o = r := fun e => by rw [e, bi0.1 h0] at hi; cases hi
        rw [e40]; exact h2 o k ho hi (by omega) hk
      · rw [e41, e42]
        rcases h3.1 p hp with h | ⟨o, o1, o2, o3⟩
        · exact Or.inl h
        · refine Or.inr ⟨o, o1, ?_, o3⟩
          have o2 := (Bool.and_eq_true _ _ ▸ o2 : _ ∧ _)
          have := of_decide_eq_true o2.2
          show (tb ins o && decide (o < r + 1)) = true
          rw [o2.1, decide_eq_true (by omega : o < r + 1)]; rfl
      · have hi := (Bool.and_eq_true _ _ ▸ hi : _ ∧ _)
        have hor := of_decide_eq_true hi.2
        have : ¬ o = r := fun e => by
          have := hi.1
          rw [e, bi0.1 h0] at this; cases this
        obtain ⟨j, j1, j2, j3⟩ := h3.2 o ho (by
          show (tb ins o && decide (o < r)) = true
          rw [hi.1, decide_eq_true (by omega : o < r)]; rfl)
        unfold sl at j2 j3 ⊢
        exact ⟨j, j1, by rw [e41]; exact j2, fun i hi => by rw [e41]; exact j3 i hi⟩
      · have : cnt (fun p => !decide (S2.2.1 41 p = 0)) 64 = cnt (fun p => !decide (S'.2.1 41 p = 0)) 64 := cnt_congr (fun p _ => by rw [e41])
        omega
      · have hin := bi1.1 h1'
        have hrm := hins r hin
        have hT2 : Tld D m nu S2 := hT.of hF2 (by decide)
        have rc := rd_code hR hrm
        refine b84_57 (P := fun S3 => Fz [] [40] S2 S3 ∧ (∀ k, k < 4 → (S3.2.1 40 (4 * r + k)).toInt = rd (nu r) k) ∧ (∀ i, (i < 4 * r ∨ 4 * r + 4 ≤ i) → S3.2.1 40 i = S2.2.1 40 i)) (c85 hm hR hT2 hrm (fun S3 g1 g2 g3 => ⟨rfl, g1, g2, g3⟩)) ?_
        rintro S3 ⟨g1, g2, g3⟩
        have hT3 : Tld D m nu S3 := hT2.of g1 (by decide)
        have f41 : ∀ p, S3.2.1 41 p = S'.2.1 41 p := fun p => (g1.a (by decide) p).trans (e41 p)
        have f42 : ∀ p, S3.2.1 42 p = S'.2.1 42 p := fun p => (g1.a (by decide) p).trans (e42 p)
        have code17 : S3.2.1 17 (Int32.ofNat r).toNatClampNeg = Int32.ofNat (codeN (rd (nu r))) := by rw [i_cl (by omega)]; exact hT3.2.2.2.2 r hrm
        generalize hcode : codeN (rd (nu r)) = c at *
        refine b84_62 (P := fun x S4 => S3 = S4 ∧ ∃ j, j < 64 ∧ x = Int32.ofNat ((c + j) % 64) ∧ (∀ i, i < j → ¬ sl S3 c i = 0 ∧ ¬ sl S3 c i = Int32.ofNat c) ∧ sl S3 c j = 0) vp ?_ ?_
        · rw [code17]
          refine c86 (by omega) (fun j j1 j2 j3 => ⟨_, rfl, rfl, j, j1, rfl, j2, ?_⟩) (fun hall => ?_)
          · rcases j3 with j3 | j3
            · exact j3
            · -- no other ray has this code
              exfalso
              unfold sl at j3
              rw [f41] at j3
              rcases h3.1 _ (Nat.mod_lt _ (by omega)) with q | ⟨o, o1, o2, o3, _⟩
              · rw [q] at j3
                have := (i_inj (a := 0) (by omega) (by omega)).1 j3
                omega
              · rw [o3] at j3
                have oc := rd_code hR o1
                have := (i_inj (by omega) (by omega)).1 j3
                have := code_inj hR o1 hrm (this.trans hcode.symm)
                have o2 := of_decide_eq_true (Bool.and_eq_true _ _ ▸ o2 : _ ∧ _).2
                omega
          · exfalso
            have full : ∀ p, p < 64 → (fun p => !decide (S'.2.1 41 p = 0)) p = true := by
              intro p hp
              have := (hall ((p + 64 - c % 64) % 64) (Nat.mod_lt _ (by omega))).1
              unfold sl at this
              rw [f41, show (c + (p + 64 - c % 64) % 64) % 64 = p by omega] at this
              show (!decide (S'.2.1 41 p = 0)) = true
              rw [decide_eq_false this]; rfl
            have : ∀ n, n ≤ 64 → cnt (fun p => !decide (S'.2.1 41 p = 0)) n = n := by
              intro n
              induction n with
              | zero => intro _; rfl
              | succ n ihn =>
                intro hn
                have e := ihn (by omega)
                unfold cnt
                rw [e]
                exact congrArg (fun z => n + z) (if_pos (full n (by omega)))
            have := this 64 (Nat.le_refl _)
            omega
        rintro _ _ ⟨rfl, j, j1, rfl, j2, j3⟩
        have hlt : (c + j) % 64 < 64 := Nat.mod_lt _ (by omega)
        have vs := i_vp (k := (c + j) % 64) (n := 64) hlt (by omega)
        refine b84_75 (fun q => absurd q (i_nneg (by omega))) (fun _ => b84_80 (fun q => ?_) (fun _ => b84_86 vp vs vs ?_))
        · have := (i_le (a := 64) (by omega) (by omega)).1 q
          omega
        rw [code17, i_cl (by omega)]
        generalize hp0 : (c + j) % 64 = p0 at *
        have ebit : ((1 : Int32) <<< (Int32.ofNat r &&& 31)) = bit r := rfl
        rw [ebit]
        have n41 : ∀ p, (setA (setA S3 41 p0 (Int32.ofNat c)) 42 p0 (bit r)).2.1 41 p = if p = p0 then Int32.ofNat c else S'.2.1 41 p := by
          intro p
          rw [seta_ne (by omega)]
          by_cases q : p = p0
          · rw [if_pos q, q, seta_same]
          · rw [if_neg q, seta_ne (by omega), f41]
        have n42 : ∀ p, (setA (setA S3 41 p0 (Int32.ofNat c)) 42 p0 (bit r)).2.1 42 p = if p = p0 then bit r else S'.2.1 42 p := by
          intro p
          by_cases q : p = p0
          · rw [if_pos q, q, seta_same]
          · rw [if_neg q, seta_ne (by omega), seta_ne (by omega), f42]
        have was0 : S'.2.1 41 p0 = 0 := by rw [← f41, ← hp0]; exact j3
        refine next _ (((g1.mono (fs' := []) (as' := [40, 41, 42]) (by decide) (by decide)).seta (by decide)).seta (by decide)) (fun o k ho hi hor hk => ?_) ⟨fun p hp => ?_, fun o ho hi => ?_⟩ ?_
        · rw [seta_ne (by omega), seta_ne (by omega)]
          by_cases q : o = r
          · rw [q]; exact g2 k hk
          · rw [g3 _ (by omega), e40]
            exact h2 o k ho hi (by omega) hk
        · rw [n41, n42]
          by_cases q : p = p0
          · rw [if_pos q, if_pos q]
            refine Or.inr ⟨r, hrm, ?_, by rw [hcode], rfl⟩
            show (tb ins r && decide (r < r + 1)) = true
            rw [hin, decide_eq_true (by omega : r < r + 1)]; rfl
          · rw [if_neg q, if_neg q]
            rcases h3.1 p hp with h | ⟨o, o1, o2, o3⟩
            · exact Or.inl h
            · refine Or.inr ⟨o, o1, ?_, o3⟩
              have o2 := (Bool.and_eq_true _ _ ▸ o2 : _ ∧ _)
              have := of_decide_eq_true o2.2
              show (tb ins o && decide (o < r + 1)) = true
              rw [o2.1, decide_eq_true (by omega : o < r + 1)]; rfl
        · have hi := (Bool.and_eq_true _ _ ▸ hi : _ ∧ _)
          have hor := of_decide_eq_true hi.2
          unfold sl
          by_cases q : o = r
          · rw [q, hcode]
            refine ⟨j, j1, by rw [n41, hp0, if_pos rfl], fun i hi => ?_⟩
            rw [n41]
            by_cases z : (c + i) % 64 = p0
            · rw [if_pos z]
              intro e
              have := (i_inj (b := 0) (by omega) (by omega)).1 e
              omega
            · rw [if_neg z, ← f41]
              exact (j2 i hi).1
          · obtain ⟨k, k1, k2, k3⟩ := h3.2 o ho (by
              show (tb ins o && decide (o < r)) = true
              rw [hi.1, decide_eq_true (by omega : o < r)]; rfl)
            unfold sl at k2 k3
            have oc := rd_code hR ho
            refine ⟨k, k1, ?_, fun i hi => ?_⟩
            · rw [n41, if_neg ?_]
              · exact k2
              · intro z
                rw [z, was0] at k2
                have := (i_inj (a := 0) (by omega) (by omega)).1 k2
                omega
            · rw [n41, if_neg ?_]
              · exact k3 i hi
              · intro z
                have := k3 i hi
                rw [z] at this
                exact this was0
        · have : cnt (fun p => !decide ((setA (setA S3 41 p0 (Int32.ofNat c)) 42 p0 (bit r)).2.1 41 p = 0)) 64 = cnt (fun p => !decide (S'.2.1 41 p = 0)) 64 + 1 := by
            refine cnt_flip hlt ?_ ?_ (fun p hp hne => ?_)
            · show (!decide _) = true
              rw [n41, if_pos rfl, decide_eq_false]
              · rfl
              · intro e
                have := (i_inj (b := 0) (by omega) (by omega)).1 e
                omega
            · show (!decide _) = false
              rw [was0]; rfl
            · show (!decide _) = (!decide _)
              rw [n41, if_neg hne]
          omega
  have one : ∀ n p S', p + n = 64 → Fz [] [37, 38, 40, 41, 42] S S' → (∀ i, i < p → S'.2.1 41 i = 0) → Wp (d + 3) b 84 2 [.ref 10, .int (Int32.ofNat p)] [] S' Q := by
    intro n
    induction n with
    | zero =>
      intro p S' hp hF hz
      have hp : p = 64 := hp
      subst hp
      refine b84_2 (fun _ => b84_21 (two 20 0 S' (by omega) hF (fun o ho => by omega) (fun o k _ _ ho => by omega) ⟨fun p hp => Or.inl (hz p hp), fun o ho hi => ?_⟩ ?_)) (fun q => absurd ((i_le (a := 64) (by omega) (by omega)).2 (by omega)) q)
      · have := of_decide_eq_true (Bool.and_eq_true _ _ ▸ hi : _ ∧ _).2
        omega
      · rw [cnt_zero (fun p hp => by rw [hz p hp]; rfl)]
        exact Nat.le_refl _
    | succ n ih =>
      intro p S' hp hF hz
      refine b84_2 (fun q => ?_) (fun _ => b84_8 (i_vp (by omega) (by omega)) ?_)
      · have := (i_le (a := 64) (by omega) (by omega)).1 q
        omega
      · rw [i_cl (by omega), i_suc]
        refine ih (p + 1) _ (by omega) (hF.seta (by decide)) (fun i hi => ?_)
        by_cases q : i = p
        · rw [q, seta_same]
        · exact (seta_ne (by omega)).trans (hz i (by omega))
  exact one 64 0 S (by omega) Fz.refl (fun i hi => by omega)
end TURN1
