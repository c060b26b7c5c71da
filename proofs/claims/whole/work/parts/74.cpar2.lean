/-! PARITIES: the class, the least one -/
section CPAR2
variable {b D : Nat} {R : List Int32}
theorem pk_next {t : Int32} {k : Nat} : ∀ (n f : Nat), (∀ j, f ≤ j → j < f + n → ¬ Pk (R.drop (j + 1)) k (t ^^^ R.getD j 0)) → Pk (R.drop f) (k + 1) t → Pk (R.drop (f + n)) (k + 1) t := by
  intro n
  induction n with
  | zero => intro f _ h; exact h
  | succ n ih =>
    intro f hn h
    rw [show f + (n + 1) = f + 1 + n by omega]
    refine ih (f + 1) (fun j h1 h2 => hn j (by omega) (by omega)) ?_
    by_cases hf : f < R.length
    · rw [drop_eq hf] at h
      rcases h with h | ⟨j, e, h⟩
      · exact h
      · rw [show j = k by omega] at h
        exact absurd h (hn f (Nat.le_refl _) (by omega))
    · rw [List.drop_eq_nil_of_le (by omega)] at h ⊢
      exact h
/-- what is asked of the rows -/
def RK (D : Nat) (R : List Int32) : Prop := ∀ g, g ∈ R → Low 21 g ∧ tb g 0 = true ∧ cnt (fun j => tb g (j + 1)) 31 ≤ D
theorem one21 : Low 21 1 := low_bit (r := 0) (by omega) (by omega)
theorem c26 (hR : RK D R) (hD : D ≤ 4) : ∀ (k dd f h : Nat) (sum : Int32) (S : St) (Q : Out → St → Prop), k + 2 ≤ dd → PB R S → S.1 2 0 = Int32.ofNat D → h + k ≤ R.length → f ≤ R.length → Low 21 sum → (∀ l S1, Fz [] [36] S S1 → (∀ j, j < h → S1.2.1 36 j = S.2.1 36 j) → LX R f k (sum ^^^ 1) l → (∀ j, j < k → S1.2.1 36 (h + j) = Int32.ofNat (l.getD j 0)) → Q (.inl (some (.int 1))) S1) → (∀ S1, Fz [] [36] S S1 → (∀ j, j < h → S1.2.1 36 j = S.2.1 36 j) → ¬ Pk (R.drop f) k (sum ^^^ 1) → Q (.inl (some (.int 0))) S1) → Wp dd 0 26 0 [.ref 9, .int (Int32.ofNat f), .int (Int32.ofNat h), .int sum, .int (Int32.ofNat (h + k))] [] S Q := by
  intro k
  induction k with
  | zero =>
    intro dd f h sum S Q hdd hP hS hk hf hs K1 K0
    have e0 : Int32.ofNat (h + 0) - Int32.ofNat h = 0 := by rw [Nat.add_zero, Int32.sub_self]
    refine b26_0 (fun q => absurd e0 q) (fun _ => b26_11 (fun q => b26_20 (b26_21 (Or.inl rfl) (K0 S Fz.refl (fun _ _ => rfl) (fun z => q ?_)))) (fun q => b26_16 (b26_21 (Or.inr rfl) (K1 [] S Fz.refl (fun _ _ => rfl) ⟨?_, rfl⟩ (fun j hj => by omega)))))
    · have := congrArg (fun x => x ^^^ (1 : Int32)) (pk_0 z)
      simp only [x_xx] at this
      rw [this]; rfl
    · have q : sum = 1 := Classical.byContradiction q
      rw [q]; rfl
  | succ k ih =>
    intro dd f h sum S Q hdd hP hS hk hf hs K1 K0
    obtain ⟨e, rfl⟩ : ∃ e, dd = e + 1 := ⟨dd - 1, by omega⟩
    obtain ⟨e', rfl⟩ : ∃ e', e = e' + 1 := ⟨e - 1, by omega⟩
    have r40 := hP.2.1
    have p4 := hP.1
    have en : Int32.ofNat (h + (k + 1)) - Int32.ofNat h = Int32.ofNat (k + 1) := by
      rw [i_sub (by omega)]; congr 1; omega
    have hne : ¬ Int32.ofNat (h + (k + 1)) - Int32.ofNat h = 0 := by
      rw [en]; intro z
      have := (i_inj (b := 0) (by omega) (by omega)).1 z
      omega
    refine b26_0 (fun _ => ?_) (fun q => absurd hne q)
    rw [en]
    have t31 : tb sum 31 = false := bneg (fun c => by have := hs 31 c; omega)
    refine b26_22 (s0 _) ?_
    rintro _ _ ⟨rfl, rfl⟩
    rw [pcn_shr1 t31]
    have eD : Int32.ofNat (k + 1) * S.1 2 0 = Int32.ofNat ((k + 1) * D) := by rw [hS, i_mul]
    have kD : (k + 1) * D ≤ 40 * 4 := Nat.mul_le_mul (by omega) hD
    have c31 := cnt_le (fun j => tb sum (j + 1)) 31
    have last : ∀ (x x1 x2 x3 x4 x5 x6 : Int32) S', Fz [] [36] S S' → (∀ j, j < h → S'.2.1 36 j = S.2.1 36 j) → ¬ Pk (R.drop f) (k + 1) (sum ^^^ 1) → Q (.inl (some (.int 0))) S' := fun _ _ _ _ _ _ _ S' a c z => K0 S' a c z
    refine b26_28 (fun q => b26_50 (Or.inl rfl) (K0 S Fz.refl (fun _ _ => rfl) (fun z => ?_))) (fun _ => b26_44 (fun _ => b26_52 ?_) (fun q => ?_))
    · rw [eD] at q
      have q := (i_lt (by omega) (by omega)).1 q
      have z := pk_pcn (fun g hg => (hR g (List.mem_of_mem_drop hg)).2.2) z
      rw [cnt_congr (q := fun j => tb sum (j + 1)) (fun j _ => by
        show tb (sum ^^^ 1) (j + 1) = tb sum (j + 1)
        rw [tb_xor, tb_one, show decide (j + 1 = 0) = false by simp, Bool.xor_false])] at z
      omega
    rotate_left
    · exact absurd ((i_lt (b := 45) (by omega) (by omega)).2 (by omega)) q
    have loop : ∀ n i S', i + n = R.length → f ≤ i → Fz [] [36] S S' → (∀ j, j < h → S'.2.1 36 j = S.2.1 36 j) → (∀ j, f ≤ j → j < i → ¬ Pk (R.drop (j + 1)) k (sum ^^^ 1 ^^^ R.getD j 0)) → Wp (e' + 1 + 1) 0 26 55 [.ref 9, .int (Int32.ofNat f), .int (Int32.ofNat h), .int sum, .int (Int32.ofNat (h + (k + 1))), .int (Int32.ofNat (k + 1)), .int (Int32.ofNat i)] [] S' Q := by
      intro n
      induction n with
      | zero =>
        intro i S' hi hfi hF hb hno
        refine b26_55 (fun _ => b26_135 (Or.inl rfl) (K0 S' hF hb (fun z => ?_))) (fun q => absurd ?_ q)
        · have := pk_next (i - f) f (fun j h1 h2 => hno j h1 (by omega)) z
          rw [show f + (i - f) = i by omega] at this
          have := pk_len this
          rw [List.length_drop] at this
          omega
        · rw [hF.f (by decide), p4, i_add]
          exact (i_lt (by omega) (by omega)).2 (by omega)
      | succ n ihn =>
        intro i S' hi hfi hF hb hno
        have hP' := hP.of hF (by decide) (by decide) (by decide)
        refine b26_55 (fun q => b26_135 (Or.inl rfl) (K0 S' hF hb (fun z => ?_))) (fun q => b26_67 (fun q2 => ?_) (fun _ => b26_74 (fun q2 => ?_) (fun _ => b26_80 (P := fun x S1 => S' = S1 ∧ ((x = 1 ∧ Sl (R.drop i) (sum ^^^ 1)) ∨ (x = 0 ∧ ¬ Sl (R.drop i) (sum ^^^ 1)))) (c24 (by omega) (low_xor hs one21) (hP'.2.2.2 i (by omega)) (fun z => ⟨_, rfl, rfl, Or.inl ⟨rfl, z⟩⟩) (fun z => ⟨_, rfl, rfl, Or.inr ⟨rfl, z⟩⟩)) ?_)))
        · rw [hF.f (by decide), p4, i_add] at q
          have q := (i_lt (by omega) (by omega)).1 q
          have := pk_next (i - f) f (fun j h1 h2 => hno j h1 (by omega)) z
          rw [show f + (i - f) = i by omega] at this
          have := pk_len this
          rw [List.length_drop] at this
          omega
        · have := (i_le (a := 40) (by omega) (by omega)).1 q2
          omega
        · have := (i_le (a := 40) (by omega) (by omega)).1 q2
          omega
        rintro x _ ⟨rfl, ⟨rfl, hsl⟩ | ⟨rfl, hsl⟩⟩
        · refine b26_89 (fun _ => ?_) (fun q => absurd (by decide) q)
          refine b26_94 (P := fun x S1 => Fz [] [36] (setA S' 36 h (Int32.ofNat i)) S1 ∧ (∀ j, j < h + 1 → S1.2.1 36 j = (setA S' 36 h (Int32.ofNat i)).2.1 36 j) ∧ ((x = 1 ∧ ∃ l, LX R (i + 1) k (sum ^^^ 1 ^^^ R.getD i 0) l ∧ ∀ j, j < k → S1.2.1 36 (h + 1 + j) = Int32.ofNat (l.getD j 0)) ∨ (x = 0 ∧ ¬ Pk (R.drop (i + 1)) k (sum ^^^ 1 ^^^ R.getD i 0)))) (i_vp (by omega) (by omega)) (i_vp (by omega) (by omega)) ?_ ?_
          · rw [i_cl (by omega), i_cl (by omega), i_suc, i_suc, seta_ne (by omega), hP'.2.2.1 i (by omega), show h + (k + 1) = h + 1 + k by omega]
            have hP2 : PB R (setA S' 36 h (Int32.ofNat i)) := hP'.of (Fz.refl.seta (fs := []) (as := [36]) (by decide)) (by decide) (by decide) (by decide)
            have ex : sum ^^^ R.getD i 0 ^^^ 1 = sum ^^^ 1 ^^^ R.getD i 0 := x_ac _ _ _
            refine ih (e' + 1) (i + 1) (h + 1) (sum ^^^ R.getD i 0) _ _ (by omega) hP2 ((hF.f (by decide)).trans hS) (by omega) (by omega) (low_xor hs (hR _ (getD_mem (by omega))).1) (fun l S1 g1 g2 g3 g4 => ⟨_, rfl, g1, g2, Or.inl ⟨rfl, l, ?_, g4⟩⟩) (fun S1 g1 g2 g3 => ⟨_, rfl, g1, g2, Or.inr ⟨rfl, ?_⟩⟩)
            · rw [← ex]; exact g3
            · rw [← ex]; exact g3
          · rintro x S1 ⟨g1, g2, hx⟩
            have hF1 : Fz [] [36] S S1 := (hF.seta (by decide)).trans g1
            have hb1 : ∀ j, j < h → S1.2.1 36 j = S.2.1 36 j := fun j hj => (g2 j (by omega)).trans ((seta_ne (by omega)).trans (hb j hj))
            rcases hx with ⟨rfl, l, g3, g4⟩ | ⟨rfl, g3⟩
            · refine b26_124 (fun q => absurd q (by decide)) (fun _ => b26_127 (Or.inr rfl) (K1 (i :: l) S1 hF1 hb1 ⟨i, l, rfl, hfi, by omega, hno, g3⟩ (fun j hj => ?_)))
              cases j with
              | zero => rw [Nat.add_zero, g2 h (by omega), seta_same]; rfl
              | succ j => rw [show h + (j + 1) = h + 1 + j by omega, g4 j (by omega)]; rfl
            · refine b26_124 (fun _ => b26_129 ?_) (fun q => absurd rfl q)
              rw [i_suc]
              refine ihn (i + 1) S1 (by omega) (by omega) hF1 hb1 (fun j h1 h2 => ?_)
              by_cases ej : j = i
              · rw [ej]; exact g3
              · exact hno j h1 (by omega)
        · refine b26_89 (fun q => absurd rfl q) (fun _ => b26_92 (Or.inl rfl) (K0 S' hF hb (fun z => hsl ?_)))
          have := pk_next (i - f) f (fun j h1 h2 => hno j h1 (by omega)) z
          rw [show f + (i - f) = i by omega] at this
          exact sl_pk.2 ⟨_, this⟩
    exact loop (R.length - f) f S (by omega) (Nat.le_refl _) Fz.refl (fun _ _ => rfl) (fun j h1 h2 => by omega)
theorem pk_par : ∀ {G : List Int32} {k : Nat} {s : Int32}, (∀ g, g ∈ G → tb g 0 = true) → Pk G k s → tb s 0 = decide (k % 2 = 1) := by
  intro G
  induction G with
  | nil => intro k s _ h; rw [h.1, h.2]; rfl
  | cons g G ih =>
    intro k s hG h
    rcases h with h | ⟨j, e, h⟩
    · exact ih (fun x hx => hG x (List.mem_cons_of_mem _ hx)) h
    · have := ih (fun x hx => hG x (List.mem_cons_of_mem _ hx)) h
      rw [tb_xor, hG g List.mem_cons_self] at this
      rw [e]
      by_cases q : j % 2 = 1
      · rw [show decide (j % 2 = 1) = true by simpa using q] at this
        rw [show decide ((j + 1) % 2 = 1) = false by simp; omega]
        cases z : tb s 0 with
        | false => rfl
        | true => rw [z] at this; cases this
      · rw [show decide (j % 2 = 1) = false by simpa using q] at this
        rw [show decide ((j + 1) % 2 = 1) = true by simp; omega]
        cases z : tb s 0 with
        | true => rfl
        | false => rw [z] at this; cases this
/-- the least parity, as the class keeps it -/
def LeP (R : List Int32) (S : St) : Prop := (S.1 9 7 = -1 ∧ ∀ k, ¬ Pk R k 1) ∨ ∃ k l, S.1 9 7 = Int32.ofNat k ∧ 1 ≤ k ∧ k ≤ 40 ∧ (∀ j, j < k → ¬ Pk R j 1) ∧ LX R 0 k 1 l ∧ ∀ j, j < k → S.2.1 36 j = Int32.ofNat (l.getD j 0)
theorem LeP.of {fs : List (Nat × Nat)} {as : List Nat} {S S1 : St} (h : LeP R S) (hF : Fz fs as S S1) (n1 : (9, 7) ∉ fs) (n2 : 36 ∉ as) : LeP R S1 := by
  rcases h with ⟨h1, h2⟩ | ⟨k, l, h1, h2, h3, h4, h5, h6⟩
  · exact Or.inl ⟨(hF.f n1).trans h1, h2⟩
  · exact Or.inr ⟨k, l, (hF.f n1).trans h1, h2, h3, h4, h5, fun j hj => (hF.a n2 j).trans (h6 j hj)⟩
theorem c25 {d : Nat} {S : St} {Q : Out → St → Prop} (hR : RK D R) (hD : D ≤ 4) (hP : PB R S) (hS : S.1 2 0 = Int32.ofNat D) (h7 : S.1 9 7 = -1) (K : ∀ S1, Fz [(9, 7)] [36] S S1 → LeP R S1 → Q (.inl none) S1) : Wp (d + 50) b 25 0 [.ref 9] [] S Q := by
  have r40 := hP.2.1
  refine b25_0 (P := fun x S1 => S = S1 ∧ ((x = 1 ∧ Sl (R.drop 0) 1) ∨ (x = 0 ∧ ¬ Sl (R.drop 0) 1))) (c24 (i := 0) (by omega) one21 (hP.2.2.2 0 (by omega)) (fun z => ⟨_, rfl, rfl, Or.inl ⟨rfl, z⟩⟩) (fun z => ⟨_, rfl, rfl, Or.inr ⟨rfl, z⟩⟩)) ?_
  rintro x _ ⟨rfl, ⟨rfl, hsl⟩ | ⟨rfl, hsl⟩⟩
  rotate_left
  · exact b25_6 (fun q => absurd rfl q) (fun _ => b25_9 (K S Fz.refl (Or.inl ⟨h7, fun k hk => hsl (sl_pk.2 ⟨k, hk⟩)⟩)))
  refine b25_6 (fun _ => b25_10 ?_) (fun q => absurd (by decide) q)
  have even : ∀ k, k % 2 = 0 → ¬ Pk R k 1 := fun k hk z => by
    have := pk_par (fun g hg => (hR g hg).2.1) z
    rw [show decide (k % 2 = 1) = false by simp; omega] at this
    exact absurd this (by decide)
  have loop : ∀ n g S', g + n = 43 → g % 2 = 1 → Fz [(9, 7)] [36] S S' → S'.1 9 7 = -1 → (∀ j, j < g → ¬ Pk R j 1) → Wp (d + 50) b 25 12 [.ref 9, .int (Int32.ofNat g)] [] S' Q := by
    intro n
    induction n using Nat.strongRecOn with
    | _ n ih =>
      intro g S' hg hodd hF h7' hno
      have hP' := hP.of hF (by decide) (by decide) (by decide)
      refine b25_12 (fun q => b25_50 (K S' hF (Or.inl ⟨h7', fun k hk => ?_⟩))) (fun q => b25_20 (fun z => absurd h7' z) (fun _ => b25_28 (P := fun x S1 => Fz [] [36] S' S1 ∧ ((x = 1 ∧ ∃ l, LX R 0 g 1 l ∧ ∀ j, j < g → S1.2.1 36 j = Int32.ofNat (l.getD j 0)) ∨ (x = 0 ∧ ¬ Pk R g 1))) ?_ ?_))
      · rw [hP'.1] at q
        have q := (i_lt (by omega) (by omega)).1 q
        have := pk_len hk
        exact hno k (by omega) hk
      · rw [hP'.1] at q
        have q := mt (i_lt (by omega) (by omega)).2 q
        have := c26 (S := S') (Q := Ri (fun x S1 => Fz [] [36] S' S1 ∧ ((x = 1 ∧ ∃ l, LX R 0 g 1 l ∧ ∀ j, j < g → S1.2.1 36 j = Int32.ofNat (l.getD j 0)) ∨ (x = 0 ∧ ¬ Pk R g 1)))) hR hD g (d + 49) 0 0 0 (by omega) hP' ((hF.f (by decide)).trans hS) (by omega) (by omega) (low_zero _) (fun l S1 g1 _ g3 g4 => ⟨_, rfl, g1, Or.inl ⟨rfl, l, g3, fun j hj => ?_⟩⟩) (fun S1 g1 _ g3 => ⟨_, rfl, g1, Or.inr ⟨rfl, g3⟩⟩)
        · rw [Nat.zero_add] at this; exact this
        · have := g4 j hj
          rw [Nat.zero_add] at this; exact this
      · rw [hP'.1] at q
        have q := mt (i_lt (by omega) (by omega)).2 q
        rintro x S1 ⟨g1, ⟨rfl, l, g3, g4⟩ | ⟨rfl, g3⟩⟩
        · refine b25_36 (fun z => absurd z (by decide)) (fun _ => b25_39 (b25_44 ?_))
          have fin : LeP R (setI S1 9 7 (Int32.ofNat g)) := Or.inr ⟨g, l, seti_same, by omega, by omega, hno, g3, fun j hj => g4 j hj⟩
          have hF1 : Fz [(9, 7)] [36] S (setI S1 9 7 (Int32.ofNat g)) := (hF.trans (g1.mono (by simp) (by simp))).seti (by decide)
          refine b25_12 (fun _ => b25_50 (K _ hF1 fin)) (fun _ => b25_20 (fun _ => b25_50 (K _ hF1 fin)) (fun z => absurd (fun z => ?_) z))
          rw [seti_same] at z
          have : ∀ g : Fin 43, ¬ Int32.ofNat g.val = -1 := by decide +kernel
          exact this ⟨g, by omega⟩ z
        · refine b25_36 (fun _ => b25_44 ?_) (fun z => absurd rfl z)
          rw [show (2 : Int32) = Int32.ofNat 2 from rfl, i_add]
          refine ih (n - 2) (by omega) (g + 2) S1 (by omega) (by omega) (hF.trans (g1.mono (by simp) (by simp))) ((g1.f (by decide)).trans h7') (fun j hj => ?_)
          by_cases e1 : j = g
          · rw [e1]; exact g3
          · by_cases e2 : j = g + 1
            · exact even j (by omega)
            · exact hno j (by omega)
  exact loop 42 1 S (by omega) (by omega) Fz.refl h7 (fun j hj => even j (by omega))
/-- what is known of parities -/
def CPy (F : List Int32) (S : St) : Prop := (S.1 9 5 = 0 ∨ (S.1 9 5 = 1 ∧ PB ((F.take 40).map rwF) S)) ∧ (S.1 9 6 = 0 ∨ (S.1 9 6 = 1 ∧ LeP ((F.take 40).map rwF) S))
theorem rk_of {F : List Int32} (h : ∀ f, f ∈ F → Low 20 f ∧ pcn f = D) : RK D ((F.take 40).map rwF) := by
  intro g hg
  obtain ⟨f, hf, rfl⟩ := List.mem_map.1 hg
  have := h f (List.mem_of_mem_take hf)
  refine ⟨low_rwF this.1, ?_, ?_⟩
  · unfold rwF; rw [tb_or, tb_one]; simp
  · rw [cnt_rwF this.1]; omega
theorem c21 {d : Nat} {S : St} {F : List Int32} {Q : Out → St → Prop} (hD : D ≤ 4) (hW : WF S F) (hl : F.length ≤ 300) (hF : ∀ f, f ∈ F → Low 20 f ∧ pcn f = D) (hS : S.1 2 0 = Int32.ofNat D) (hC : CPy F S) (K : ∀ S1, Fz [(9, 4), (9, 5), (9, 6), (9, 7)] [34, 35, 36] S S1 → CPy F S1 → LeP ((F.take 40).map rwF) S1 → Q (.inl (some (.int (S1.1 9 7)))) S1) : Wp (d + 60) b 21 0 [.ref 9] [] S Q := by
  refine b21_0 (fun hn => b21_25 ?_) (fun h0 => b21_7 (P := fun S1 => Fz [(9, 4), (9, 5)] [34, 35] (setI (setI S 9 6 1) 9 7 (-1)) S1 ∧ S1.1 9 5 = 1 ∧ PB ((F.take 40).map rwF) S1) (Or.inr rfl) ?_ ?_)
  · rcases hC.2 with e | ⟨e, hP⟩
    · exact absurd e hn
    · exact K S Fz.refl hC hP
  · have f0 : Fz [(9, 6), (9, 7)] [] S (setI (setI S 9 6 1) 9 7 (-1)) := (Fz.refl.seti (by decide)).seti (by decide)
    refine c22 ⟨hW.1, hW.2.1, hW.2.2⟩ hl (fun f hf => (hF f hf).1) ?_ (fun S1 g1 g2 g3 => ⟨rfl, g1, g2, g3⟩)
    rcases hC.1 with e | ⟨e, hP⟩
    · exact Or.inl ((f0.f (by decide)).trans e)
    · exact Or.inr ⟨(f0.f (by decide)).trans e, hP.of f0 (by decide) (by decide) (by decide)⟩
  · rintro S1 ⟨g1, g2, g3⟩
    have f0 : Fz [(9, 4), (9, 5), (9, 6), (9, 7)] [34, 35, 36] S (setI (setI S 9 6 1) 9 7 (-1)) := (Fz.refl.seti (by decide)).seti (by decide)
    have f1 := f0.trans (g1.mono (fs' := [(9, 4), (9, 5), (9, 6), (9, 7)]) (as' := [34, 35, 36]) (by decide) (by decide))
    refine b21_21 (P := fun S2 => Fz [(9, 7)] [36] S1 S2 ∧ LeP ((F.take 40).map rwF) S2) (c25 (rk_of hF) hD g3 ((f1.f (by decide)).trans hS) ((g1.f (by decide)).trans seti_same) (fun S2 k1 k2 => ⟨rfl, k1, k2⟩)) ?_
    rintro S2 ⟨k1, k2⟩
    refine b21_25 (K S2 (f1.trans (k1.mono (by decide) (by decide))) ⟨Or.inr ⟨(k1.f (by decide)).trans g2, g3.of k1 (by decide) (by decide) (by decide)⟩, Or.inr ⟨?_, k2⟩⟩ k2)
    rw [k1.f (by decide), g1.f (by decide)]
    exact (seti_ne (by decide)).trans seti_same
theorem c20 {d : Nat} {S : St} {F : List Int32} {Q : Out → St → Prop} (hW : WF S F) (hl : F.length ≤ 300) (hF : ∀ f, f ∈ F → Low 20 f) (hC : CPy F S) (K : ∀ S1 B, Fz [(9, 4), (9, 5)] [34, 35] S S1 → CPy F S1 → BS B ((F.take 40).map rwF) → Q (.inl (some (.int (Int32.ofNat (min 40 F.length) - Int32.ofNat (cnt (fun c => !decide (B (c + 1) = 0)) 20))))) S1) : Wp (d + 3) b 20 0 [.ref 9] [] S Q := by
  refine b20_0 (P := fun S1 => Fz [(9, 4), (9, 5)] [34, 35] S S1 ∧ S1.1 9 5 = 1 ∧ PB ((F.take 40).map rwF) S1) (c22 hW hl hF hC.1 (fun S1 g1 g2 g3 => ⟨rfl, g1, g2, g3⟩)) ?_
  rintro S1 ⟨g1, g2, g3⟩
  have hC1 : CPy F S1 := by
    refine ⟨Or.inr ⟨g2, g3⟩, ?_⟩
    rcases hC.2 with e | ⟨e, hP⟩
    · exact Or.inl ((g1.f (by decide)).trans e)
    · exact Or.inr ⟨(g1.f (by decide)).trans e, hP.of g1 (by decide) (by decide)⟩
  have hB := g3.2.2.2 0 (by omega)
  rw [List.drop_zero] at hB
  refine b20_4 ?_
  have loop : ∀ n c, c + n = 20 → Wp (d + 3) b 20 8 [.ref 9, .int (Int32.ofNat (cnt (fun c => !decide (bas S1 0 (c + 1) = 0)) c)), .int (Int32.ofNat (c + 1))] [] S1 Q := by
    intro n
    induction n with
    | zero =>
      intro c hc
      refine b20_8 (fun _ => b20_32 ?_) (fun q => absurd ((i_le (a := 21) (by omega) (by omega)).2 (by omega)) q)
      rw [show c = 20 by omega, g3.1, List.length_map, List.length_take]
      exact K S1 (bas S1 0) g1 hC1 hB
    | succ n ih =>
      intro c hc
      have ec : ∀ p, cnt p (c + 1) = cnt p c + (if p c = true then 1 else 0) := fun p => rfl
      refine b20_8 (fun q => ?_) (fun _ => b20_14 (i_vp (by omega) (by omega)) (fun q => b20_26 ?_) (fun q => b20_23 (b20_26 ?_)))
      · have := (i_le (a := 21) (by omega) (by omega)).1 q
        omega
      · rw [i_cl (by omega)] at q
        have q : bas S1 0 (c + 1) = 0 := by rw [← q]; show S1.2.1 35 (0 * 21 + (c + 1)) = _; rw [Nat.zero_mul, Nat.zero_add]
        have := ih (c + 1) (by omega)
        rw [ec, q, decide_eq_true rfl] at this
        rw [i_suc]
        exact this
      · rw [i_cl (by omega)] at q
        have q : ¬ bas S1 0 (c + 1) = 0 := by
          intro z; apply q; rw [← z]; show _ = S1.2.1 35 (0 * 21 + (c + 1)); rw [Nat.zero_mul, Nat.zero_add]
        have := ih (c + 1) (by omega)
        rw [ec, decide_eq_false q] at this
        rw [i_suc, i_suc]
        exact this
  exact loop 20 0 (by omega)
end CPAR2
