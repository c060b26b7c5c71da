/-! TOKENS: the reference -/
section MTOKEN
variable {b : Nat} {y : Nat → Int32} {n : Nat}
def MTB (y : Nat → Int32) (n : Nat) (S : St) : Prop := S.1 46 44 = Int32.ofNat n ∧ n ≤ 400 ∧ ∀ i, i < n → S.2.1 64 i = y i ∧ ¬ y i = -1
def MTA (y : Nat → Int32) (n p : Nat) (S : St) : Prop := MTB y n S ∧ S.1 46 47 = Int32.ofNat (bg y n p) ∧ S.1 46 46 = Int32.ofNat (kd y n p) ∧ S.1 46 48 = Int32.ofNat (en y n p) ∧ S.1 46 45 = Int32.ofNat (en y n p)
theorem MTB.of {fs : List (Nat × Nat)} {as : List Nat} {S S1 : St} (h : MTB y n S) (hF : Fz fs as S S1) (q : (46, 44) ∉ fs ∧ 64 ∉ as) : MTB y n S1 := ⟨(hF.f q.1).trans h.1, h.2.1, fun i hi => ⟨(hF.a q.2 i).trans (h.2.2 i hi).1, (h.2.2 i hi).2⟩⟩
theorem MTA.of {fs : List (Nat × Nat)} {as : List Nat} {p : Nat} {S S1 : St} (h : MTA y n p S) (hF : Fz fs as S S1) (q : (46, 44) ∉ fs ∧ 64 ∉ as ∧ (46, 45) ∉ fs ∧ (46, 46) ∉ fs ∧ (46, 47) ∉ fs ∧ (46, 48) ∉ fs) : MTA y n p S1 := ⟨h.1.of hF ⟨q.1, q.2.1⟩, (hF.f q.2.2.2.2.1).trans h.2.1, (hF.f q.2.2.2.1).trans h.2.2.1, (hF.f q.2.2.2.2.2).trans h.2.2.2.1, (hF.f q.2.2.1).trans h.2.2.2.2⟩
def byM (y : Nat → Int32) (n i : Nat) : Int32 := if i < n then y i else -1
theorem w236 {d i : Nat} {S : St} (hT : MTB y n S) (hi : i ≤ 400) : Wp d b 236 0 [.ref 46, .int (Int32.ofNat i)] [] S (Ri (Vx (byM y n i) S)) := by
  obtain ⟨h1, h2, h3⟩ := hT
  unfold byM
  refine b236_0 (fun q => b236_17 (b236_18 ⟨_, rfl, ?_, rfl⟩)) (fun q => ?_)
  · rw [h1] at q
    have := (i_le (by omega) (by omega)).1 q
    rw [if_neg (by omega)]
  · rw [h1] at q
    have q : ¬ n ≤ i := fun z => q ((i_le (by omega) (by omega)).2 z)
    refine b236_8 (i_vp (by omega) (by omega)) (b236_18 ⟨_, rfl, ?_, rfl⟩)
    rw [if_pos (by omega), i_cl (by omega), (h3 i (by omega)).1]
theorem w237 {d : Nat} {S : St} (x : Int32) : Wp d b 237 0 [.int x] [] S (Ri (Vx (bi (decide (kOf x = 1))) S)) := by
  unfold kOf
  refine b237_0 (fun q => b237_16 (b237_17 (Or.inl rfl) ⟨_, rfl, ?_, rfl⟩)) (fun q => b237_6 (fun q2 => b237_16 (b237_17 (Or.inl rfl) ⟨_, rfl, ?_, rfl⟩)) (fun q2 => b237_12 (b237_17 (Or.inr rfl) ⟨_, rfl, ?_, rfl⟩)))
  · rw [if_pos (Or.inl q)]
    split <;> (try split) <;> rfl
  · rw [if_pos (Or.inr q2)]
    split <;> (try split) <;> rfl
  · rw [if_neg (fun z => by rcases z with z | z; exact q z; exact q2 z)]; rfl
theorem w238 {d : Nat} {S : St} (x : Int32) (hx : ¬ kOf x = 1) : Wp d b 238 0 [.int x] [] S (Ri (Vx (bi (decide (kOf x = 2))) S)) := by
  have h1 : x < 97 ∨ 122 < x := Classical.byContradiction (fun q => hx (by unfold kOf; rw [if_neg q]))
  unfold kOf
  rw [if_pos h1]
  refine b238_0 (fun q => b238_16 (b238_17 (Or.inl rfl) ⟨_, rfl, ?_, rfl⟩)) (fun q => b238_6 (fun q2 => b238_16 (b238_17 (Or.inl rfl) ⟨_, rfl, ?_, rfl⟩)) (fun q2 => b238_12 (b238_17 (Or.inr rfl) ⟨_, rfl, ?_, rfl⟩)))
  · rw [if_pos (Or.inl q)]
    split <;> rfl
  · rw [if_pos (Or.inr q2)]
    split <;> rfl
  · rw [if_neg (fun z => by rcases z with z | z; exact q z; exact q2 z)]; rfl
theorem kOf_m1 : kOf (-1) = 3 := by decide
theorem byM_k {i t : Nat} (ht : ¬ t = 3) : kOf (byM y n i) = t ↔ (i < n ∧ kOf (y i) = t) := by
  unfold byM
  by_cases h : i < n
  · rw [if_pos h]
    exact ⟨fun q => ⟨h, q⟩, fun q => q.2⟩
  · rw [if_neg h, kOf_m1]
    exact ⟨fun q => absurd q.symm ht, fun q => absurd q.1 h⟩
theorem kOf4 (x : Int32) : kOf x = 4 ↔ (x = 32 ∨ x = 10) := by
  constructor
  · intro h
    unfold kOf at h
    split at h
    · split at h
      · split at h
        · assumption
        · cases h
      · cases h
    · cases h
  · rintro (rfl | rfl) <;> decide
theorem w239 {d p : Nat} {S : St} {Q : Out → St → Prop} (hT : MTB y n S) (hp : p ≤ n) (h5 : S.1 46 45 = Int32.ofNat p) (K : ∀ S1, Fz [(46, 45), (46, 46), (46, 47), (46, 48)] [] S S1 → MTA y n p S1 → Q (.inl none) S1) : Wp (d + 1) b 239 0 [.ref 46] [] S Q := by
  have h400 := hT.2.1
  -- the blanks
  have sk : ∀ k p' S', p' + k = n → Fz [(46, 45), (46, 46), (46, 47), (46, 48)] [] S S' → S'.1 46 45 = Int32.ofNat p' → rn y n 4 p' = bg y n p → (∀ S2, Fz [(46, 45), (46, 46), (46, 47), (46, 48)] [] S S2 → S2.1 46 45 = Int32.ofNat (bg y n p) → Wp (d + 1) b 239 39 [.ref 46] [] S2 Q) → Wp (d + 1) b 239 0 [.ref 46] [] S' Q := by
    intro k
    induction k with
    | zero =>
      intro p' S' hp' hF h45 hr h
      have hp' : p' = n := hp'
      subst hp'
      have hT' := hT.of hF (by decide)
      rw [rn_no (fun q => by omega)] at hr
      refine b239_0 (P := Vx (byM y p' p') S') (by rw [h45]; exact w236 hT' h400) ?_
      rintro _ _ ⟨rfl, rfl⟩
      have e : byM y p' p' = -1 := if_neg (by omega)
      rw [e]
      refine b239_8 (fun q => absurd q (by decide)) (fun _ => b239_13 (P := Vx (byM y p' p') S') (by rw [h45]; exact w236 hT' h400) ?_)
      rintro _ _ ⟨rfl, rfl⟩
      rw [e]
      exact b239_21 (fun _ => h S' hF (by rw [← hr]; exact h45)) (fun q => absurd (by decide) q)
    | succ k ih =>
      intro p' S' hp' hF h45 hr h
      have hT' := hT.of hF (by decide)
      have e : byM y n p' = y p' := if_pos (by omega)
      have more : kOf (y p') = 4 → Wp (d + 1) b 239 26 [.ref 46] [] S' Q := by
        intro h4
        refine b239_26 ?_
        rw [h45, i_suc]
        rw [rn_yes (by omega) h4] at hr
        exact ih (p' + 1) _ (by omega) (hF.seti (by decide)) seti_same hr h
      refine b239_0 (P := Vx (byM y n p') S') (by rw [h45]; exact w236 hT' (by omega)) ?_
      rintro _ _ ⟨rfl, rfl⟩
      rw [e]
      refine b239_8 (fun q => more ((kOf4 _).2 (Or.inl q))) (fun q1 => b239_13 (P := Vx (byM y n p') S') (by rw [h45]; exact w236 hT' (by omega)) ?_)
      rintro _ _ ⟨rfl, rfl⟩
      rw [e]
      refine b239_21 (fun q2 => h S' hF ?_) (fun q2 => more ((kOf4 _).2 (Or.inr (Classical.byContradiction q2))))
      rw [rn_no (fun z => by rcases (kOf4 _).1 z.2 with w | w; exact q1 w; exact q2 w)] at hr
      rw [← hr]; exact h45
  refine sk (n - p) p S (by omega) Fz.refl h5 rfl (fun S2 hF h45 => ?_)
  obtain ⟨b1, b2⟩ := bg_le (y := y) hp
  have kc := kd_cases (y := y) hp
  have hF2 : Fz [(46, 45), (46, 46), (46, 47), (46, 48)] [] S (setI S2 46 47 (S2.1 46 45)) := hF.seti (by decide)
  have e45 : (setI S2 46 47 (S2.1 46 45)).1 46 45 = Int32.ofNat (bg y n p) := (seti_ne (by decide)).trans h45
  have e47 : (setI S2 46 47 (S2.1 46 45)).1 46 47 = Int32.ofNat (bg y n p) := seti_same.trans h45
  -- the end
  have fin : ∀ S' x1, Fz [(46, 45), (46, 46), (46, 47), (46, 48)] [] S S' → S'.1 46 47 = Int32.ofNat (bg y n p) → S'.1 46 46 = Int32.ofNat (kd y n p) → S'.1 46 45 = Int32.ofNat (en y n p) → Wp (d + 1) b 239 168 [.ref 46, .int x1] [] S' Q := by
    intro S' x1 g g47 g46 g45
    have g' : Fz [(46, 45), (46, 46), (46, 47), (46, 48)] [] S (setI S' 46 48 (S'.1 46 45)) := g.seti (by decide)
    exact b239_168 (K _ g' ⟨hT.of g' (by decide), (seti_ne (by decide)).trans g47, (seti_ne (by decide)).trans g46, seti_same.trans g45, (seti_ne (by decide)).trans g45⟩)
  refine b239_39 (P := Vx (byM y n (bg y n p)) _) (by rw [e45]; exact w236 (hT.of hF2 (by decide)) (by omega)) ?_
  rintro _ _ ⟨rfl, rfl⟩
  generalize setI S2 46 47 (S2.1 46 45) = S3 at *
  by_cases hb : bg y n p < n
  · have e : byM y n (bg y n p) = y (bg y n p) := if_pos hb
    rw [e]
    have kd1 : kOf (y (bg y n p)) = kd y n p := by omega
    refine b239_55 (fun _ => b239_69 (w237 _) ?_) (fun q => absurd (Classical.byContradiction q) (hT.2.2 _ hb).2)
    rintro _ _ ⟨rfl, rfl⟩
    rw [kd1]
    refine b239_73 (fun q => ?_) (fun q => ?_)
    · have k1 := of_decide_eq_false (bi0.1 q)
      refine b239_111 (P := Vx (bi (decide (kd y n p = 2))) S3) (by rw [← kd1]; exact w238 _ (by rw [kd1]; exact k1)) ?_
      rintro _ _ ⟨rfl, rfl⟩
      refine b239_115 (fun q => ?_) (fun q => ?_)
      · have k2 := of_decide_eq_false (bi0.1 q)
        have k3 : kd y n p = 3 := by omega
        refine b239_153 (fin _ _ ((hF2.seti (by decide)).seti (by decide)) ((seti_ne (by decide)).trans ((seti_ne (by decide)).trans e47)) ?_ ?_)
        · rw [seti_same, k3]; rfl
        · rw [seti_ne (by decide), seti_same, e45, i_suc]
          unfold en
          rw [if_pos k3]
      · have k2 := of_decide_eq_true (bi1.1 q)
        have hen : en y n p = rn y n 2 (bg y n p) := by unfold en; rw [if_neg (by omega), if_neg (by omega), k2]
        have loop : ∀ k i S', i + k = n → Fz [(46, 45), (46, 46), (46, 47), (46, 48)] [] S S' → S'.1 46 45 = Int32.ofNat i → S'.1 46 47 = Int32.ofNat (bg y n p) → rn y n 2 i = en y n p → Wp (d + 1) b 239 118 [.ref 46, .int (y (bg y n p))] [] S' Q := by
          intro k
          induction k with
          | zero =>
            intro i S' hi g g45 g47 hr
            rw [rn_no (fun q => by omega)] at hr
            refine b239_118 (P := Vx (byM y n i) S') (by rw [g45]; exact w236 (hT.of g (by decide)) (by omega)) ?_
            rintro _ _ ⟨rfl, rfl⟩
            rw [show byM y n i = -1 from if_neg (by omega)]
            refine b239_126 (w238 _ (by decide)) ?_
            rintro _ _ ⟨rfl, rfl⟩
            refine b239_129 (fun _ => b239_145 (fin _ _ (g.seti (by decide)) ((seti_ne (by decide)).trans g47) (by rw [seti_same, k2]; rfl) ((seti_ne (by decide)).trans (by rw [← hr]; exact g45)))) (fun q => absurd (by decide) q)
          | succ k ih =>
            intro i S' hi g g45 g47 hr
            refine b239_118 (P := Vx (byM y n i) S') (by rw [g45]; exact w236 (hT.of g (by decide)) (by omega)) ?_
            rintro _ _ ⟨rfl, rfl⟩
            rw [show byM y n i = y i from if_pos (by omega)]
            by_cases k1' : kOf (y i) = 1
            · -- a small letter: no figure
              have nf : ¬ kOf (y i) = 2 := by omega
              have : Wp d 0 238 0 [.int (y i)] [] S' (Ri (Vx 0 S')) := by
                have hx : ¬ (y i < 97 ∨ 122 < y i) := fun q => by
                  unfold kOf at k1'
                  rw [if_pos q] at k1'
                  split at k1'
                  · split at k1' <;> cases k1'
                  · cases k1'
                refine b238_0 (fun q => b238_16 (b238_17 (Or.inl rfl) ⟨_, rfl, rfl, rfl⟩)) (fun q => b238_6 (fun q2 => b238_16 (b238_17 (Or.inl rfl) ⟨_, rfl, rfl, rfl⟩)) (fun q2 => ?_))
                have h1 : ¬ y i < 97 := fun z => hx (Or.inl z)
                exfalso
                rw [Int32.lt_iff_toInt_lt] at h1 q2
                have e1 : (97 : Int32).toInt = 97 := by decide
                have e2 : (57 : Int32).toInt = 57 := by decide
                omega
              refine b239_126 this ?_
              rintro _ _ ⟨rfl, rfl⟩
              rw [rn_no (fun z => nf z.2)] at hr
              exact b239_129 (fun _ => b239_145 (fin _ _ (g.seti (by decide)) ((seti_ne (by decide)).trans g47) (by rw [seti_same, k2]; rfl) ((seti_ne (by decide)).trans (by rw [← hr]; exact g45)))) (fun q => absurd rfl q)
            · refine b239_126 (w238 _ k1') ?_
              rintro _ _ ⟨rfl, rfl⟩
              refine b239_129 (fun q => b239_145 (fin _ _ (g.seti (by decide)) ((seti_ne (by decide)).trans g47) (by rw [seti_same, k2]; rfl) ((seti_ne (by decide)).trans ?_))) (fun q => b239_132 ?_)
              · rw [rn_no (fun z => of_decide_eq_false (bi0.1 q) z.2)] at hr
                rw [← hr]; exact g45
              · rw [rn_yes (by omega) (of_decide_eq_true (bi1.1 q))] at hr
                rw [g45, i_suc]
                exact ih (i + 1) _ (by omega) (g.seti (by decide)) seti_same ((seti_ne (by decide)).trans g47) hr
        exact loop (n - bg y n p) (bg y n p) S3 (by omega) hF2 e45 e47 hen.symm
    · have k1 := of_decide_eq_true (bi1.1 q)
      have hen : en y n p = rn y n 1 (bg y n p) := by unfold en; rw [if_neg (by omega), if_neg (by omega), k1]
      have loop : ∀ k i S', i + k = n → Fz [(46, 45), (46, 46), (46, 47), (46, 48)] [] S S' → S'.1 46 45 = Int32.ofNat i → S'.1 46 47 = Int32.ofNat (bg y n p) → rn y n 1 i = en y n p → Wp (d + 1) b 239 76 [.ref 46, .int (y (bg y n p))] [] S' Q := by
        intro k
        induction k with
        | zero =>
          intro i S' hi g g45 g47 hr
          rw [rn_no (fun q => by omega)] at hr
          refine b239_76 (P := Vx (byM y n i) S') (by rw [g45]; exact w236 (hT.of g (by decide)) (by omega)) ?_
          rintro _ _ ⟨rfl, rfl⟩
          rw [show byM y n i = -1 from if_neg (by omega)]
          refine b239_84 (w237 _) ?_
          rintro _ _ ⟨rfl, rfl⟩
          exact b239_87 (fun _ => b239_103 (fin _ _ (g.seti (by decide)) ((seti_ne (by decide)).trans g47) (by rw [seti_same, k1]; rfl) ((seti_ne (by decide)).trans (by rw [← hr]; exact g45)))) (fun q => absurd (by decide) q)
        | succ k ih =>
          intro i S' hi g g45 g47 hr
          refine b239_76 (P := Vx (byM y n i) S') (by rw [g45]; exact w236 (hT.of g (by decide)) (by omega)) ?_
          rintro _ _ ⟨rfl, rfl⟩
          rw [show byM y n i = y i from if_pos (by omega)]
          refine b239_84 (w237 _) ?_
          rintro _ _ ⟨rfl, rfl⟩
          refine b239_87 (fun q => b239_103 (fin _ _ (g.seti (by decide)) ((seti_ne (by decide)).trans g47) (by rw [seti_same, k1]; rfl) ((seti_ne (by decide)).trans ?_))) (fun q => b239_90 ?_)
          · rw [rn_no (fun z => of_decide_eq_false (bi0.1 q) z.2)] at hr
            rw [← hr]; exact g45
          · rw [rn_yes (by omega) (of_decide_eq_true (bi1.1 q))] at hr
            rw [g45, i_suc]
            exact ih (i + 1) _ (by omega) (g.seti (by decide)) seti_same ((seti_ne (by decide)).trans g47) hr
      exact loop (n - bg y n p) (bg y n p) S3 (by omega) hF2 e45 e47 hen.symm
  · have e : byM y n (bg y n p) = -1 := if_neg hb
    rw [e]
    have k0 : kd y n p = 0 := by omega
    refine b239_55 (fun q => absurd rfl q) (fun _ => b239_61 (fin _ _ (hF2.seti (by decide)) ((seti_ne (by decide)).trans e47) (by rw [seti_same, k0]; rfl) ((seti_ne (by decide)).trans ?_)))
    rw [e45]
    unfold en
    rw [if_neg (by omega), if_pos k0]
end MTOKEN
