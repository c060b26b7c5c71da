/-! TOKENS -/
section TOKEN
variable {b : Nat} {y : Nat → Int32} {n : Nat}
/-- what a byte is: 1 a small letter, 2 a figure, 4 a blank, 3 a sign -/
def kOf (x : Int32) : Nat := if x < 97 ∨ 122 < x then (if x < 48 ∨ 57 < x then (if x = 32 ∨ x = 10 then 4 else 3) else 2) else 1
def rnF (y : Nat → Int32) (n t : Nat) : Nat → Nat → Nat
  | 0, p => p
  | k + 1, p => if p < n ∧ kOf (y p) = t then rnF y n t k (p + 1) else p
/-- the end of a row of one kind -/
def rn (y : Nat → Int32) (n t p : Nat) : Nat := rnF y n t (n - p) p
theorem rn_eq (t p : Nat) : rn y n t p = if p < n ∧ kOf (y p) = t then rn y n t (p + 1) else p := by
  unfold rn
  by_cases h : p < n
  · rw [show n - p = (n - (p + 1)) + 1 by omega]
    rfl
  · rw [show n - p = 0 by omega, if_neg (fun q => h q.1)]
    rfl
theorem rn_yes {t p : Nat} (h : p < n) (h2 : kOf (y p) = t) : rn y n t p = rn y n t (p + 1) := by rw [rn_eq, if_pos ⟨h, h2⟩]
theorem rn_no {t p : Nat} (h : ¬ (p < n ∧ kOf (y p) = t)) : rn y n t p = p := by rw [rn_eq, if_neg h]
theorem rn_spec {t : Nat} : ∀ k p, p + k = n → p ≤ rn y n t p ∧ rn y n t p ≤ n ∧ ¬ (rn y n t p < n ∧ kOf (y (rn y n t p)) = t) := by
  intro k
  induction k with
  | zero =>
    intro p hp
    rw [rn_no (fun q => by omega)]
    exact ⟨Nat.le_refl _, by omega, fun q => by omega⟩
  | succ k ih =>
    intro p hp
    by_cases h : p < n ∧ kOf (y p) = t
    · rw [rn_yes h.1 h.2]
      obtain ⟨a1, a2, a3⟩ := ih (p + 1) (by omega)
      exact ⟨by omega, a2, a3⟩
    · rw [rn_no h]
      exact ⟨Nat.le_refl _, by omega, h⟩
/-- where the token begins, what it is, where it ends -/
def bg (y : Nat → Int32) (n p : Nat) : Nat := rn y n 4 p
def kd (y : Nat → Int32) (n p : Nat) : Nat := if bg y n p < n then kOf (y (bg y n p)) else 0
def en (y : Nat → Int32) (n p : Nat) : Nat := if kd y n p = 3 then bg y n p + 1 else if kd y n p = 0 then bg y n p else rn y n (kd y n p) (bg y n p)
def stp1 (v x : Int32) : Int32 := if (v * 10 + x) - 48 < 1000000 then (v * 10 + x) - 48 else 1000000
def nvU (y : Nat → Int32) (q : Nat) : Nat → Int32
  | 0 => 0
  | k + 1 => stp1 (nvU y q k) (y (q + k))
def nv (y : Nat → Int32) (n p : Nat) : Int32 := nvU y (bg y n p) (en y n p - bg y n p)
theorem kOf_cases (x : Int32) : kOf x = 1 ∨ kOf x = 2 ∨ kOf x = 3 ∨ kOf x = 4 := by
  unfold kOf
  split
  · split
    · split
      · exact Or.inr (Or.inr (Or.inr rfl))
      · exact Or.inr (Or.inr (Or.inl rfl))
    · exact Or.inr (Or.inl rfl)
  · exact Or.inl rfl
theorem kd_cases {p : Nat} (hp : p ≤ n) : (kd y n p = 0 ∧ bg y n p = n) ∨ ((kd y n p = 1 ∨ kd y n p = 2 ∨ kd y n p = 3) ∧ bg y n p < n ∧ kOf (y (bg y n p)) = kd y n p) := by
  obtain ⟨a1, a2, a3⟩ := rn_spec (y := y) (n := n) (t := 4) (n - p) p (by omega)
  unfold kd
  by_cases h : bg y n p < n
  · rw [if_pos h]
    refine Or.inr ⟨?_, h, rfl⟩
    rcases kOf_cases (y (bg y n p)) with q | q | q | q
    · exact Or.inl q
    · exact Or.inr (Or.inl q)
    · exact Or.inr (Or.inr q)
    · exact absurd ⟨h, q⟩ a3
  · rw [if_neg h]
    refine Or.inl ⟨rfl, ?_⟩
    unfold bg at h ⊢
    omega
theorem bg_le {p : Nat} (hp : p ≤ n) : p ≤ bg y n p ∧ bg y n p ≤ n := by
  obtain ⟨a1, a2, _⟩ := rn_spec (y := y) (n := n) (t := 4) (n - p) p (by omega)
  exact ⟨a1, a2⟩
theorem en_le {p : Nat} (hp : p ≤ n) : bg y n p ≤ en y n p ∧ en y n p ≤ n ∧ (¬ kd y n p = 0 → bg y n p < en y n p) := by
  obtain ⟨b1, b2⟩ := bg_le (y := y) hp
  rcases kd_cases (y := y) hp with ⟨h, h2⟩ | ⟨h, h2, h3⟩
  · unfold en
    rw [h, if_neg (by omega), if_pos rfl]
    exact ⟨Nat.le_refl _, b2, fun q => absurd rfl q⟩
  · unfold en
    by_cases e : kd y n p = 3
    · rw [if_pos e]
      exact ⟨by omega, by omega, fun _ => by omega⟩
    · rw [if_neg e, if_neg (by omega), rn_yes h2 h3]
      obtain ⟨a1, a2, _⟩ := rn_spec (y := y) (n := n) (t := kd y n p) (n - (bg y n p + 1)) (bg y n p + 1) (by omega)
      exact ⟨by omega, a2, fun _ => by omega⟩
theorem c52 {d : Nat} {S : St} (x : Int32) : Wp d b 52 0 [.int x] [] S (Ri (Vx (Int32.ofNat (kOf x)) S)) := by
  unfold kOf
  have low : (x < 97 ∨ 122 < x) → Wp d b 52 14 [.int x] [] S (Ri (Vx (Int32.ofNat (if x < 97 ∨ 122 < x then (if x < 48 ∨ 57 < x then (if x = 32 ∨ x = 10 then 4 else 3) else 2) else 1)) S)) := by
    intro h
    rw [if_pos h]
    have low2 : (x < 48 ∨ 57 < x) → Wp d b 52 28 [.int x] [] S (Ri (Vx (Int32.ofNat (if x < 48 ∨ 57 < x then (if x = 32 ∨ x = 10 then 4 else 3) else 2)) S)) := by
      intro h
      rw [if_pos h]
      refine b52_28 (fun q => b52_40 (b52_45 ⟨_, rfl, by rw [if_pos (Or.inl q)]; rfl, rfl⟩)) (fun q => b52_34 (fun q2 => b52_44 (b52_45 ⟨_, rfl, ?_, rfl⟩)) (fun q2 => b52_40 (b52_45 ⟨_, rfl, ?_, rfl⟩)))
      · rw [if_neg (fun z => by rcases z with z | z; exact q z; exact q2 z)]; rfl
      · rw [if_pos (Or.inr (Classical.byContradiction q2))]; rfl
    refine b52_14 (fun q => low2 (Or.inl q)) (fun q => b52_20 (fun q2 => low2 (Or.inr q2)) (fun q2 => b52_26 ⟨_, rfl, ?_, rfl⟩))
    rw [if_neg (fun z => by rcases z with z | z; exact q z; exact q2 z)]; rfl
  refine b52_0 (fun q => low (Or.inl q)) (fun q => b52_6 (fun q2 => low (Or.inr q2)) (fun q2 => b52_12 ⟨_, rfl, ?_, rfl⟩))
  rw [if_neg (fun z => by rcases z with z | z; exact q z; exact q2 z)]; rfl
/-- the class's tape as it is read -/
def TB1 (y : Nat → Int32) (n : Nat) (S : St) : Prop := S.1 1 2 = Int32.ofNat n ∧ n ≤ 400 ∧ ∀ i, i < n → S.2.1 14 i &&& 255 = y i
def TA (y : Nat → Int32) (n p : Nat) (S : St) : Prop := TB1 y n S ∧ S.1 1 4 = Int32.ofNat (bg y n p) ∧ S.1 1 3 = Int32.ofNat (kd y n p) ∧ S.1 1 5 = Int32.ofNat (en y n p) ∧ (kd y n p = 2 → S.1 1 6 = nv y n p)
theorem TB1.of {fs : List (Nat × Nat)} {as : List Nat} {S S1 : St} (h : TB1 y n S) (hF : Fz fs as S S1) (q : (1, 2) ∉ fs ∧ 14 ∉ as) : TB1 y n S1 := ⟨(hF.f q.1).trans h.1, h.2.1, fun i hi => by rw [hF.a q.2]; exact h.2.2 i hi⟩
theorem TA.of {fs : List (Nat × Nat)} {as : List Nat} {p : Nat} {S S1 : St} (h : TA y n p S) (hF : Fz fs as S S1) (q : (1, 2) ∉ fs ∧ 14 ∉ as ∧ (1, 3) ∉ fs ∧ (1, 4) ∉ fs ∧ (1, 5) ∉ fs ∧ (1, 6) ∉ fs) : TA y n p S1 := ⟨h.1.of hF ⟨q.1, q.2.1⟩, (hF.f q.2.2.2.1).trans h.2.1, (hF.f q.2.2.1).trans h.2.2.1, (hF.f q.2.2.2.2.1).trans h.2.2.2.1, fun e => (hF.f q.2.2.2.2.2).trans (h.2.2.2.2 e)⟩
theorem c57 {d i : Nat} {S : St} (hT : TB1 y n S) (hi : i < n) : Wp d b 57 0 [.ref 1, .int (Int32.ofNat i)] [] S (Ri (Vx (y i) S)) := by
  have := hT.2.1
  refine b57_0 (fun q => absurd q (i_nneg (by omega))) (fun _ => b57_4 (fun q => ?_) (fun _ => b57_13 (i_vp (by omega) (by omega)) (b57_27 ⟨_, rfl, ?_, rfl⟩)))
  · have := (i_le (a := 400) (by omega) (by omega)).1 q
    omega
  · rw [i_cl (by omega)]
    exact hT.2.2 i hi
theorem c51 {d p : Nat} {S : St} {Q : Out → St → Prop} (hT : TB1 y n S) (hp : p ≤ n) (h5 : S.1 1 5 = Int32.ofNat p) (K : ∀ S1, Fz [(1, 3), (1, 4), (1, 5), (1, 6)] [] S S1 → TA y n p S1 → Q (.inl none) S1) : Wp (d + 1) b 51 0 [.ref 1] [] S Q := by
  obtain ⟨h2, h400, hy⟩ := id hT
  obtain ⟨p1, p2⟩ := bg_le (y := y) hp
  refine b51_0 ?_
  rw [h5]
  -- the blanks
  have sk : ∀ k p', p' + k = n → Wp (d + 1) b 51 40 [.ref 1, .int (Int32.ofNat (rn y n 4 p')), .int (Int32.ofNat (rn y n 4 p'))] [] S Q → Wp (d + 1) b 51 10 [.ref 1, .int (Int32.ofNat p'), .int (Int32.ofNat p')] [] S Q := by
    intro k
    induction k with
    | zero =>
      intro p' hp' h
      have hp' : p' = n := hp'
      subst hp'
      rw [rn_no (fun q => by omega)] at h
      refine b51_10 (fun _ => h) (fun q => absurd ?_ q)
      rw [h2]
      exact (i_le (by omega) (by omega)).2 (Nat.le_refl _)
    | succ k ih =>
      intro p' hp' h
      refine b51_10 (fun q => ?_) (fun _ => b51_18 (c57 hT (by omega)) ?_)
      · rw [h2] at q
        have := (i_le (by omega) (by omega)).1 q
        omega
      rintro _ _ ⟨rfl, rfl⟩
      refine b51_23 (c52 _) ?_
      rintro _ _ ⟨rfl, rfl⟩
      have k4 := kOf_cases (y p')
      refine b51_26 (fun q => ?_) (fun q => b51_30 ?_)
      · rw [rn_no (fun z => q (by rw [z.2]; rfl))] at h
        exact h
      · have e := (i_inj (b := 4) (by omega) (by omega)).1 (Classical.byContradiction q)
        rw [rn_yes (by omega) e] at h
        rw [i_suc]
        exact ih (p' + 1) (by omega) h
  refine sk (n - p) p (by omega) ?_
  have hq : rn y n 4 p = bg y n p := rfl
  rw [hq]
  -- the rest
  have f1 : Fz [(1, 3), (1, 4), (1, 5), (1, 6)] [] S (setI S 1 4 (Int32.ofNat (bg y n p))) := Fz.refl.seti (by decide)
  have kc := kd_cases (y := y) hp
  have big : ∀ S1, Fz [(1, 3), (1, 4), (1, 5), (1, 6)] [] S S1 → S1.1 1 4 = Int32.ofNat (bg y n p) → Wp (d + 1) b 51 66 [.ref 1, .int (Int32.ofNat (bg y n p)), .int (Int32.ofNat (bg y n p))] [.int (Int32.ofNat (kd y n p)), .ref 1] S1 Q := by
    intro S1 g1 g4
    have g2 : Fz [(1, 3), (1, 4), (1, 5), (1, 6)] [] S (setI S1 1 3 (Int32.ofNat (kd y n p))) := g1.seti (by decide)
    have e43 : (setI S1 1 3 (Int32.ofNat (kd y n p))).1 1 4 = Int32.ofNat (bg y n p) := (seti_ne (by decide)).trans g4
    have e33 : (setI S1 1 3 (Int32.ofNat (kd y n p))).1 1 3 = Int32.ofNat (kd y n p) := seti_same
    have sg : ∀ v, (kd y n p = 3 → v = Int32.ofNat (bg y n p + 1)) → (¬ kd y n p = 3 → v = Int32.ofNat (bg y n p)) → Wp (d + 1) b 51 85 [.ref 1, .int (Int32.ofNat (bg y n p)), .int (Int32.ofNat (bg y n p))] [.int v, .ref 1] (setI S1 1 3 (Int32.ofNat (kd y n p))) Q := by
      intro v v3 vn
      generalize setI S1 1 3 (Int32.ofNat (kd y n p)) = S2 at *
      have g3 : Fz [(1, 3), (1, 4), (1, 5), (1, 6)] [] S (setI (setI S2 1 5 v) 1 6 0) := (g2.seti (by decide)).seti (by decide)
      have a4 : (setI (setI S2 1 5 v) 1 6 0).1 1 4 = Int32.ofNat (bg y n p) := (seti_ne (by decide)).trans ((seti_ne (by decide)).trans e43)
      have a3 : (setI (setI S2 1 5 v) 1 6 0).1 1 3 = Int32.ofNat (kd y n p) := (seti_ne (by decide)).trans ((seti_ne (by decide)).trans e33)
      have a5 : (setI (setI S2 1 5 v) 1 6 0).1 1 5 = v := (seti_ne (by decide)).trans seti_same
      have a6 : (setI (setI S2 1 5 v) 1 6 0).1 1 6 = 0 := seti_same
      have no : ¬ (kd y n p = 1 ∨ kd y n p = 2) → Wp (d + 1) b 51 113 [.ref 1, .int (Int32.ofNat (bg y n p)), .int (Int32.ofNat (bg y n p))] [] (setI (setI S2 1 5 v) 1 6 0) Q := by
        intro hn
        refine b51_113 (b51_114 (b51_117 (fun _ => b51_190 (K _ g3 ⟨hT.of g3 (by decide), a4, a3, ?_, fun e => absurd (Or.inr e) hn⟩)) (fun q => absurd rfl q)))
        rw [a5]
        unfold en
        by_cases e3 : kd y n p = 3
        · rw [if_pos e3]; exact v3 e3
        · rw [if_neg e3, if_pos (by omega)]; exact vn e3
      have yes : (kd y n p = 1 ∨ kd y n p = 2) → Wp (d + 1) b 51 109 [.ref 1, .int (Int32.ofNat (bg y n p)), .int (Int32.ofNat (bg y n p))] [] (setI (setI S2 1 5 v) 1 6 0) Q := by
        intro hy12
        refine b51_109 (b51_114 ?_)
        have hen : en y n p = rn y n (kd y n p) (bg y n p) := by unfold en; rw [if_neg (by omega), if_neg (by omega)]
        have loop : ∀ k i S', i + k = n → bg y n p ≤ i → rn y n (kd y n p) i = en y n p → Fz [(1, 3), (1, 4), (1, 5), (1, 6)] [] S S' → S'.1 1 4 = Int32.ofNat (bg y n p) → S'.1 1 3 = Int32.ofNat (kd y n p) → S'.1 1 5 = Int32.ofNat i → (kd y n p = 2 → S'.1 1 6 = nvU y (bg y n p) (i - bg y n p)) → Wp (d + 1) b 51 117 [.ref 1, .int (Int32.ofNat (bg y n p)), .int 1, .int (Int32.ofNat i)] [] S' Q := by
          intro k
          induction k with
          | zero =>
            intro i S' hi hqi hr hF b4 b3 b5 b6
            have hi : i = n := hi
            rw [rn_no (fun q => by omega)] at hr
            have hT' := hT.of hF (by decide)
            refine b51_117 (fun q => absurd q (by decide)) (fun _ => b51_121 (fun _ => b51_190 (K S' hF ⟨hT', b4, b3, by rw [← hr]; exact b5, fun e => by unfold nv; rw [← hr]; exact b6 e⟩)) (fun q => absurd ?_ q))
            rw [hT'.1, hi]
            exact (i_le (by omega) (by omega)).2 (Nat.le_refl _)
          | succ k ih =>
            intro i S' hi hqi hr hF b4 b3 b5 b6
            have hT' := hT.of hF (by decide)
            refine b51_117 (fun q => absurd q (by decide)) (fun _ => b51_121 (fun q => ?_) (fun _ => b51_129 (c57 hT' (by omega)) ?_))
            · rw [hT'.1] at q
              have := (i_le (by omega) (by omega)).1 q
              omega
            rintro _ _ ⟨rfl, rfl⟩
            refine b51_134 (c52 _) ?_
            rintro _ _ ⟨rfl, rfl⟩
            have k4 := kOf_cases (y i)
            refine b51_137 (fun q => ?_) (fun q => ?_)
            · rw [b3] at q
              rw [rn_no (fun z => q (by rw [z.2]))] at hr
              exact b51_190 (K S' hF ⟨hT', b4, b3, by rw [← hr]; exact b5, fun e => by unfold nv; rw [← hr]; exact b6 e⟩)
            · have q := Classical.byContradiction q
              rw [b3] at q
              have e := (i_inj (by omega) (by omega)).1 q
              rw [rn_yes (by omega) e] at hr
              have f5 : Fz [(1, 3), (1, 4), (1, 5), (1, 6)] [] S (setI S' 1 5 (Int32.ofNat i + 1)) := hF.seti (by decide)
              have c4 : (setI S' 1 5 (Int32.ofNat i + 1)).1 1 4 = Int32.ofNat (bg y n p) := (seti_ne (by decide)).trans b4
              have c3 : (setI S' 1 5 (Int32.ofNat i + 1)).1 1 3 = Int32.ofNat (kd y n p) := (seti_ne (by decide)).trans b3
              have c5 : (setI S' 1 5 (Int32.ofNat i + 1)).1 1 5 = Int32.ofNat (i + 1) := seti_same.trans (i_suc i)
              have c6 : (setI S' 1 5 (Int32.ofNat i + 1)).1 1 6 = S'.1 1 6 := seti_ne (by decide)
              refine b51_144 (fun q2 => b51_184 ?_) (fun q2 => b51_159 (c57 (hT.of f5 (by decide)) (by omega)) ?_)
              · rw [i_suc i] at *
                refine ih (i + 1) _ (by omega) (by omega) hr f5 c4 c3 c5 (fun e2 => absurd (by rw [c3, e2]; rfl) q2)
              · rintro _ _ ⟨rfl, rfl⟩
                have q2 := Classical.byContradiction q2
                rw [c3] at q2
                have e2 := (i_inj (b := 2) (by omega) (by omega)).1 q2
                refine b51_174 (b51_184 ?_)
                rw [i_suc i] at *
                refine ih (i + 1) _ (by omega) (by omega) hr (f5.seti (by decide)) ((seti_ne (by decide)).trans c4) ((seti_ne (by decide)).trans c3) ((seti_ne (by decide)).trans c5) (fun _ => ?_)
                rw [seti_same, c6, b6 e2, show i + 1 - bg y n p = (i - bg y n p) + 1 by omega]
                show _ = stp1 (nvU y (bg y n p) (i - bg y n p)) (y (bg y n p + (i - bg y n p)))
                rw [show bg y n p + (i - bg y n p) = i by omega]
                rfl
        refine loop (n - bg y n p) (bg y n p) _ (by omega) (Nat.le_refl _) hen.symm g3 a4 a3 ?_ (fun _ => ?_)
        · rw [a5, vn (by omega)]
        · rw [a6, Nat.sub_self]
          rfl
      refine b51_85 (fun q => yes (Or.inl ?_)) (fun q => b51_101 (fun q2 => no ?_) (fun q2 => yes (Or.inr ?_)))
      · rw [a3] at q
        exact (i_inj (b := 1) (by omega) (by omega)).1 q
      · rw [a3] at q q2
        rintro (e | e)
        · exact q (by rw [e]; rfl)
        · exact q2 (by rw [e]; rfl)
      · rw [a3] at q2
        exact (i_inj (b := 2) (by omega) (by omega)).1 (Classical.byContradiction q2)
    refine b51_66 (fun q => b51_84 (sg _ (fun e => ?_) (fun _ => rfl))) (fun q => b51_78 (sg _ (fun _ => i_suc _) (fun e => ?_)))
    · exact absurd (by rw [e33, e]; rfl) q
    · rw [e33] at q
      exact absurd ((i_inj (b := 3) (by omega) (by omega)).1 (Classical.byContradiction q)) e
  have e12 : (setI S 1 4 (Int32.ofNat (bg y n p))).1 1 2 = Int32.ofNat n := (seti_ne (by decide)).trans h2
  refine b51_40 (fun q => b51_65 ?_) (fun q => b51_54 (c57 (hT.of f1 (by decide)) ?_) ?_)
  · rw [e12] at q
    have q := (i_le (by omega) (by omega)).1 q
    have := big _ f1 seti_same
    rw [show kd y n p = 0 by omega] at this
    exact this
  · rw [e12] at q
    have q : ¬ n ≤ bg y n p := fun z => q ((i_le (by omega) (by omega)).2 z)
    omega
  · rintro _ _ ⟨rfl, rfl⟩
    refine b51_59 (c52 _) ?_
    rintro _ _ ⟨rfl, rfl⟩
    rw [e12] at q
    have q : ¬ n ≤ bg y n p := fun z => q ((i_le (by omega) (by omega)).2 z)
    have := big _ f1 seti_same
    rw [show kd y n p = kOf (y (bg y n p)) by omega] at this
    exact b51_62 this
end TOKEN
