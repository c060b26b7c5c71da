/-! TOKENS: what they are asked for, the class -/
section TOKEN2
variable {b : Nat} {y : Nat → Int32} {n : Nat}
def isS (y : Nat → Int32) (n p : Nat) (c : Int32) : Bool := decide (kd y n p = 3) && decide (y (bg y n p) = c)
def isWl (y : Nat → Int32) (n p : Nat) (w : List Int32) : Bool := decide (kd y n p = 1) && (decide (en y n p - bg y n p = w.length) && (List.range w.length).all (fun i => decide (y (bg y n p + i) = w.getD i 0)))
theorem kd_lt (p : Nat) : kd y n p ≤ 4 := by
  unfold kd
  split
  · have := kOf_cases (y (bg y n p))
    omega
  · omega
theorem kd_bg {p : Nat} (h : ¬ kd y n p = 0) : bg y n p < n := by
  unfold kd at h
  split at h
  · assumption
  · exact absurd rfl h
theorem c53 {d p : Nat} {S : St} (hT : TA y n p S) : Wp d b 53 0 [.ref 1] [] S (Ri (Vx (bi (decide (kd y n p = 0))) S)) := by
  have h3 := hT.2.2.1
  have hk := kd_lt (y := y) (n := n) p
  refine b53_0 (fun q => b53_11 (b53_12 (Or.inl rfl) ⟨_, rfl, ?_, rfl⟩)) (fun q => b53_7 (b53_12 (Or.inr rfl) ⟨_, rfl, ?_, rfl⟩))
  · rw [decide_eq_false (fun e => q (by rw [h3, e]; rfl))]; rfl
  · rw [h3] at q
    rw [decide_eq_true ((i_inj (b := 0) (by omega) (by omega)).1 (Classical.byContradiction q))]; rfl
theorem c54 {d p : Nat} {S : St} (hT : TA y n p S) : Wp d b 54 0 [.ref 1] [] S (Ri (Vx (bi (decide (kd y n p = 2))) S)) := by
  have h3 := hT.2.2.1
  have hk := kd_lt (y := y) (n := n) p
  refine b54_0 (fun q => b54_12 (b54_13 (Or.inl rfl) ⟨_, rfl, ?_, rfl⟩)) (fun q => b54_8 (b54_13 (Or.inr rfl) ⟨_, rfl, ?_, rfl⟩))
  · rw [decide_eq_false (fun e => q (by rw [h3, e]; rfl))]; rfl
  · rw [h3] at q
    rw [decide_eq_true ((i_inj (b := 2) (by omega) (by omega)).1 (Classical.byContradiction q))]; rfl
theorem c55 {d p : Nat} {c : Int32} {S : St} (hT : TA y n p S) : Wp (d + 1) b 55 0 [.ref 1, .int c] [] S (Ri (Vx (bi (isS y n p c)) S)) := by
  have h3 := hT.2.2.1
  have hk := kd_lt (y := y) (n := n) p
  unfold isS
  refine b55_0 (fun q => b55_24 (b55_25 (Or.inl rfl) ⟨_, rfl, ?_, rfl⟩)) (fun q => ?_)
  · rw [decide_eq_false (fun e => q (by rw [h3, e]; rfl))]; rfl
  · rw [h3] at q
    have e := (i_inj (b := 3) (by omega) (by omega)).1 (Classical.byContradiction q)
    have hb := kd_bg (y := y) (n := n) (p := p) (by omega)
    refine b55_8 (P := Vx (y (bg y n p)) S) (by rw [hT.2.1]; exact c57 hT.1 hb) ?_
    rintro _ _ ⟨rfl, rfl⟩
    rw [decide_eq_true e, Bool.true_and]
    refine b55_16 (fun q => b55_24 (b55_25 (Or.inl rfl) ⟨_, rfl, ?_, rfl⟩)) (fun q => b55_20 (b55_25 (Or.inr rfl) ⟨_, rfl, ?_, rfl⟩))
    · rw [decide_eq_false q]; rfl
    · rw [decide_eq_true (Classical.byContradiction q)]; rfl
theorem rng_all (p : Nat → Bool) {i k : Nat} (hk : i < k) (h : p i = false) : (List.range k).all p = false := by
  rw [Bool.eq_false_iff]
  intro q
  have := List.all_eq_true.1 q i (List.mem_range.2 hk)
  rw [h] at this
  cases this
theorem c56 {d p q : Nat} {w : List Int32} {S : St} (hT : TA y n p S) (hp : p ≤ n) (hq : 2000 ≤ q ∧ q < 2053) (hw : sByt.getD (q - 2000) [] = w) (hwl : w.length ≤ 400) : Wp (d + 1) b 56 0 [.ref 1, .ref q] [] S (Ri (Vx (bi (isWl y n p w)) S)) := by
  obtain ⟨hB, h4, h3, h5, _⟩ := id hT
  have hk := kd_lt (y := y) (n := n) p
  have h400 := hB.2.1
  obtain ⟨e1, e2, _⟩ := en_le (y := y) hp
  have hl : sLen q = w.length := by unfold sLen; rw [hw]
  have hc : ∀ i, sCh q i = w.getD i 0 := fun i => by unfold sCh; rw [hw]
  unfold isWl
  refine b56_0 (fun z => b56_24 (Or.inl rfl) ⟨_, rfl, ?_, rfl⟩) (fun z => ?_)
  · rw [decide_eq_false (fun e => z (by rw [h3, e]; rfl))]; rfl
  rw [h3] at z
  have ek := (i_inj (b := 1) (by omega) (by omega)).1 (Classical.byContradiction z)
  rw [decide_eq_true ek, Bool.true_and]
  refine b56_8 hq (fun z => b56_26 ?_) (fun z => b56_24 (Or.inl rfl) ⟨_, rfl, ?_, rfl⟩)
  rotate_left
  · rw [decide_eq_false (fun e => z (by rw [h5, h4, i_sub e1, hl, e]))]; rfl
  rw [h5, h4, i_sub e1, hl] at z
  have el := (i_inj (by omega) (by omega)).1 z
  rw [decide_eq_true el, Bool.true_and]
  have loop : ∀ k i, i + k = w.length → (∀ j, j < i → y (bg y n p + j) = w.getD j 0) → Wp (d + 1) b 56 28 [.ref 1, .ref q, .int (Int32.ofNat i)] [] S (Ri (Vx (bi ((List.range w.length).all (fun i => decide (y (bg y n p + i) = w.getD i 0)))) S)) := by
    intro k
    induction k with
    | zero =>
      intro i hi h
      have hi : i = w.length := hi
      refine b56_28 hq (fun _ => b56_62 (Or.inr rfl) ⟨_, rfl, ?_, rfl⟩) (fun z => absurd ?_ z)
      · rw [List.all_eq_true.2 (fun j hj => decide_eq_true (h j (by rw [hi]; exact List.mem_range.1 hj)))]; rfl
      · rw [hl, hi]
        exact (i_le (by omega) (by omega)).2 (Nat.le_refl _)
    | succ k ih =>
      intro i hi h
      refine b56_28 hq (fun z => ?_) (fun _ => b56_36 (P := Vx (y (bg y n p + i)) S) (by rw [h4, i_add]; exact c57 hB (by omega)) ?_)
      · rw [hl] at z
        have := (i_le (by omega) (by omega)).1 z
        omega
      rintro _ _ ⟨rfl, rfl⟩
      refine b56_46 hq (i_vp (by omega) (by omega)) (fun z => b56_56 ?_) (fun z => b56_54 (Or.inl rfl) ⟨_, rfl, ?_, rfl⟩)
      · rw [i_cl (by omega), hc] at z
        rw [i_suc]
        refine ih (i + 1) (by omega) (fun j hj => ?_)
        by_cases e : j = i
        · rw [e]; exact z
        · exact h j (by omega)
      · rw [i_cl (by omega), hc] at z
        rw [rng_all _ (i := i) (by omega) (decide_eq_false z)]; rfl
  exact loop w.length 0 (by omega) (fun j hj => absurd hj (Nat.not_lt_zero _))
theorem c50 {d : Nat} {S : St} {Q : Out → St → Prop} (hn : n ≤ 400) (hy : ∀ i, i < n → S.2.1 14 i &&& 255 = y i) (K : ∀ S1, Fz [(1, 1), (1, 2), (1, 3), (1, 4), (1, 5), (1, 6)] [] S S1 → S1.1 1 1 = 0 → TA y n 0 S1 → Q (.inl none) S1) : Wp (d + 2) b 50 0 [.ref 1, .int (Int32.ofNat n)] [] S Q := by
  have e : (if (400 : Int32) < Int32.ofNat n then (400 : Int32) else Int32.ofNat n) = Int32.ofNat n := if_neg (fun q => by
    have := (i_lt (a := 400) (by omega) (by omega)).1 q
    omega)
  have f0 : Fz [(1, 1), (1, 2), (1, 3), (1, 4), (1, 5), (1, 6)] [] S (setI (setI (setI S 1 1 0) 1 2 (if (400 : Int32) < Int32.ofNat n then (400 : Int32) else Int32.ofNat n)) 1 5 0) := ((Fz.refl.seti (by decide)).seti (by decide)).seti (by decide)
  refine b50_0 (P := fun S1 => Fz [(1, 1), (1, 2), (1, 3), (1, 4), (1, 5), (1, 6)] [] S S1 ∧ S1.1 1 1 = 0 ∧ TA y n 0 S1) (c51 (y := y) (n := n) (p := 0) ⟨?_, hn, fun i hi => by rw [f0.a (by decide)]; exact hy i hi⟩ (by omega) seti_same (fun S1 a1 a2 => ⟨rfl, f0.trans (a1.mono (by decide) (by decide)), ?_, a2⟩)) ?_
  · exact (seti_ne (by decide)).trans (seti_same.trans e)
  · exact (a1.f (by decide)).trans ((seti_ne (by decide)).trans ((seti_ne (by decide)).trans seti_same))
  · rintro S1 ⟨a1, a2, a3⟩
    exact b50_27 (K S1 a1 a2 a3)
end TOKEN2
