/-! READING: the reference's steps -/
section MREAD
variable {b : Nat} {y : Nat → Int32} {n : Nat}
abbrev RF : List (Nat × Nat) := [(46, 45), (46, 46), (46, 47), (46, 48), (46, 49), (46, 50)]
/-- how the reading stands: its fault, and the place from which its token is sought -/
def MS (y : Nat → Int32) (n : Nat) (r : Nat × Nat) (S : St) : Prop := r.2 ≤ n ∧ ((r.1 = 0 ∧ S.1 46 49 = 0 ∧ MTA y n r.2 S) ∨ (0 < r.1 ∧ r.1 < 1000 ∧ S.1 46 49 = Int32.ofNat r.1 ∧ S.1 46 50 = Int32.ofNat (bg y n r.2)))
theorem MS.of {fs : List (Nat × Nat)} {as : List Nat} {r : Nat × Nat} {S S1 : St} (h : MS y n r S) (hF : Fz fs as S S1) (q : (46, 44) ∉ fs ∧ 64 ∉ as ∧ (46, 45) ∉ fs ∧ (46, 46) ∉ fs ∧ (46, 47) ∉ fs ∧ (46, 48) ∉ fs ∧ (46, 49) ∉ fs ∧ (46, 50) ∉ fs) : MS y n r S1 := by
  obtain ⟨h1, h2⟩ := h
  refine ⟨h1, ?_⟩
  rcases h2 with ⟨a1, a2, a3⟩ | ⟨a1, a2, a3, a4⟩
  · exact Or.inl ⟨a1, (hF.f q.2.2.2.2.2.2.1).trans a2, a3.of hF ⟨q.1, q.2.1, q.2.2.1, q.2.2.2.1, q.2.2.2.2.1, q.2.2.2.2.2.1⟩⟩
  · exact Or.inr ⟨a1, a2, (hF.f q.2.2.2.2.2.2.1).trans a3, (hF.f q.2.2.2.2.2.2.2).trans a4⟩
theorem MS.bad {r : Nat × Nat} {S : St} (h : MS y n r S) : S.1 46 49 = Int32.ofNat r.1 ∧ r.1 < 1000 := by
  rcases h.2 with ⟨a1, a2, _⟩ | ⟨_, a2, a3, _⟩
  · rw [a1]; exact ⟨a2, by omega⟩
  · exact ⟨a3, a2⟩
theorem MS.bad0 {r : Nat × Nat} {S : St} (h : MS y n r S) : S.1 46 49 = 0 ↔ r.1 = 0 := by
  obtain ⟨h1, h2⟩ := h.bad
  rw [h1]
  exact ⟨fun q => (i_inj (b := 0) (by omega) (by omega)).1 q, fun q => by rw [q]; rfl⟩
theorem MS.good {r : Nat × Nat} {S : St} (h : MS y n r S) (h0 : r.1 = 0) : MTA y n r.2 S := by
  rcases h.2 with ⟨_, _, a3⟩ | ⟨a1, _⟩
  · exact a3
  · omega
def pasR (y : Nat → Int32) (n : Nat) (r : Nat × Nat) : Nat × Nat := if r.1 = 0 then (0, en y n r.2) else r
def wrgR (k : Nat) (r : Nat × Nat) : Nat × Nat := if r.1 = 0 then (k, r.2) else r
def isSR (y : Nat → Int32) (n : Nat) (r : Nat × Nat) (c : Int32) : Bool := decide (r.1 = 0) && isS y n r.2 c
def isWR (y : Nat → Int32) (n : Nat) (r : Nat × Nat) (w : List Int32) : Bool := decide (r.1 = 0) && isWl y n r.2 w
def mustR (y : Nat → Int32) (n : Nat) (r : Nat × Nat) (c : Int32) : Nat × Nat := pasR y n (if isSR y n r c = true then r else wrgR 1 r)
def numR (y : Nat → Int32) (n : Nat) (lo hi : Int32) (r : Nat × Nat) : Nat × Nat := pasR y n (if r.1 = 0 then (if kd y n r.2 = 2 then (if lo ≤ nv y n r.2 ∧ nv y n r.2 ≤ hi then r else (2, r.2)) else (1, r.2)) else r)
def numV (y : Nat → Int32) (n : Nat) (r : Nat × Nat) : Int32 := if r.1 = 0 ∧ kd y n r.2 = 2 then nv y n r.2 else 0
def sgR (y : Nat → Int32) (n : Nat) (hi : Int32) (r : Nat × Nat) : Nat × Nat := numR y n 0 hi (if isSR y n r 45 = true then pasR y n r else r)
def sgV (y : Nat → Int32) (n : Nat) (r : Nat × Nat) : Int32 := if isSR y n r 45 = true then - numV y n (pasR y n r) else numV y n r
theorem w240 {d : Nat} {S : St} {Q : Out → St → Prop} (hn : n ≤ 400) (hy : ∀ i, i < n → S.2.1 64 i = y i ∧ ¬ y i = -1) (K : ∀ S1, Fz [(46, 44), (46, 45), (46, 46), (46, 47), (46, 48), (46, 49), (46, 50), (46, 52)] [] S S1 → S1.1 46 52 = 0 → MS y n (0, 0) S1 → Q (.inl none) S1) : Wp (d + 2) b 240 0 [.ref 46, .int (Int32.ofNat n)] [] S Q := by
  have f0 : Fz [(46, 44), (46, 45), (46, 46), (46, 47), (46, 48), (46, 49), (46, 50), (46, 52)] [] S (setI (setI (setI (setI S 46 44 (Int32.ofNat n)) 46 45 0) 46 49 0) 46 52 0) := (((Fz.refl.seti (by decide)).seti (by decide)).seti (by decide)).seti (by decide)
  have e44 : (setI (setI (setI (setI S 46 44 (Int32.ofNat n)) 46 45 0) 46 49 0) 46 52 0).1 46 44 = Int32.ofNat n := (seti_ne (by decide)).trans ((seti_ne (by decide)).trans ((seti_ne (by decide)).trans seti_same))
  have e45 : (setI (setI (setI (setI S 46 44 (Int32.ofNat n)) 46 45 0) 46 49 0) 46 52 0).1 46 45 = Int32.ofNat 0 := (seti_ne (by decide)).trans ((seti_ne (by decide)).trans seti_same)
  have e49 : (setI (setI (setI (setI S 46 44 (Int32.ofNat n)) 46 45 0) 46 49 0) 46 52 0).1 46 49 = 0 := (seti_ne (by decide)).trans seti_same
  have e52 : (setI (setI (setI (setI S 46 44 (Int32.ofNat n)) 46 45 0) 46 49 0) 46 52 0).1 46 52 = 0 := seti_same
  refine b240_0 (P := fun S1 => Fz [(46, 44), (46, 45), (46, 46), (46, 47), (46, 48), (46, 49), (46, 50), (46, 52)] [] S S1 ∧ S1.1 46 52 = 0 ∧ MS y n (0, 0) S1) (w239 (y := y) (n := n) (p := 0) ⟨e44, hn, fun i hi => ⟨(f0.a (by decide) i).trans (hy i hi).1, (hy i hi).2⟩⟩ (by omega) e45 (fun S1 a1 a2 => ⟨rfl, f0.trans (a1.mono (by decide) (by decide)), (a1.f (by decide)).trans e52, by omega, Or.inl ⟨rfl, (a1.f (by decide)).trans e49, a2⟩⟩)) ?_
  rintro S1 ⟨a1, a2, a3⟩
  exact b240_24 (K S1 a1 a2 a3)
theorem w241 {d k : Nat} {r : Nat × Nat} {S : St} {Q : Out → St → Prop} (hS : MS y n r S) (hk : 0 < k ∧ k < 1000) (K : ∀ S1, Fz RF [] S S1 → MS y n (wrgR k r) S1 → Q (.inl none) S1) : Wp d b 241 0 [.ref 46, .int (Int32.ofNat k)] [] S Q := by
  unfold wrgR at K
  refine b241_0 (fun q => b241_8 (K _ ((Fz.refl.seti (by decide)).seti (by decide)) ?_)) (fun q => b241_7 (K S Fz.refl ?_))
  · have h0 := hS.bad0.1 q
    rw [if_pos h0]
    refine ⟨hS.1, Or.inr ⟨hk.1, hk.2, (seti_ne (by decide)).trans seti_same, ?_⟩⟩
    rw [seti_same, seti_ne (by decide)]
    exact (hS.good h0).2.1
  · rw [if_neg (fun z => q (hS.bad0.2 z))]
    exact hS
theorem w242 {d : Nat} {r : Nat × Nat} {S : St} {Q : Out → St → Prop} (hS : MS y n r S) (K : ∀ S1, Fz RF [] S S1 → MS y n (pasR y n r) S1 → Q (.inl none) S1) : Wp (d + 2) b 242 0 [.ref 46] [] S Q := by
  unfold pasR at K
  refine b242_0 (fun q => b242_11 (K S Fz.refl ?_)) (fun q => ?_)
  · rw [if_neg (fun z => q (hS.bad0.2 z))]
    exact hS
  · have q := Classical.byContradiction q
    have h0 := hS.bad0.1 q
    have hA := hS.good h0
    have he := en_le (y := y) hS.1
    refine b242_7 (P := fun S1 => Fz RF [] S S1 ∧ MS y n (0, en y n r.2) S1) (w239 hA.1 he.2.1 hA.2.2.2.2 (fun S1 a1 a2 => ⟨rfl, a1.mono (by decide) (by decide), he.2.1, Or.inl ⟨rfl, (a1.f (by decide)).trans q, a2⟩⟩)) ?_
    rintro S1 ⟨a1, a2⟩
    refine b242_11 (K S1 a1 ?_)
    rw [if_pos h0]
    exact a2
theorem w243 {d : Nat} {r : Nat × Nat} {c : Int32} {S : St} (hS : MS y n r S) : Wp d b 243 0 [.ref 46, .int c] [] S (Ri (Vx (bi (isSR y n r c)) S)) := by
  unfold isSR isS
  refine b243_0 (fun q => b243_32 (b243_33 (Or.inl rfl) ⟨_, rfl, ?_, rfl⟩)) (fun q => ?_)
  · rw [decide_eq_false (fun z => q (hS.bad0.2 z))]; rfl
  have h0 := hS.bad0.1 (Classical.byContradiction q)
  have hA := hS.good h0
  have hk := kd_lt (y := y) (n := n) r.2
  have h400 := hA.1.2.1
  rw [decide_eq_true h0, Bool.true_and]
  refine b243_7 (fun q => b243_32 (b243_33 (Or.inl rfl) ⟨_, rfl, ?_, rfl⟩)) (fun q => ?_)
  · rw [decide_eq_false (fun e => q (by rw [hA.2.2.1, e]; rfl))]; rfl
  rw [hA.2.2.1] at q
  have e := (i_inj (b := 3) (by omega) (by omega)).1 (Classical.byContradiction q)
  have hb := kd_bg (y := y) (n := n) (p := r.2) (by omega)
  rw [decide_eq_true e, Bool.true_and]
  refine b243_15 (by rw [hA.2.1]; exact i_vp (by omega) (by omega)) (fun q => b243_32 (b243_33 (Or.inl rfl) ⟨_, rfl, ?_, rfl⟩)) (fun q => b243_28 (b243_33 (Or.inr rfl) ⟨_, rfl, ?_, rfl⟩))
  · rw [hA.2.1, i_cl (by omega), (hA.1.2.2 _ hb).1] at q
    rw [decide_eq_false q]; rfl
  · rw [hA.2.1, i_cl (by omega), (hA.1.2.2 _ hb).1] at q
    rw [decide_eq_true (Classical.byContradiction q)]; rfl
theorem w244 {d q : Nat} {r : Nat × Nat} {w : List Int32} {S : St} (hS : MS y n r S) (hq : 2000 ≤ q ∧ q < 2053) (hw : sByt.getD (q - 2000) [] = w) (hwl : w.length ≤ 400) : Wp d b 244 0 [.ref 46, .ref q] [] S (Ri (Vx (bi (isWR y n r w)) S)) := by
  have hl : sLen q = w.length := by unfold sLen; rw [hw]
  have hc : ∀ i, sCh q i = w.getD i 0 := fun i => by unfold sCh; rw [hw]
  unfold isWR isWl
  have no : ∀ v : Bool, v = false → Wp d b 244 35 [.ref 46, .ref q] [] S (Ri (Vx (bi v) S)) := by
    rintro v rfl
    exact b244_35 (b244_36 (b244_39 (fun _ => b244_82 (Or.inl rfl) ⟨_, rfl, rfl, rfl⟩) (fun z => absurd rfl z)))
  refine b244_0 (fun z => no _ ?_) (fun z => ?_)
  · rw [decide_eq_false (fun w => z (hS.bad0.2 w))]; rfl
  have h0 := hS.bad0.1 (Classical.byContradiction z)
  have hA := hS.good h0
  have hk := kd_lt (y := y) (n := n) r.2
  have h400 := hA.1.2.1
  obtain ⟨e1, e2, _⟩ := en_le (y := y) hS.1
  rw [decide_eq_true h0, Bool.true_and]
  refine b244_7 (fun z => no _ ?_) (fun z => ?_)
  · rw [decide_eq_false (fun e => z (by rw [hA.2.2.1, e]; rfl))]; rfl
  rw [hA.2.2.1] at z
  have ek := (i_inj (b := 1) (by omega) (by omega)).1 (Classical.byContradiction z)
  rw [decide_eq_true ek, Bool.true_and]
  refine b244_15 hq (fun z => no _ ?_) (fun z => b244_31 (b244_36 ?_))
  · rw [decide_eq_false (fun e => z (by rw [hA.2.2.2.1, hA.2.1, i_sub e1, hl, e]))]; rfl
  have z := Classical.byContradiction z
  rw [hA.2.2.2.1, hA.2.1, i_sub e1, hl] at z
  have el := (i_inj (by omega) (by omega)).1 z
  rw [decide_eq_true el.symm, Bool.true_and]
  have loop : ∀ k i, i + k = w.length → (∀ j, j < i → y (bg y n r.2 + j) = w.getD j 0) → Wp d b 244 39 [.ref 46, .ref q, .int 1, .int (Int32.ofNat i)] [] S (Ri (Vx (bi ((List.range w.length).all (fun i => decide (y (bg y n r.2 + i) = w.getD i 0)))) S)) := by
    intro k
    induction k with
    | zero =>
      intro i hi h
      have hi : i = w.length := hi
      refine b244_39 (fun z => absurd z (by decide)) (fun _ => b244_43 hq (fun _ => b244_82 (Or.inr rfl) ⟨_, rfl, ?_, rfl⟩) (fun z => absurd ?_ z))
      · rw [List.all_eq_true.2 (fun j hj => decide_eq_true (h j (by rw [hi]; exact List.mem_range.1 hj)))]; rfl
      · rw [hl, hi]
        exact (i_le (by omega) (by omega)).2 (Nat.le_refl _)
    | succ k ih =>
      intro i hi h
      refine b244_39 (fun z => absurd z (by decide)) (fun _ => b244_43 hq (fun z => ?_) (fun _ => b244_51 hq (i_vp (by omega) (by omega)) (by rw [hA.2.1, i_add]; exact i_vp (by omega) (by omega)) (fun z => b244_74 (b244_75 ?_)) (fun z => b244_70 (b244_75 ?_))))
      · rw [hl] at z
        have := (i_le (by omega) (by omega)).1 z
        omega
      · rw [hA.2.1, i_add, i_cl (by omega), i_cl (by omega), hc, (hA.1.2.2 _ (by omega)).1] at z
        refine b244_39 (fun _ => b244_82 (Or.inl rfl) ⟨_, rfl, ?_, rfl⟩) (fun z => absurd rfl z)
        rw [rng_all _ (i := i) (by omega) (decide_eq_false (fun e => z e.symm))]; rfl
      · have z := Classical.byContradiction z
        rw [hA.2.1, i_add, i_cl (by omega), i_cl (by omega), hc, (hA.1.2.2 _ (by omega)).1] at z
        rw [i_suc]
        refine ih (i + 1) (by omega) (fun j hj => ?_)
        by_cases e : j = i
        · rw [e]; exact z.symm
        · exact h j (by omega)
  exact loop w.length 0 (by omega) (fun j hj => absurd hj (Nat.not_lt_zero _))
theorem w245 {d : Nat} {r : Nat × Nat} {c : Int32} {S : St} {Q : Out → St → Prop} (hS : MS y n r S) (K : ∀ S1, Fz RF [] S S1 → MS y n (mustR y n r c) S1 → Q (.inl none) S1) : Wp (d + 3) b 245 0 [.ref 46, .int c] [] S Q := by
  unfold mustR at K
  refine b245_0 (w243 hS) ?_
  rintro _ _ ⟨rfl, rfl⟩
  have fin : ∀ S1 r1, Fz RF [] S S1 → MS y n r1 S1 → r1 = (if isSR y n r c = true then r else wrgR 1 r) → Wp (d + 3) b 245 13 [.ref 46, .int c] [] S1 Q := by
    intro S1 r1 hF hS1 e
    refine b245_13 (P := fun S2 => Fz RF [] S S2 ∧ MS y n (pasR y n r1) S2) (w242 hS1 (fun S2 a1 a2 => ⟨rfl, hF.trans a1, a2⟩)) ?_
    rintro S2 ⟨a1, a2⟩
    rw [e] at a2
    exact b245_17 (K S2 a1 a2)
  refine b245_5 (fun q => fin S r Fz.refl hS (by rw [if_pos (bi1.1 q)])) (fun q => b245_8 (P := fun S1 => Fz RF [] S S1 ∧ MS y n (wrgR 1 r) S1) (w241 (k := 1) hS (by omega) (fun S1 a1 a2 => ⟨rfl, a1, a2⟩)) ?_)
  rintro S1 ⟨a1, a2⟩
  exact fin S1 _ a1 a2 (by rw [bi0.1 (Classical.byContradiction q), if_neg (by decide)])
theorem w246 {d : Nat} {r : Nat × Nat} {lo hi : Int32} {S : St} {Q : Out → St → Prop} (hS : MS y n r S) (K : ∀ S1, Fz RF [] S S1 → MS y n (numR y n lo hi r) S1 → Q (.inl (some (.int (numV y n r)))) S1) : Wp (d + 3) b 246 0 [.ref 46, .int lo, .int hi] [] S Q := by
  unfold numR numV at K
  have fin : ∀ S1 r1 v x4, Fz RF [] S S1 → MS y n r1 S1 → r1 = (if r.1 = 0 then (if kd y n r.2 = 2 then (if lo ≤ nv y n r.2 ∧ nv y n r.2 ≤ hi then r else (2, r.2)) else (1, r.2)) else r) → v = (if r.1 = 0 ∧ kd y n r.2 = 2 then nv y n r.2 else 0) → Wp (d + 3) b 246 93 [.ref 46, .int lo, .int hi, .int v, .int x4] [] S1 Q := by
    intro S1 r1 v x4 hF hS1 e ev
    refine b246_93 (P := fun S2 => Fz RF [] S S2 ∧ MS y n (pasR y n r1) S2) (w242 hS1 (fun S2 a1 a2 => ⟨rfl, hF.trans a1, a2⟩)) ?_
    rintro S2 ⟨a1, a2⟩
    rw [e] at a2
    rw [ev]
    exact b246_97 (K S2 a1 a2)
  have skip : ∀ S1 r1, Fz RF [] S S1 → MS y n r1 S1 → ¬ r1.1 = 0 → r1 = (if r.1 = 0 then (if kd y n r.2 = 2 then (if lo ≤ nv y n r.2 ∧ nv y n r.2 ≤ hi then r else (2, r.2)) else (1, r.2)) else r) → ¬ (r.1 = 0 ∧ kd y n r.2 = 2) → Wp (d + 3) b 246 20 [.ref 46, .int lo, .int hi] [] S1 Q := by
    intro S1 r1 hF hS1 hb e hn
    have hb' : ¬ S1.1 46 49 = 0 := fun z => hb (hS1.bad0.1 z)
    exact b246_20 (b246_28 (fun _ => b246_72 (fun _ => fin S1 r1 0 _ hF hS1 e (by rw [if_neg hn])) (fun z => absurd hb' z)) (fun z => absurd hb' z))
  by_cases h0 : r.1 = 0
  · have hA := hS.good h0
    have hk := kd_lt (y := y) (n := n) r.2
    have h400 := hA.1.2.1
    have e49 : S.1 46 49 = 0 := hS.bad0.2 h0
    obtain ⟨e1, e2, _⟩ := en_le (y := y) hS.1
    rw [if_pos h0] at fin skip
    by_cases k2 : kd y n r.2 = 2
    · rw [if_pos k2, if_pos (⟨h0, k2⟩ : r.1 = 0 ∧ kd y n r.2 = 2)] at fin
      refine b246_0 (fun q => absurd e49 q) (fun _ => b246_7 (fun _ => b246_20 ?_) (fun q => absurd (by rw [hA.2.2.1, k2]; rfl) q))
      rw [hA.2.1]
      have loop : ∀ k i, i + k = en y n r.2 → bg y n r.2 ≤ i → Wp (d + 3) b 246 28 [.ref 46, .int lo, .int hi, .int (nvU y (bg y n r.2) (i - bg y n r.2)), .int (Int32.ofNat i)] [] S Q := by
        intro k
        induction k with
        | zero =>
          intro i hi' hbi
          have hi' : i = en y n r.2 := hi'
          refine b246_28 (fun q => absurd e49 q) (fun _ => b246_35 (fun _ => b246_72 (fun q => absurd e49 q) (fun _ => b246_79 s153 ?_)) (fun q => absurd ?_ q))
          · rintro _ _ ⟨rfl, rfl⟩
            have ev : nvU y (bg y n r.2) (i - bg y n r.2) = nv y n r.2 := by rw [hi']; rfl
            rw [ev]
            refine b246_85 (fun q => fin S r _ _ Fz.refl hS (by rw [if_pos (of_decide_eq_true (bi1.1 q))]) rfl) (fun q => b246_88 (P := fun S1 => Fz RF [] S S1 ∧ MS y n (wrgR 2 r) S1) (w241 (k := 2) hS (by omega) (fun S1 a1 a2 => ⟨rfl, a1, a2⟩)) ?_)
            rintro S1 ⟨a1, a2⟩
            refine fin S1 _ _ _ a1 a2 ?_ rfl
            rw [if_neg (of_decide_eq_false (bi0.1 (Classical.byContradiction q)))]
            unfold wrgR
            rw [if_pos h0]
          · rw [hA.2.2.2.1, hi']
            exact (i_le (by omega) (by omega)).2 (Nat.le_refl _)
        | succ k ih =>
          intro i hi' hbi
          refine b246_28 (fun q => absurd e49 q) (fun _ => b246_35 (fun q => ?_) (fun _ => b246_44 (i_vp (by omega) (by omega)) ?_))
          · rw [hA.2.2.2.1] at q
            have := (i_le (by omega) (by omega)).1 q
            omega
          · have := ih (i + 1) (by omega) (by omega)
            rw [show i + 1 - bg y n r.2 = (i - bg y n r.2) + 1 by omega] at this
            have en1 : nvU y (bg y n r.2) (i - bg y n r.2 + 1) = stp1 (nvU y (bg y n r.2) (i - bg y n r.2)) (y i) := by
              show stp1 _ (y (bg y n r.2 + (i - bg y n r.2))) = _
              rw [show bg y n r.2 + (i - bg y n r.2) = i by omega]
            rw [en1] at this
            rw [i_suc, i_cl (by omega), (hA.1.2.2 i (by omega)).1, Int32.mul_comm]
            exact this
      have := loop (en y n r.2 - bg y n r.2) (bg y n r.2) (by omega) (Nat.le_refl _)
      rw [Nat.sub_self] at this
      exact this
    · rw [if_neg k2] at skip
      refine b246_0 (fun q => absurd e49 q) (fun _ => b246_7 (fun q => ?_) (fun _ => b246_15 (P := fun S1 => Fz RF [] S S1 ∧ MS y n (wrgR 1 r) S1) (w241 (k := 1) hS (by omega) (fun S1 a1 a2 => ⟨rfl, a1, a2⟩)) ?_))
      · rw [hA.2.2.1] at q
        exact absurd ((i_inj (b := 2) (by omega) (by omega)).1 q) k2
      · rintro S1 ⟨a1, a2⟩
        have e : wrgR 1 r = (1, r.2) := by unfold wrgR; rw [if_pos h0]
        rw [e] at a2
        exact skip S1 _ a1 a2 (show ¬ 1 = 0 by omega) rfl (fun z => k2 z.2)
  · have e49 : ¬ S.1 46 49 = 0 := fun z => h0 (hS.bad0.1 z)
    rw [if_neg h0] at skip
    exact b246_0 (fun _ => skip S r Fz.refl hS h0 rfl (fun z => h0 z.1)) (fun q => absurd e49 q)
theorem w247 {d : Nat} {r : Nat × Nat} {hi : Int32} {S : St} {Q : Out → St → Prop} (hS : MS y n r S) (K : ∀ S1, Fz RF [] S S1 → MS y n (sgR y n hi r) S1 → Q (.inl (some (.int (sgV y n r)))) S1) : Wp (d + 4) b 247 0 [.ref 46, .int hi] [] S Q := by
  unfold sgR sgV at K
  refine b247_0 (w243 hS) ?_
  rintro _ _ ⟨rfl, rfl⟩
  refine b247_6 (fun q => ?_) (fun q => ?_)
  · have e := bi0.1 q
    rw [e, if_neg (by decide), if_neg (by decide)] at K
    rw [e]
    refine b247_15 (P := fun v S1 => v = numV y n r ∧ Fz RF [] S S1 ∧ MS y n (numR y n 0 hi r) S1) (w246 hS (fun S1 a1 a2 => ⟨_, rfl, rfl, a1, a2⟩)) ?_
    rintro _ S1 ⟨rfl, a1, a2⟩
    exact b247_21 (fun _ => b247_31 (b247_32 (K S1 a1 a2))) (fun z => absurd rfl z)
  · have e := bi1.1 q
    rw [e, if_pos rfl, if_pos rfl] at K
    rw [e]
    refine b247_11 (P := fun S1 => Fz RF [] S S1 ∧ MS y n (pasR y n r) S1) (w242 hS (fun S1 a1 a2 => ⟨rfl, a1, a2⟩)) ?_
    rintro S1 ⟨a1, a2⟩
    refine b247_15 (P := fun v S2 => v = numV y n (pasR y n r) ∧ Fz RF [] S S2 ∧ MS y n (numR y n 0 hi (pasR y n r)) S2) (w246 a2 (fun S2 b1 b2 => ⟨_, rfl, rfl, a1.trans b1, b2⟩)) ?_
    rintro _ S2 ⟨rfl, b1, b2⟩
    exact b247_21 (fun z => absurd z (by decide)) (fun _ => b247_26 (b247_32 (K S2 b1 b2)))
theorem w248 {d : Nat} {r : Nat × Nat} {S : St} {Q : Out → St → Prop} (hS : MS y n r S) (K : ∀ S1, Fz [(46, 43), (46, 51)] [] S S1 → S1.1 46 43 = 0 → S1.1 46 51 = (if r.1 = 0 then -1 else Int32.ofNat (bg y n r.2)) → Q (.inl (some (.int (Int32.ofNat r.1)))) S1) : Wp d b 248 0 [.ref 46] [] S Q := by
  have f0 : Fz [(46, 43), (46, 51)] [] S (setI S 46 43 0) := Fz.refl.seti (by decide)
  have e49 : (setI S 46 43 0).1 46 49 = Int32.ofNat r.1 := (seti_ne (by decide)).trans hS.bad.1
  have hb := hS.bad.2
  have fin : ∀ v, v = (if r.1 = 0 then -1 else Int32.ofNat (bg y n r.2)) → Wp d b 248 21 [.ref 46] [.int v, .ref 46] (setI S 46 43 0) Q := by
    intro v hv
    refine b248_21 ?_
    rw [seti_ne (by decide), e49]
    exact K _ (f0.seti (by decide)) ((seti_ne (by decide)).trans seti_same) (seti_same.trans hv)
  refine b248_0 (fun q => b248_17 (fin _ ?_)) (fun q => b248_13 (fin _ ?_))
  · rw [e49] at q
    have h0 : ¬ r.1 = 0 := fun z => q (by rw [z]; rfl)
    rw [if_neg h0]
    rcases hS.2 with ⟨a1, _⟩ | ⟨_, _, _, a4⟩
    · exact absurd a1 h0
    · exact (seti_ne (by decide)).trans a4
  · rw [e49] at q
    rw [if_pos ((i_inj (b := 0) (by omega) (by omega)).1 (Classical.byContradiction q))]
end MREAD
