/-! RAYS READ: what is read, the reference -/
section MRAYS
variable {b D : Nat} {y : Nat → Int32} {n : Nat}
theorem rn_all {t : Nat} : ∀ k p, p + k = n → ∀ i, p ≤ i → i < rn y n t p → kOf (y i) = t := by
  intro k
  induction k with
  | zero =>
    intro p hp i h1 h2
    rw [rn_no (fun q => by omega)] at h2
    omega
  | succ k ih =>
    intro p hp i h1 h2
    by_cases h : p < n ∧ kOf (y p) = t
    · rw [rn_yes h.1 h.2] at h2
      by_cases e : i = p
      · rw [e]; exact h.2
      · exact ih (p + 1) (by omega) i (by omega) h2
    · rw [rn_no h] at h2
      omega
theorem kOf2 {x : Int32} (h : kOf x = 2) : 48 ≤ x.toInt ∧ x.toInt ≤ 57 := by
  unfold kOf at h
  split at h
  · split at h
    · split at h <;> cases h
    · rename_i q
      have q1 : ¬ x < 48 := fun z => q (Or.inl z)
      have q2 : ¬ 57 < x := fun z => q (Or.inr z)
      rw [Int32.lt_iff_toInt_lt] at q1 q2
      have e1 : (48 : Int32).toInt = 48 := by decide
      have e2 : (57 : Int32).toInt = 57 := by decide
      omega
  · cases h
theorem stp1_b {v x : Int32} (hv : 0 ≤ v.toInt ∧ v.toInt ≤ 1000000) (hx : 48 ≤ x.toInt ∧ x.toInt ≤ 57) : 0 ≤ (stp1 v x).toInt ∧ (stp1 v x).toInt ≤ 1000000 := by
  have e10 : (10 : Int32).toInt = 10 := by decide
  have e48 : (48 : Int32).toInt = 48 := by decide
  have em : (1000000 : Int32).toInt = 1000000 := by decide
  have m1 : (v * 10).toInt = v.toInt * 10 := by rw [ti_mul (by rw [e10]; omega) (by rw [e10]; omega), e10]
  have m2 : (v * 10 + x).toInt = v.toInt * 10 + x.toInt := by rw [ti_add (by rw [m1]; omega) (by rw [m1]; omega), m1]
  have m3 : (v * 10 + x - 48).toInt = v.toInt * 10 + x.toInt - 48 := by rw [ti_sub (by rw [m2, e48]; omega) (by rw [m2, e48]; omega), m2, e48]
  unfold stp1
  split
  · rename_i q
    rw [Int32.lt_iff_toInt_lt, em] at q
    rw [m3] at q ⊢
    omega
  · rw [em]; omega
theorem nv_b {p : Nat} (hp : p ≤ n) (h : kd y n p = 2) : 0 ≤ (nv y n p).toInt ∧ (nv y n p).toInt ≤ 1000000 := by
  have hb := kd_bg (y := y) (n := n) (p := p) (by omega)
  have hen : en y n p = rn y n 2 (bg y n p) := by unfold en; rw [if_neg (by omega), if_neg (by omega), h]
  have dg := rn_all (y := y) (n := n) (t := 2) (n - bg y n p) (bg y n p) (by omega)
  rw [← hen] at dg
  have : ∀ k, bg y n p + k ≤ en y n p → 0 ≤ (nvU y (bg y n p) k).toInt ∧ (nvU y (bg y n p) k).toInt ≤ 1000000 := by
    intro k
    induction k with
    | zero =>
      intro _
      have e : nvU y (bg y n p) 0 = 0 := rfl
      rw [e]
      exact ⟨by decide, by decide⟩
    | succ k ih => intro hk; exact stp1_b (ih (by omega)) (kOf2 (dg _ (by omega) (by omega)))
  have e := (en_le (y := y) hp).1
  exact this _ (by omega)
theorem numV_b {r : Nat × Nat} (hr : r.2 ≤ n) : 0 ≤ (numV y n r).toInt ∧ (numV y n r).toInt ≤ 1000000 := by
  unfold numV
  split
  · rename_i h
    exact nv_b hr h.2
  · exact ⟨by decide, by decide⟩
theorem pasR_le {r : Nat × Nat} (hr : r.2 ≤ n) : (pasR y n r).2 ≤ n := by
  unfold pasR
  split
  · exact (en_le (y := y) hr).2.1
  · exact hr
theorem numR_le {r : Nat × Nat} {lo hi : Int32} (hr : r.2 ≤ n) : (numR y n lo hi r).2 ≤ n := by
  unfold numR
  refine pasR_le ?_
  split
  · split
    · split
      · exact hr
      · exact hr
    · exact hr
  · exact hr
theorem sgR_le {r : Nat × Nat} {hi : Int32} (hr : r.2 ≤ n) : (sgR y n hi r).2 ≤ n := by
  unfold sgR
  refine numR_le ?_
  split
  · exact pasR_le hr
  · exact hr
/-- a signed number of at most 9 that is read without a fault -/
theorem sgV_b {r : Nat × Nat} (hr : r.2 ≤ n) (h0 : (sgR y n 9 r).1 = 0) : -9 ≤ (sgV y n r).toInt ∧ (sgV y n r).toInt ≤ 9 := by
  have key : ∀ q : Nat × Nat, q.2 ≤ n → (numR y n 0 9 q).1 = 0 → 0 ≤ (numV y n q).toInt ∧ (numV y n q).toInt ≤ 9 := by
    intro q hq h
    have hb := numV_b (y := y) hq
    refine ⟨hb.1, ?_⟩
    have e9 : (9 : Int32).toInt = 9 := by decide
    unfold numR pasR at h
    unfold numV
    by_cases h1 : q.1 = 0
    · rw [if_pos h1] at h
      by_cases h2 : kd y n q.2 = 2
      · rw [if_pos h2] at h
        rw [if_pos ⟨h1, h2⟩]
        by_cases h3 : (0 : Int32) ≤ nv y n q.2 ∧ nv y n q.2 ≤ 9
        · have := Int32.le_iff_toInt_le.1 h3.2
          omega
        · rw [if_neg h3] at h
          cases h
      · rw [if_neg h2] at h
        cases h
    · rw [if_neg h1, if_neg h1] at h
      exact absurd h h1
  unfold sgR at h0
  unfold sgV
  by_cases hs : isSR y n r 45 = true
  · rw [if_pos hs] at h0 ⊢
    have := key _ (pasR_le hr) h0
    rw [ti_neg (by omega) (by omega)]
    omega
  · rw [if_neg hs] at h0 ⊢
    have := key _ hr h0
    omega
theorem sgR_bad {r : Nat × Nat} {hi : Int32} (h : ¬ r.1 = 0) : sgR y n hi r = r := by
  have e : isSR y n r 45 = false := by unfold isSR; rw [decide_eq_false h]; rfl
  unfold sgR
  rw [e, if_neg Bool.false_ne_true]
  unfold numR
  rw [if_neg h]
  unfold pasR
  rw [if_neg h]
def wSides : List Int32 := [115, 105, 100, 101, 115]
def wRay : List Int32 := [114, 97, 121]
def sdR (y : Nat → Int32) (n : Nat) (a : Nat × Nat) : Nat → Nat × Nat
  | 0 => a
  | j + 1 => sgR y n 9 (sdR y n a j)
theorem sdR_le {a : Nat × Nat} (ha : a.2 ≤ n) (j : Nat) : (sdR y n a j).2 ≤ n := by
  induction j with
  | zero => exact ha
  | succ j ih => exact sgR_le ih
theorem sdR_back {a : Nat × Nat} {j : Nat} : ∀ k, (sdR y n a (j + k)).1 = 0 → (sdR y n a j).1 = 0 := by
  intro k
  induction k with
  | zero => exact id
  | succ k ih =>
    intro h
    refine ih (Classical.byContradiction (fun q => ?_))
    have : (sgR y n 9 (sdR y n a (j + k))).1 = 0 := h
    rw [sgR_bad q] at this
    exact q this
/-- the numbers of the ray that is read -/
def vecR (y : Nat → Int32) (n D : Nat) (a : Nat × Nat) (k : Nat) : Int := if k < D then (sgV y n (sdR y n a k)).toInt else 0
theorem vecR_b9 {a : Nat × Nat} (hD : D ≤ 4) (ha : a.2 ≤ n) (h : (sdR y n a D).1 = 0) : B9 (vecR y n D a) := by
  intro k hk
  unfold vecR
  split
  · rename_i q
    refine sgV_b (sdR_le ha k) ?_
    have := sdR_back (y := y) (n := n) (a := a) (j := k + 1) (D - (k + 1)) (by rw [show k + 1 + (D - (k + 1)) = D by omega]; exact h)
    exact this
  · omega
def noR (nu : Nat → Nat → Int) (r : Nat) : Bool := decide (∀ k : Fin 4, nu r k.val = 0) || (List.range r).any (fun o => parB (nu r) (nu o))
theorem noR_iff {nu : Nat → Nat → Int} {r : Nat} : noR nu r = true ↔ (¬ Nz (nu r) ∨ ∃ o, o < r ∧ Par (nu r) (nu o)) := by
  unfold noR
  rw [Bool.or_eq_true, List.any_eq_true, decide_eq_true_eq]
  constructor
  · rintro (h | ⟨o, ho, h⟩)
    · exact Or.inl (fun ⟨k, hk, hz⟩ => hz (h ⟨k, hk⟩))
    · exact Or.inr ⟨o, List.mem_range.1 ho, parB_iff.1 h⟩
  · rintro (h | ⟨o, ho, h⟩)
    · exact Or.inl (fun k => Classical.byContradiction (fun z => h ⟨k.val, k.isLt, z⟩))
    · exact Or.inr ⟨o, List.mem_range.2 ho, parB_iff.2 h⟩
/-- at the ray's word -/
def rayA (y : Nat → Int32) (n : Nat) (q : Nat × Nat) (c : Nat) : Nat × Nat := pasR y n (if isWR y n q wRay = true then (if c = 20 then (4, q.2) else q) else wrgR 1 q)
def addV (nu : Nat → Nat → Int) (r : Nat) (v : Nat → Int) : Nat → Nat → Int := fun o k => if o = r then v k else nu o k
def rayZ (y : Nat → Int32) (n D : Nat) (nu' : Nat → Nat → Int) (r : Nat) (a : Nat × Nat) : Nat × Nat := mustR y n (if isSR y n (sdR y n a D) 59 = true ∧ noR nu' r = true then (3, (sdR y n a D).2) else sdR y n a D) 59
def stepR (y : Nat → Int32) (n D r : Nat) (s : (Nat × Nat) × (Nat → Nat → Int)) : (Nat × Nat) × (Nat → Nat → Int) := (rayZ y n D (addV s.2 r (vecR y n D (rayA y n s.1 r))) r (rayA y n s.1 r), addV s.2 r (vecR y n D (rayA y n s.1 r)))
def rq (y : Nat → Int32) (n D : Nat) (q : Nat × Nat) : Nat → (Nat × Nat) × (Nat → Nat → Int)
  | 0 => (q, fun _ _ => 0)
  | r + 1 => stepR y n D r (rq y n D q r)
/-- the reference's numbers that are read -/
def MRd (D r : Nat) (nu : Nat → Nat → Int) (S : St) : Prop := ∀ o k, o < r → k < D → (S.2.1 65 (4 * o + k)).toInt = nu o k
theorem w249 {d r k : Nat} {S : St} (hr : r < 21) (hk : k < 4) : Wp d b 249 0 [.ref 46, .int (Int32.ofNat r), .int (Int32.ofNat k)] [] S (Ri (Vx (S.2.1 65 (4 * r + k)) S)) := by
  have e : (4 : Int32) * Int32.ofNat r + Int32.ofNat k = Int32.ofNat (4 * r + k) := by rw [show (4 : Int32) = Int32.ofNat 4 from rfl, i_mul, i_add]
  refine b249_0 (by rw [e]; exact i_vp (by omega) (by omega)) ⟨_, rfl, ?_, rfl⟩
  rw [e, i_cl (by omega)]
theorem w250 {d r o : Nat} {nu : Nat → Nat → Int} {S : St} (hD : D = 3 ∨ D = 4) (h53 : S.1 46 53 = Int32.ofNat D) (hr : r < 21) (ho : o < r) (hM : MRd D (r + 1) nu S) (h9 : ∀ o, o ≤ r → B9 (nu o) ∧ ∀ k, D ≤ k → nu o k = 0) : Wp (d + 1) b 250 0 [.ref 46, .int (Int32.ofNat r), .int (Int32.ofNat o)] [] S (Ri (Vx (bi (parB (nu r) (nu o))) S)) := by
  refine b250_0 ?_
  obtain ⟨r9, rz⟩ := h9 r (Nat.le_refl _)
  obtain ⟨o9, oz⟩ := h9 o (by omega)
  have par : parB (nu r) (nu o) = true ↔ ∀ i k, i < D → k < D → nu r i * nu o k = nu r k * nu o i := by
    rw [parB_iff]
    constructor
    · exact fun h i k hi hk => h i k (by omega) (by omega)
    · intro h i k hi hk
      by_cases hi' : i < D
      · by_cases hk' : k < D
        · exact h i k hi' hk'
        · rw [rz k (by omega), oz k (by omega), Int.mul_zero, Int.zero_mul]
      · rw [rz i (by omega), oz i (by omega), Int.mul_zero, Int.zero_mul]
  have outer : ∀ j i, i + j = D → (∀ i' k, i' < i → k < D → nu r i' * nu o k = nu r k * nu o i') → Wp (d + 1) b 250 2 [.ref 46, .int (Int32.ofNat r), .int (Int32.ofNat o), .int (Int32.ofNat i)] [] S (Ri (Vx (bi (parB (nu r) (nu o))) S)) := by
    intro j
    induction j with
    | zero =>
      intro i hi h
      have hi : i = D := hi
      refine b250_2 (fun _ => b250_67 (Or.inr rfl) ⟨_, rfl, ?_, rfl⟩) (fun q => absurd ?_ q)
      · rw [par.2 (fun i' k hi' hk => h i' k (by omega) hk)]; rfl
      · rw [h53, hi]
        exact (i_le (by omega) (by omega)).2 (Nat.le_refl _)
    | succ j iho =>
      intro i hi h
      refine b250_2 (fun q => ?_) (fun _ => b250_10 ?_)
      · rw [h53] at q
        have := (i_le (by omega) (by omega)).1 q
        omega
      have inner : ∀ j k, k + j = D → (∀ k', k' < k → nu r i * nu o k' = nu r k' * nu o i) → Wp (d + 1) b 250 13 [.ref 46, .int (Int32.ofNat r), .int (Int32.ofNat o), .int (Int32.ofNat i), .int (Int32.ofNat k)] [] S (Ri (Vx (bi (parB (nu r) (nu o))) S)) := by
        intro j
        induction j with
        | zero =>
          intro k hk hh
          have hk : k = D := hk
          refine b250_13 (fun _ => b250_61 ?_) (fun q => absurd ?_ q)
          · rw [i_suc]
            refine iho (i + 1) (by omega) (fun i' k' hi' hk' => ?_)
            by_cases e : i' = i
            · rw [e]; exact hh k' (by omega)
            · exact h i' k' (by omega) hk'
          · rw [h53, hk]
            exact (i_le (by omega) (by omega)).2 (Nat.le_refl _)
        | succ j ihi =>
          intro k hk hh
          refine b250_13 (fun q => ?_) (fun _ => b250_22 (w249 hr (by omega)) ?_)
          · rw [h53] at q
            have := (i_le (by omega) (by omega)).1 q
            omega
          rintro _ _ ⟨rfl, rfl⟩
          refine b250_28 (w249 (by omega) (by omega : k < 4)) ?_
          rintro _ _ ⟨rfl, rfl⟩
          refine b250_35 (w249 hr (by omega : k < 4)) ?_
          rintro _ _ ⟨rfl, rfl⟩
          refine b250_43 (w249 (by omega) (by omega : i < 4)) ?_
          rintro _ _ ⟨rfl, rfl⟩
          have a1 := hM r i (by omega) (by omega)
          have a2 := hM o k (by omega) (by omega)
          have a3 := hM r k (by omega) (by omega)
          have a4 := hM o i (by omega) (by omega)
          have m1 := mul_9 (r9 i (by omega)) (o9 k (by omega))
          have m2 := mul_9 (r9 k (by omega)) (o9 i (by omega))
          have p1 : (S.2.1 65 (4 * r + i) * S.2.1 65 (4 * o + k)).toInt = nu r i * nu o k := by
            rw [ti_mul (by rw [a1, a2]; omega) (by rw [a1, a2]; omega), a1, a2]
          have p2 : (S.2.1 65 (4 * r + k) * S.2.1 65 (4 * o + i)).toInt = nu r k * nu o i := by
            rw [ti_mul (by rw [a3, a4]; omega) (by rw [a3, a4]; omega), a3, a4]
          refine b250_49 (fun q => b250_55 ?_) (fun q => b250_53 (Or.inl rfl) ⟨_, rfl, ?_, rfl⟩)
          · rw [i_suc]
            refine ihi (k + 1) (by omega) (fun k' hk' => ?_)
            by_cases e : k' = k
            · rw [e, ← p1, ← p2, q]
            · exact hh k' (by omega)
          · have : parB (nu r) (nu o) = false := Bool.eq_false_iff.2 (fun z => q (ti_ext (by rw [p1, p2]; exact par.1 z i k (by omega) (by omega))))
            rw [this]; rfl
      exact inner D 0 (by omega) (fun k' hk' => absurd hk' (Nat.not_lt_zero _))
  exact outer D 0 (by omega) (fun i' _ hi' => absurd hi' (Nat.not_lt_zero _))
theorem w251 {d r : Nat} {nu : Nat → Nat → Int} {S : St} (hD : D = 3 ∨ D = 4) (h53 : S.1 46 53 = Int32.ofNat D) (h54 : S.1 46 54 = Int32.ofNat r) (hr : r < 21) (hM : MRd D (r + 1) nu S) (h9 : ∀ o, o ≤ r → B9 (nu o) ∧ ∀ k, D ≤ k → nu o k = 0) : Wp (d + 2) b 251 0 [.ref 46] [] S (Ri (Vx (bi (noR nu r)) S)) := by
  refine b251_0 ?_
  obtain ⟨r9, rz⟩ := h9 r (Nat.le_refl _)
  have two : ∀ j o (p : Bool), o + j = r → p = (decide (∀ k : Fin 4, nu r k.val = 0) || (List.range o).any (fun o => parB (nu r) (nu o))) → Wp (d + 2) b 251 42 [.ref 46, .int (bi p), .int (Int32.ofNat o)] [] S (Ri (Vx (bi (noR nu r)) S)) := by
    intro j
    induction j with
    | zero =>
      intro o p ho hp
      have ho : o = r := ho
      refine b251_42 (fun _ => b251_78 (bi01 _) ⟨_, rfl, by rw [hp, ho]; rfl, rfl⟩) (fun q => absurd ?_ q)
      rw [h54, ho]
      exact (i_le (by omega) (by omega)).2 (Nat.le_refl _)
    | succ j ih =>
      intro o p ho hp
      have e : (List.range (o + 1)).any (fun o => parB (nu r) (nu o)) = ((List.range o).any (fun o => parB (nu r) (nu o)) || parB (nu r) (nu o)) := by
        rw [List.range_succ, List.any_append]
        simp
      have ih := fun p => ih (o + 1) p (by omega)
      rw [e, ← Bool.or_assoc, ← hp] at ih
      refine b251_42 (fun q => ?_) (fun _ => b251_50 (fun q => b251_66 (b251_71 ?_)) (fun q => b251_54 (P := Vx (bi (parB (nu r) (nu o))) S) (by rw [h54]; exact w250 hD h53 hr (by omega) hM h9) ?_))
      · rw [h54] at q
        have := (i_le (by omega) (by omega)).1 q
        omega
      · rw [i_suc]
        exact ih true (by rw [bi1.1 q, Bool.true_or])
      · rintro _ _ ⟨rfl, rfl⟩
        have q := bi0.1 (Classical.byContradiction q)
        refine b251_63 (fun z => b251_70 (b251_71 ?_)) (fun z => b251_66 (b251_71 ?_))
        · rw [i_suc]
          exact ih false (by rw [q, bi0.1 z]; rfl)
        · rw [i_suc]
          exact ih true (by rw [q, bi1.1 z]; rfl)
  have one : ∀ j k (p : Bool), k + j = D → (p = true ↔ ∀ k', k' < k → nu r k' = 0) → Wp (d + 2) b 251 4 [.ref 46, .int (bi p), .int (Int32.ofNat k)] [] S (Ri (Vx (bi (noR nu r)) S)) := by
    intro j
    induction j with
    | zero =>
      intro k p hk hp
      have hk : k = D := hk
      refine b251_4 (fun _ => b251_40 (two r 0 p (by omega) ?_)) (fun q => absurd ?_ q)
      · rw [List.range_zero, List.any_nil, Bool.or_false, Bool.eq_iff_iff, hp, decide_eq_true_eq]
        constructor
        · intro h k'
          by_cases e : k'.val < D
          · exact h _ (by omega)
          · exact rz _ (by omega)
        · exact fun h k' hk' => h ⟨k', by omega⟩
      · rw [h53, hk]
        exact (i_le (by omega) (by omega)).2 (Nat.le_refl _)
    | succ j ih =>
      intro k p hk hp
      have no : ∀ z : ¬ (p = true ∧ nu r k = 0), Wp (d + 2) b 251 32 [.ref 46, .int (bi p), .int (Int32.ofNat k)] [] S (Ri (Vx (bi (noR nu r)) S)) := by
        intro z
        refine b251_32 (b251_33 ?_)
        rw [i_suc]
        refine ih (k + 1) false (by omega) ⟨(fun q => by cases q), fun h => absurd ⟨hp.2 (fun k' hk' => h k' (by omega)), h k (by omega)⟩ z⟩
      refine b251_4 (fun q => ?_) (fun _ => b251_12 (fun q => no (fun z => by rw [bi0.1 q] at z; exact absurd z.1 (by decide))) (fun q => b251_16 (P := Vx (S.2.1 65 (4 * r + k)) S) (by rw [h54]; exact w249 hr (by omega)) ?_))
      · rw [h53] at q
        have := (i_le (by omega) (by omega)).1 q
        omega
      rintro _ _ ⟨rfl, rfl⟩
      have a1 := hM r k (by omega) (by omega)
      refine b251_25 (fun z => no (fun w => z (ti_0.2 (by rw [a1]; exact w.2)))) (fun z => b251_28 (b251_33 ?_))
      have z := ti_0.1 (Classical.byContradiction z)
      rw [a1] at z
      rw [i_suc]
      refine ih (k + 1) true (by omega) ⟨fun _ k' hk' => ?_, fun _ => rfl⟩
      by_cases e : k' = k
      · rw [e]; exact z
      · exact hp.1 (bi1.1 q) k' (by omega)
  exact one D 0 true (by omega) ⟨fun _ k' hk' => absurd hk' (Nat.not_lt_zero _), fun _ => rfl⟩
end MRAYS
