/-! WHAT STAYS -/
/-- all but some fields, some rows, the long field, is as it was -/
def Fz (fs : List (Nat × Nat)) (as : List Nat) (S S' : St) : Prop := (∀ j k, (j, k) ∉ fs → S'.1 j k = S.1 j k) ∧ (∀ j, j ∉ as → ∀ i, S'.2.1 j i = S.2.1 j i) ∧ S'.2.2.2 = S.2.2.2
section FRAME
variable {fs : List (Nat × Nat)} {as : List Nat} {S S1 S2 : St}
theorem Fz.refl : Fz fs as S S := ⟨fun _ _ _ => rfl, fun _ _ _ => rfl, rfl⟩
theorem Fz.trans (h : Fz fs as S S1) (h2 : Fz fs as S1 S2) : Fz fs as S S2 := ⟨fun j k n => (h2.1 j k n).trans (h.1 j k n), fun j n i => (h2.2.1 j n i).trans (h.2.1 j n i), h2.2.2.trans h.2.2⟩
theorem Fz.mono {fs' : List (Nat × Nat)} {as' : List Nat} (h : Fz fs as S S1) (h1 : ∀ x ∈ fs, x ∈ fs') (h2 : ∀ x ∈ as, x ∈ as') : Fz fs' as' S S1 := ⟨fun j k n => h.1 j k (fun q => n (h1 _ q)), fun j n i => h.2.1 j (fun q => n (h2 _ q)) i, h.2.2⟩
theorem Fz.f {j k : Nat} (h : Fz fs as S S1) (n : (j, k) ∉ fs) : S1.1 j k = S.1 j k := h.1 j k n
theorem Fz.a {j : Nat} (h : Fz fs as S S1) (n : j ∉ as) (i : Nat) : S1.2.1 j i = S.2.1 j i := h.2.1 j n i
theorem Fz.ar {j : Nat} (h : Fz fs as S S1) (n : j ∉ as) : S1.2.1 j = S.2.1 j := funext (h.2.1 j n)
theorem Fz.seti {j k : Nat} {v : Int32} (h : Fz fs as S S1) (m : (j, k) ∈ fs) : Fz fs as S (setI S1 j k v) := by
  refine ⟨fun j' k' n => ?_, h.2.1, h.2.2⟩
  show (if j' = j ∧ k' = k then v else S1.1 j' k') = _
  rw [if_neg]
  · exact h.1 j' k' n
  · rintro ⟨rfl, rfl⟩; exact n m
theorem Fz.seta {j i : Nat} {v : Int32} (h : Fz fs as S S1) (m : j ∈ as) : Fz fs as S (setA S1 j i v) := by
  refine ⟨h.1, fun j' n i' => ?_, h.2.2⟩
  show (if j' = j ∧ i' = i then v else S1.2.1 j' i') = _
  rw [if_neg]
  · exact h.2.1 j' n i'
  · rintro ⟨rfl, rfl⟩; exact n m
theorem Fz.setl {v : Int64} (h : Fz fs as S S1) : Fz fs as S (setL S1 v) := h
end FRAME
theorem seti_same {S : St} {j k : Nat} {v : Int32} : (setI S j k v).1 j k = v := if_pos ⟨rfl, rfl⟩
theorem seti_ne {S : St} {j k j' k' : Nat} {v : Int32} (h : ¬ (j' = j ∧ k' = k)) : (setI S j k v).1 j' k' = S.1 j' k' := if_neg h
theorem seta_same {S : St} {j i : Nat} {v : Int32} : (setA S j i v).2.1 j i = v := if_pos ⟨rfl, rfl⟩
theorem seta_ne {S : St} {j i j' i' : Nat} {v : Int32} (h : ¬ (j' = j ∧ i' = i)) : (setA S j i v).2.1 j' i' = S.2.1 j' i' := if_neg h
/-! SETS by a test -/
def mk (p : Nat → Bool) : Nat → Int32
  | 0 => 0
  | n + 1 => if p n = true then mk p n ||| bit n else mk p n
theorem tb_mk (p : Nat → Bool) {n : Nat} (hn : n ≤ 32) (k : Nat) : tb (mk p n) k = (decide (k < n) && p k) := by
  induction n with
  | zero => rw [show mk p 0 = 0 from rfl, tb_zero]; simp
  | succ n ih =>
    unfold mk
    have ih := ih (by omega)
    by_cases e : k = n
    · subst e
      split
      · next h => rw [tb_or, tb_bit (by omega), h]; simp
      · next h => rw [ih]; simp [h]
    · have e2 : decide (k < n + 1) = decide (k < n) := by
        by_cases h : k < n
        · rw [decide_eq_true h, decide_eq_true (by omega)]
        · rw [decide_eq_false h, decide_eq_false (by omega)]
      rw [e2]
      split
      · rw [tb_or, tb_bit (by omega), ih]; simp [e]
      · exact ih
theorem low_mk (p : Nat → Bool) {n : Nat} (hn : n ≤ 32) : Low n (mk p n) := by
  intro k hk
  rw [tb_mk p hn] at hk
  simp at hk
  exact hk.1
/-! THE REFERENCE: numbers, what is upright, frames -/
/-- whether a number is that of a ray -/
def rayB (m : Nat) (x : Int32) : Bool := decide (¬ x < 0 ∧ x.toNatClampNeg < m)
theorem rayB_of {m r : Nat} (hr : r < 2147483648) : rayB m (Int32.ofNat r) = decide (r < m) := by
  unfold rayB
  rw [i_cl hr]
  have := i_nneg hr
  simp [this]
theorem rayB_iff {m : Nat} {x : Int32} (hm : m ≤ 20) : ((0 : Int32) ≤ x ∧ x ≤ Int32.ofNat m - 1) ↔ (¬ x < 0 ∧ x.toNatClampNeg < m) := by
  have e : (Int32.ofNat m - 1).toInt = (m : Int) - 1 := by
    rw [Int32.toInt_sub, i_toInt (by omega)]
    have : (1 : Int32).toInt = 1 := by decide
    rw [this]
    apply Int.bmod_eq_of_le <;> omega
  have z : (0 : Int32).toInt = 0 := by decide
  rw [Int32.le_iff_toInt_le, Int32.le_iff_toInt_le, Int32.lt_iff_toInt_lt, e, z, ← Int32.toNat_toInt]
  omega
def dotN (num : Nat → Int32) (r o : Nat) : Nat → Int32
  | 0 => 0
  | k + 1 => dotN num r o k + num (4 * r + k) * num (4 * o + k)
section MOD1
variable {d b : Nat} {S : St} {D m : Nat} {ins : Int32}
theorem s157 {r k : Nat} (hr : r < 20) (hk : k < 4) : Wp d b 157 0 [.ref 46, .int (Int32.ofNat r), .int (Int32.ofNat k)] [] S (Ri (Vx (S.2.1 47 (4 * r + k)) S)) := by
  have e : (4 : Int32) * Int32.ofNat r + Int32.ofNat k = Int32.ofNat (4 * r + k) := by
    rw [show (4 : Int32) = Int32.ofNat 4 from rfl, i_mul, i_add]
  refine b157_0 ?_ ⟨_, rfl, ?_, rfl⟩
  · rw [e]; exact i_vp (by omega) (by omega)
  · rw [e, i_cl (by omega)]
theorem s158 (x : Int32) (hm : S.1 46 1 = Int32.ofNat m) (h20 : m ≤ 20) : Wp (d + 1) b 158 0 [.ref 46, .int x] [] S (Ri (Vx (bi (rayB m x)) S)) := by
  refine b158_0 s153 ?_
  rintro _ _ ⟨rfl, rfl⟩
  refine b158_11 (bi01 _) ⟨_, rfl, ?_, rfl⟩
  rw [hm]
  unfold rayB
  rw [decide_eq_decide.2 (rayB_iff h20)]
theorem s159 (x : Int32) (hm : S.1 46 1 = Int32.ofNat m) (h20 : m ≤ 20) (hi : S.1 46 2 = ins) : Wp (d + 2) b 159 0 [.ref 46, .int x] [] S (Ri (Vx (bi (rayB m x && tb ins x.toNatClampNeg)) S)) := by
  refine b159_0 (s158 x hm h20) ?_
  rintro _ _ ⟨rfl, rfl⟩
  refine b159_5 (fun h => b159_23 (b159_24 (Or.inl rfl) ⟨_, rfl, ?_, rfl⟩)) (fun h => ?_)
  · rw [bi0.1 h]; rfl
  · have h := bi1.1 h
    have h' := h
    unfold rayB at h'
    simp only [decide_eq_true_eq] at h'
    rw [h, Bool.true_and]
    have ex : x = Int32.ofNat x.toNatClampNeg := i_of h'.1
    refine b159_8 (P := Vx (bi (tb ins x.toNatClampNeg)) S) ?_ ?_
    · rw [hi]
      conv => rw [ex]
      rw [i_cl (i_clt x)]
      exact s154 ins (by omega)
    · rintro _ _ ⟨rfl, rfl⟩
      refine b159_16 (fun h2 => b159_23 (b159_24 (Or.inl rfl) ⟨_, rfl, ?_, rfl⟩)) (fun h2 => b159_19 (b159_24 (Or.inr rfl) ⟨_, rfl, ?_, rfl⟩))
      · rw [bi0.1 h2]; rfl
      · rw [bi1.1 h2]; rfl
/-- the same of a small number -/
theorem s159n {r : Nat} (hr : r < m) (hm : S.1 46 1 = Int32.ofNat m) (h20 : m ≤ 20) (hi : S.1 46 2 = ins) : Wp (d + 2) b 159 0 [.ref 46, .int (Int32.ofNat r)] [] S (Ri (Vx (bi (tb ins r)) S)) := by
  have := s159 (d := d) (b := b) (Int32.ofNat r) hm h20 hi
  rw [rayB_of (by omega), i_cl (by omega), decide_eq_true hr, Bool.true_and] at this
  exact this
theorem s160 {r o : Nat} (hr : r < 20) (ho : o < 20) (hD : S.1 46 0 = Int32.ofNat D) (h4 : D ≤ 4) : Wp (d + 1) b 160 0 [.ref 46, .int (Int32.ofNat r), .int (Int32.ofNat o)] [] S (Ri (Vx (dotN (S.2.1 47) r o D) S)) := by
  have L : ∀ k i, i + k = D → Wp (d + 1) b 160 5 [.ref 46, .int (Int32.ofNat r), .int (Int32.ofNat o), .int (dotN (S.2.1 47) r o i), .int (Int32.ofNat i)] [] S (Ri (Vx (dotN (S.2.1 47) r o D) S)) := by
    intro k
    induction k with
    | zero =>
      intro i hi
      have : i = D := by omega
      subst this
      exact b160_5 (fun _ => b160_38 ⟨_, rfl, rfl, rfl⟩) (fun h => by rw [hD] at h; exact absurd ((i_le (by omega) (by omega)).2 (Nat.le_refl _)) h)
    | succ k ih =>
      intro i hi
      refine b160_5 (fun h => ?_) (fun _ => b160_14 (s157 hr (by omega)) ?_)
      · rw [hD] at h
        have := (i_le (by omega) (by omega)).1 h
        omega
      · rintro _ _ ⟨rfl, rfl⟩
        refine b160_22 (s157 ho (by omega)) ?_
        rintro _ _ ⟨rfl, rfl⟩
        refine b160_29 ?_
        rw [i_suc]
        exact ih (i + 1) (by omega)
  exact b160_0 (L D 0 (by omega))
/-- what a ray is upright to -/
def pU (num : Nat → Int32) (D : Nat) (ins : Int32) (r o : Nat) : Bool := !decide (o = r) && tb ins r && tb ins o && decide (dotN num r o D = 0)
def upS (num : Nat → Int32) (D m : Nat) (ins : Int32) (r : Nat) : Int32 := mk (pU num D ins r) m
/-- the reference's own numbers -/
def MB (D m : Nat) (ins : Int32) (S : St) : Prop := S.1 46 0 = Int32.ofNat D ∧ (D = 3 ∨ D = 4) ∧ S.1 46 1 = Int32.ofNat m ∧ m ≤ 20 ∧ S.1 46 2 = ins ∧ Low m ins
theorem MB.of {fs : List (Nat × Nat)} {as : List Nat} {S1 : St} (h : MB D m ins S) (hF : Fz fs as S S1) (n0 : (46, 0) ∉ fs) (n1 : (46, 1) ∉ fs) (n2 : (46, 2) ∉ fs) : MB D m ins S1 := by
  obtain ⟨a, b, c, e, f, g⟩ := h
  exact ⟨(hF.f n0).trans a, b, (hF.f n1).trans c, e, (hF.f n2).trans f, g⟩
theorem s162 (hB : MB D m ins S) : Wp (d + 3) b 162 0 [.ref 46] [] S (Rv (fun S1 => Fz [] [48] S S1 ∧ ∀ r, r < m → S1.2.1 48 r = upS (S.2.1 47) D m ins r)) := by
  have hB0 := hB
  obtain ⟨hD, hd, hm, h20, hi, hlow⟩ := hB
  have L2 : ∀ k o r S', r < m → o + k = m → Fz [] [48] S S' → (∀ q, q < r → S'.2.1 48 q = upS (S.2.1 47) D m ins q) → S'.2.1 48 r = mk (pU (S.2.1 47) D ins r) o →
      (∀ S'', Fz [] [48] S S'' → (∀ q, q < r + 1 → S''.2.1 48 q = upS (S.2.1 47) D m ins q) → Wp (d + 3) b 162 2 [.ref 46, .int (Int32.ofNat (r + 1))] [] S'' (Rv (fun S1 => Fz [] [48] S S1 ∧ ∀ r, r < m → S1.2.1 48 r = upS (S.2.1 47) D m ins r))) →
      Wp (d + 3) b 162 19 [.ref 46, .int (Int32.ofNat r), .int (Int32.ofNat o)] [] S' (Rv (fun S1 => Fz [] [48] S S1 ∧ ∀ r, r < m → S1.2.1 48 r = upS (S.2.1 47) D m ins r)) := by
    intro k
    induction k with
    | zero =>
      intro o r S' hr ho hF hq hx K
      have : o = m := by omega
      subst this
      refine b162_19 (fun _ => b162_75 ?_) (fun h => ?_)
      · rw [i_suc]
        refine K S' hF (fun q hq' => ?_)
        by_cases e : q = r
        · subst e; exact hx
        · exact hq q (by omega)
      · rw [hF.f (by decide), hm] at h
        exact absurd ((i_le (by omega) (by omega)).2 (Nat.le_refl _)) h
    | succ k ih =>
      intro o r S' hr ho hF hq hx K
      have hB' : MB D m ins S' := hB0.of hF (by decide) (by decide) (by decide)
      obtain ⟨hD', _, hm', _, hi', _⟩ := hB'
      have skip : pU (S.2.1 47) D ins r o = false → Wp (d + 3) b 162 69 [.ref 46, .int (Int32.ofNat r), .int (Int32.ofNat o)] [] S' (Rv (fun S1 => Fz [] [48] S S1 ∧ ∀ r, r < m → S1.2.1 48 r = upS (S.2.1 47) D m ins r)) := by
        intro hp
        refine b162_69 ?_
        rw [i_suc]
        refine ih (o + 1) r S' hr (by omega) hF hq ?_ K
        rw [hx]
        show _ = if _ then _ else _
        rw [hp]
        rfl
      refine b162_19 (fun h => ?_) (fun _ => b162_27 (fun h => ?_) (fun h => b162_32 (s159n hr hm' h20 hi') ?_))
      · rw [hm'] at h
        have := (i_le (by omega) (by omega)).1 h
        omega
      · have := (i_inj (by omega) (by omega)).1 h
        exact skip (by unfold pU; simp [this])
      · have hne : ¬ o = r := fun q => h ((i_inj (by omega) (by omega)).2 q)
        rintro _ _ ⟨rfl, rfl⟩
        refine b162_37 (fun h => skip (by unfold pU; rw [bi0.1 h]; simp)) (fun h1 => b162_40 (s159n (by omega) hm' h20 hi') ?_)
        rintro _ _ ⟨rfl, rfl⟩
        refine b162_45 (fun h => skip (by unfold pU; rw [bi0.1 h]; simp)) (fun h2 => b162_48 (s160 (by omega) (by omega) hD' (by omega)) ?_)
        rintro _ _ ⟨rfl, rfl⟩
        rw [hF.ar (by decide)]
        refine b162_54 (fun h => skip (by unfold pU; simp [h])) (fun h3 => b162_57 (i_vp (by omega) (by omega)) (i_vp (by omega) (by omega)) (b162_69 ?_))
        rw [i_suc, i_cl (by omega)]
        have hp : pU (S.2.1 47) D ins r o = true := by
          unfold pU
          simp [hne, bi1.1 h1, bi1.1 h2, Classical.not_not.1 h3]
        refine ih (o + 1) r _ hr (by omega) (hF.seta (by decide)) (fun q hq' => ?_) ?_ K
        · rw [seta_ne (by omega)]; exact hq q hq'
        · rw [seta_same, hx]
          show _ = if _ then _ else _
          rw [hp]
          rfl
  have L1 : ∀ k r S', r + k = m → Fz [] [48] S S' → (∀ q, q < r → S'.2.1 48 q = upS (S.2.1 47) D m ins q) → Wp (d + 3) b 162 2 [.ref 46, .int (Int32.ofNat r)] [] S' (Rv (fun S1 => Fz [] [48] S S1 ∧ ∀ r, r < m → S1.2.1 48 r = upS (S.2.1 47) D m ins r)) := by
    intro k
    induction k with
    | zero =>
      intro r S' hr hF hq
      refine b162_2 (fun _ => b162_81 ⟨rfl, hF, fun q hq' => hq q (by omega)⟩) (fun h => ?_)
      rw [hF.f (by decide), hm] at h
      exact absurd ((i_le (by omega) (by omega)).2 (by omega)) h
    | succ k ih =>
      intro r S' hr hF hq
      refine b162_2 (fun h => ?_) (fun _ => b162_10 (i_vp (by omega) (by omega)) ?_)
      · rw [hF.f (by decide), hm] at h
        have := (i_le (by omega) (by omega)).1 h
        omega
      · rw [i_cl (by omega)]
        refine L2 m 0 r _ (by omega) (by omega) (hF.seta (by decide)) (fun q hq' => ?_) (by rw [seta_same]; rfl) (fun S'' hF' hq' => ih (r + 1) S'' (by omega) hF' hq')
        rw [seta_ne (by omega)]
        exact hq q hq'
  exact b162_0 (L1 m 0 S (by omega) Fz.refl (fun q h => absurd h (by omega)))
end MOD1
