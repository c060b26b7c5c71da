/-! NUMBERS AS THEY ARE TOLD; saying -/
section TOLD
variable {b : Nat}
theorem s72a {d r k : Nat} {S : St} (hr : r < 20) (hk : k < 4) : Wp (d + 1) b 72 0 [.ref 2, .int (Int32.ofNat r), .int (Int32.ofNat k)] [] S (Ri (Vx (S.2.1 15 (4 * r + k)) S)) := by
  refine b72a_0 (fun h => absurd h (i_nneg (by omega))) (fun _ => b72a_4 (fun h => ?_) (fun _ => b72a_9 (P := Vx (S.2.1 15 (4 * r + k)) S) ?_ ?_))
  · have := (i_le (a := 4) (by omega) (by omega)).1 h
    omega
  · have e : Int32.ofNat r * 4 + Int32.ofNat k = Int32.ofNat (4 * r + k) := by
      rw [show (4 : Int32) = Int32.ofNat 4 from rfl, i_mul, i_add, Nat.mul_comm]
    rw [e]
    have := s147a (d := d) (b := 0) (S := S) (i := 4 * r + k) (by omega)
    rw [if_pos (by omega)] at this
    exact this
  · rintro _ _ ⟨rfl, rfl⟩
    exact b72a_21 (b72a_25 ⟨_, rfl, rfl, rfl⟩)
theorem s78a {d r o : Nat} {S : St} (hr : r < 20) (ho : o < 20) : Wp (d + 2) b 78 0 [.ref 2, .int (Int32.ofNat r), .int (Int32.ofNat o)] [] S (Ri (Vx (dotN (S.2.1 15) r o 4) S)) := by
  have L : ∀ k i, i + k = 4 → Wp (d + 2) b 78 5 [.ref 2, .int (Int32.ofNat r), .int (Int32.ofNat o), .int (dotN (S.2.1 15) r o i), .int (Int32.ofNat i)] [] S (Ri (Vx (dotN (S.2.1 15) r o 4) S)) := by
    intro k
    induction k with
    | zero =>
      intro i hi
      have : i = 4 := hi
      subst this
      exact b78a_5 (fun _ => b78a_35 ⟨_, rfl, rfl, rfl⟩) (fun h => absurd ((i_le (a := 4) (by omega) (by omega)).2 (by omega)) h)
    | succ k ih =>
      intro i hi
      refine b78a_5 (fun h => ?_) (fun _ => b78a_11 (s72a hr (by omega)) ?_)
      · have := (i_le (a := 4) (by omega) (by omega)).1 h
        omega
      · rintro _ _ ⟨rfl, rfl⟩
        refine b78a_19 (s72a ho (by omega)) ?_
        rintro _ _ ⟨rfl, rfl⟩
        refine b78a_26 ?_
        rw [i_suc]
        exact ih (i + 1) (by omega)
  exact b78a_0 (L 4 0 (by omega))
theorem s72b {d r k : Nat} {S : St} (hr : r < 20) (hk : k < 4) : Wp (d + 1) b 72 0 [.ref 3, .int (Int32.ofNat r), .int (Int32.ofNat k)] [] S (Ri (Vx (S.2.1 19 (4 * r + k)) S)) := by
  refine b72b_0 (fun h => absurd h (i_nneg (by omega))) (fun _ => b72b_4 (fun h => ?_) (fun _ => b72b_9 (P := Vx (S.2.1 19 (4 * r + k)) S) ?_ ?_))
  · have := (i_le (a := 4) (by omega) (by omega)).1 h
    omega
  · have e : Int32.ofNat r * 4 + Int32.ofNat k = Int32.ofNat (4 * r + k) := by
      rw [show (4 : Int32) = Int32.ofNat 4 from rfl, i_mul, i_add, Nat.mul_comm]
    rw [e]
    have := s147c (d := d) (b := 0) (S := S) (i := 4 * r + k) (by omega)
    rw [if_pos (by omega)] at this
    exact this
  · rintro _ _ ⟨rfl, rfl⟩
    exact b72b_21 (b72b_25 ⟨_, rfl, rfl, rfl⟩)
theorem s78b {d r o : Nat} {S : St} (hr : r < 20) (ho : o < 20) : Wp (d + 2) b 78 0 [.ref 3, .int (Int32.ofNat r), .int (Int32.ofNat o)] [] S (Ri (Vx (dotN (S.2.1 19) r o 4) S)) := by
  have L : ∀ k i, i + k = 4 → Wp (d + 2) b 78 5 [.ref 3, .int (Int32.ofNat r), .int (Int32.ofNat o), .int (dotN (S.2.1 19) r o i), .int (Int32.ofNat i)] [] S (Ri (Vx (dotN (S.2.1 19) r o 4) S)) := by
    intro k
    induction k with
    | zero =>
      intro i hi
      have : i = 4 := hi
      subst this
      exact b78b_5 (fun _ => b78b_35 ⟨_, rfl, rfl, rfl⟩) (fun h => absurd ((i_le (a := 4) (by omega) (by omega)).2 (by omega)) h)
    | succ k ih =>
      intro i hi
      refine b78b_5 (fun h => ?_) (fun _ => b78b_11 (s72b hr (by omega)) ?_)
      · have := (i_le (a := 4) (by omega) (by omega)).1 h
        omega
      · rintro _ _ ⟨rfl, rfl⟩
        refine b78b_19 (s72b ho (by omega)) ?_
        rintro _ _ ⟨rfl, rfl⟩
        refine b78b_26 ?_
        rw [i_suc]
        exact ih (i + 1) (by omega)
  exact b78b_0 (L 4 0 (by omega))
end TOLD
/-- the class's numbers are the reference's -/
def NM (D m : Nat) (S : St) : Prop := ∀ r, r < m → (∀ k, k < D → S.2.1 15 (4 * r + k) = S.2.1 47 (4 * r + k) ∧ -9 ≤ (S.2.1 47 (4 * r + k)).toInt ∧ (S.2.1 47 (4 * r + k)).toInt ≤ 9) ∧ (D = 3 → S.2.1 15 (4 * r + 3) = 0)
section SAY2
variable {b D m : Nat} {ins : Int32}
theorem str_ok (q : Nat) (h : q = 2000 ∨ q = 2001 ∨ q = 2002 ∨ q = 2003) : ∀ i, i < (strT q).length → ∃ n, n < 128 ∧ (strT q).getD i 0 = Int32.ofNat n := by
  have key : ∀ q : Fin 4, ∀ i : Fin 8, i.val < (strT (2000 + q.val)).length → ((strT (2000 + q.val)).getD i.val 0).toNatClampNeg < 128 ∧ (strT (2000 + q.val)).getD i.val 0 = Int32.ofNat ((strT (2000 + q.val)).getD i.val 0).toNatClampNeg := by decide +kernel
  have len : ∀ q : Fin 4, (strT (2000 + q.val)).length ≤ 8 := by decide +kernel
  intro i hi
  obtain ⟨z, rfl⟩ : ∃ z : Fin 4, q = 2000 + z.val := by
    rcases h with rfl | rfl | rfl | rfl
    · exact ⟨0, rfl⟩
    · exact ⟨1, rfl⟩
    · exact ⟨2, rfl⟩
    · exact ⟨3, rfl⟩
  have l := len z
  exact ⟨_, key z ⟨i, by omega⟩ hi⟩
theorem st1 : strT 2001 = [59] := by decide +kernel
theorem st3 : strT 2003 = [32] := by decide +kernel
theorem st38 : strT 2000 = strT 2038 ++ [32] := by decide +kernel
theorem st39 : strT 2002 = strT 2039 := by decide +kernel
theorem c142 {d r : Nat} {S : St} {T : List Int32} {Q : Out → St → Prop} (hD : S.1 2 0 = Int32.ofNat D) (hd : D = 3 ∨ D = 4) (hm : m ≤ 20) (hr : r < m) (hN : NM D m S) (hT : SY T S) (hl : T.length + 16 ≤ 400) (K : ∀ S1, Fz [(0, 13)] [45] S S1 → SY (T ++ (rayK (S.2.1 47) r D ++ [59])) S1 → Q (.inl none) S1) : Wp (d + 2) b 142 0 [.ref 0, .int (Int32.ofNat r)] [] S Q := by
  have rl : ∀ k, k ≤ 4 → (rayK (S.2.1 47) r k).length ≤ 15 := fun k hk => by
    have := rayK_len (S.2.1 47) r k
    omega
  refine b142_0 (P := fun S1 => Fz [(0, 13)] [45] S S1 ∧ SY (T ++ rayK (S.2.1 47) r 0) S1) (c144 (by omega) hT (by rw [List.length_append]; have := rl 0 (by omega); have e : rayK (S.2.1 47) r 0 = strT 2002 := rfl; rw [e] at this; omega) (str_ok 2002 (by omega)) (fun S1 h1 h2 => ⟨rfl, h1, h2⟩)) ?_
  rintro S1 ⟨hF1, hY1⟩
  have loop : ∀ k i S', i + k = D → Fz [(0, 13)] [45] S S' → SY (T ++ rayK (S.2.1 47) r i) S' → Wp (d + 2) b 142 9 [.ref 0, .int (Int32.ofNat r), .int (Int32.ofNat i)] [] S' Q := by
    intro k
    induction k with
    | zero =>
      intro i S' hi hF hY
      have e : i = D := by omega
      subst e
      have l1 := rl i (by omega)
      refine b142_9 (fun _ => b142_46 (P := fun S2 => Fz [(0, 13)] [45] S' S2 ∧ SY (T ++ rayK (S.2.1 47) r i ++ strT 2001) S2) (c144 (by omega) hY (by rw [List.length_append, List.length_append, st1]; show _ + 1 ≤ 400; omega) (str_ok 2001 (by omega)) (fun S2 h1 h2 => ⟨rfl, h1, h2⟩)) ?_) (fun h => ?_)
      · rintro S2 ⟨hF2, hY2⟩
        refine b142_53 (K S2 (hF.trans hF2) ?_)
        rw [st1, List.append_assoc] at hY2
        exact hY2
      · rw [(hF.f (by decide)).trans hD] at h
        exact absurd ((i_le (by omega) (by omega)).2 (Nat.le_refl _)) h
    | succ k ih =>
      intro i S' hi hF hY
      have l1 := rl i (by omega)
      have l2 := rl (i + 1) (by omega)
      have l3 := rayK_len (S.2.1 47) r i
      refine b142_9 (fun h => ?_) (fun _ => b142_20 (P := fun S2 => Fz [(0, 13)] [45] S' S2 ∧ SY (T ++ rayK (S.2.1 47) r i ++ [32]) S2) ?_ ?_)
      · rw [(hF.f (by decide)).trans hD] at h
        have := (i_le (by omega) (by omega)).1 h
        omega
      · have := c144 (d := d) (b := 0) (q := 2003) (Q := Rv (fun S2 => Fz [(0, 13)] [45] S' S2 ∧ SY (T ++ rayK (S.2.1 47) r i ++ [32]) S2)) (by omega) hY (by rw [List.length_append, List.length_append, st3]; show _ + 1 ≤ 400; omega) (str_ok 2003 (by omega)) (fun S2 h1 h2 => ⟨rfl, h1, by rw [st3] at h2; exact h2⟩)
        exact this
      · rintro S2 ⟨hF2, hY2⟩
        have hF2' := hF.trans hF2
        refine b142_27 (s72a (d := d) (by omega) (by omega)) ?_
        rintro _ _ ⟨rfl, rfl⟩
        have hn := (hN r hr).1 i (by omega)
        have en : S2.2.1 15 (4 * r + i) = S.2.1 47 (4 * r + i) := (hF2'.a (by decide) _).trans hn.1
        rw [en]
        refine b142_37 (P := fun S3 => Fz [(0, 13)] [45] S2 S3 ∧ SY (T ++ rayK (S.2.1 47) r (i + 1)) S3) (c143 (d := d) hn.2.1 hn.2.2 hY2 (by rw [List.length_append, List.length_append]; show _ + 1 + 2 ≤ 400; omega) (fun S3 h1 h2 => ⟨rfl, h1, ?_⟩)) ?_
        · have e : T ++ rayK (S.2.1 47) r (i + 1) = T ++ rayK (S.2.1 47) r i ++ [32] ++ numT (S.2.1 47 (4 * r + i)) := by
            show T ++ (rayK (S.2.1 47) r i ++ ([32] ++ numT (S.2.1 47 (4 * r + i)))) = _
            simp only [List.append_assoc]
          rw [e]; exact h2
        · rintro S3 ⟨hF3, hY3⟩
          refine b142_40 ?_
          rw [i_suc]
          exact ih (i + 1) S3 (by omega) (hF2'.trans hF3) hY3
  exact b142_7 (loop D 0 S1 (by omega) hF1 hY1)
theorem c128 {d : Nat} {S : St} {Q : Out → St → Prop} (hD : S.1 2 0 = Int32.ofNat D) (hd : D = 3 ∨ D = 4) (hS : S.1 2 1 = Int32.ofNat m) (hm : m ≤ 20) (hi : S.1 0 14 = ins) (hN : NM D m S) (K : ∀ S1, Fz [(0, 13)] [45] S S1 → SY (sayR (S.2.1 47) D ins m) S1 → Q (.inl (some (.int (Int32.ofNat (sayR (S.2.1 47) D ins m).length)))) S1) : Wp (d + 3) b 128 0 [.ref 0] [] S Q := by
  have hF0 : Fz [(0, 13)] [45] S (setI S 0 13 0) := Fz.refl.seti (by decide)
  have e6 : (strT 2000).length = 6 := by decide +kernel
  have lD := numT_len (Int32.ofNat D)
  have tD : (Int32.ofNat D).toInt = D := i_toInt (by omega)
  refine b128_0 (P := fun S1 => Fz [(0, 13)] [45] S S1 ∧ SY (strT 2000) S1) (c144 (d := d + 1) (T := []) (by omega) ⟨seti_same, by show 0 ≤ 400; omega, fun i h => absurd h (Nat.not_lt_zero i)⟩ (by show (strT 2000).length ≤ 400; omega) (str_ok 2000 (by omega)) (fun S1 h1 h2 => ⟨rfl, hF0.trans h1, h2⟩)) ?_
  rintro S1 ⟨hF1, hY1⟩
  refine b128_12 (P := fun S2 => Fz [(0, 13)] [45] S S2 ∧ SY (strT 2000 ++ numT (Int32.ofNat D)) S2) ?_ ?_
  · rw [(hF1.f (by decide)).trans hD]
    exact c143 (d := d + 1) (by omega) (by omega) hY1 (by omega) (fun S2 h1 h2 => ⟨rfl, hF1.trans h1, h2⟩)
  · rintro S2 ⟨hF2, hY2⟩
    refine b128_23 (P := fun S3 => Fz [(0, 13)] [45] S S3 ∧ SY (sayR (S.2.1 47) D ins 0) S3) (c144 (d := d + 1) (by omega) hY2 (by rw [List.length_append, List.length_append, st1]; show _ + 1 ≤ 400; omega) (str_ok 2001 (by omega)) (fun S3 h1 h2 => ⟨rfl, hF2.trans h1, by rw [st1] at h2; exact h2⟩)) ?_
    rintro S3 ⟨hF3, hY3⟩
    have loop : ∀ k r S', r + k = m → Fz [(0, 13)] [45] S S' → SY (sayR (S.2.1 47) D ins r) S' → Wp (d + 3) b 128 32 [.ref 0, .int (Int32.ofNat r)] [] S' Q := by
      intro k
      induction k with
      | zero =>
        intro r S' hr hF hY
        have e : r = m := by omega
        subst e
        refine b128_32 (fun _ => b128_65 ?_) (fun h => ?_)
        · rw [hY.1]; exact K S' hF hY
        · rw [(hF.f (by decide)).trans hS] at h
          exact absurd ((i_le (by omega) (by omega)).2 (Nat.le_refl _)) h
      | succ k ih =>
        intro r S' hr hF hY
        have hl := sayR_len (S.2.1 47) (D := D) (by omega) ins r
        refine b128_32 (fun h => ?_) (fun _ => b128_43 (P := Vx (bi (tb ins r)) S') ?_ ?_)
        · rw [(hF.f (by decide)).trans hS] at h
          have := (i_le (by omega) (by omega)).1 h
          omega
        · rw [(hF.f (by decide)).trans hi]
          exact s146 _ (by omega)
        · rintro _ _ ⟨rfl, rfl⟩
          have eR : sayR (S.2.1 47) D ins (r + 1) = if tb ins r = true then sayR (S.2.1 47) D ins r ++ (rayK (S.2.1 47) r D ++ [59]) else sayR (S.2.1 47) D ins r := rfl
          have e47 : S'.2.1 47 = S.2.1 47 := hF.ar (by decide)
          refine b128_51 (fun h => b128_59 ?_) (fun h => b128_54 (P := fun S4 => Fz [(0, 13)] [45] S' S4 ∧ SY (sayR (S.2.1 47) D ins (r + 1)) S4) ?_ ?_)
          · rw [i_suc]
            refine ih (r + 1) S' (by omega) hF ?_
            rw [eR, if_neg (by rw [bi0.1 h]; decide)]
            exact hY
          · refine c142 (d := d) (D := D) (m := m) ((hF.f (by decide)).trans hD) hd hm (by omega) (fun r' hr' => ?_) hY (by omega) (fun S4 h1 h2 => ⟨rfl, h1, ?_⟩)
            · rw [e47, hF.ar (by decide)]
              exact hN r' hr'
            · rw [eR, if_pos (bi1.1 h)]
              rw [e47] at h2
              exact h2
          · rintro S4 ⟨hF4, hY4⟩
            refine b128_59 ?_
            rw [i_suc]
            exact ih (r + 1) S4 (by omega) (hF.trans hF4) hY4
    exact b128_30 (loop m 0 S3 (by omega) hF3 hY3)
theorem w227 {d : Nat} {S : St} {Q : Out → St → Prop} (hB : MB D m ins S) (K : ∀ S1, Fz [(46, 4), (46, 37)] [61] S S1 → S1.1 46 4 = 0 → SM (sayR (S.2.1 47) D ins m) S1 → Q (.inl (some (.int (Int32.ofNat (sayR (S.2.1 47) D ins m).length)))) S1) : Wp (d + 3) b 227 0 [.ref 46] [] S Q := by
  obtain ⟨hD, hd, hm, h20, hi, hlow⟩ := id hB
  have hF0 : Fz [(46, 4), (46, 37)] [61] S (setI (setI S 46 4 0) 46 37 0) := (Fz.refl.seti (by decide)).seti (by decide)
  have h40 : (setI (setI S 46 4 0) 46 37 0).1 46 4 = 0 := by rw [seti_ne (by decide), seti_same]
  have e6 : (strT 2000).length = 6 := by decide +kernel
  have e5 : (strT 2038).length = 5 := by decide +kernel
  have lD := numT_len (Int32.ofNat D)
  have up1 : ∀ {S1 S2 : St}, Fz [(46, 37)] [61] S1 S2 → Fz [(46, 4), (46, 37)] [61] S S1 → S1.1 46 4 = 0 → Fz [(46, 4), (46, 37)] [61] S S2 ∧ S2.1 46 4 = 0 := fun h h1 h4 => ⟨h1.trans (h.mono (by decide) (by decide)), (h.f (by decide)).trans h4⟩
  refine b227_0 (P := fun S1 => (Fz [(46, 4), (46, 37)] [61] S S1 ∧ S1.1 46 4 = 0) ∧ SM (strT 2038) S1) (w225 (d := d + 1) (T := []) (by omega) ⟨seti_same, by show 0 ≤ 400; omega, fun i h => absurd h (Nat.not_lt_zero i)⟩ (by show (strT 2038).length ≤ 400; omega) (fun S1 h1 h2 => ⟨rfl, up1 h1 hF0 h40, h2⟩)) ?_
  rintro S1 ⟨⟨hF1, h41⟩, hY1⟩
  refine b227_17 (P := fun S2 => (Fz [(46, 4), (46, 37)] [61] S S2 ∧ S2.1 46 4 = 0) ∧ SM (strT 2000 ++ numT (Int32.ofNat D)) S2) ?_ ?_
  · rw [(hF1.f (by decide)).trans hD]
    refine w226 (d := d + 1) hY1 (by omega) (fun S2 h1 h2 => ⟨rfl, up1 h1 hF1 h41, ?_⟩)
    rw [st38, List.append_assoc]; exact h2
  · rintro S2 ⟨⟨hF2, h42⟩, hY2⟩
    refine b227_25 (P := fun S3 => (Fz [(46, 4), (46, 37)] [61] S S3 ∧ S3.1 46 4 = 0) ∧ SM (sayR (S.2.1 47) D ins 0) S3) (w224 hY2 (by rw [List.length_append]; omega) (fun S3 h1 h2 => ⟨rfl, up1 h1 hF2 h42, h2⟩)) ?_
    rintro S3 ⟨⟨hF3, h43⟩, hY3⟩
    have loop : ∀ k r S', r + k = m → Fz [(46, 4), (46, 37)] [61] S S' → S'.1 46 4 = 0 → SM (sayR (S.2.1 47) D ins r) S' → Wp (d + 3) b 227 33 [.ref 46, .int (Int32.ofNat r)] [] S' Q := by
      intro k
      induction k with
      | zero =>
        intro r S' hr hF h4 hY
        have e : r = m := by omega
        subst e
        refine b227_33 (fun _ => b227_97 ?_) (fun h => ?_)
        · rw [hY.1]; exact K S' hF h4 hY
        · rw [(hF.f (by decide)).trans hm] at h
          exact absurd ((i_le (by omega) (by omega)).2 (Nat.le_refl _)) h
      | succ k ih =>
        intro r S' hr hF h4 hY
        have hl := sayR_len (S.2.1 47) (D := D) (by omega) ins r
        have eR : sayR (S.2.1 47) D ins (r + 1) = if tb ins r = true then sayR (S.2.1 47) D ins r ++ (rayK (S.2.1 47) r D ++ [59]) else sayR (S.2.1 47) D ins r := rfl
        refine b227_33 (fun h => ?_) (fun _ => b227_41 (s159n (d := d) (by omega) ((hF.f (by decide)).trans hm) h20 ((hF.f (by decide)).trans hi)) ?_)
        · rw [(hF.f (by decide)).trans hm] at h
          have := (i_le (by omega) (by omega)).1 h
          omega
        · rintro _ _ ⟨rfl, rfl⟩
          refine b227_46 (fun h => ?_) (fun h => b227_49 (b227_91 ?_))
          · have rl : ∀ k, k ≤ 4 → (rayK (S.2.1 47) r k).length ≤ 15 := fun k hk => by
              have := rayK_len (S.2.1 47) r k
              omega
            have hA : ∀ k, k ≤ 4 → (sayR (S.2.1 47) D ins r ++ rayK (S.2.1 47) r k).length ≤ 9 + 16 * r + 15 := fun k hk => by
              rw [List.length_append]
              have := rl k hk
              omega
            refine b227_52 (P := fun S4 => (Fz [(46, 4), (46, 37)] [61] S S4 ∧ S4.1 46 4 = 0) ∧ SM (sayR (S.2.1 47) D ins r ++ rayK (S.2.1 47) r 0) S4) (w225 (d := d + 1) (by omega) hY (by rw [← st39]; have := hA 0 (by omega); exact Nat.le_trans this (by omega)) (fun S4 h1 h2 => ⟨rfl, up1 h1 hF h4, by rw [← st39] at h2; exact h2⟩)) ?_
            rintro S4 ⟨⟨hF4, h44⟩, hY4⟩
            have inner : ∀ j i S'', i + j = D → Fz [(46, 4), (46, 37)] [61] S S'' → S''.1 46 4 = 0 → SM (sayR (S.2.1 47) D ins r ++ rayK (S.2.1 47) r i) S'' → Wp (d + 3) b 227 61 [.ref 46, .int (Int32.ofNat r), .int (Int32.ofNat i)] [] S'' Q := by
              intro j
              induction j with
              | zero =>
                intro i S'' hij hF'' h4'' hY''
                have e : i = D := by omega
                subst e
                have := hA i (by omega)
                refine b227_61 (fun _ => b227_85 (P := fun S5 => (Fz [(46, 4), (46, 37)] [61] S S5 ∧ S5.1 46 4 = 0) ∧ SM (sayR (S.2.1 47) i ins (r + 1)) S5) (w224 hY'' (by omega) (fun S5 h1 h2 => ⟨rfl, up1 h1 hF'' h4'', ?_⟩)) ?_) (fun h => ?_)
                · rw [eR, if_pos (bi1.1 h), ← List.append_assoc]
                  exact h2
                · rintro S5 ⟨⟨hF5, h45⟩, hY5⟩
                  refine b227_91 ?_
                  rw [i_suc]
                  exact ih (r + 1) S5 (by omega) hF5 h45 hY5
                · rw [(hF''.f (by decide)).trans hD] at h
                  exact absurd ((i_le (by omega) (by omega)).2 (Nat.le_refl _)) h
              | succ j ihj =>
                intro i S'' hij hF'' h4'' hY''
                have := hA i (by omega)
                have hrk := rl i (by omega)
                have l3 : (sayR (S.2.1 47) D ins r ++ rayK (S.2.1 47) r i).length + 3 ≤ 400 := by
                  have := rayK_len (S.2.1 47) r i
                  rw [List.length_append]
                  omega
                refine b227_61 (fun h => ?_) (fun _ => b227_69 (s157 (by omega) (by omega)) ?_)
                · rw [(hF''.f (by decide)).trans hD] at h
                  have := (i_le (by omega) (by omega)).1 h
                  omega
                · rintro _ _ ⟨rfl, rfl⟩
                  rw [hF''.a (by decide)]
                  refine b227_76 (P := fun S5 => (Fz [(46, 4), (46, 37)] [61] S S5 ∧ S5.1 46 4 = 0) ∧ SM (sayR (S.2.1 47) D ins r ++ rayK (S.2.1 47) r (i + 1)) S5) (w226 (d := d + 1) hY'' l3 (fun S5 h1 h2 => ⟨rfl, up1 h1 hF'' h4'', ?_⟩)) ?_
                  · rw [List.append_assoc] at h2
                    exact h2
                  · rintro S5 ⟨⟨hF5, h45⟩, hY5⟩
                    refine b227_79 ?_
                    rw [i_suc]
                    exact ihj (i + 1) S5 (by omega) hF5 h45 hY5
            exact b227_59 (inner D 0 S4 (by omega) hF4 h44 hY4)
          · rw [i_suc]
            refine ih (r + 1) S' (by omega) hF h4 ?_
            rw [eR, if_neg (by rw [bi0.1 (Classical.not_not.1 h)]; decide)]
            exact hY
    exact b227_31 (loop m 0 S3 (by omega) hF3 h43 hY3)
end SAY2
