/-! SAYING: both write the same text -/
def strT (q : Nat) : List Int32 := sByt.getD (q - 2000) []
/-- what the class has said -/
def SY (T : List Int32) (S : St) : Prop := S.1 0 13 = Int32.ofNat T.length ∧ T.length ≤ 400 ∧ ∀ i, i < T.length → S.2.1 45 i = T.getD i 0
/-- what the reference has said -/
def SM (T : List Int32) (S : St) : Prop := S.1 46 37 = Int32.ofNat T.length ∧ T.length ≤ 400 ∧ ∀ i, i < T.length → S.2.1 61 i = T.getD i 0
theorem SY.of {T : List Int32} {fs : List (Nat × Nat)} {as : List Nat} {S S1 : St} (h : SY T S) (hF : Fz fs as S S1) (q : (0, 13) ∉ fs ∧ 45 ∉ as) : SY T S1 := ⟨(hF.f q.1).trans h.1, h.2.1, fun i hi => (hF.a q.2 i).trans (h.2.2 i hi)⟩
theorem SM.of {T : List Int32} {fs : List (Nat × Nat)} {as : List Nat} {S S1 : St} (h : SM T S) (hF : Fz fs as S S1) (q : (46, 37) ∉ fs ∧ 61 ∉ as) : SM T S1 := ⟨(hF.f q.1).trans h.1, h.2.1, fun i hi => (hF.a q.2 i).trans (h.2.2 i hi)⟩
theorem byte_id {n : Nat} (h : n < 128) : ((Int32.ofNat n).toInt8.toInt32).toInt8.toInt32 = Int32.ofNat n := by
  have : ∀ n : Fin 128, ((Int32.ofNat n.val).toInt8.toInt32).toInt8.toInt32 = Int32.ofNat n.val := by decide +kernel
  exact this ⟨n, h⟩
/-- a number as text -/
def numT (v : Int32) : List Int32 := (if 0 ≤ v then [] else [45]) ++ [48 + (if 0 ≤ v then v else 0 - v)]
theorem num_small {v : Int32} (h1 : -9 ≤ v.toInt) (h2 : v.toInt ≤ 9) : ∃ n, n < 10 ∧ (if 0 ≤ v then v else 0 - v) = Int32.ofNat n := by
  have z : (0 : Int32).toInt = 0 := by decide
  by_cases h : 0 ≤ v
  · rw [if_pos h]
    rw [Int32.le_iff_toInt_le, z] at h
    refine ⟨v.toInt.toNat, by omega, Int32.toInt.inj ?_⟩
    rw [i_toInt (by omega)]
    omega
  · rw [if_neg h]
    rw [Int32.le_iff_toInt_le, z] at h
    refine ⟨(-v.toInt).toNat, by omega, Int32.toInt.inj ?_⟩
    rw [i_toInt (by omega), Int32.toInt_sub, z, Int.bmod_eq_of_le (by omega) (by omega)]
    omega
theorem numT_len (v : Int32) : (numT v).length ≤ 2 := by
  unfold numT
  split <;> simp
section SAY
variable {b : Nat}
theorem c145 {d n : Nat} {S : St} {T : List Int32} {Q : Out → St → Prop} (hT : SY T S) (hl : T.length < 400) (hn : n < 128) (K : ∀ S1, Fz [(0, 13)] [45] S S1 → SY (T ++ [Int32.ofNat n]) S1 → Q (.inl none) S1) : Wp d b 145 0 [.ref 0, .int (Int32.ofNat n)] [] S Q := by
  obtain ⟨h1, h2, h3⟩ := hT
  refine b145_0 (fun h => ?_) (fun _ => b145_12 ?_ (b145_33 ?_))
  · rw [h1] at h
    have := (i_le (a := 400) (by omega) (by omega)).1 h
    omega
  · rw [h1]; exact i_vp hl (by omega)
  · show Q _ (setI (setA S 45 (S.1 0 13).toNatClampNeg ((Int32.ofNat n).toInt8.toInt32).toInt8.toInt32) 0 13 (S.1 0 13 + 1))
    rw [h1, i_cl (by omega), i_suc, byte_id hn]
    refine K _ ((Fz.refl.seta (by decide)).seti (by decide)) ⟨by rw [seti_same, List.length_append]; rfl, by rw [List.length_append]; exact hl, fun i hi => ?_⟩
    rw [List.length_append] at hi
    have hi : i < T.length + 1 := hi
    show (setA S 45 T.length (Int32.ofNat n)).2.1 45 i = _
    by_cases e : i = T.length
    · rw [e, seta_same, getD_app2]
    · rw [seta_ne (by omega), getD_app (by omega)]; exact h3 i (by omega)
theorem w224 {d : Nat} {x : Int32} {S : St} {T : List Int32} {Q : Out → St → Prop} (hT : SM T S) (hl : T.length < 400) (K : ∀ S1, Fz [(46, 37)] [61] S S1 → SM (T ++ [x]) S1 → Q (.inl none) S1) : Wp d b 224 0 [.ref 46, .int x] [] S Q := by
  obtain ⟨h1, h2, h3⟩ := hT
  refine b224_0 ?_ ?_
  · rw [h1]; exact i_vp hl (by omega)
  · show Q _ (setI (setA S 61 (S.1 46 37).toNatClampNeg x) 46 37 (S.1 46 37 + 1))
    rw [h1, i_cl (by omega), i_suc]
    refine K _ ((Fz.refl.seta (by decide)).seti (by decide)) ⟨by rw [seti_same, List.length_append]; rfl, by rw [List.length_append]; exact hl, fun i hi => ?_⟩
    rw [List.length_append] at hi
    have hi : i < T.length + 1 := hi
    show (setA S 61 T.length x).2.1 61 i = _
    by_cases e : i = T.length
    · rw [e, seta_same, getD_app2]
    · rw [seta_ne (by omega), getD_app (by omega)]; exact h3 i (by omega)
theorem c144 {d q : Nat} {S : St} {T : List Int32} {Q : Out → St → Prop} (hq : 2000 ≤ q ∧ q < 2053) (hT : SY T S) (hl : (T ++ strT q).length ≤ 400) (hs : ∀ i, i < (strT q).length → ∃ n, n < 128 ∧ (strT q).getD i 0 = Int32.ofNat n) (K : ∀ S1, Fz [(0, 13)] [45] S S1 → SY (T ++ strT q) S1 → Q (.inl none) S1) : Wp (d + 1) b 144 0 [.ref 0, .ref q] [] S Q := by
  have eL : sLen q = (strT q).length := rfl
  rw [List.length_append] at hl
  have loop : ∀ k i S', i + k = (strT q).length → Fz [(0, 13)] [45] S S' → SY (T ++ (strT q).take i) S' → Wp (d + 1) b 144 2 [.ref 0, .ref q, .int (Int32.ofNat i)] [] S' Q := by
    intro k
    induction k with
    | zero =>
      intro i S' hi hF hY
      have e : (strT q).take i = strT q := List.take_of_length_le (by omega)
      rw [e] at hY
      refine b144_2 hq (fun _ => b144_25 (K S' hF hY)) (fun h => ?_)
      rw [eL] at h
      exact absurd ((i_le (by omega) (by omega)).2 (by omega)) h
    | succ k ih =>
      intro i S' hi hF hY
      obtain ⟨n, n1, n2⟩ := hs i (by omega)
      have ec : sCh q (Int32.ofNat i).toNatClampNeg = Int32.ofNat n := by rw [i_cl (by omega)]; exact n2
      refine b144_2 hq (fun h => ?_) (fun _ => b144_10 hq (i_vp (by omega) (by omega)) (P := fun S1 => Fz [(0, 13)] [45] S' S1 ∧ SY (T ++ (strT q).take (i + 1)) S1) ?_ ?_)
      · rw [eL] at h
        have := (i_le (by omega) (by omega)).1 h
        omega
      · rw [ec]
        refine c145 hY (by rw [List.length_append, List.length_take]; omega) n1 (fun S1 h1 h2 => ⟨rfl, h1, ?_⟩)
        rw [take_suc (by omega), n2, ← List.append_assoc]
        exact h2
      · rintro S1 ⟨hF1, hY1⟩
        refine b144_19 ?_
        rw [i_suc]
        exact ih (i + 1) S1 (by omega) (hF.trans hF1) hY1
  refine b144_0 (loop (strT q).length 0 S (by omega) Fz.refl ?_)
  show SY (T ++ []) S
  rw [List.append_nil]
  exact hT
theorem w225 {d q : Nat} {S : St} {T : List Int32} {Q : Out → St → Prop} (hq : 2000 ≤ q ∧ q < 2053) (hT : SM T S) (hl : (T ++ strT q).length ≤ 400) (K : ∀ S1, Fz [(46, 37)] [61] S S1 → SM (T ++ strT q) S1 → Q (.inl none) S1) : Wp (d + 1) b 225 0 [.ref 46, .ref q] [] S Q := by
  have eL : sLen q = (strT q).length := rfl
  rw [List.length_append] at hl
  have loop : ∀ k i S', i + k = (strT q).length → Fz [(46, 37)] [61] S S' → SM (T ++ (strT q).take i) S' → Wp (d + 1) b 225 2 [.ref 46, .ref q, .int (Int32.ofNat i)] [] S' Q := by
    intro k
    induction k with
    | zero =>
      intro i S' hi hF hY
      have e : (strT q).take i = strT q := List.take_of_length_le (by omega)
      rw [e] at hY
      refine b225_2 hq (fun _ => b225_25 (K S' hF hY)) (fun h => ?_)
      rw [eL] at h
      exact absurd ((i_le (by omega) (by omega)).2 (by omega)) h
    | succ k ih =>
      intro i S' hi hF hY
      have ec : sCh q (Int32.ofNat i).toNatClampNeg = (strT q).getD i 0 := by rw [i_cl (by omega)]; rfl
      refine b225_2 hq (fun h => ?_) (fun _ => b225_10 hq (i_vp (by omega) (by omega)) (P := fun S1 => Fz [(46, 37)] [61] S' S1 ∧ SM (T ++ (strT q).take (i + 1)) S1) ?_ ?_)
      · rw [eL] at h
        have := (i_le (by omega) (by omega)).1 h
        omega
      · rw [ec]
        refine w224 hY (by rw [List.length_append, List.length_take]; omega) (fun S1 h1 h2 => ⟨rfl, h1, ?_⟩)
        rw [take_suc (by omega), ← List.append_assoc]
        exact h2
      · rintro S1 ⟨hF1, hY1⟩
        refine b225_19 ?_
        rw [i_suc]
        exact ih (i + 1) S1 (by omega) (hF.trans hF1) hY1
  refine b225_0 (loop (strT q).length 0 S (by omega) Fz.refl ?_)
  show SM (T ++ []) S
  rw [List.append_nil]
  exact hT
theorem c143 {d : Nat} {v : Int32} {S : St} {T : List Int32} {Q : Out → St → Prop} (hv1 : -9 ≤ v.toInt) (hv2 : v.toInt ≤ 9) (hT : SY T S) (hl : T.length + 2 ≤ 400) (K : ∀ S1, Fz [(0, 13)] [45] S S1 → SY (T ++ numT v) S1 → Q (.inl none) S1) : Wp (d + 1) b 143 0 [.ref 0, .int v] [] S Q := by
  obtain ⟨n, n1, n2⟩ := num_small hv1 hv2
  have e48 : (48 : Int32) + (if 0 ≤ v then v else 0 - v) = Int32.ofNat (48 + n) := by
    rw [n2, show (48 : Int32) = Int32.ofNat 48 from rfl, i_add]
  have last : ∀ (T' : List Int32) S', T'.length < 400 → T' ++ [48 + (if 0 ≤ v then v else 0 - v)] = T ++ numT v → Fz [(0, 13)] [45] S S' → SY T' S' → Wp (d + 1) b 143 10 [.ref 0, .int v] [] S' Q := by
    intro T' S' hl' he hF hY
    rw [e48] at he
    refine b143_10 (P := fun S1 => Fz [(0, 13)] [45] S' S1 ∧ SY (T' ++ [Int32.ofNat (48 + n)]) S1) ?_ ?_
    · rw [e48]
      exact c145 hY hl' (by omega) (fun S1 h1 h2 => ⟨rfl, h1, h2⟩)
    · rintro S1 ⟨hF1, hY1⟩
      refine b143_21 (K S1 (hF.trans hF1) ?_)
      rw [← he]; exact hY1
  refine b143_0 (fun h => last T S (by omega) ?_ Fz.refl hT) (fun h => b143_4 (P := fun S1 => Fz [(0, 13)] [45] S S1 ∧ SY (T ++ [45]) S1) (c145 (n := 45) hT (by omega) (by omega) (fun S1 h1 h2 => ⟨rfl, h1, h2⟩)) ?_)
  · unfold numT
    rw [if_pos h, if_pos h]; rfl
  · rintro S1 ⟨hF1, hY1⟩
    refine last _ S1 (by rw [List.length_append]; show T.length + 1 < 400; omega) ?_ hF1 hY1
    unfold numT
    rw [if_neg h, List.append_assoc, if_neg h]
theorem w226 {d : Nat} {v : Int32} {S : St} {T : List Int32} {Q : Out → St → Prop} (hT : SM T S) (hl : T.length + 3 ≤ 400) (K : ∀ S1, Fz [(46, 37)] [61] S S1 → SM (T ++ ([32] ++ numT v)) S1 → Q (.inl none) S1) : Wp (d + 1) b 226 0 [.ref 46, .int v] [] S Q := by
  refine b226_0 (P := fun S1 => Fz [(46, 37)] [61] S S1 ∧ SM (T ++ [32]) S1) (w224 hT (by omega) (fun S1 h1 h2 => ⟨rfl, h1, h2⟩)) ?_
  rintro S1 ⟨hF1, hY1⟩
  have l1 : (T ++ [(32 : Int32)]).length = T.length + 1 := by rw [List.length_append]; rfl
  have last : ∀ (T' : List Int32) S', T'.length < 400 → T' ++ [48 + (if 0 ≤ v then v else 0 - v)] = T ++ ([32] ++ numT v) → Fz [(46, 37)] [61] S S' → SM T' S' → Wp (d + 1) b 226 16 [.ref 46, .int v] [] S' Q := by
    intro T' S' hl' he hF hY
    refine b226_16 (P := fun S1 => Fz [(46, 37)] [61] S' S1 ∧ SM (T' ++ [48 + (if 0 ≤ v then v else 0 - v)]) S1) (w224 hY hl' (fun S1 h1 h2 => ⟨rfl, h1, h2⟩)) ?_
    rintro S2 ⟨hF2, hY2⟩
    refine b226_27 (K S2 (hF.trans hF2) ?_)
    rw [← he]; exact hY2
  refine b226_6 (fun h => last _ S1 (by omega) ?_ hF1 hY1) (fun h => b226_10 (P := fun S2 => Fz [(46, 37)] [61] S1 S2 ∧ SM (T ++ [32] ++ [45]) S2) (w224 hY1 (by omega) (fun S2 h1 h2 => ⟨rfl, h1, h2⟩)) ?_)
  · unfold numT
    rw [if_pos h, if_pos h, List.append_assoc]; rfl
  · rintro S2 ⟨hF2, hY2⟩
    refine last _ S2 (by rw [List.length_append]; show (T ++ [(32 : Int32)]).length + 1 < 400; omega) ?_ (hF1.trans hF2) hY2
    unfold numT
    rw [if_neg h, if_neg h, List.append_assoc, List.append_assoc]
/-- a ray as text, without its end -/
def rayK (num : Nat → Int32) (r : Nat) : Nat → List Int32
  | 0 => strT 2002
  | k + 1 => rayK num r k ++ ([32] ++ numT (num (4 * r + k)))
/-- all that is said -/
def sayR (num : Nat → Int32) (D : Nat) (ins : Int32) : Nat → List Int32
  | 0 => strT 2000 ++ numT (Int32.ofNat D) ++ [59]
  | r + 1 => if tb ins r = true then sayR num D ins r ++ (rayK num r D ++ [59]) else sayR num D ins r
theorem rayK_len (num : Nat → Int32) (r k : Nat) : (rayK num r k).length ≤ 3 + 3 * k := by
  induction k with
  | zero =>
    show (strT 2002).length ≤ _
    have : (strT 2002).length = 3 := by decide +kernel
    omega
  | succ k ih =>
    unfold rayK
    have := numT_len (num (4 * r + k))
    rw [List.length_append, List.length_append]
    show _ + (1 + _) ≤ _
    omega
theorem sayR_len (num : Nat → Int32) {D : Nat} (hD : D ≤ 4) (ins : Int32) (r : Nat) : (sayR num D ins r).length ≤ 9 + 16 * r := by
  induction r with
  | zero =>
    unfold sayR
    have := numT_len (Int32.ofNat D)
    have e : (strT 2000).length = 6 := by decide +kernel
    rw [List.length_append, List.length_append, e]
    show _ + 1 ≤ _
    omega
  | succ r ih =>
    unfold sayR
    have := rayK_len num r D
    split
    · rw [List.length_append, List.length_append]
      show _ + (_ + 1) ≤ _
      omega
    · omega
end SAY
