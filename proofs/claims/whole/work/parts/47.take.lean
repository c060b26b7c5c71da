/-! THE CLASS: a chooser takes a set -/
/-- frames within a set -/
def inF (set : Int32) (F : List Int32) : List Int32 := F.filter (fun f => decide (f &&& (set ^^^ -1) = 0))
theorem inF_len (set : Int32) (F : List Int32) : (inF set F).length ≤ F.length := List.length_filter_le _ _
theorem inF_app (set : Int32) (F : List Int32) (x : Int32) : inF set (F ++ [x]) = inF set F ++ (if x &&& (set ^^^ -1) = 0 then [x] else []) := by
  unfold inF
  rw [List.filter_append, List.filter_cons]
  by_cases h : x &&& (set ^^^ -1) = 0
  · rw [if_pos (by rw [decide_eq_true h]), if_pos h]; rfl
  · rw [if_neg (by rw [decide_eq_false h]; decide), if_neg h]; rfl
theorem inF_all {set : Int32} {F : List Int32} (h : ∀ f, f ∈ F → sb f set) : inF set F = F := by
  unfold inF
  rw [List.filter_eq_self]
  intro f hf
  exact decide_eq_true (sb_sub0.2 (h f hf))
theorem mem_inF {set : Int32} {F : List Int32} {f : Int32} : f ∈ inF set F ↔ f ∈ F ∧ sb f set := by
  unfold inF
  rw [List.mem_filter]
  constructor
  · rintro ⟨h1, h2⟩
    exact ⟨h1, sb_sub0.1 (of_decide_eq_true h2)⟩
  · rintro ⟨h1, h2⟩
    exact ⟨h1, decide_eq_true (sb_sub0.2 h2)⟩
def orL (F : List Int32) (r : Nat) : Int32 := F.foldl (fun acc f => if tb f r = true then acc ||| f else acc) 0
theorem orL_app (F : List Int32) (x : Int32) (r : Nat) : orL (F ++ [x]) r = if tb x r = true then orL F r ||| x else orL F r := by
  unfold orL
  rw [List.foldl_append]
  rfl
theorem app_ind {P : List Int32 → Prop} (h0 : P []) (h1 : ∀ L x, P L → P (L ++ [x])) : ∀ L, P L := by
  have : ∀ n (L : List Int32), L.length = n → P L := by
    intro n
    induction n with
    | zero => intro L h; rw [List.length_eq_zero_iff.1 h]; exact h0
    | succ n ih =>
      intro L h
      have hne : L ≠ [] := fun q => by rw [q] at h; exact absurd h (Nat.succ_ne_zero n).symm
      rw [← List.dropLast_concat_getLast hne]
      exact h1 _ _ (ih _ (by rw [List.length_dropLast]; omega))
  exact fun L => this _ L rfl
theorem tb_mates (F : List Int32) {r : Nat} (hr : r < 32) (k : Nat) : tb (matesL F r) k = true ↔ (k ≠ r ∧ ∃ f, f ∈ F ∧ tb f r = true ∧ tb f k = true) := by
  refine app_ind (P := fun F => tb (matesL F r) k = true ↔ (k ≠ r ∧ ∃ f, f ∈ F ∧ tb f r = true ∧ tb f k = true)) ?_ (fun L x ih => ?_) F
  · constructor
    · intro h
      rw [show matesL [] r = 0 from rfl, tb_zero] at h
      cases h
    · rintro ⟨_, f, h, _⟩
      exact absurd h (List.not_mem_nil)
  · rw [matesL_app]
    unfold mateStep
    by_cases h : tb x r = true
    · rw [if_pos h, tb_or, Bool.or_eq_true, ih, tb_diff, tb_bit hr]
      constructor
      · rintro (⟨h1, f, h2, h3⟩ | h1)
        · exact ⟨h1, f, List.mem_append_left _ h2, h3⟩
        · simp only [Bool.and_eq_true, Bool.not_eq_true', decide_eq_false_iff_not] at h1
          exact ⟨h1.2, x, List.mem_append_right _ (List.mem_singleton.2 rfl), h, h1.1⟩
      · rintro ⟨h1, f, h2, h3, h4⟩
        rcases List.mem_append.1 h2 with h2 | h2
        · exact Or.inl ⟨h1, f, h2, h3, h4⟩
        · rw [List.mem_singleton.1 h2] at h4
          refine Or.inr ?_
          simp [h4, h1]
    · rw [if_neg h, ih]
      constructor
      · rintro ⟨h1, f, h2, h3⟩
        exact ⟨h1, f, List.mem_append_left _ h2, h3⟩
      · rintro ⟨h1, f, h2, h3, h4⟩
        rcases List.mem_append.1 h2 with h2 | h2
        · exact ⟨h1, f, h2, h3, h4⟩
        · rw [List.mem_singleton.1 h2] at h3
          exact absurd h3 h
theorem orL_mates (F : List Int32) {r : Nat} (hr : r < 20) : orL F r &&& (bit r ^^^ -1) = matesL F r := by
  refine app_ind (P := fun F => orL F r &&& (bit r ^^^ -1) = matesL F r) ?_ (fun L x ih => ?_) F
  · show 0 &&& _ = 0
    exact and_zero_l _
  · rw [orL_app, matesL_app]
    unfold mateStep
    by_cases h : tb x r = true
    · rw [if_pos h, if_pos h, ← ih]
      apply tb_ext
      intro k _
      rw [tb_and, tb_or, tb_or, tb_and, tb_and]
      cases tb (orL L r) k <;> cases tb x k <;> cases tb (bit r ^^^ -1) k <;> rfl
    · rw [if_neg h, if_neg h, ih]
theorem WB.of {ins : Int32} {up : Nat → Int32} {F : List Int32} {fs : List (Nat × Nat)} {as : List Nat} {S S1 : St} (h : WB ins up F S) (hF : Fz fs as S S1) (n : (5, 1) ∉ fs ∧ (5, 2) ∉ fs ∧ (5, 3) ∉ fs ∧ 23 ∉ as ∧ 24 ∉ as ∧ 25 ∉ as ∧ 26 ∉ as) : WB ins up F S1 := by
  obtain ⟨h1, h2, h3, h4, h5, h6⟩ := h
  obtain ⟨n1, n2, n3, n4, n5, n6, n7⟩ := n
  exact ⟨(hF.f n1).trans h1, (hF.f n2).trans h2, fun r hr => (hF.a n4 r).trans (h3 r hr), (hF.f n3).trans h4, fun i hi => (hF.a n7 i).trans (h5 i hi), fun r hr => ⟨(hF.a n5 r).trans (h6 r hr).1, (hF.a n6 r).trans (h6 r hr).2⟩⟩
section TKa
variable {b rl : Nat} {up : Nat → Int32} {ins set : Int32} {F : List Int32}
theorem c5a {d : Nat} {S : St} {G : List Int32} {r : Nat} {Q : Out → St → Prop} (hr : r < 20) (hm : S.2.1 24 r = matesL F r) (hin : S.1 5 1 = ins) (ha : S.1 6 4 = set) (hc : S.1 6 2 = Int32.ofNat G.length) (hl : G.length ≤ 300) (hf : ∀ i, i < G.length → S.2.1 27 i = G.getD i 0) (he : set = ins → matesL F r = matesL G r) (K : Q (.inl (some (.int (matesL G r)))) S) : Wp (d + 1) b 5 0 [.ref 6, .int (Int32.ofNat r)] [] S Q := by
  have loop : ∀ k i, i + k = G.length → Wp (d + 1) b 5 30 [.ref 6, .int (Int32.ofNat r), .int (orL (G.take i) r), .int (Int32.ofNat i)] [] S Q := by
    intro k
    induction k with
    | zero =>
      intro i hi
      have e : G.take i = G := List.take_of_length_le (by omega)
      refine b5a_30 (fun _ => b5a_73 ?_) (fun h => ?_)
      · rw [e]
        have := orL_mates G hr
        show Q (.inl (some (.int (orL G r &&& (bit r ^^^ -1))))) S
        rw [this]
        exact K
      · rw [hc] at h
        exact absurd ((i_le (by omega) (by omega)).2 (by omega)) h
    | succ k ih =>
      intro i hi
      have e : S.2.1 27 (Int32.ofNat i).toNatClampNeg = G.getD i 0 := by rw [i_cl (by omega)]; exact hf i (by omega)
      refine b5a_30 (fun h => ?_) (fun _ => b5a_38 (fun h => ?_) (fun _ => b5a_45 (i_vp (by omega) (by omega)) (s146 _ (by omega)) ?_))
      · rw [hc] at h
        have := (i_le (by omega) (by omega)).1 h
        omega
      · have := (i_le (a := 300) (by omega) (by omega)).1 h
        omega
      · rintro _ _ ⟨rfl, rfl⟩
        rw [e]
        refine b5a_55 (fun h => b5a_67 ?_) (fun h => b5a_58 (i_vp (by omega) (by omega)) (b5a_67 ?_))
        · have := ih (i + 1) (by omega)
          rw [take_suc (by omega), orL_app, bi0.1 h] at this
          rw [i_suc]
          exact this
        · have := ih (i + 1) (by omega)
          rw [take_suc (by omega), orL_app, bi1.1 h] at this
          rw [i_suc, e]
          exact this
  refine b5a_0 (fun h => b5a_26 (loop G.length 0 (by omega))) (fun h => b5a_14 (s147e (by omega)) ?_)
  rintro _ _ ⟨rfl, rfl⟩
  have h := Classical.not_not.1 h
  rw [ha, hin] at h
  refine b5a_25 ?_
  rw [if_pos hr, hm, he h]
  exact K
theorem c4a {d : Nat} {S : St} {Q : Out → St → Prop} (h1 : rl ≤ 1) (hW : WB ins up F S) (hl : F.length ≤ 300) (hFi : ∀ f, f ∈ F → sb f ins) (K : ∀ S1, Fz [(6, 2), (6, 4), (6, 7), (6, 8), (6, 9)] [27, 28] S S1 → CHa 20 (bes rl (fun r => up r &&& set) (inF set F)) (inF set F) S1 → S1.1 6 4 = set → S1.1 6 7 = -1 → S1.1 6 8 = -1 → S1.1 6 9 = 0 → Q (.inl none) S1) : Wp (d + 2) b 4 0 [.ref 6, .int set, .int (Int32.ofNat rl)] [] S Q := by
  obtain ⟨hin, _, hup, hn, hf, hmt⟩ := hW
  have hG := inF_len set F
  have bars : ∀ k r S', r + k = 20 → Fz [(6, 2), (6, 4), (6, 7), (6, 8), (6, 9)] [27, 28] S S' → S'.1 6 2 = Int32.ofNat (inF set F).length → (∀ i, i < (inF set F).length → S'.2.1 27 i = (inF set F).getD i 0) → S'.1 6 4 = set → S'.1 6 7 = -1 → S'.1 6 8 = -1 → S'.1 6 9 = 0 → (∀ q, q < r → S'.2.1 28 q = bes rl (fun r => up r &&& set) (inF set F) q) → Wp (d + 2) b 4 107 [.ref 6, .int set, .int (Int32.ofNat rl), .int (Int32.ofNat r)] [] S' Q := by
    intro k
    induction k with
    | zero =>
      intro r S' hr hF e2 eR e4 e7 e8 e9 hq
      exact b4a_107 (fun _ => b4a_148 (K S' hF ⟨e2, by omega, eR, fun q hq' => hq q (by omega)⟩ e4 e7 e8 e9)) (fun h => absurd ((i_le (a := 20) (by omega) (by omega)).2 (by omega)) h)
    | succ k ih =>
      intro r S' hr hF e2 eR e4 e7 e8 e9 hq
      have hr20 : r < 20 := by omega
      have vp := i_vp (k := r) (n := 20) hr20 (by omega)
      have go : ∀ v, v = bes rl (fun r => up r &&& set) (inF set F) r → Wp (d + 2) b 4 141 [.ref 6, .int set, .int (Int32.ofNat rl), .int (Int32.ofNat r)] [.int v, .int (Int32.ofNat r), .ref 28] S' Q := by
        rintro v rfl
        refine b4a_141 vp ?_
        rw [i_suc, i_cl (by omega)]
        refine ih (r + 1) _ (by omega) (hF.seta (by decide)) e2 (fun i hi => ?_) e4 e7 e8 e9 (fun q hq' => ?_)
        · rw [seta_ne (by omega)]; exact eR i hi
        · by_cases e : q = r
          · subst e; exact seta_same
          · rw [seta_ne (by omega)]; exact hq q (by omega)
      refine b4a_107 (fun h => ?_) (fun _ => b4a_113 (fun h => ?_) (fun h => b4a_122 vp (go _ ?_)))
      · have := (i_le (a := 20) (by omega) (by omega)).1 h
        omega
      · have r1 : ¬ rl = 0 := by rintro rfl; exact h rfl
        refine b4a_136 (P := Vx (matesL (inF set F) r) S') (c5a (F := F) (G := inF set F) (ins := ins) (set := set) hr20 ((hF.a (by decide) r).trans (hmt r hr20).1) ((hF.f (by decide)).trans hin) e4 e2 (by omega) eR (fun e => ?_) ⟨_, rfl, rfl, rfl⟩) ?_
        · rw [inF_all (set := set) (fun f hf' => by rw [e]; exact hFi f hf')]
        · rintro _ _ ⟨rfl, rfl⟩
          refine go _ ?_
          unfold bes
          rw [if_neg r1]
      · have r0 : rl = 0 := (i_inj (b := 0) (by omega) (by omega)).1 (Classical.not_not.1 h)
        unfold bes
        rw [if_pos r0, i_cl (by omega), hF.a (by decide), hup r hr20]
  have frames : ∀ k i S', i + k = F.length → Fz [(6, 2), (6, 4), (6, 7), (6, 8), (6, 9)] [27, 28] S S' → S'.1 6 2 = Int32.ofNat (inF set (F.take i)).length → (∀ j, j < (inF set (F.take i)).length → S'.2.1 27 j = (inF set (F.take i)).getD j 0) → S'.1 6 4 = set → S'.1 6 7 = -1 → S'.1 6 8 = -1 → S'.1 6 9 = 0 → Wp (d + 2) b 4 27 [.ref 6, .int set, .int (Int32.ofNat rl), .int (Int32.ofNat i)] [] S' Q := by
    intro k
    induction k with
    | zero =>
      intro i S' hi hF e2 eR e4 e7 e8 e9
      have e : F.take i = F := List.take_of_length_le (by omega)
      rw [e] at e2 eR
      refine b4a_27 (fun _ => b4a_105 (bars 20 0 S' (by omega) hF e2 eR e4 e7 e8 e9 (fun q h => absurd h (by omega)))) (fun h => ?_)
      rw [hF.f (by decide), hn] at h
      exact absurd ((i_le (by omega) (by omega)).2 (by omega)) h
    | succ k ih =>
      intro i S' hi hF e2 eR e4 e7 e8 e9
      have e : S'.2.1 26 (Int32.ofNat i).toNatClampNeg = F.getD i 0 := by rw [i_cl (by omega)]; exact (hF.a (by decide) i).trans (hf i (by omega))
      have hli : (inF set (F.take i)).length ≤ i := Nat.le_trans (inF_len _ _) (by rw [List.length_take]; omega)
      refine b4a_27 (fun h => ?_) (fun _ => b4a_38 (fun h => ?_) (fun _ => b4a_45 (i_vp (by omega) (by omega)) (fun h => ?_) (fun h => b4a_61 (fun h2 => ?_) (fun h2 => b4a_71 (i_vp (by omega) (by omega)) ?_ ?_))))
      · rw [hF.f (by decide), hn] at h
        have := (i_le (by omega) (by omega)).1 h
        omega
      · have := (i_le (a := 300) (by omega) (by omega)).1 h
        omega
      · rw [e] at h
        refine b4a_99 ?_
        rw [i_suc]
        have q : inF set (F.take (i + 1)) = inF set (F.take i) := by
          rw [take_suc (by omega), inF_app, if_neg h, List.append_nil]
        exact ih (i + 1) S' (by omega) hF (by rw [q]; exact e2) (by rw [q]; exact eR) e4 e7 e8 e9
      · rw [e2] at h2
        have := (i_le (a := 300) (by omega) (by omega)).1 h2
        omega
      · rw [e2]; exact i_vp (by omega) (by omega)
      · rw [e] at h
        have h := Classical.not_not.1 h
        have q : inF set (F.take (i + 1)) = inF set (F.take i) ++ [F.getD i 0] := by
          rw [take_suc (by omega), inF_app, if_pos h]
        refine b4a_99 ?_
        rw [i_suc]
        show Wp (d + 2) b 4 27 [.ref 6, .int set, .int (Int32.ofNat rl), .int (Int32.ofNat (i + 1))] [] (setI (setA S' 27 (S'.1 6 2).toNatClampNeg (S'.2.1 26 (Int32.ofNat i).toNatClampNeg)) 6 2 (S'.1 6 2 + 1)) Q
        rw [e, e2, i_cl (by omega), i_suc]
        refine ih (i + 1) _ (by omega) ((hF.seta (by decide)).seti (by decide)) ?_ (fun j hj => ?_) ((seti_ne (by decide)).trans e4) ((seti_ne (by decide)).trans e7) ((seti_ne (by decide)).trans e8) ((seti_ne (by decide)).trans e9)
        · rw [q, List.length_append]; exact seti_same
        · rw [q, List.length_append] at hj
          have hj : j < (inF set (F.take i)).length + 1 := hj
          rw [q]
          show (setA S' 27 (inF set (F.take i)).length (F.getD i 0)).2.1 27 j = _
          by_cases ej : j = (inF set (F.take i)).length
          · rw [ej, seta_same, getD_app2]
          · rw [seta_ne (by omega), getD_app (by omega)]; exact eR j (by omega)
  refine b4a_0 (frames F.length 0 _ (by omega) (((((Fz.refl.seti (by decide)).seti (by decide)).seti (by decide)).seti (by decide)).seti (by decide)) ?_ (fun j hj => absurd hj (Nat.not_lt_zero j)) ?_ ?_ ?_ ?_)
  · exact seti_same
  · rw [seti_ne (by decide), seti_ne (by decide), seti_ne (by decide), seti_ne (by decide), seti_same]
  · rw [seti_ne (by decide), seti_ne (by decide), seti_ne (by decide), seti_same]
  · rw [seti_ne (by decide), seti_ne (by decide), seti_same]
  · rw [seti_ne (by decide), seti_same]
end TKa
section TKb
variable {b rl : Nat} {up : Nat → Int32} {ins set : Int32} {F : List Int32}
theorem c5b {d : Nat} {S : St} {G : List Int32} {r : Nat} {Q : Out → St → Prop} (hr : r < 20) (hm : S.2.1 24 r = matesL F r) (hin : S.1 5 1 = ins) (ha : S.1 13 4 = set) (hc : S.1 13 2 = Int32.ofNat G.length) (hl : G.length ≤ 300) (hf : ∀ i, i < G.length → S.2.1 29 i = G.getD i 0) (he : set = ins → matesL F r = matesL G r) (K : Q (.inl (some (.int (matesL G r)))) S) : Wp (d + 1) b 5 0 [.ref 13, .int (Int32.ofNat r)] [] S Q := by
  have loop : ∀ k i, i + k = G.length → Wp (d + 1) b 5 30 [.ref 13, .int (Int32.ofNat r), .int (orL (G.take i) r), .int (Int32.ofNat i)] [] S Q := by
    intro k
    induction k with
    | zero =>
      intro i hi
      have e : G.take i = G := List.take_of_length_le (by omega)
      refine b5b_30 (fun _ => b5b_73 ?_) (fun h => ?_)
      · rw [e]
        have := orL_mates G hr
        show Q (.inl (some (.int (orL G r &&& (bit r ^^^ -1))))) S
        rw [this]
        exact K
      · rw [hc] at h
        exact absurd ((i_le (by omega) (by omega)).2 (by omega)) h
    | succ k ih =>
      intro i hi
      have e : S.2.1 29 (Int32.ofNat i).toNatClampNeg = G.getD i 0 := by rw [i_cl (by omega)]; exact hf i (by omega)
      refine b5b_30 (fun h => ?_) (fun _ => b5b_38 (fun h => ?_) (fun _ => b5b_45 (i_vp (by omega) (by omega)) (s146 _ (by omega)) ?_))
      · rw [hc] at h
        have := (i_le (by omega) (by omega)).1 h
        omega
      · have := (i_le (a := 300) (by omega) (by omega)).1 h
        omega
      · rintro _ _ ⟨rfl, rfl⟩
        rw [e]
        refine b5b_55 (fun h => b5b_67 ?_) (fun h => b5b_58 (i_vp (by omega) (by omega)) (b5b_67 ?_))
        · have := ih (i + 1) (by omega)
          rw [take_suc (by omega), orL_app, bi0.1 h] at this
          rw [i_suc]
          exact this
        · have := ih (i + 1) (by omega)
          rw [take_suc (by omega), orL_app, bi1.1 h] at this
          rw [i_suc, e]
          exact this
  refine b5b_0 (fun h => b5b_26 (loop G.length 0 (by omega))) (fun h => b5b_14 (s147e (by omega)) ?_)
  rintro _ _ ⟨rfl, rfl⟩
  have h := Classical.not_not.1 h
  rw [ha, hin] at h
  refine b5b_25 ?_
  rw [if_pos hr, hm, he h]
  exact K
theorem c4b {d : Nat} {S : St} {Q : Out → St → Prop} (h1 : rl ≤ 1) (hW : WB ins up F S) (hl : F.length ≤ 300) (hFi : ∀ f, f ∈ F → sb f ins) (K : ∀ S1, Fz [(13, 2), (13, 4), (13, 7), (13, 8), (13, 9)] [29, 30] S S1 → CHb 20 (bes rl (fun r => up r &&& set) (inF set F)) (inF set F) S1 → S1.1 13 4 = set → S1.1 13 7 = -1 → S1.1 13 8 = -1 → S1.1 13 9 = 0 → Q (.inl none) S1) : Wp (d + 2) b 4 0 [.ref 13, .int set, .int (Int32.ofNat rl)] [] S Q := by
  obtain ⟨hin, _, hup, hn, hf, hmt⟩ := hW
  have hG := inF_len set F
  have bars : ∀ k r S', r + k = 20 → Fz [(13, 2), (13, 4), (13, 7), (13, 8), (13, 9)] [29, 30] S S' → S'.1 13 2 = Int32.ofNat (inF set F).length → (∀ i, i < (inF set F).length → S'.2.1 29 i = (inF set F).getD i 0) → S'.1 13 4 = set → S'.1 13 7 = -1 → S'.1 13 8 = -1 → S'.1 13 9 = 0 → (∀ q, q < r → S'.2.1 30 q = bes rl (fun r => up r &&& set) (inF set F) q) → Wp (d + 2) b 4 107 [.ref 13, .int set, .int (Int32.ofNat rl), .int (Int32.ofNat r)] [] S' Q := by
    intro k
    induction k with
    | zero =>
      intro r S' hr hF e2 eR e4 e7 e8 e9 hq
      exact b4b_107 (fun _ => b4b_148 (K S' hF ⟨e2, by omega, eR, fun q hq' => hq q (by omega)⟩ e4 e7 e8 e9)) (fun h => absurd ((i_le (a := 20) (by omega) (by omega)).2 (by omega)) h)
    | succ k ih =>
      intro r S' hr hF e2 eR e4 e7 e8 e9 hq
      have hr20 : r < 20 := by omega
      have vp := i_vp (k := r) (n := 20) hr20 (by omega)
      have go : ∀ v, v = bes rl (fun r => up r &&& set) (inF set F) r → Wp (d + 2) b 4 141 [.ref 13, .int set, .int (Int32.ofNat rl), .int (Int32.ofNat r)] [.int v, .int (Int32.ofNat r), .ref 30] S' Q := by
        rintro v rfl
        refine b4b_141 vp ?_
        rw [i_suc, i_cl (by omega)]
        refine ih (r + 1) _ (by omega) (hF.seta (by decide)) e2 (fun i hi => ?_) e4 e7 e8 e9 (fun q hq' => ?_)
        · rw [seta_ne (by omega)]; exact eR i hi
        · by_cases e : q = r
          · subst e; exact seta_same
          · rw [seta_ne (by omega)]; exact hq q (by omega)
      refine b4b_107 (fun h => ?_) (fun _ => b4b_113 (fun h => ?_) (fun h => b4b_122 vp (go _ ?_)))
      · have := (i_le (a := 20) (by omega) (by omega)).1 h
        omega
      · have r1 : ¬ rl = 0 := by rintro rfl; exact h rfl
        refine b4b_136 (P := Vx (matesL (inF set F) r) S') (c5b (F := F) (G := inF set F) (ins := ins) (set := set) hr20 ((hF.a (by decide) r).trans (hmt r hr20).1) ((hF.f (by decide)).trans hin) e4 e2 (by omega) eR (fun e => ?_) ⟨_, rfl, rfl, rfl⟩) ?_
        · rw [inF_all (set := set) (fun f hf' => by rw [e]; exact hFi f hf')]
        · rintro _ _ ⟨rfl, rfl⟩
          refine go _ ?_
          unfold bes
          rw [if_neg r1]
      · have r0 : rl = 0 := (i_inj (b := 0) (by omega) (by omega)).1 (Classical.not_not.1 h)
        unfold bes
        rw [if_pos r0, i_cl (by omega), hF.a (by decide), hup r hr20]
  have frames : ∀ k i S', i + k = F.length → Fz [(13, 2), (13, 4), (13, 7), (13, 8), (13, 9)] [29, 30] S S' → S'.1 13 2 = Int32.ofNat (inF set (F.take i)).length → (∀ j, j < (inF set (F.take i)).length → S'.2.1 29 j = (inF set (F.take i)).getD j 0) → S'.1 13 4 = set → S'.1 13 7 = -1 → S'.1 13 8 = -1 → S'.1 13 9 = 0 → Wp (d + 2) b 4 27 [.ref 13, .int set, .int (Int32.ofNat rl), .int (Int32.ofNat i)] [] S' Q := by
    intro k
    induction k with
    | zero =>
      intro i S' hi hF e2 eR e4 e7 e8 e9
      have e : F.take i = F := List.take_of_length_le (by omega)
      rw [e] at e2 eR
      refine b4b_27 (fun _ => b4b_105 (bars 20 0 S' (by omega) hF e2 eR e4 e7 e8 e9 (fun q h => absurd h (by omega)))) (fun h => ?_)
      rw [hF.f (by decide), hn] at h
      exact absurd ((i_le (by omega) (by omega)).2 (by omega)) h
    | succ k ih =>
      intro i S' hi hF e2 eR e4 e7 e8 e9
      have e : S'.2.1 26 (Int32.ofNat i).toNatClampNeg = F.getD i 0 := by rw [i_cl (by omega)]; exact (hF.a (by decide) i).trans (hf i (by omega))
      have hli : (inF set (F.take i)).length ≤ i := Nat.le_trans (inF_len _ _) (by rw [List.length_take]; omega)
      refine b4b_27 (fun h => ?_) (fun _ => b4b_38 (fun h => ?_) (fun _ => b4b_45 (i_vp (by omega) (by omega)) (fun h => ?_) (fun h => b4b_61 (fun h2 => ?_) (fun h2 => b4b_71 (i_vp (by omega) (by omega)) ?_ ?_))))
      · rw [hF.f (by decide), hn] at h
        have := (i_le (by omega) (by omega)).1 h
        omega
      · have := (i_le (a := 300) (by omega) (by omega)).1 h
        omega
      · rw [e] at h
        refine b4b_99 ?_
        rw [i_suc]
        have q : inF set (F.take (i + 1)) = inF set (F.take i) := by
          rw [take_suc (by omega), inF_app, if_neg h, List.append_nil]
        exact ih (i + 1) S' (by omega) hF (by rw [q]; exact e2) (by rw [q]; exact eR) e4 e7 e8 e9
      · rw [e2] at h2
        have := (i_le (a := 300) (by omega) (by omega)).1 h2
        omega
      · rw [e2]; exact i_vp (by omega) (by omega)
      · rw [e] at h
        have h := Classical.not_not.1 h
        have q : inF set (F.take (i + 1)) = inF set (F.take i) ++ [F.getD i 0] := by
          rw [take_suc (by omega), inF_app, if_pos h]
        refine b4b_99 ?_
        rw [i_suc]
        show Wp (d + 2) b 4 27 [.ref 13, .int set, .int (Int32.ofNat rl), .int (Int32.ofNat (i + 1))] [] (setI (setA S' 29 (S'.1 13 2).toNatClampNeg (S'.2.1 26 (Int32.ofNat i).toNatClampNeg)) 13 2 (S'.1 13 2 + 1)) Q
        rw [e, e2, i_cl (by omega), i_suc]
        refine ih (i + 1) _ (by omega) ((hF.seta (by decide)).seti (by decide)) ?_ (fun j hj => ?_) ((seti_ne (by decide)).trans e4) ((seti_ne (by decide)).trans e7) ((seti_ne (by decide)).trans e8) ((seti_ne (by decide)).trans e9)
        · rw [q, List.length_append]; exact seti_same
        · rw [q, List.length_append] at hj
          have hj : j < (inF set (F.take i)).length + 1 := hj
          rw [q]
          show (setA S' 29 (inF set (F.take i)).length (F.getD i 0)).2.1 29 j = _
          by_cases ej : j = (inF set (F.take i)).length
          · rw [ej, seta_same, getD_app2]
          · rw [seta_ne (by omega), getD_app (by omega)]; exact eR j (by omega)
  refine b4b_0 (frames F.length 0 _ (by omega) (((((Fz.refl.seti (by decide)).seti (by decide)).seti (by decide)).seti (by decide)).seti (by decide)) ?_ (fun j hj => absurd hj (Nat.not_lt_zero j)) ?_ ?_ ?_ ?_)
  · exact seti_same
  · rw [seti_ne (by decide), seti_ne (by decide), seti_ne (by decide), seti_ne (by decide), seti_same]
  · rw [seti_ne (by decide), seti_ne (by decide), seti_ne (by decide), seti_same]
  · rw [seti_ne (by decide), seti_ne (by decide), seti_same]
  · rw [seti_ne (by decide), seti_same]
end TKb
