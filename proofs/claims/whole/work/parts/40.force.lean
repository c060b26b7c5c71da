/-! WHAT IS FORCED -/
/-- a part of -/
def sb (s t : Int32) : Prop := ∀ k, tb s k = true → tb t k = true
theorem sb.refl (s : Int32) : sb s s := fun _ h => h
theorem sb.trans {s t u : Int32} (h : sb s t) (h2 : sb t u) : sb s u := fun k q => h2 k (h k q)
theorem sb_orl (s t : Int32) : sb s (s ||| t) := fun k h => by rw [tb_or, h]; rfl
theorem sb_orr (s t : Int32) : sb t (s ||| t) := fun k h => by rw [tb_or, h, Bool.or_true]
theorem sb_or {s t u : Int32} (h1 : sb s u) (h2 : sb t u) : sb (s ||| t) u := by
  intro k h
  rw [tb_or] at h
  cases e : tb s k
  · rw [e, Bool.false_or] at h; exact h2 k h
  · exact h1 k e
theorem sb_andl (s t : Int32) : sb (s &&& t) s := fun k h => by
  rw [tb_and] at h
  cases e : tb s k
  · rw [e] at h; cases h
  · rfl
theorem sb_andr (s t : Int32) : sb (s &&& t) t := fun k h => by
  rw [tb_and] at h
  cases e : tb t k
  · rw [e, Bool.and_false] at h; cases h
  · rfl
theorem sb_anti {s t : Int32} (h1 : sb s t) (h2 : sb t s) : s = t := by
  apply tb_ext
  intro k _
  cases e1 : tb s k <;> cases e2 : tb t k
  · rfl
  · rw [h2 k e2] at e1; cases e1
  · rw [h1 k e1] at e2; cases e2
  · rfl
theorem sb_zero (s : Int32) : sb 0 s := fun k h => by rw [tb_zero] at h; cases h
theorem sb_low {n : Nat} {s t : Int32} (h : sb s t) (ht : Low n t) : Low n s := fun k q => ht k (h k q)
theorem sb_sub0 {s t : Int32} : s &&& (t ^^^ -1) = 0 ↔ sb s t := sub0
/-- what is left of s without t -/
theorem tb_diff (s t : Int32) (k : Nat) : tb (s &&& (t ^^^ -1)) k = (tb s k && !tb t k) := by
  by_cases hk : k < 32
  · rw [tb_and, tb_not t hk]
  · rw [tb_ge (by omega), tb_ge (s := s) (by omega)]; rfl
theorem cnt_mono {p q : Nat → Bool} {n : Nat} (h : ∀ k, k < n → p k = true → q k = true) : cnt p n ≤ cnt q n := by
  induction n with
  | zero => exact Nat.le_refl _
  | succ n ih =>
    have := ih (fun k hk => h k (by omega))
    unfold cnt
    by_cases e : p n = true
    · rw [if_pos e, if_pos (h n (by omega) e)]; omega
    · rw [if_neg e]; omega
theorem cnt_lt {p q : Nat → Bool} {n l : Nat} (h : ∀ k, k < n → p k = true → q k = true) (hl : l < n) (h1 : p l = false) (h2 : q l = true) : cnt p n < cnt q n := by
  induction n with
  | zero => omega
  | succ n ih =>
    unfold cnt
    by_cases e : l = n
    · subst e
      have := cnt_mono (n := l) (fun k hk => h k (by omega))
      rw [h1, if_pos h2]
      simp
      omega
    · have := ih (fun k hk => h k (by omega)) (by omega)
      by_cases e : p n = true
      · rw [if_pos e, if_pos (h n (by omega) e)]; omega
      · rw [if_neg e]; omega
theorem pcn_mono {s t : Int32} (h : sb s t) : pcn s ≤ pcn t := cnt_mono (fun k _ => h k)
theorem pcn_lt {s t : Int32} (h : sb s t) (hn : ¬ s = t) : pcn s < pcn t := by
  have : ∃ l, tb t l = true ∧ tb s l = false := by
    refine Classical.byContradiction fun q => hn (sb_anti h (fun k hk => ?_))
    cases e : tb s k
    · exact absurd ⟨k, hk, e⟩ q
    · rfl
  obtain ⟨l, h1, h2⟩ := this
  exact cnt_lt (fun k _ => h k) (tb_lt h1) h2 h1
theorem pcn_lown {n : Nat} {s : Int32} (h : Low n s) (hn : n ≤ 32) : pcn s ≤ n := by
  rw [pcn_low h hn]; exact cnt_le _ _
/-- closed under what is forced, without a clash -/
def Goo (bs : Nat → Int32) (F : List Int32) (m : Nat) (Y N : Int32) : Prop := (∀ k, ¬ (tb Y k = true ∧ tb N k = true)) ∧ (∀ f, f ∈ F → ¬ sb f N) ∧ (∀ r, r < m → tb Y r = true → sb (bs r) N) ∧ (∀ f, f ∈ F → pcn (f &&& (N ^^^ -1)) = 1 → sb (f &&& (N ^^^ -1)) Y)
/-- such ones above -/
def Abo (bs : Nat → Int32) (F : List Int32) (m : Nat) (y n Y N : Int32) : Prop := Goo bs F m Y N ∧ sb y Y ∧ sb n N
/-- what is forced: the least; or there is none -/
def Fc (bs : Nat → Int32) (F : List Int32) (m : Nat) (y n Y N : Int32) (c : Bool) : Prop := Low m Y ∧ Low m N ∧ ((c = false ∧ Abo bs F m y n Y N ∧ ∀ Y' N', Abo bs F m y n Y' N' → sb Y Y' ∧ sb N N') ∨ (c = true ∧ ∀ Y' N', ¬ Abo bs F m y n Y' N'))
/-- two of them are one -/
theorem Fc.uniq {bs : Nat → Int32} {F : List Int32} {m : Nat} {y n Y N Y2 N2 : Int32} {c c2 : Bool} (h : Fc bs F m y n Y N c) (h2 : Fc bs F m y n Y2 N2 c2) : c = c2 ∧ (c = false → Y = Y2 ∧ N = N2) := by
  obtain ⟨_, _, h⟩ := h
  obtain ⟨_, _, h2⟩ := h2
  rcases h with ⟨rfl, a1, a2⟩ | ⟨rfl, a1⟩ <;> rcases h2 with ⟨rfl, b1, b2⟩ | ⟨rfl, b1⟩
  · refine ⟨rfl, fun _ => ?_⟩
    have q1 := a2 _ _ b1
    have q2 := b2 _ _ a1
    exact ⟨sb_anti q1.1 q2.1, sb_anti q1.2 q2.2⟩
  · exact absurd a1 (b1 _ _)
  · exact absurd b1 (a1 _ _)
  · exact ⟨rfl, fun q => by cases q⟩
theorem get_mem {F : List Int32} {i : Nat} (h : i < F.length) : F.getD i 0 ∈ F := by
  rw [List.getD_eq_getElem?_getD, List.getElem?_eq_getElem h]
  exact List.getElem_mem h
theorem mem_get {F : List Int32} {f : Int32} (h : f ∈ F) : ∃ i, i < F.length ∧ F.getD i 0 = f := by
  obtain ⟨i, hi, rfl⟩ := List.getElem_of_mem h
  refine ⟨i, hi, ?_⟩
  rw [List.getD_eq_getElem?_getD, List.getElem?_eq_getElem hi]
  rfl
section FORCE
variable {b m rl : Nat} {ins : Int32} {up : Nat → Int32} {F : List Int32}
theorem w173 {d : Nat} {S : St} {y n : Int32} {Q : Out → St → Prop} (hW : MW m rl ins up F S) (hFl : ∀ f, f ∈ F → Low m f) (hbl : ∀ r, r < m → Low m (bes rl up F r)) (hy : Low m y) (hn : Low m n) (K : ∀ S1 c, Fz [(46, 17), (46, 18), (46, 19)] [] S S1 → S1.1 46 19 = bi c → Fc (bes rl up F) F m y n (S1.1 46 17) (S1.1 46 18) c → Q (.inl none) S1) : Wp (d + 1) b 173 0 [.ref 46, .int y, .int n] [] S Q := by
  obtain ⟨hm, h20, hi, hlow, hrl, h1, hup, hL, hlen, hbs⟩ := id hW
  -- the end: is there a clash
  have fin : ∀ k f S' (c : Bool), f + k = F.length → Fz [(46, 17), (46, 18), (46, 19)] [] S S' → S'.1 46 19 = bi c → (c = true ↔ (¬ (∀ k, ¬ (tb (S'.1 46 17) k = true ∧ tb (S'.1 46 18) k = true)) ∨ ∃ j, j < f ∧ sb (F.getD j 0) (S'.1 46 18))) →
      (∀ S1 c, Fz [(46, 17), (46, 18), (46, 19)] [] S S1 → S1.1 46 17 = S'.1 46 17 → S1.1 46 18 = S'.1 46 18 → S1.1 46 19 = bi c → (c = true ↔ (¬ (∀ k, ¬ (tb (S'.1 46 17) k = true ∧ tb (S'.1 46 18) k = true)) ∨ ∃ j, j < F.length ∧ sb (F.getD j 0) (S'.1 46 18))) → Q (.inl none) S1) →
      ∀ x3, Wp (d + 1) b 173 179 [.ref 46, .int y, .int n, .int x3, .int (Int32.ofNat f)] [] S' Q := by
    intro k
    induction k with
    | zero =>
      intro f S' c hf hF hc hq K' x3
      have e : f = F.length := by omega
      subst e
      refine b173_179 (fun _ => b173_227 (K' S' c hF rfl rfl hc hq)) (fun h => ?_)
      rw [hF.f (by decide), hL.1] at h
      exact absurd ((i_le (by omega) (by omega)).2 (Nat.le_refl _)) h
    | succ k ih =>
      intro f S' c hf hF hc hq K' x3
      have e50 : S'.2.1 50 (Int32.ofNat f).toNatClampNeg = F.getD f 0 := by rw [i_cl (by omega)]; exact (hF.a (by decide) f).trans (hL.2 f (by omega))
      have next : ∀ c' : Bool, (c' = true ↔ (c = true ∨ sb (F.getD f 0) (S'.1 46 18))) → ∀ v, v = bi c' → Wp (d + 1) b 173 218 [.ref 46, .int y, .int n, .int x3, .int (Int32.ofNat f)] [.int v, .ref 46] S' Q := by
        intro c' hc' v hv
        subst hv
        refine b173_218 (bi01 c') ?_
        rw [i_suc]
        refine ih (f + 1) _ c' (by omega) (hF.seti (by decide)) seti_same ?_ ?_ x3
        · rw [hc', hq, seti_ne (by decide), seti_ne (by decide)]
          constructor
          · rintro ((q | ⟨j, q1, q2⟩) | q)
            · exact Or.inl q
            · exact Or.inr ⟨j, by omega, q2⟩
            · exact Or.inr ⟨f, by omega, q⟩
          · rintro (q | ⟨j, q1, q2⟩)
            · exact Or.inl (Or.inl q)
            · by_cases e : j = f
              · subst e; exact Or.inr q2
              · exact Or.inl (Or.inr ⟨j, by omega, q2⟩)
        · intro S1 c1 q1 q2 q3 q4 q5
          rw [seti_ne (by decide)] at q2
          rw [seti_ne (by decide)] at q3
          rw [seti_ne (by decide), seti_ne (by decide)] at q5
          exact K' S1 c1 q1 q2 q3 q4 q5
      refine b173_179 (fun h => ?_) (fun _ => b173_188 (fun h => b173_213 (next true ?_ 1 rfl)) (fun h => b173_196 (i_vp (by omega) (by omega)) (fun h2 => b173_217 (next false ?_ 0 rfl)) (fun h2 => b173_213 (next true ?_ 1 rfl))))
      · rw [hF.f (by decide), hL.1] at h
        have := (i_le (by omega) (by omega)).1 h
        omega
      · rw [hc] at h
        simp [bi1.1 h]
      · have h := Classical.not_not.1 h
        rw [hc] at h
        rw [e50] at h2
        rw [bi0.1 h]
        simp only [Bool.false_eq_true, false_or, false_iff]
        exact fun q => h2 (sb_sub0.2 q)
      · rw [e50] at h2
        have := sb_sub0.1 (Classical.not_not.1 h2)
        exact ⟨fun _ => Or.inr this, fun _ => rfl⟩
  -- frames
  have ph2 : ∀ k f S' x4 x5, f + k = F.length → Fz [(46, 17), (46, 18), (46, 19)] [] S S' → Low m (S'.1 46 17) → (∀ Y' N', Abo (bes rl up F) F m y n Y' N' → sb (S'.1 46 17) Y' ∧ sb (S'.1 46 18) N') → (∀ j, j < f → pcn (F.getD j 0 &&& (S'.1 46 18 ^^^ -1)) = 1 → sb (F.getD j 0 &&& (S'.1 46 18 ^^^ -1)) (S'.1 46 17)) →
      (∀ S1, Fz [(46, 17), (46, 18), (46, 19)] [] S S1 → S1.1 46 18 = S'.1 46 18 → sb (S'.1 46 17) (S1.1 46 17) → Low m (S1.1 46 17) → (∀ Y' N', Abo (bes rl up F) F m y n Y' N' → sb (S1.1 46 17) Y' ∧ sb (S1.1 46 18) N') → (∀ j, j < F.length → pcn (F.getD j 0 &&& (S1.1 46 18 ^^^ -1)) = 1 → sb (F.getD j 0 &&& (S1.1 46 18 ^^^ -1)) (S1.1 46 17)) → ∀ x6, Wp (d + 1) b 173 128 [.ref 46, .int y, .int n, .int 1, .int x4, .int x5, .int x6] [] S1 Q) →
      Wp (d + 1) b 173 77 [.ref 46, .int y, .int n, .int 1, .int x4, .int x5, .int (Int32.ofNat f)] [] S' Q := by
    intro k
    induction k with
    | zero =>
      intro f S' x4 x5 hf hF hl hab hcl K'
      have e : f = F.length := by omega
      subst e
      refine b173_77 (fun _ => K' S' hF rfl (sb.refl _) hl hab hcl _) (fun h => ?_)
      rw [hF.f (by decide), hL.1] at h
      exact absurd ((i_le (by omega) (by omega)).2 (Nat.le_refl _)) h
    | succ k ih =>
      intro f S' x4 x5 hf hF hl hab hcl K'
      have e50 : S'.2.1 50 (Int32.ofNat f).toNatClampNeg = F.getD f 0 := by rw [i_cl (by omega)]; exact (hF.a (by decide) f).trans (hL.2 f (by omega))
      refine b173_77 (fun h => ?_) (fun _ => b173_86 (i_vp (by omega) (by omega)) (s155 _) ?_)
      · rw [hF.f (by decide), hL.1] at h
        have := (i_le (by omega) (by omega)).1 h
        omega
      · rintro _ _ ⟨rfl, rfl⟩
        rw [e50]
        have hp := pcn_le (F.getD f 0 &&& (S'.1 46 18 ^^^ -1))
        refine b173_107 (fun h => b173_122 ?_) (fun h => b173_111 (b173_122 ?_))
        · rw [i_suc]
          refine ih (f + 1) S' x4 x5 (by omega) hF hl hab (fun j hj => ?_) K'
          by_cases e : j = f
          · subst e
            intro q
            rw [q] at h
            exact absurd rfl h
          · exact hcl j (by omega)
        · have h1' : pcn (F.getD f 0 &&& (S'.1 46 18 ^^^ -1)) = 1 := (i_inj (by omega) (by omega)).1 (Classical.not_not.1 h)
          rw [i_suc]
          have hmem : F.getD f 0 ∈ F := get_mem (by omega)
          have e18 : (setI S' 46 17 (S'.1 46 17 ||| (F.getD f 0 &&& (S'.1 46 18 ^^^ -1)))).1 46 18 = S'.1 46 18 := seti_ne (by decide)
          refine ih (f + 1) (setI S' 46 17 (S'.1 46 17 ||| (F.getD f 0 &&& (S'.1 46 18 ^^^ -1)))) x4 x5 (by omega) (hF.seti (by decide)) ?_ ?_ ?_ ?_
          · rw [seti_same]
            exact low_or hl (low_and (hFl _ hmem))
          · intro Y' N' hA
            obtain ⟨q1, q2⟩ := hab Y' N' hA
            rw [seti_same, e18]
            refine ⟨sb_or q1 ?_, q2⟩
            -- the one left is in no N' either
            obtain ⟨g1, g2, g3, g4⟩ := hA.1
            have hsub : sb (F.getD f 0 &&& (N' ^^^ -1)) (F.getD f 0 &&& (S'.1 46 18 ^^^ -1)) := by
              intro j hj
              rw [tb_diff] at hj ⊢
              simp only [Bool.and_eq_true, Bool.not_eq_true'] at hj ⊢
              refine ⟨hj.1, ?_⟩
              cases e : tb (S'.1 46 18) j
              · rfl
              · rw [q2 j e] at hj; exact absurd hj.2 (by decide)
            have hne : ¬ F.getD f 0 &&& (N' ^^^ -1) = 0 := fun q => g2 _ hmem (sb_sub0.1 q)
            have hpos : 1 ≤ pcn (F.getD f 0 &&& (N' ^^^ -1)) := by
              have := pcn_drop hne
              omega
            have hle := pcn_mono hsub
            have heq : F.getD f 0 &&& (N' ^^^ -1) = F.getD f 0 &&& (S'.1 46 18 ^^^ -1) := by
              refine Classical.byContradiction fun q => ?_
              have := pcn_lt hsub q
              omega
            rw [← heq]
            exact g4 _ hmem (by omega)
          · intro j hj
            rw [e18, seti_same]
            by_cases e : j = f
            · subst e
              exact fun _ => sb_orr _ _
            · exact fun q => (hcl j (by omega) q).trans (sb_orl _ _)
          · intro S1 k1 k2 k3
            rw [e18] at k2
            rw [seti_same] at k3
            exact K' S1 k1 k2 ((sb_orl _ _).trans k3)
  -- with whom those that are yes may not be
  have ph1 : ∀ k r S' x4 x5, r + k = m → Fz [(46, 17), (46, 18), (46, 19)] [] S S' → Low m (S'.1 46 18) → (∀ Y' N', Abo (bes rl up F) F m y n Y' N' → sb (S'.1 46 17) Y' ∧ sb (S'.1 46 18) N') → (∀ j, j < r → tb (S'.1 46 17) j = true → sb (bes rl up F j) (S'.1 46 18)) →
      (∀ S1, Fz [(46, 17), (46, 18), (46, 19)] [] S S1 → S1.1 46 17 = S'.1 46 17 → sb (S'.1 46 18) (S1.1 46 18) → Low m (S1.1 46 18) → (∀ Y' N', Abo (bes rl up F) F m y n Y' N' → sb (S1.1 46 17) Y' ∧ sb (S1.1 46 18) N') → (∀ j, j < m → tb (S1.1 46 17) j = true → sb (bes rl up F j) (S1.1 46 18)) → ∀ x6, Wp (d + 1) b 173 74 [.ref 46, .int y, .int n, .int 1, .int x4, .int x5, .int x6] [] S1 Q) →
      Wp (d + 1) b 173 31 [.ref 46, .int y, .int n, .int 1, .int x4, .int x5, .int (Int32.ofNat r)] [] S' Q := by
    intro k
    induction k with
    | zero =>
      intro r S' x4 x5 hr hF hl hab hcl K'
      have e : r = m := by omega
      subst e
      refine b173_31 (fun _ => K' S' hF rfl (sb.refl _) hl hab hcl _) (fun h => ?_)
      rw [hF.f (by decide), hm] at h
      exact absurd ((i_le (by omega) (by omega)).2 (Nat.le_refl _)) h
    | succ k ih =>
      intro r S' x4 x5 hr hF hl hab hcl K'
      refine b173_31 (fun h => ?_) (fun _ => b173_40 (s154 _ (by omega)) ?_)
      · rw [hF.f (by decide), hm] at h
        have := (i_le (by omega) (by omega)).1 h
        omega
      · rintro _ _ ⟨rfl, rfl⟩
        refine b173_49 (fun h => b173_68 ?_) (fun h => b173_52 (i_vp (by omega) (by omega)) (b173_68 ?_))
        · rw [i_suc]
          refine ih (r + 1) S' x4 x5 (by omega) hF hl hab (fun j hj => ?_) K'
          by_cases e : j = r
          · subst e
            intro q
            rw [bi0.1 h] at q
            cases q
          · exact hcl j (by omega)
        · have e49 : S'.2.1 49 (Int32.ofNat r).toNatClampNeg = bes rl up F r := by rw [i_cl (by omega)]; exact (hF.a (by decide) r).trans (hbs r (by omega))
          rw [i_suc, e49]
          have e17 : (setI S' 46 18 (S'.1 46 18 ||| bes rl up F r)).1 46 17 = S'.1 46 17 := seti_ne (by decide)
          refine ih (r + 1) (setI S' 46 18 (S'.1 46 18 ||| bes rl up F r)) x4 x5 (by omega) (hF.seti (by decide)) ?_ ?_ ?_ ?_
          · rw [seti_same]
            exact low_or hl (hbl r (by omega))
          · intro Y' N' hA
            obtain ⟨q1, q2⟩ := hab Y' N' hA
            rw [seti_same, e17]
            exact ⟨q1, sb_or q2 (hA.1.2.2.1 r (by omega) (q1 r (bi1.1 h)))⟩
          · intro j hj
            rw [e17, seti_same]
            by_cases e : j = r
            · subst e
              exact fun _ => sb_orr _ _
            · exact fun q => (hcl j (by omega) q).trans (sb_orl _ _)
          · intro S1 k1 k2 k3
            rw [e17] at k2
            rw [seti_same] at k3
            exact K' S1 k1 k2 ((sb_orl _ _).trans k3)
  -- at the end
  have close : ∀ S', Fz [(46, 17), (46, 18), (46, 19)] [] S S' → Low m (S'.1 46 17) → Low m (S'.1 46 18) → sb y (S'.1 46 17) → sb n (S'.1 46 18) → (∀ Y' N', Abo (bes rl up F) F m y n Y' N' → sb (S'.1 46 17) Y' ∧ sb (S'.1 46 18) N') → (∀ j, j < m → tb (S'.1 46 17) j = true → sb (bes rl up F j) (S'.1 46 18)) → (∀ j, j < F.length → pcn (F.getD j 0 &&& (S'.1 46 18 ^^^ -1)) = 1 → sb (F.getD j 0 &&& (S'.1 46 18 ^^^ -1)) (S'.1 46 17)) → Wp (d + 1) b 173 12 [.ref 46, .int y, .int n, .int 0] [] S' Q := by
    intro S' hF hlY hlN hsy hsn hab hc1 hc2
    have go : ∀ c : Bool, (c = true ↔ ¬ (∀ k, ¬ (tb (S'.1 46 17) k = true ∧ tb (S'.1 46 18) k = true))) → ∀ v, v = bi c → Wp (d + 1) b 173 173 [.ref 46, .int y, .int n, .int 0] [.int v, .ref 46] S' Q := by
      intro c hc v hv
      subst hv
      have e17 : (setI S' 46 19 (bi c)).1 46 17 = S'.1 46 17 := seti_ne (by decide)
      have e18 : (setI S' 46 19 (bi c)).1 46 18 = S'.1 46 18 := seti_ne (by decide)
      refine b173_173 (bi01 c) (fin F.length 0 (setI S' 46 19 (bi c)) c (by omega) (hF.seti (by decide)) seti_same ?_ ?_ 0)
      · rw [e17, e18, hc]
        constructor
        · exact fun q => Or.inl q
        · rintro (q | ⟨j, q, _⟩)
          · exact q
          · omega
      · rw [e17, e18]
        intro S1 c1 k1 k2 k3 k4 k5
        refine K S1 c1 k1 k4 ?_
        rw [k2, k3]
        refine ⟨hlY, hlN, ?_⟩
        cases c1 with
        | false =>
          refine Or.inl ⟨rfl, ⟨⟨?_, ?_, hc1, ?_⟩, hsy, hsn⟩, hab⟩
          · refine Classical.byContradiction fun q => ?_
            have := k5.2 (Or.inl q)
            cases this
          · intro f hf q
            obtain ⟨j, hj, rfl⟩ := mem_get hf
            have := k5.2 (Or.inr ⟨j, hj, q⟩)
            cases this
          · intro f hf
            obtain ⟨j, hj, rfl⟩ := mem_get hf
            exact hc2 j hj
        | true =>
          refine Or.inr ⟨rfl, fun Y' N' hA => ?_⟩
          obtain ⟨q1, q2⟩ := hab Y' N' hA
          rcases k5.1 rfl with q | ⟨j, hj, q⟩
          · exact q (fun k hk => hA.1.1 k ⟨q1 k hk.1, q2 k hk.2⟩)
          · exact hA.1.2.1 _ (get_mem hj) (q.trans q2)
    refine b173_12 (fun _ => b173_155 (fun h => b173_172 (go false ?_ 0 rfl)) (fun h => b173_168 (go true ?_ 1 rfl))) (fun h => absurd rfl h)
    · have := and0.1 h
      simp only [Bool.false_eq_true, false_iff, Classical.not_not]
      exact fun k hk => this k (tb_lt hk.1) hk
    · simp only [true_iff]
      exact fun q => h (and0.2 (fun k _ => q k))
  -- the rounds
  have rounds : ∀ k S', 2 * m ≤ pcn (S'.1 46 17) + pcn (S'.1 46 18) + k → Fz [(46, 17), (46, 18), (46, 19)] [] S S' → Low m (S'.1 46 17) → Low m (S'.1 46 18) → sb y (S'.1 46 17) → sb n (S'.1 46 18) → (∀ Y' N', Abo (bes rl up F) F m y n Y' N' → sb (S'.1 46 17) Y' ∧ sb (S'.1 46 18) N') →
      Wp (d + 1) b 173 12 [.ref 46, .int y, .int n, .int 1] [] S' Q := by
    intro k
    induction k with
    | zero =>
      intro S' hk hF hlY hlN hsy hsn hab
      refine b173_12 (fun h => absurd h (by decide)) (fun _ => b173_16 (ph1 m 0 S' _ _ (by omega) hF hlN hab (fun j hj => absurd hj (by omega)) ?_))
      intro S2 f2 y2 n2 l2 a2 c2 x6
      refine b173_74 (ph2 F.length 0 S2 _ _ (by omega) f2 (by rw [y2]; exact hlY) a2 (fun j hj => absurd hj (by omega)) ?_)
      intro S3 f3 n3 y3 l3 a3 c3 x6
      rw [y2] at y3
      have p1 := pcn_lown l3 (by omega)
      have p2 := pcn_lown l2 (by omega)
      have eY : S'.1 46 17 = S3.1 46 17 := by
        refine Classical.byContradiction fun q => ?_
        have := pcn_lt y3 q
        have := pcn_mono n2
        omega
      have eN : S'.1 46 18 = S3.1 46 18 := by
        rw [n3]
        refine Classical.byContradiction fun q => ?_
        have := pcn_lt n2 q
        have := pcn_mono y3
        omega
      refine b173_128 (fun h => absurd eY.symm h) (fun _ => b173_137 (fun _ => b173_150 (b173_151 (close S3 f3 l3 (by rw [n3]; exact l2) (hsy.trans y3) (by rw [n3]; exact hsn.trans n2) a3 ?_ c3))) (fun h => absurd eN.symm h))
      intro j hj hq
      rw [n3]
      exact c2 j hj (by rw [y2, eY]; exact hq)
    | succ k ih =>
      intro S' hk hF hlY hlN hsy hsn hab
      refine b173_12 (fun h => absurd h (by decide)) (fun _ => b173_16 (ph1 m 0 S' _ _ (by omega) hF hlN hab (fun j hj => absurd hj (by omega)) ?_))
      intro S2 f2 y2 n2 l2 a2 c2 x6
      refine b173_74 (ph2 F.length 0 S2 _ _ (by omega) f2 (by rw [y2]; exact hlY) a2 (fun j hj => absurd hj (by omega)) ?_)
      intro S3 f3 n3 y3 l3 a3 c3 x6
      rw [y2] at y3
      have again : (¬ S3.1 46 17 = S'.1 46 17 ∨ ¬ S3.1 46 18 = S'.1 46 18) → Wp (d + 1) b 173 146 [.ref 46, .int y, .int n, .int 1, .int (S'.1 46 17), .int (S'.1 46 18), .int x6] [] S3 Q := by
        intro hq
        refine b173_146 (b173_151 (ih S3 ?_ f3 l3 (by rw [n3]; exact l2) (hsy.trans y3) (by rw [n3]; exact hsn.trans n2) a3))
        rw [← n3] at n2
        have q1 := pcn_mono y3
        have q2 := pcn_mono n2
        rcases hq with hq | hq
        · have := pcn_lt y3 (fun q => hq q.symm)
          omega
        · have := pcn_lt n2 (fun q => hq q.symm)
          omega
      refine b173_128 (fun h => again (Or.inl h)) (fun hY => b173_137 (fun _ => b173_150 (b173_151 (close S3 f3 l3 (by rw [n3]; exact l2) (hsy.trans y3) (by rw [n3]; exact hsn.trans n2) a3 ?_ c3))) (fun h => again (Or.inr h)))
      intro j hj hq
      rw [n3]
      exact c2 j hj (by rw [y2, ← Classical.not_not.1 hY]; exact hq)
  refine b173_0 (rounds (2 * m) _ (by omega) ((Fz.refl.seti (by decide)).seti (by decide)) ?_ ?_ ?_ ?_ ?_)
  · rw [seti_ne (by decide), seti_same]; exact hy
  · rw [seti_same]; exact hn
  · rw [seti_ne (by decide), seti_same]; exact sb.refl _
  · rw [seti_same]; exact sb.refl _
  · intro Y' N' hA
    rw [seti_ne (by decide), seti_same, seti_same]
    exact hA.2
end FORCE
