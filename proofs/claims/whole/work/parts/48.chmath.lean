/-! WHICH CHOICES the reference goes through, and in which order -/
/-- a set's rays from one on -/
def hi (Y : Int32) (r : Nat) : Int32 := mk (fun k => decide (r ≤ k) && tb Y k) 32
theorem tb_hi (Y : Int32) (r k : Nat) : tb (hi Y r) k = (decide (r ≤ k) && tb Y k) := by
  unfold hi
  rw [tb_mk _ (Nat.le_refl _)]
  by_cases h : k < 32
  · rw [decide_eq_true h, Bool.true_and]
  · rw [decide_eq_false h, tb_ge (by omega), Bool.and_false]; rfl
/-- the same from r on -/
def Ag (r : Nat) (Y y : Int32) : Prop := ∀ k, r ≤ k → tb Y k = tb y k
section CHM
variable {rl : Nat} {up : Nat → Int32} {F : List Int32} {set : Int32}
theorem lost_iff {y : Int32} {r : Nat} (hr : r < 32) : lostB F set y r = true ↔ ∃ f, f ∈ F ∧ sb f set ∧ (∀ k, tb f k = true → r ≤ k) ∧ f &&& y = 0 := by
  unfold lostB
  rw [List.any_eq_true]
  constructor
  · rintro ⟨f, hf, h⟩
    simp only [Bool.and_eq_true, decide_eq_true_eq] at h
    refine ⟨f, hf, sb_sub0.1 h.1.1, fun k hk => ?_, h.2⟩
    refine Classical.byContradiction fun q => ?_
    have hk32 := tb_lt hk
    exact and0.1 h.1.2 k hk32 ⟨hk, by rw [mask_bit hr hk32]; exact decide_eq_true (by omega)⟩
  · rintro ⟨f, hf, h1, h2, h3⟩
    refine ⟨f, hf, ?_⟩
    simp only [Bool.and_eq_true, decide_eq_true_eq]
    refine ⟨⟨sb_sub0.2 h1, and0.2 (fun k hk q => ?_)⟩, h3⟩
    rw [mask_bit hr hk] at q
    have := h2 k q.1
    have := of_decide_eq_true q.2
    omega
/-- what the reference takes for a choice -/
def MV (rl : Nat) (up : Nat → Int32) (F : List Int32) (set : Int32) (r : Nat) (Y : Int32) : Prop := (∀ k, k < r → tb Y k = true → tb set k = true) ∧ (∀ f, f ∈ F → sb f set → ¬ f &&& Y = 0) ∧ (∀ k, k < r → tb Y k = true → barB rl up F set k (hi Y (k + 1)) = false)
theorem chl_mem : ∀ (r : Nat) (y Y : Int32), r ≤ 20 → (∀ k, k < r → tb y k = false) → (Y ∈ chl rl up F set r y ↔ (Ag r Y y ∧ MV rl up F set r Y)) := by
  intro r
  induction r with
  | zero =>
    intro y Y hr hy
    unfold chl
    by_cases hl : lostB F set y 0 = true
    · rw [if_pos hl]
      constructor
      · intro h; exact absurd h List.not_mem_nil
      · rintro ⟨hA, _, hf, _⟩
        obtain ⟨f, h1, h2, _, h4⟩ := (lost_iff (by omega)).1 hl
        have : Y = y := tb_ext (fun k _ => hA k (Nat.zero_le _))
        subst this
        exact absurd h4 (hf f h1 h2)
    · rw [if_neg hl, List.mem_singleton]
      constructor
      · rintro rfl
        refine ⟨fun _ _ => rfl, fun k hk => absurd hk (by omega), fun f h1 h2 h3 => hl ((lost_iff (by omega)).2 ⟨f, h1, h2, fun _ _ => Nat.zero_le _, h3⟩), fun k hk => absurd hk (by omega)⟩
      · rintro ⟨hA, _⟩
        exact tb_ext (fun k _ => hA k (Nat.zero_le _))
  | succ r ih =>
    intro y Y hr hy
    unfold chl
    by_cases hl : lostB F set y (r + 1) = true
    · rw [if_pos hl]
      constructor
      · intro h; exact absurd h List.not_mem_nil
      · rintro ⟨hA, _, hf, _⟩
        obtain ⟨f, h1, h2, h3, h4⟩ := (lost_iff (by omega)).1 hl
        refine absurd (and0.2 (fun k hk q => ?_)) (hf f h1 h2)
        rw [hA k (h3 k q.1)] at q
        exact and0.1 h4 k hk q
    · rw [if_neg hl, List.mem_append]
      have hyr : ∀ k, k < r → tb (y ||| bit r) k = false := by
        intro k hk
        rw [tb_or, hy k (by omega), tb_bit (by omega)]
        exact decide_eq_false (by omega)
      have i1 := ih y Y (by omega) (fun k hk => hy k (by omega))
      have i2 := ih (y ||| bit r) Y (by omega) hyr
      have hh : Ag (r + 1) Y y → hi Y (r + 1) = y := by
        intro hA
        apply tb_ext
        intro k _
        rw [tb_hi]
        by_cases h : r + 1 ≤ k
        · rw [decide_eq_true h, Bool.true_and]; exact hA k h
        · rw [decide_eq_false h, Bool.false_and, hy k (by omega)]
      constructor
      · rintro (h | h)
        · obtain ⟨hA, h1, h2, h3⟩ := i1.1 h
          have hr0 : tb Y r = false := (hA r (Nat.le_refl _)).trans (hy r (by omega))
          refine ⟨fun k hk => hA k (by omega), fun k hk q => ?_, h2, fun k hk q => ?_⟩
          · by_cases e : k = r
            · subst e; rw [hr0] at q; cases q
            · exact h1 k (by omega) q
          · by_cases e : k = r
            · subst e; rw [hr0] at q; cases q
            · exact h3 k (by omega) q
        · by_cases hc : tb set r = true ∧ barB rl up F set r y = false
          · rw [if_pos hc] at h
            obtain ⟨hA, h1, h2, h3⟩ := i2.1 h
            have hA1 : Ag (r + 1) Y y := by
              intro k hk
              rw [hA k (by omega), tb_or, tb_bit (by omega), decide_eq_false (by omega), Bool.or_false]
            refine ⟨hA1, fun k hk q => ?_, h2, fun k hk q => ?_⟩
            · by_cases e : k = r
              · subst e; exact hc.1
              · exact h1 k (by omega) q
            · by_cases e : k = r
              · subst e; rw [hh hA1]; exact hc.2
              · exact h3 k (by omega) q
          · rw [if_neg hc] at h; exact absurd h List.not_mem_nil
      · rintro ⟨hA, h1, h2, h3⟩
        cases e : tb Y r
        · refine Or.inl (i1.2 ⟨fun k hk => ?_, fun k hk => h1 k (by omega), h2, fun k hk => h3 k (by omega)⟩)
          by_cases e2 : k = r
          · subst e2; rw [e, hy k (by omega)]
          · exact hA k (by omega)
        · have hb := h3 r (by omega) e
          rw [hh hA] at hb
          rw [if_pos ⟨h1 r (by omega) e, hb⟩]
          refine Or.inr (i2.2 ⟨fun k hk => ?_, fun k hk => h1 k (by omega), h2, fun k hk => h3 k (by omega)⟩)
          rw [tb_or, tb_bit (by omega)]
          by_cases e2 : k = r
          · subst e2; rw [e]; simp
          · rw [decide_eq_false e2, Bool.or_false]; exact hA k (by omega)
/-- one before another, as numbers -/
def Lt (A B : Int32) : Prop := ∃ r, tb A r = false ∧ tb B r = true ∧ ∀ k, r < k → tb A k = tb B k
theorem chl_sorted : ∀ (r : Nat) (y : Int32), r ≤ 20 → (∀ k, k < r → tb y k = false) → (chl rl up F set r y).Pairwise Lt := by
  intro r
  induction r with
  | zero =>
    intro y _ _
    unfold chl
    split
    · exact List.Pairwise.nil
    · exact List.pairwise_singleton _ _
  | succ r ih =>
    intro y hr hy
    unfold chl
    have hyr : ∀ k, k < r → tb (y ||| bit r) k = false := by
      intro k hk
      rw [tb_or, hy k (by omega), tb_bit (by omega)]
      exact decide_eq_false (by omega)
    split
    · exact List.Pairwise.nil
    · rw [List.pairwise_append]
      refine ⟨ih y (by omega) (fun k hk => hy k (by omega)), ?_, ?_⟩
      · split
        · exact ih _ (by omega) hyr
        · exact List.Pairwise.nil
      · intro A hA B hB
        split at hB
        · obtain ⟨a1, _⟩ := (chl_mem r y A (by omega) (fun k hk => hy k (by omega))).1 hA
          obtain ⟨b1, _⟩ := (chl_mem r (y ||| bit r) B (by omega) hyr).1 hB
          refine ⟨r, ?_, ?_, fun k hk => ?_⟩
          · rw [a1 r (Nat.le_refl _)]; exact hy r (by omega)
          · rw [b1 r (Nat.le_refl _), tb_or, tb_bit (by omega)]; simp
          · rw [a1 k (by omega), b1 k (by omega), tb_or, tb_bit (by omega), decide_eq_false (by omega), Bool.or_false]
        · exact absurd hB List.not_mem_nil
theorem Lt.ne {A B : Int32} (h : Lt A B) : A ≠ B := by
  rintro rfl
  obtain ⟨r, h1, h2, _⟩ := h
  rw [h1] at h2
  cases h2
theorem chl_nodup (r : Nat) (y : Int32) (hr : r ≤ 20) (hy : ∀ k, k < r → tb y k = false) : (chl rl up F set r y).Nodup := (chl_sorted r y hr hy).imp Lt.ne
/-- what of it is beside what, within a set -/
def bsS (rl : Nat) (up : Nat → Int32) (F : List Int32) (set : Int32) : Nat → Int32 := bes rl (fun r => up r &&& set) (inF set F)
theorem chs_mem {m : Nat} (hm : m ≤ 20) (hrl : rl ≤ 1) (hset : Low m set) (hsym : ∀ r o, tb (up r) o = tb (up o) r) (hirr : ∀ r, tb (up r) r = false) (Y : Int32) : Y ∈ chs m rl up F set ↔ (sb Y set ∧ Valid (bsS rl up F set) (inF set F) m Y) := by
  unfold chs
  rw [chl_mem m 0 Y hm (fun k _ => tb_zero k)]
  have hbar : ∀ k, k < m → sb Y set → tb Y k = true → (barB rl up F set k (hi Y (k + 1)) = false ↔ ∀ j, k < j → ¬ (tb (bsS rl up F set k) j = true ∧ tb Y j = true)) := by
    intro k hk hY hYk
    unfold barB bsS bes
    by_cases h0 : rl = 0
    · rw [if_pos h0, if_pos h0]
      simp only [Bool.not_eq_false', decide_eq_true_eq]
      constructor
      · intro h j hj ⟨q1, q2⟩
        refine and0.1 h j (tb_lt q2) ⟨sb_andl _ _ j q1, ?_⟩
        rw [tb_hi, decide_eq_true (by omega), q2]; rfl
      · intro h
        refine and0.2 (fun j _ q => ?_)
        rw [tb_hi, Bool.and_eq_true] at q
        have hj := of_decide_eq_true q.2.1
        refine h j (by omega) ⟨?_, q.2.2⟩
        rw [tb_and, q.1, hY j q.2.2]; rfl
    · rw [if_neg h0, if_neg h0]
      constructor
      · intro h j hj ⟨q1, q2⟩
        obtain ⟨_, f, hf, f1, f2⟩ := (tb_mates _ (by omega) _).1 q1
        rw [mem_inF] at hf
        have : (F.any fun f => decide (f &&& (set ^^^ -1) = 0) && tb f k && !decide (f &&& hi Y (k + 1) = 0)) = true := by
          rw [List.any_eq_true]
          refine ⟨f, hf.1, ?_⟩
          rw [decide_eq_true (sb_sub0.2 hf.2), f1, Bool.true_and, Bool.true_and, decide_eq_false]
          · rfl
          · intro q
            refine and0.1 q j (tb_lt q2) ⟨f2, ?_⟩
            rw [tb_hi, decide_eq_true (by omega), q2]; rfl
        rw [h] at this
        cases this
      · intro h
        cases e : F.any fun f => decide (f &&& (set ^^^ -1) = 0) && tb f k && !decide (f &&& hi Y (k + 1) = 0)
        · rfl
        · exfalso
          rw [List.any_eq_true] at e
          obtain ⟨f, hf, e⟩ := e
          simp only [Bool.and_eq_true, decide_eq_true_eq, Bool.not_eq_true', decide_eq_false_iff_not] at e
          obtain ⟨j, hj⟩ := ne0 e.2
          have j1 := sb_andl _ _ j hj
          have j2 := sb_andr _ _ j hj
          rw [tb_hi, Bool.and_eq_true] at j2
          have hj' := of_decide_eq_true j2.1
          exact h j (by omega) ⟨(tb_mates _ (by omega) _).2 ⟨by omega, f, mem_inF.2 ⟨hf, sb_sub0.1 e.1.1⟩, e.1.2, j1⟩, j2.2⟩
  have hbsym : ∀ r o, r < m → o < m → tb (bsS rl up F set r) o = true → tb set r = true → tb (bsS rl up F set o) r = true := by
    intro r o hr ho h hsr
    unfold bsS bes at *
    by_cases h0 : rl = 0
    · rw [if_pos h0] at h ⊢
      have h1 := sb_andl _ _ o h
      rw [hsym] at h1
      rw [tb_and, h1, hsr]; rfl
    · rw [if_neg h0] at h ⊢
      obtain ⟨q1, f, hf, f1, f2⟩ := (tb_mates _ (by omega) _).1 h
      exact (tb_mates _ (by omega) _).2 ⟨fun q => q1 q.symm, f, hf, f2, f1⟩
  have hbirr : ∀ r, r < m → tb (bsS rl up F set r) r = false := by
    intro r hr
    cases e : tb (bsS rl up F set r) r
    · rfl
    · unfold bsS bes at e
      by_cases h0 : rl = 0
      · rw [if_pos h0] at e
        have := sb_andl _ _ r e
        rw [hirr] at this
        cases this
      · rw [if_neg h0] at e
        exact absurd rfl ((tb_mates _ (by omega) _).1 e).1
  constructor
  · rintro ⟨hA, h1, h2, h3⟩
    have hlow : Low m Y := by
      intro k hk
      refine Classical.byContradiction fun q => ?_
      have := hA k (by omega)
      rw [tb_zero, hk] at this
      cases this
    have hY : sb Y set := fun k hk => h1 k (hlow k hk) hk
    refine ⟨hY, hlow, fun r hr hq j hj => ?_, fun f hf => ?_⟩
    · have hjm := hlow j hj.2
      rcases Nat.lt_trichotomy r j with h | h | h
      · exact (hbar r hr hY hq).1 (h3 r hr hq) j h hj
      · subst h; rw [hbirr r hr] at hj; exact absurd hj.1 (by decide)
      · exact (hbar j hjm hY hj.2).1 (h3 j hjm hj.2) r h ⟨hbsym r j hr hjm hj.1 (hY r hq), hq⟩
    · rw [mem_inF] at hf
      exact h2 f hf.1 hf.2
  · rintro ⟨hY, hlow, h1, h2⟩
    refine ⟨fun k hk => ?_, fun k hk q => hY k q, fun f hf hs => h2 f (mem_inF.2 ⟨hf, hs⟩), fun k hk q => (hbar k hk hY q).2 (fun j _ => h1 k hk q j)⟩
    rw [tb_zero]
    cases e : tb Y k
    · rfl
    · have := hlow k e; omega
/-- refused: there is none -/
theorem ref_iff {m : Nat} (hm : m ≤ 20) (hrl : rl ≤ 1) (hset : Low m set) (hsym : ∀ r o, tb (up r) o = tb (up o) r) (hirr : ∀ r, tb (up r) r = false) : (chs m rl up F set).isEmpty = true ↔ ¬ ∃ Y, Valid (bsS rl up F set) (inF set F) m Y := by
  rw [List.isEmpty_iff]
  constructor
  · rintro h ⟨Y, hV⟩
    have hV2 : Valid (bsS rl up F set) (inF set F) m (Y &&& set) := by
      refine ⟨low_and hV.1, fun r hr hq j hj => hV.2.1 r hr (sb_andl _ _ r hq) j ⟨hj.1, sb_andl _ _ j hj.2⟩, fun f hf q => ?_⟩
      obtain ⟨k, hk⟩ := ne0 (hV.2.2 f hf)
      refine and0.1 q k (tb_lt hk) ⟨sb_andl _ _ k hk, ?_⟩
      rw [tb_and, sb_andr _ _ k hk, (mem_inF.1 hf).2 k (sb_andl _ _ k hk)]; rfl
    have := (chs_mem hm hrl hset hsym hirr (Y &&& set)).2 ⟨sb_andr _ _, hV2⟩
    rw [h] at this
    exact absurd this List.not_mem_nil
  · intro h
    refine List.eq_nil_iff_forall_not_mem.2 (fun Y hY => h ⟨Y, ((chs_mem hm hrl hset hsym hirr Y).1 hY).2⟩)
end CHM
