/-! COUNTING sets of rays -/
theorem nodup_len : ∀ (A B : List Int32), A.Nodup → (∀ x, x ∈ A → x ∈ B) → A.length ≤ B.length := by
  intro A
  induction A with
  | nil => intro B _ _; exact Nat.zero_le _
  | cons a A ih =>
    intro B hA hs
    rw [List.nodup_cons] at hA
    have ha : a ∈ B := hs a List.mem_cons_self
    have h1 := ih (B.erase a) hA.2 (fun x hx => by
      rw [List.mem_erase_of_ne]
      · exact hs x (List.mem_cons_of_mem _ hx)
      · rintro rfl; exact hA.1 hx)
    rw [List.length_erase_of_mem ha] at h1
    have : 0 < B.length := List.length_pos_of_mem ha
    show A.length + 1 ≤ _
    omega
/-- all sets of rays -/
def univ : List Int32 := chl 0 (fun _ => 0) [] (-1) 20 0
theorem mem_univ {T : Int32} : T ∈ univ ↔ Low 20 T := by
  unfold univ
  rw [chl_mem 20 0 T (Nat.le_refl _) (fun k _ => tb_zero k)]
  constructor
  · rintro ⟨hA, _⟩ k hk
    refine Classical.byContradiction fun q => ?_
    have := hA k (by omega)
    rw [tb_zero, hk] at this
    cases this
  · intro h
    refine ⟨fun k hk => ?_, fun k hk _ => tb_m1 (by omega), fun f hf => absurd hf List.not_mem_nil, fun k hk _ => ?_⟩
    · rw [tb_zero]
      cases e : tb T k
      · rfl
      · have := h k e; omega
    · unfold barB
      rw [if_pos rfl, and_zero_l]; rfl
theorem univ_nodup : univ.Nodup := chl_nodup 20 0 (Nat.le_refl _) (fun k _ => tb_zero k)
/-- how many there are of them -/
noncomputable def cd (p : Int32 → Prop) : Nat := (univ.filter (fun T => @decide (p T) (Classical.propDecidable _))).length
theorem mem_fil {p : Int32 → Prop} {T : Int32} : T ∈ univ.filter (fun T => @decide (p T) (Classical.propDecidable _)) ↔ Low 20 T ∧ p T := by
  rw [List.mem_filter, mem_univ]
  constructor
  · rintro ⟨h1, h2⟩
    exact ⟨h1, @of_decide_eq_true _ (Classical.propDecidable _) h2⟩
  · rintro ⟨h1, h2⟩
    exact ⟨h1, @decide_eq_true _ (Classical.propDecidable _) h2⟩
theorem fil_nodup (p : Int32 → Prop) : (univ.filter (fun T => @decide (p T) (Classical.propDecidable _))).Nodup := univ_nodup.filter _
theorem cd_list {p : Int32 → Prop} {L : List Int32} (hn : L.Nodup) (h : ∀ T, T ∈ L ↔ (Low 20 T ∧ p T)) : cd p = L.length := by
  apply Nat.le_antisymm
  · exact nodup_len _ _ (fil_nodup p) (fun x hx => (h x).2 (mem_fil.1 hx))
  · exact nodup_len _ _ hn (fun x hx => mem_fil.2 ((h x).1 hx))
theorem nodup_map {A : List Int32} {f : Int32 → Int32} (hn : A.Nodup) (hi : ∀ x, x ∈ A → ∀ y, y ∈ A → f x = f y → x = y) : (A.map f).Nodup := by
  induction A with
  | nil => exact List.Pairwise.nil
  | cons a A ih =>
    rw [List.nodup_cons] at hn
    rw [List.map_cons, List.nodup_cons]
    refine ⟨fun h => ?_, ih hn.2 (fun x hx y hy => hi x (List.mem_cons_of_mem _ hx) y (List.mem_cons_of_mem _ hy))⟩
    obtain ⟨x, hx, he⟩ := List.mem_map.1 h
    have := hi x (List.mem_cons_of_mem _ hx) a List.mem_cons_self he
    subst this
    exact hn.1 hx
theorem cd_le {p q : Int32 → Prop} (f : Int32 → Int32) (h : ∀ T, Low 20 T → p T → Low 20 (f T) ∧ q (f T)) (hi : ∀ T T', Low 20 T → p T → Low 20 T' → p T' → f T = f T' → T = T') : cd p ≤ cd q := by
  have h1 : ((univ.filter (fun T => @decide (p T) (Classical.propDecidable _))).map f).length ≤ cd q := by
    refine nodup_len _ _ (nodup_map (fil_nodup p) (fun x hx y hy e => ?_)) (fun x hx => ?_)
    · exact hi x y (mem_fil.1 hx).1 (mem_fil.1 hx).2 (mem_fil.1 hy).1 (mem_fil.1 hy).2 e
    · obtain ⟨y, hy, rfl⟩ := List.mem_map.1 hx
      exact mem_fil.2 (h y (mem_fil.1 hy).1 (mem_fil.1 hy).2)
  rw [List.length_map] at h1
  exact h1
theorem cd_bij {p q : Int32 → Prop} (f g : Int32 → Int32) (hf : ∀ T, Low 20 T → p T → Low 20 (f T) ∧ q (f T)) (hg : ∀ T, Low 20 T → q T → Low 20 (g T) ∧ p (g T)) (h1 : ∀ T, Low 20 T → p T → g (f T) = T) (h2 : ∀ T, Low 20 T → q T → f (g T) = T) : cd p = cd q := by
  apply Nat.le_antisymm
  · exact cd_le f hf (fun T T' a1 a2 b1 b2 e => by rw [← h1 T a1 a2, e, h1 T' b1 b2])
  · exact cd_le g hg (fun T T' a1 a2 b1 b2 e => by rw [← h2 T a1 a2, e, h2 T' b1 b2])
theorem cd_congr {p q : Int32 → Prop} (h : ∀ T, Low 20 T → (p T ↔ q T)) : cd p = cd q := cd_bij id id (fun T a b => ⟨a, (h T a).1 b⟩) (fun T a b => ⟨a, (h T a).2 b⟩) (fun _ _ _ => rfl) (fun _ _ _ => rfl)
theorem filt_split (s : Int32 → Bool) (A : List Int32) : A.length = (A.filter s).length + (A.filter (fun x => !s x)).length := by
  induction A with
  | nil => rfl
  | cons a A ih =>
    rw [List.filter_cons, List.filter_cons]
    cases e : s a
    · simp; omega
    · simp; omega
theorem cd_split (s p : Int32 → Prop) : cd p = cd (fun T => p T ∧ s T) + cd (fun T => p T ∧ ¬ s T) := by
  have h := filt_split (fun T => @decide (s T) (Classical.propDecidable _)) (univ.filter (fun T => @decide (p T) (Classical.propDecidable _)))
  have e1 : cd (fun T => p T ∧ s T) = ((univ.filter (fun T => @decide (p T) (Classical.propDecidable _))).filter (fun T => @decide (s T) (Classical.propDecidable _))).length := by
    refine cd_list ((fil_nodup p).filter _) (fun T => ?_)
    rw [List.mem_filter, mem_fil]
    constructor
    · rintro ⟨⟨a, b⟩, c⟩; exact ⟨a, b, @of_decide_eq_true _ (Classical.propDecidable _) c⟩
    · rintro ⟨a, b, c⟩; exact ⟨⟨a, b⟩, @decide_eq_true _ (Classical.propDecidable _) c⟩
  have e2 : cd (fun T => p T ∧ ¬ s T) = ((univ.filter (fun T => @decide (p T) (Classical.propDecidable _))).filter (fun T => !@decide (s T) (Classical.propDecidable _))).length := by
    refine cd_list ((fil_nodup p).filter _) (fun T => ?_)
    rw [List.mem_filter, mem_fil]
    constructor
    · rintro ⟨⟨a, b⟩, c⟩
      refine ⟨a, b, fun q => ?_⟩
      rw [@decide_eq_true _ (Classical.propDecidable _) q] at c
      cases c
    · rintro ⟨a, b, c⟩
      refine ⟨⟨a, b⟩, ?_⟩
      rw [@decide_eq_false _ (Classical.propDecidable _) c]; rfl
  rw [e1, e2]
  exact h
theorem cd_zero {p : Int32 → Prop} (h : ∀ T, Low 20 T → ¬ p T) : cd p = 0 := by
  rw [cd_list (L := []) List.Pairwise.nil (fun T => ⟨fun q => absurd q List.not_mem_nil, fun q => absurd q.2 (h T q.1)⟩)]
  rfl
theorem cd_one {p : Int32 → Prop} {a : Int32} (ha : Low 20 a) (h : ∀ T, Low 20 T → (p T ↔ T = a)) : cd p = 1 := by
  rw [cd_list (L := [a]) (List.pairwise_singleton _ _) (fun T => ?_)]
  · rfl
  · rw [List.mem_singleton]
    constructor
    · rintro rfl; exact ⟨ha, (h T ha).2 rfl⟩
    · rintro ⟨q1, q2⟩; exact (h T q1).1 q2
theorem flat_len {A B : List Int32} (f : Int32 → Int32 → Int32) : (A.flatMap (fun a => B.map (f a))).length = A.length * B.length := by
  induction A with
  | nil => simp
  | cons a A ih =>
    rw [List.flatMap_cons, List.length_append, List.length_map, ih, List.length_cons, Nat.succ_mul]
    omega
theorem flat_nodup {A B : List Int32} {f : Int32 → Int32 → Int32} (hA : A.Nodup) (hB : B.Nodup) (hi : ∀ a, a ∈ A → ∀ b, b ∈ B → ∀ a', a' ∈ A → ∀ b', b' ∈ B → f a b = f a' b' → a = a' ∧ b = b') : (A.flatMap (fun a => B.map (f a))).Nodup := by
  induction A with
  | nil => exact List.Pairwise.nil
  | cons a A ih =>
    rw [List.nodup_cons] at hA
    rw [List.flatMap_cons]
    refine List.nodup_append.2 ⟨nodup_map hB (fun x hx y hy e => (hi a List.mem_cons_self x hx a List.mem_cons_self y hy e).2), ih hA.2 (fun a1 h1 b1 h2 a2 h3 b2 h4 => hi a1 (List.mem_cons_of_mem _ h1) b1 h2 a2 (List.mem_cons_of_mem _ h3) b2 h4), ?_⟩
    rintro x hx y hy rfl
    obtain ⟨b1, hb1, rfl⟩ := List.mem_map.1 hx
    obtain ⟨a2, ha2, hy⟩ := List.mem_flatMap.1 hy
    obtain ⟨b2, hb2, e⟩ := List.mem_map.1 hy
    have := hi a2 (List.mem_cons_of_mem _ ha2) b2 hb2 a List.mem_cons_self b1 hb1 e
    rw [this.1] at ha2
    exact hA.1 ha2
/-- two parts that have nothing in common -/
theorem cd_mul {p q r : Int32 → Prop} {P P' : Int32} (hd : ∀ k, ¬ (tb P k = true ∧ tb P' k = true)) (hp : ∀ T, p T → sb T P) (hq : ∀ T, q T → sb T P') (h1 : ∀ T T', Low 20 T → Low 20 T' → p T → q T' → r (T ||| T')) (h2 : ∀ T, Low 20 T → r T → sb T (P ||| P') ∧ p (T &&& P) ∧ q (T &&& P')) : cd p * cd q = cd r := by
  have back : ∀ T T', p T → q T' → (T ||| T') &&& P = T ∧ (T ||| T') &&& P' = T' := by
    intro T T' a b
    have c1 := hp T a
    have c2 := hq T' b
    constructor
    · apply tb_ext
      intro k _
      rw [tb_and, tb_or]
      cases e1 : tb T k
      · cases e2 : tb T' k
        · rfl
        · cases e3 : tb P k
          · rfl
          · exact absurd ⟨e3, c2 k e2⟩ (hd k)
      · rw [c1 k e1]; rfl
    · apply tb_ext
      intro k _
      rw [tb_and, tb_or]
      cases e2 : tb T' k
      · cases e1 : tb T k
        · rfl
        · cases e3 : tb P' k
          · rfl
          · exact absurd ⟨c1 k e1, e3⟩ (hd k)
      · rw [c2 k e2, Bool.or_true]; rfl
  have e : cd r = ((univ.filter (fun T => @decide (p T) (Classical.propDecidable _))).flatMap (fun a => (univ.filter (fun T => @decide (q T) (Classical.propDecidable _))).map (fun b => a ||| b))).length := by
    refine cd_list (flat_nodup (fil_nodup p) (fil_nodup q) (fun a ha b hb a' ha' b' hb' e => ?_)) (fun T => ?_)
    · have x := back a b (mem_fil.1 ha).2 (mem_fil.1 hb).2
      have y := back a' b' (mem_fil.1 ha').2 (mem_fil.1 hb').2
      rw [e] at x
      exact ⟨x.1.symm.trans y.1, x.2.symm.trans y.2⟩
    · rw [List.mem_flatMap]
      constructor
      · rintro ⟨a, ha, hT⟩
        obtain ⟨b, hb, rfl⟩ := List.mem_map.1 hT
        rw [mem_fil] at ha hb
        exact ⟨low_or ha.1 hb.1, h1 a b ha.1 hb.1 ha.2 hb.2⟩
      · rintro ⟨hl, hr⟩
        obtain ⟨a1, a2, a3⟩ := h2 T hl hr
        refine ⟨T &&& P, mem_fil.2 ⟨low_and hl, a2⟩, List.mem_map.2 ⟨T &&& P', mem_fil.2 ⟨low_and hl, a3⟩, ?_⟩⟩
        apply tb_ext
        intro k _
        rw [tb_or, tb_and, tb_and]
        cases e : tb T k
        · rfl
        · have := a1 k e
          rw [tb_or] at this
          cases e1 : tb P k
          · rw [e1, Bool.false_or] at this; rw [this]; rfl
          · rfl
  rw [e, flat_len]
  rfl
