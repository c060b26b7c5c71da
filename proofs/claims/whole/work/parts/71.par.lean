/-! SETS OF FRAMES PUT TOGETHER: how many, which, what they span -/
theorem x_ac (a c e : Int32) : a ^^^ c ^^^ e = a ^^^ e ^^^ c := by
  rw [Int32.xor_assoc, Int32.xor_comm c e, ← Int32.xor_assoc]
theorem x_xx (a c : Int32) : a ^^^ c ^^^ c = a := by
  rw [Int32.xor_assoc, Int32.xor_self, Int32.xor_zero]
/-- so many of them put together give s -/
def Pk : List Int32 → Nat → Int32 → Prop
  | [], k, s => k = 0 ∧ s = 0
  | g :: G, k, s => Pk G k s ∨ ∃ j, k = j + 1 ∧ Pk G j (s ^^^ g)
theorem pk_len : ∀ {G : List Int32} {k : Nat} {s : Int32}, Pk G k s → k ≤ G.length := by
  intro G
  induction G with
  | nil => intro k s h; exact Nat.le_of_eq h.1
  | cons g G ih =>
    intro k s h
    rw [List.length_cons]
    rcases h with h | ⟨j, e, h⟩
    · have := ih h; omega
    · have := ih h; omega
theorem pk_zero : ∀ G : List Int32, Pk G 0 0 := by
  intro G
  induction G with
  | nil => exact ⟨rfl, rfl⟩
  | cons g G ih => exact Or.inl ih
theorem pk_0 : ∀ {G : List Int32} {s : Int32}, Pk G 0 s → s = 0 := by
  intro G
  induction G with
  | nil => intro s h; exact h.2
  | cons g G ih =>
    intro s h
    rcases h with h | ⟨j, e, h⟩
    · exact ih h
    · omega
theorem pk_add : ∀ {G : List Int32} {g : Int32}, g ∈ G → ∀ {k : Nat} {s : Int32}, Pk G k s → Pk G (k + 1) (s ^^^ g) ∨ ∃ j, k = j + 1 ∧ Pk G j (s ^^^ g) := by
  intro G
  induction G with
  | nil => intro g h; cases h
  | cons h G ih =>
    intro g hg k s hp
    rcases List.mem_cons.1 hg with rfl | hg
    · rcases hp with hp | ⟨j, e, hp⟩
      · exact Or.inl (Or.inr ⟨k, rfl, by rw [x_xx]; exact hp⟩)
      · exact Or.inr ⟨j, e, Or.inl hp⟩
    · rcases hp with hp | ⟨j, e, hp⟩
      · rcases ih hg hp with q | ⟨j, e, q⟩
        · exact Or.inl (Or.inl q)
        · exact Or.inr ⟨j, e, Or.inl q⟩
      · rcases ih hg hp with q | ⟨i, e2, q⟩
        · exact Or.inl (Or.inr ⟨j + 1, by omega, by rw [x_ac]; exact q⟩)
        · exact Or.inr ⟨j, e, Or.inr ⟨i, e2, by rw [x_ac]; exact q⟩⟩
theorem pk_split : ∀ {G : List Int32} (j : Nat) {k : Nat} {s : Int32}, Pk G k s → (∃ a, a < j ∧ a < G.length ∧ ∃ i, k = i + 1 ∧ Pk G i (s ^^^ G.getD a 0)) ∨ Pk (G.drop j) k s := by
  intro G
  induction G with
  | nil => intro j k s h; refine Or.inr ?_; rw [List.drop_nil]; exact h
  | cons g G ih =>
    intro j k s h
    cases j with
    | zero => exact Or.inr h
    | succ j =>
      rcases h with h | ⟨i, e, h⟩
      · rcases ih j h with ⟨a, a1, a2, i, e, q⟩ | q
        · refine Or.inl ⟨a + 1, by omega, by rw [List.length_cons]; omega, i, e, Or.inl ?_⟩
          exact q
        · exact Or.inr q
      · exact Or.inl ⟨0, by omega, by rw [List.length_cons]; omega, i, e, Or.inl h⟩
theorem pk_one {G : List Int32} {k : Nat} {s : Int32} (h : Pk G (k + 1) s) : ∃ a, a < G.length ∧ Pk G k (s ^^^ G.getD a 0) := by
  rcases pk_split G.length h with ⟨a, _, a2, i, e, q⟩ | q
  · rw [show i = k by omega] at q
    exact ⟨a, a2, q⟩
  · rw [List.drop_length] at q
    exact absurd q.1 (by omega)
theorem getD_mem {G : List Int32} {a : Nat} (h : a < G.length) : G.getD a 0 ∈ G := by
  rw [List.getD_eq_getElem?_getD, List.getElem?_eq_getElem h]
  exact List.getElem_mem h
/-- no fewer give it -/
def Dk (G : List Int32) (k : Nat) (s : Int32) : Prop := Pk G k s ∧ ∀ j, j < k → ¬ Pk G j s
theorem dk_ex {G : List Int32} {s : Int32} : ∀ {k : Nat}, Pk G k s → ∃ j, j ≤ k ∧ Dk G j s := by
  intro k
  induction k using Nat.strongRecOn with
  | _ k ih =>
    intro h
    by_cases q : ∃ j, j < k ∧ Pk G j s
    · obtain ⟨j, h1, h2⟩ := q
      obtain ⟨i, h3, h4⟩ := ih j h1 h2
      exact ⟨i, by omega, h4⟩
    · exact ⟨k, Nat.le_refl _, h, fun j hj hp => q ⟨j, hj, hp⟩⟩
theorem dk_uniq {G : List Int32} {s : Int32} {j k : Nat} (h1 : Dk G j s) (h2 : Dk G k s) : j = k := by
  rcases Nat.lt_trichotomy j k with h | h | h
  · exact absurd h1.1 (h2.2 j h)
  · exact h
  · exact absurd h2.1 (h1.2 k h)
theorem dk_back {G : List Int32} {s : Int32} {a j k : Nat} (h : Dk G k s) (ha : a < G.length) (hp : Pk G j (s ^^^ G.getD a 0)) : k ≤ j + 1 := by
  refine Nat.le_of_not_lt (fun q => ?_)
  rcases pk_add (getD_mem ha) hp with r | ⟨i, e, r⟩
  · rw [x_xx] at r; exact h.2 _ q r
  · rw [x_xx] at r; exact h.2 i (by omega) r
theorem dk_down {G : List Int32} {s : Int32} {k : Nat} (h : Dk G (k + 1) s) : ∃ a, a < G.length ∧ Dk G k (s ^^^ G.getD a 0) := by
  obtain ⟨a, ha, hp⟩ := pk_one h.1
  exact ⟨a, ha, hp, fun j hj q => by have := dk_back h ha q; omega⟩
theorem dk_up {G : List Int32} {s : Int32} {a k : Nat} (h : Dk G k s) (ha : a < G.length) : ∃ j, j ≤ k + 1 ∧ Dk G j (s ^^^ G.getD a 0) := by
  rcases pk_add (getD_mem ha) h.1 with r | ⟨i, e, r⟩
  · exact dk_ex r
  · obtain ⟨j, h1, h2⟩ := dk_ex r
    exact ⟨j, by omega, h2⟩
theorem drop_eq {G : List Int32} {i : Nat} (h : i < G.length) : G.drop i = G.getD i 0 :: G.drop (i + 1) := by
  rw [List.drop_eq_getElem_cons h, List.getD_eq_getElem?_getD, List.getElem?_eq_getElem h]
  rfl
theorem pk_drop {G : List Int32} {k : Nat} {s : Int32} : ∀ (n i : Nat), Pk (G.drop (i + n)) k s → Pk (G.drop i) k s := by
  intro n
  induction n with
  | zero => intro i h; exact h
  | succ n ih =>
    intro i h
    by_cases hi : i < G.length
    · rw [drop_eq hi]
      exact Or.inl (ih (i + 1) (by rw [show i + 1 + n = i + (n + 1) by omega]; exact h))
    · rw [List.drop_eq_nil_of_le (by omega)] at h ⊢
      exact h
/-- the first of all rising rows of so many -/
def LX (G : List Int32) : Nat → Nat → Int32 → List Nat → Prop
  | _, 0, s, l => s = 0 ∧ l = []
  | f, k + 1, s, l => ∃ i r, l = i :: r ∧ f ≤ i ∧ i < G.length ∧ (∀ j, f ≤ j → j < i → ¬ Pk (G.drop (j + 1)) k (s ^^^ G.getD j 0)) ∧ LX G (i + 1) k (s ^^^ G.getD i 0) r
theorem lx_pk {G : List Int32} : ∀ {k f : Nat} {s : Int32} {l : List Nat}, LX G f k s l → Pk (G.drop f) k s := by
  intro k
  induction k with
  | zero => intro f s l h; rw [h.1]; exact pk_zero _
  | succ k ih =>
    intro f s l h
    obtain ⟨i, r, _, h1, h2, _, h4⟩ := h
    have := ih h4
    refine pk_drop (i - f) f ?_
    rw [show f + (i - f) = i by omega, drop_eq h2]
    exact Or.inr ⟨k, rfl, this⟩
theorem lx_len {G : List Int32} : ∀ {k f : Nat} {s : Int32} {l : List Nat}, LX G f k s l → l.length = k := by
  intro k
  induction k with
  | zero => intro f s l h; rw [h.2]; rfl
  | succ k ih =>
    intro f s l h
    obtain ⟨i, r, e, _, _, _, h4⟩ := h
    rw [e, List.length_cons, ih h4]
/-- the reference's way back -/
def RC (G : List Int32) : Nat → Int32 → List Nat → Prop
  | 0, _, l => l = []
  | k + 1, s, l => ∃ i r, l = i :: r ∧ i < G.length ∧ (∀ j, j < i → ¬ Dk G k (s ^^^ G.getD j 0)) ∧ Dk G k (s ^^^ G.getD i 0) ∧ RC G k (s ^^^ G.getD i 0) r
theorem lx_rc {G : List Int32} : ∀ {k f : Nat} {s : Int32} {l : List Nat}, Dk G k s → (∀ j, j < f → j < G.length → ¬ ∃ i, k = i + 1 ∧ Dk G i (s ^^^ G.getD j 0)) → LX G f k s l → RC G k s l := by
  intro k
  induction k with
  | zero => intro f s l _ _ h; exact h.2
  | succ k ih =>
    intro f s l hD hf h
    obtain ⟨i, r, e, h1, h2, h3, h4⟩ := h
    have hi : Dk G k (s ^^^ G.getD i 0) := by
      have hp := pk_drop (G := G) (i + 1) 0 (by rw [Nat.zero_add]; exact lx_pk h4)
      exact ⟨hp, fun j hj q => by have := dk_back hD h2 q; omega⟩
    have hlt : ∀ j, j < i → ¬ Dk G k (s ^^^ G.getD j 0) := by
      intro j
      induction j using Nat.strongRecOn with
      | _ j jh =>
        intro hj hd
        by_cases q : j < f
        · exact hf j q (by omega) ⟨k, rfl, hd⟩
        · refine h3 j (by omega) hj ?_
          rcases pk_split (j + 1) hd.1 with ⟨a, a1, a2, c, e2, hp⟩ | hp
          · exfalso
            by_cases ea : a = j
            · rw [ea, x_xx] at hp
              exact hD.2 c (by omega) hp
            · have haj : a < j := by omega
              refine jh a haj (by omega) ?_
              rw [x_ac] at hp
              refine ⟨?_, fun u hu hq => by have := dk_back hD a2 hq; omega⟩
              rcases pk_add (getD_mem (show j < G.length by omega)) hp with w | ⟨u, e3, w⟩
              · rw [x_xx] at w
                rw [e2]; exact w
              · rw [x_xx] at w
                have := dk_back hD a2 w
                omega
          · exact hp
    refine ⟨i, r, e, h2, hlt, hi, ih hi ?_ h4⟩
    rintro j hj hjl ⟨c, e2, hd⟩
    by_cases ej : j = i
    · rw [ej, x_xx] at hd
      exact hD.2 c (by omega) hd.1
    · refine hlt j (by omega) ?_
      rw [x_ac] at hd
      refine ⟨?_, fun u hu hq => by have := dk_back hD hjl hq; omega⟩
      rcases pk_add (getD_mem h2) hd.1 with w | ⟨u, e3, w⟩
      · rw [x_xx] at w
        rw [e2]; exact w
      · rw [x_xx] at w
        have := dk_back hD hjl w
        omega
theorem rc_uniq {G : List Int32} : ∀ {k : Nat} {s : Int32} {l r : List Nat}, RC G k s l → RC G k s r → l = r := by
  intro k
  induction k with
  | zero => intro s l r h1 h2; exact h1.trans h2.symm
  | succ k ih =>
    rintro s l r ⟨i, t, e, _, h2, h3, h4⟩ ⟨j, u, e', _, g2, g3, g4⟩
    have : i = j := by
      rcases Nat.lt_trichotomy i j with h | h | h
      · exact absurd h3 (g2 i h)
      · exact h
      · exact absurd g3 (h2 j h)
    subst this
    rw [e, e', ih h4 g4]
/-- what is spanned by a basis -/
def Sp (B : Nat → Int32) : Nat → Int32 → Prop
  | 0, s => s = 0
  | n + 1, s => Sp B n s ∨ Sp B n (s ^^^ B n)
def TB (B : Nat → Int32) : Prop := ∀ b, b < 21 → B b = 0 ∨ (tb (B b) b = true ∧ Low (b + 1) (B b))
theorem low_xor {n : Nat} {s t : Int32} (h1 : Low n s) (h2 : Low n t) : Low n (s ^^^ t) := by
  intro k hk
  rw [tb_xor] at hk
  cases e : tb s k with
  | true => exact h1 k e
  | false =>
    rw [e] at hk
    cases e2 : tb t k with
    | true => exact h2 k e2
    | false => rw [e2] at hk; cases hk
theorem sp_zero (B : Nat → Int32) (n : Nat) : Sp B n 0 := by
  induction n with
  | zero => rfl
  | succ n ih => exact Or.inl ih
theorem sp_add {B : Nat → Int32} : ∀ {n : Nat} {s t : Int32}, Sp B n s → Sp B n t → Sp B n (s ^^^ t) := by
  intro n
  induction n with
  | zero => intro s t h1 h2; show _ = _; rw [show s = 0 from h1, show t = 0 from h2]; rfl
  | succ n ih =>
    intro s t h1 h2
    rcases h1 with h1 | h1 <;> rcases h2 with h2 | h2
    · exact Or.inl (ih h1 h2)
    · refine Or.inr ?_
      rw [Int32.xor_assoc]; exact ih h1 h2
    · refine Or.inr ?_
      rw [x_ac]; exact ih h1 h2
    · refine Or.inl ?_
      have := ih h1 h2
      rw [← Int32.xor_assoc, x_ac (s ^^^ B n) t (B n), x_xx] at this
      exact this
theorem sp_low {B : Nat → Int32} (hT : TB B) : ∀ {n : Nat} {s : Int32}, n ≤ 21 → Sp B n s → Low n s := by
  intro n
  induction n with
  | zero => intro s _ h; rw [show s = 0 from h]; exact low_zero 0
  | succ n ih =>
    intro s hn h
    have hb : Low (n + 1) (B n) := by
      rcases hT n (by omega) with e | ⟨_, e⟩
      · rw [e]; exact low_zero _
      · exact e
    rcases h with h | h
    · exact low_le (ih (by omega) h) (by omega)
    · have := low_xor (low_le (ih (by omega) h) (show n ≤ n + 1 by omega)) hb
      rw [x_xx] at this
      exact this
theorem sp_0 {B : Nat → Int32} (hT : TB B) {n : Nat} {s : Int32} (hn : n < 21) (h : tb s n = false) : Sp B (n + 1) s ↔ Sp B n s := by
  refine ⟨fun q => ?_, Or.inl⟩
  rcases q with q | q
  · exact q
  · rcases hT n hn with e | ⟨e, _⟩
    · rw [e, Int32.xor_zero] at q; exact q
    · have := sp_low hT (by omega) q n (by rw [tb_xor, h, e]; rfl)
      omega
theorem sp_1 {B : Nat → Int32} (hT : TB B) {n : Nat} {s : Int32} (hn : n < 21) (h : tb s n = true) : Sp B (n + 1) s ↔ (¬ B n = 0 ∧ Sp B n (s ^^^ B n)) := by
  refine ⟨fun q => ?_, fun q => Or.inr q.2⟩
  rcases q with q | q
  · have := sp_low hT (by omega) q n h
    omega
  · refine ⟨fun e => ?_, q⟩
    rw [e, Int32.xor_zero] at q
    have := sp_low hT (by omega) q n h
    omega
theorem sp_congr {B B' : Nat → Int32} : ∀ {n : Nat} {s : Int32}, (∀ b, b < n → B b = B' b) → (Sp B n s ↔ Sp B' n s) := by
  intro n
  induction n with
  | zero => intro s _; exact Iff.rfl
  | succ n ih =>
    intro s h
    show (_ ∨ _) ↔ (_ ∨ _)
    rw [ih (fun b hb => h b (by omega)), ih (fun b hb => h b (by omega)), h n (by omega)]
def updB (B : Nat → Int32) (c : Nat) (v : Int32) : Nat → Int32 := fun i => if i = c then v else B i
theorem sp_upd {B : Nat → Int32} {c : Nat} {v : Int32} (h0 : B c = 0) : ∀ {n : Nat} {s : Int32}, c < n → (Sp (updB B c v) n s ↔ (Sp B n s ∨ Sp B n (s ^^^ v))) := by
  intro n
  induction n with
  | zero => intro s h; omega
  | succ n ih =>
    intro s h
    by_cases e : n = c
    · subst e
      show (Sp (updB B n v) n s ∨ Sp (updB B n v) n (s ^^^ updB B n v n)) ↔ ((Sp B n s ∨ Sp B n (s ^^^ B n)) ∨ (Sp B n (s ^^^ v) ∨ Sp B n (s ^^^ v ^^^ B n)))
      have c1 : ∀ t, Sp (updB B n v) n t ↔ Sp B n t := fun t => sp_congr (fun b hb => if_neg (by omega))
      rw [c1, c1, show updB B n v n = v from if_pos rfl, h0, Int32.xor_zero, Int32.xor_zero, or_self, or_self]
    · show (Sp (updB B c v) n s ∨ Sp (updB B c v) n (s ^^^ updB B c v n)) ↔ ((Sp B n s ∨ Sp B n (s ^^^ B n)) ∨ (Sp B n (s ^^^ v) ∨ Sp B n (s ^^^ v ^^^ B n)))
      rw [show updB B c v n = B n from if_neg e, ih (by omega), ih (by omega), x_ac s v (B n)]
      constructor
      · rintro ((h | h) | (h | h))
        · exact Or.inl (Or.inl h)
        · exact Or.inr (Or.inl h)
        · exact Or.inl (Or.inr h)
        · exact Or.inr (Or.inr h)
      · rintro ((h | h) | (h | h))
        · exact Or.inl (Or.inl h)
        · exact Or.inr (Or.inl h)
        · exact Or.inl (Or.inr h)
        · exact Or.inr (Or.inr h)
theorem tb_upd {B : Nat → Int32} (hT : TB B) {c : Nat} {v : Int32} (h1 : tb v c = true) (h2 : Low (c + 1) v) : TB (updB B c v) := by
  intro b hb
  by_cases e : b = c
  · subst e
    rw [show updB B b v b = v from if_pos rfl]
    exact Or.inr ⟨h1, h2⟩
  · rw [show updB B c v b = B b from if_neg e]
    exact hT b hb
theorem sp_mono {B : Nat → Int32} {s : Int32} : ∀ {n m : Nat}, n ≤ m → Sp B n s → Sp B m s := by
  intro n m h
  induction m with
  | zero => intro q; rw [show n = 0 by omega] at q; exact q
  | succ m ih =>
    intro q
    by_cases e : n = m + 1
    · rw [← e]; exact q
    · exact Or.inl (ih (by omega) q)
/-- what a list spans -/
def Sl : List Int32 → Int32 → Prop
  | [], s => s = 0
  | g :: G, s => Sl G s ∨ Sl G (s ^^^ g)
theorem sl_pk : ∀ {G : List Int32} {s : Int32}, Sl G s ↔ ∃ k, Pk G k s := by
  intro G
  induction G with
  | nil => intro s; exact ⟨fun h => ⟨0, rfl, h⟩, fun ⟨k, h⟩ => h.2⟩
  | cons g G ih =>
    intro s
    constructor
    · rintro (h | h)
      · obtain ⟨k, h⟩ := ih.1 h; exact ⟨k, Or.inl h⟩
      · obtain ⟨k, h⟩ := ih.1 h; exact ⟨k + 1, Or.inr ⟨k, rfl, h⟩⟩
    · rintro ⟨k, h | ⟨j, _, h⟩⟩
      · exact Or.inl (ih.2 ⟨k, h⟩)
      · exact Or.inr (ih.2 ⟨j, h⟩)
theorem sl_app {x : Int32} : ∀ {G : List Int32} {s : Int32}, Sl (G ++ [x]) s ↔ (Sl G s ∨ Sl G (s ^^^ x)) := by
  intro G
  induction G with
  | nil => intro s; exact Iff.rfl
  | cons g G ih =>
    intro s
    show (Sl (G ++ [x]) s ∨ Sl (G ++ [x]) (s ^^^ g)) ↔ ((Sl G s ∨ Sl G (s ^^^ g)) ∨ (Sl G (s ^^^ x) ∨ Sl G (s ^^^ x ^^^ g)))
    rw [ih, ih, x_ac s x g]
    constructor
    · rintro ((h | h) | (h | h))
      · exact Or.inl (Or.inl h)
      · exact Or.inr (Or.inl h)
      · exact Or.inl (Or.inr h)
      · exact Or.inr (Or.inr h)
    · rintro ((h | h) | (h | h))
      · exact Or.inl (Or.inl h)
      · exact Or.inr (Or.inl h)
      · exact Or.inl (Or.inr h)
      · exact Or.inr (Or.inr h)
theorem sl_add : ∀ {G : List Int32} {s t : Int32}, Sl G s → Sl G t → Sl G (s ^^^ t) := by
  intro G
  induction G with
  | nil => intro s t h1 h2; show _ = _; rw [show s = 0 from h1, show t = 0 from h2]; rfl
  | cons g G ih =>
    intro s t h1 h2
    rcases h1 with h1 | h1 <;> rcases h2 with h2 | h2
    · exact Or.inl (ih h1 h2)
    · refine Or.inr ?_
      rw [Int32.xor_assoc]; exact ih h1 h2
    · refine Or.inr ?_
      rw [x_ac]; exact ih h1 h2
    · refine Or.inl ?_
      have := ih h1 h2
      rw [← Int32.xor_assoc, x_ac (s ^^^ g) t g, x_xx] at this
      exact this
theorem sl_zero : ∀ G : List Int32, Sl G 0 := by
  intro G
  induction G with
  | nil => rfl
  | cons g G ih => exact Or.inl ih
theorem sl_mem : ∀ {G : List Int32} {g : Int32}, g ∈ G → Sl G g := by
  intro G
  induction G with
  | nil => intro g h; cases h
  | cons x G ih =>
    intro g h
    rcases List.mem_cons.1 h with rfl | h
    · refine Or.inr ?_; rw [Int32.xor_self]; exact sl_zero _
    · exact Or.inl (ih h)
/-- a basis of the list's span -/
def BS (B : Nat → Int32) (G : List Int32) : Prop := TB B ∧ ∀ s, Sp B 21 s ↔ Sl G s
theorem bs_nil {B : Nat → Int32} (h : ∀ b, b < 21 → B b = 0) : BS B [] := by
  refine ⟨fun b hb => Or.inl (h b hb), fun s => ?_⟩
  have : ∀ n, n ≤ 21 → (Sp B n s ↔ s = 0) := by
    intro n
    induction n with
    | zero => intro _; exact Iff.rfl
    | succ n ih =>
      intro hn
      show (Sp B n s ∨ Sp B n (s ^^^ B n)) ↔ _
      rw [h n (by omega), Int32.xor_zero, or_self]
      exact ih (by omega)
  exact this 21 (by omega)
/-- the top -/
def TopOf (s : Int32) (t : Nat) : Prop := tb s t = true ∧ Low (t + 1) s
theorem sp_down {B : Nat → Int32} (hT : TB B) {s : Int32} {n : Nat} (hl : Low n s) : ∀ {m : Nat}, n ≤ m → m ≤ 21 → Sp B m s → Sp B n s := by
  intro m
  induction m with
  | zero => intro h _ q; rw [show n = 0 by omega]; exact q
  | succ m ih =>
    intro h hm q
    by_cases e : n = m + 1
    · rw [e]; exact q
    · refine ih (by omega) (by omega) ((sp_0 hT (by omega) ?_).1 q)
      refine bneg (fun c => ?_)
      have := hl m c
      omega
theorem bs_top {B : Nat → Int32} {G : List Int32} (hB : BS B G) {t : Nat} (ht : t < 21) : ¬ B t = 0 ↔ ∃ s, Sl G s ∧ TopOf s t := by
  constructor
  · intro h
    refine ⟨B t, (hB.2 _).1 (sp_mono (n := t + 1) (by omega) (Or.inr ?_)), ?_⟩
    · rw [Int32.xor_self]; exact sp_zero _ _
    · rcases hB.1 t ht with e | e
      · exact absurd e h
      · exact e
  · rintro ⟨s, h1, h2, h3⟩
    exact ((sp_1 hB.1 ht h2).1 (sp_down hB.1 h3 (by omega) (Nat.le_refl _) ((hB.2 s).2 h1))).1
