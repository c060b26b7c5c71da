/-! ROWS OF FRAMES: the class's and the reference's -/
theorem tb_shl1 (s : Int32) (k : Nat) : tb (s <<< ((1 : Int32) &&& 31)) k = (decide (k < 32) && decide (1 ≤ k) && tb s (k - 1)) := by
  unfold tb
  rw [Int32.toBitVec_shiftLeft, BitVec.shiftLeft_eq', show (((1 : Int32) &&& 31).toBitVec.smod 32).toNat = 1 from shr_amt (r := 1) (by omega), BitVec.getLsbD_shiftLeft]
  by_cases hk : k < 1
  · rw [show k = 0 by omega]; rfl
  · have e1 : decide (k < 1) = false := by simpa using hk
    have e2 : decide (1 ≤ k) = true := by simp; omega
    rw [e1, e2]
    simp
/-- the class's row of a frame -/
def rwF (f : Int32) : Int32 := (f <<< ((1 : Int32) &&& 31)) ||| 1
/-- the reference's -/
def odF (f : Int32) : Int32 := f ^^^ 1048576
theorem tb_odd (k : Nat) : tb 1048576 k = decide (k = 20) := tb_bit (r := 20) (by omega) k
/-- the one's out of the other's -/
def phi (x : Int32) : Int32 := mk (fun k => if k = 0 then tb x 20 else tb x (k - 1)) 21
theorem tb_phi (x : Int32) (k : Nat) : tb (phi x) k = (decide (k < 21) && if k = 0 then tb x 20 else tb x (k - 1)) := tb_mk _ (by omega) k
theorem phi_xor (x y : Int32) : phi (x ^^^ y) = phi x ^^^ phi y := by
  apply tb_ext
  intro k _
  rw [tb_xor, tb_phi, tb_phi, tb_phi, tb_xor, tb_xor]
  by_cases h : k = 0
  · rw [if_pos h, if_pos h, if_pos h]; cases decide (k < 21) <;> simp
  · rw [if_neg h, if_neg h, if_neg h]; cases decide (k < 21) <;> simp
theorem phi_zero {x : Int32} (hx : Low 21 x) : phi x = 0 ↔ x = 0 := by
  constructor
  · intro h
    apply tb_ext
    intro k _
    rw [tb_zero]
    refine bneg (fun c => ?_)
    have hk := hx k c
    by_cases e : k = 20
    · have := congrArg (fun y => tb y 0) h
      simp only [tb_phi, tb_zero] at this
      rw [e] at c
      rw [c] at this
      simp at this
    · have := congrArg (fun y => tb y (k + 1)) h
      simp only [tb_phi, tb_zero] at this
      rw [if_neg (by omega), show k + 1 - 1 = k by omega, c] at this
      have e3 : decide (k + 1 < 21) = true := by simp; omega
      rw [e3] at this
      exact absurd this (by decide)
  · intro h
    subst h
    decide
theorem phi_od {f : Int32} (hf : Low 20 f) : phi (odF f) = rwF f := by
  apply tb_ext
  intro k hk
  unfold rwF odF
  rw [tb_phi, tb_or, tb_shl1, tb_one, tb_xor, tb_xor, tb_odd, tb_odd]
  by_cases h : k = 0
  · subst h
    have : tb f 20 = false := bneg (fun c => by have := hf 20 c; omega)
    rw [this]
    simp
  · have e1 : decide (1 ≤ k) = true := by simp; omega
    have e2 : decide (k < 32) = true := by simp; omega
    have e3 : decide (k = 0) = false := by simpa using h
    rw [if_neg h, e1, e2, e3]
    by_cases h2 : k < 21
    · have e4 : decide (k < 21) = true := by simp; omega
      have e5 : decide (k - 1 = 20) = false := by simp; omega
      rw [e4, e5]
      simp
    · have e4 : decide (k < 21) = false := by simp; omega
      have : tb f (k - 1) = false := bneg (fun c => by have := hf _ c; omega)
      rw [e4, this]
      rfl
theorem phi_odd : phi 1048576 = 1 := by decide
theorem phi_0 : phi 0 = 0 := by decide
theorem low_od {f : Int32} (hf : Low 20 f) : Low 21 (odF f) := low_xor (low_le hf (by omega)) (low_bit (r := 20) (by omega) (by omega))
theorem pk_phi : ∀ {G : List Int32} {k : Nat} {s : Int32}, (∀ g, g ∈ G → Low 21 g) → Low 21 s → (Pk (G.map phi) k (phi s) ↔ Pk G k s) := by
  intro G
  induction G with
  | nil =>
    intro k s _ hs
    show (_ ∧ _) ↔ (_ ∧ _)
    rw [phi_zero hs]
  | cons g G ih =>
    intro k s hG hs
    have h1 := fun (k : Nat) (s : Int32) => ih (k := k) (s := s) (fun x hx => hG x (List.mem_cons_of_mem _ hx))
    show (Pk (G.map phi) k (phi s) ∨ ∃ j, k = j + 1 ∧ Pk (G.map phi) j (phi s ^^^ phi g)) ↔ (Pk G k s ∨ ∃ j, k = j + 1 ∧ Pk G j (s ^^^ g))
    rw [h1 k s hs]
    have : ∀ j, Pk (G.map phi) j (phi s ^^^ phi g) ↔ Pk G j (s ^^^ g) := fun j => by
      rw [← phi_xor]
      exact h1 j _ (low_xor hs (hG g List.mem_cons_self))
    simp only [this]
theorem getD_map {f : Int32 → Int32} (G : List Int32) {i : Nat} (h : i < G.length) : (G.map f).getD i 0 = f (G.getD i 0) := by
  rw [List.getD_eq_getElem?_getD, List.getD_eq_getElem?_getD, List.getElem?_map, List.getElem?_eq_getElem h]
  rfl
theorem lx_phi {G : List Int32} (hG : ∀ g, g ∈ G → Low 21 g) : ∀ {k f : Nat} {s : Int32} {l : List Nat}, Low 21 s → LX (G.map phi) f k (phi s) l → LX G f k s l := by
  intro k
  induction k with
  | zero => intro f s l hs h; exact ⟨(phi_zero hs).1 h.1, h.2⟩
  | succ k ih =>
    intro f s l hs h
    obtain ⟨i, r, e, h1, h2, h3, h4⟩ := h
    rw [List.length_map] at h2
    have hl : ∀ j, j < G.length → Low 21 (s ^^^ G.getD j 0) := fun j hj => low_xor hs (hG _ (getD_mem hj))
    refine ⟨i, r, e, h1, h2, fun j hj hji q => h3 j hj hji ?_, ih (hl i h2) ?_⟩
    · rw [getD_map G (by omega), ← phi_xor, ← List.map_drop]
      exact (pk_phi (fun g hg => hG g (List.mem_of_mem_drop hg)) (hl j (by omega))).2 q
    · rw [getD_map G h2, ← phi_xor] at h4
      exact h4
/-- as many rays as so many frames have -/
theorem cnt_xor {p q r : Nat → Bool} : ∀ n, (∀ k, k < n → r k = (p k ^^ q k)) → cnt r n ≤ cnt p n + cnt q n := by
  intro n
  induction n with
  | zero => intro _; exact Nat.zero_le _
  | succ n ih =>
    intro h
    have := ih (fun k hk => h k (by omega))
    have e := h n (by omega)
    unfold cnt
    rw [e]
    cases p n <;> cases q n <;> simp <;> omega
theorem pk_pcn {D : Nat} : ∀ {G : List Int32} {k : Nat} {s : Int32}, (∀ g, g ∈ G → cnt (fun j => tb g (j + 1)) 31 ≤ D) → Pk G k s → cnt (fun j => tb s (j + 1)) 31 ≤ k * D := by
  intro G
  induction G with
  | nil =>
    intro k s _ h
    rw [h.2, cnt_zero (fun j _ => tb_zero _)]
    exact Nat.zero_le _
  | cons g G ih =>
    intro k s hG h
    rcases h with h | ⟨j, e, h⟩
    · exact ih (fun x hx => hG x (List.mem_cons_of_mem _ hx)) h
    · have h1 := ih (fun x hx => hG x (List.mem_cons_of_mem _ hx)) h
      have h2 := hG g List.mem_cons_self
      have h3 := cnt_xor (p := fun j => tb (s ^^^ g) (j + 1)) (q := fun j => tb g (j + 1)) (r := fun j => tb s (j + 1)) 31 (fun k _ => by
        show tb s (k + 1) = _
        rw [← tb_xor, x_xx])
      rw [e, Nat.add_mul]
      omega
theorem pcn_shr1 {s : Int32} (h : tb s 31 = false) : pcn (s >>> ((1 : Int32) &&& 31)) = cnt (fun j => tb s (j + 1)) 31 := by
  unfold pcn
  have e : ∀ k, k < 32 → tb (s >>> ((1 : Int32) &&& 31)) k = tb s (if 1 + k < 32 then 1 + k else 31) := fun k hk => by
    have := tb_shr s (r := 1) (k := k) (by omega)
    rw [show decide (k < 32) = true by simpa using hk, Bool.true_and] at this
    exact this
  rw [cnt_congr e, cnt_ext (n := 31) (m := 32) (by omega) (fun k h1 h2 => by rw [if_neg (by omega)]; exact h)]
  exact cnt_congr (fun k hk => by rw [if_pos (by omega), Nat.add_comm])
theorem cnt_rwF {f : Int32} (hf : Low 20 f) : cnt (fun j => tb (rwF f) (j + 1)) 31 = pcn f := by
  rw [pcn_low (n := 31) (low_le hf (by omega)) (by omega)]
  refine cnt_congr (fun k hk => ?_)
  show tb (rwF f) (k + 1) = _
  unfold rwF
  rw [tb_or, tb_shl1, tb_one]
  have e1 : decide (k + 1 < 32) = true := by simp; omega
  rw [e1, show k + 1 - 1 = k by omega]
  simp
/-- tops of the class's span and of the frames' -/
theorem sl_rw1 : ∀ {F : List Int32} {v : Int32}, Sl (F.map rwF) v → ∃ u, Sl F u ∧ ∀ k, k < 31 → tb v (k + 1) = tb u k := by
  intro F
  induction F with
  | nil =>
    intro v h
    exact ⟨0, rfl, fun k _ => by rw [show v = 0 from h, tb_zero, tb_zero]⟩
  | cons f F ih =>
    intro v h
    rcases h with h | h
    · obtain ⟨u, h1, h2⟩ := ih h
      exact ⟨u, Or.inl h1, h2⟩
    · obtain ⟨u, h1, h2⟩ := ih h
      refine ⟨u ^^^ f, Or.inr (by rw [x_xx]; exact h1), fun k hk => ?_⟩
      have := h2 k hk
      rw [tb_xor] at this ⊢
      rw [← this]
      unfold rwF
      rw [tb_or, tb_shl1, tb_one]
      have e1 : decide (k + 1 < 32) = true := by simp; omega
      rw [e1, show k + 1 - 1 = k by omega]
      simp
theorem sl_rw2 : ∀ {F : List Int32} {u : Int32}, Sl F u → ∃ v, Sl (F.map rwF) v ∧ ∀ k, k < 31 → tb v (k + 1) = tb u k := by
  intro F
  induction F with
  | nil =>
    intro u h
    exact ⟨0, rfl, fun k _ => by rw [show u = 0 from h, tb_zero, tb_zero]⟩
  | cons f F ih =>
    intro u h
    rcases h with h | h
    · obtain ⟨v, h1, h2⟩ := ih h
      exact ⟨v, Or.inl h1, h2⟩
    · obtain ⟨v, h1, h2⟩ := ih h
      refine ⟨v ^^^ rwF f, Or.inr (by rw [x_xx]; exact h1), fun k hk => ?_⟩
      have := h2 k hk
      rw [tb_xor, this, tb_xor]
      unfold rwF
      rw [tb_or, tb_shl1, tb_one]
      have e1 : decide (k + 1 < 32) = true := by simp; omega
      rw [e1, show k + 1 - 1 = k by omega]
      simp
theorem sl_low {n : Nat} : ∀ {F : List Int32} {u : Int32}, (∀ f, f ∈ F → Low n f) → Sl F u → Low n u := by
  intro F
  induction F with
  | nil => intro u _ h; rw [show u = 0 from h]; exact low_zero _
  | cons f F ih =>
    intro u hF h
    rcases h with h | h
    · exact ih (fun x hx => hF x (List.mem_cons_of_mem _ hx)) h
    · have := low_xor (ih (fun x hx => hF x (List.mem_cons_of_mem _ hx)) h) (hF f List.mem_cons_self)
      rw [x_xx] at this
      exact this
theorem top_rw {F : List Int32} (hF : ∀ f, f ∈ F → Low 20 f) {t : Nat} (ht : t < 20) : (∃ v, Sl (F.map rwF) v ∧ TopOf v (t + 1)) ↔ ∃ u, Sl F u ∧ TopOf u t := by
  constructor
  · rintro ⟨v, h1, h2, h3⟩
    obtain ⟨u, g1, g2⟩ := sl_rw1 h1
    refine ⟨u, g1, (g2 t (by omega)).symm.trans h2, fun k hk => ?_⟩
    have hl := sl_low hF g1 k hk
    have := h3 (k + 1) ((g2 k (by omega)).trans hk)
    omega
  · rintro ⟨u, h1, h2, h3⟩
    obtain ⟨v, g1, g2⟩ := sl_rw2 h1
    refine ⟨v, g1, (g2 t (by omega)).trans h2, fun k hk => ?_⟩
    by_cases e : k = 0
    · omega
    · have := tb_lt hk
      have := h3 (k - 1) (by rw [← g2 (k - 1) (by omega), show k - 1 + 1 = k by omega]; exact hk)
      omega
