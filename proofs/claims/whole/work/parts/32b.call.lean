/-! CALLS in the forms that the blocks use -/
/-- it comes back with an int -/
def Ri (P : Int32 → St → Prop) : Out → St → Prop := fun o S' => ∃ x, o = .inl (some (.int x)) ∧ P x S'
/-- it comes back with nothing -/
def Rv (P : St → Prop) : Out → St → Prop := fun o S' => o = .inl none ∧ P S'
/-- with an int, or it throws -/
def Rit (P : Int32 → St → Prop) (T : String → St → Prop) : Out → St → Prop := fun o S' => (∃ x, o = .inl (some (.int x)) ∧ P x S') ∨ (∃ X, o = .inr X ∧ T X S')
def Rvt (P : St → Prop) (T : String → St → Prop) : Out → St → Prop := fun o S' => (o = .inl none ∧ P S') ∨ (∃ X, o = .inr X ∧ T X S')
section CALLS
variable {d b M pc : Nat} {ls st : List Value} {S : St} {Q : Out → St → Prop} {ct : Nat} {o : Opn}
theorem wp_calli {k a n w u : Nat} {z : Int32} {As r : List Value} {P : Int32 → St → Prop} (hl : rowIs M pc (ct, k, a, n, w, u, z) = true) (hk : 57 ≤ k ∧ k ≤ 61) (h0 : cst a = 0) (hA : As.length = n) (hc : As.all c1 = true) (hr : rcv a As = true) (h4 : r.length ≤ 4) (hs : Wp d 0 a 0 As [] S (Ri P))
    (K : ∀ x S1, P x S1 → Wp (d + 1) b M (pc + 3) (cutL ct ls) (.int x :: r) S1 Q) : Wp (d + 1) b M pc ls (As.reverse ++ r) S Q := by
  refine wp_call (R := Ri P) hl hk hA hc hr h4 (by rw [h0]; exact Nat.zero_le _) (by rw [h0]; exact hs) ?_ ?_
  · rintro v S1 ⟨x, h1, h2⟩
    cases h1
    rw [h0]
    exact K x S1 h2
  · rintro X S1 ⟨x, h1, h2⟩
    cases h1
theorem wp_callv {k a n w u : Nat} {z : Int32} {As r : List Value} {P : St → Prop} (hl : rowIs M pc (ct, k, a, n, w, u, z) = true) (hk : 57 ≤ k ∧ k ≤ 61) (h0 : cst a = 0) (hA : As.length = n) (hc : As.all c1 = true) (hr : rcv a As = true) (h4 : r.length ≤ 4) (hs : Wp d 0 a 0 As [] S (Rv P))
    (K : ∀ S1, P S1 → Wp (d + 1) b M (pc + 3) (cutL ct ls) r S1 Q) : Wp (d + 1) b M pc ls (As.reverse ++ r) S Q := by
  refine wp_call (R := Rv P) hl hk hA hc hr h4 (by rw [h0]; exact Nat.zero_le _) (by rw [h0]; exact hs) ?_ ?_
  · rintro v S1 ⟨h1, h2⟩
    cases h1
    rw [h0]
    exact K S1 h2
  · rintro X S1 ⟨h1, h2⟩
    cases h1
theorem wp_callb {k a n w u c : Nat} {z : Int32} {As r : List Value} {P : Int32 → St → Prop} (hl : rowIs M pc (ct, k, a, n, w, u, z) = true) (hk : 57 ≤ k ∧ k ≤ 61) (h0 : cst a = c) (hA : As.length = n) (hc : As.all c1 = true) (hr : rcv a As = true) (h4 : r.length ≤ 4) (hb : c ≤ b) (hs : Wp d c a 0 As [] S (Ri P))
    (K : ∀ x S1, P x S1 → Wp (d + 1) (b - c) M (pc + 3) (cutL ct ls) (.int x :: r) S1 Q) : Wp (d + 1) b M pc ls (As.reverse ++ r) S Q := by
  subst h0
  refine wp_call (R := Ri P) hl hk hA hc hr h4 hb hs ?_ ?_
  · rintro v S1 ⟨x, h1, h2⟩
    cases h1
    exact K x S1 h2
  · rintro X S1 ⟨x, h1, h2⟩
    cases h1
theorem wp_callu {k a n w u c : Nat} {z : Int32} {As r : List Value} {P : St → Prop} {T : String → St → Prop} (hl : rowIs M pc (ct, k, a, n, w, u, z) = true) (hk : 57 ≤ k ∧ k ≤ 58) (h0 : cst a = c) (hA : As.length = n) (hc : As.all c1 = true) (hr : rcv a As = true) (h4 : r.length ≤ 4) (hh : hdl M = []) (hb : c ≤ b) (hs : Wp d c a 0 As [] S (Rvt P T))
    (K : ∀ S1, P S1 → Wp (d + 1) (b - c) M (pc + 3) (cutL ct ls) r S1 Q) (KX : ∀ X S1, T X S1 → Q (.inr X) S1) : Wp (d + 1) b M pc ls (As.reverse ++ r) S Q := by
  subst h0
  refine wp_call (R := Rvt P T) hl ⟨hk.1, by omega⟩ hA hc hr h4 hb hs ?_ ?_
  · rintro v S1 (⟨h1, h2⟩ | ⟨X, h1, h2⟩)
    · cases h1
      exact K S1 h2
    · cases h1
  · rintro X S1 (⟨h1, h2⟩ | ⟨X', h1, h2⟩)
    · cases h1
    · cases h1
      exact Or.inl ⟨hh, by omega, KX X S1 h2⟩
theorem wp_callh {a n w u c : Nat} {z : Int32} {As r : List Value} {P : Int32 → St → Prop} {T : String → St → Prop} (hl : rowIs M pc (ct, 57, a, n, w, u, z) = true) (h0 : cst a = c) (hA : As.length = n) (hc : As.all c1 = true) (hr : rcv a As = true) (h4 : r.length ≤ 4) (hb : c ≤ b) (hs : Wp d c a 0 As [] S (Rit P T))
    (K : ∀ x S1, P x S1 → Wp (d + 1) (b - c) M (pc + 3) (cutL ct ls) (.int x :: r) S1 Q) (KX : ∀ X S1, T X S1 → ∃ j t sl ln, X = exN j ∧ (j, t, sl, ln) ∈ hdl M ∧ Wp (d + 1) (b - c) M (t + ln) ((cutL ct ls).take sl) [] S1 Q) : Wp (d + 1) b M pc ls (As.reverse ++ r) S Q := by
  subst h0
  refine wp_call (R := Rit P T) hl (by decide) hA hc hr h4 hb hs ?_ ?_
  · rintro v S1 (⟨x, h1, h2⟩ | ⟨X, h1, h2⟩)
    · cases h1
      exact K x S1 h2
    · cases h1
  · rintro X S1 (⟨x, h1, h2⟩ | ⟨X', h1, h2⟩)
    · cases h1
    · cases h1
      obtain ⟨j, t, sl, ln, e1, e2, e3⟩ := KX X S1 h2
      exact Or.inr ⟨j, t, sl, ln, e1, e2, rfl, e3⟩
/-- loops: a measure that falls -/
theorem wp_ind {α : Type} {pc : Nat} (L : α → List Value) (Z : α → St) (I : α → Prop) (m : α → Nat) (step : ∀ a, I a → (∀ a', m a' < m a → I a' → Wp d b M pc (L a') [] (Z a') Q) → Wp d b M pc (L a) [] (Z a) Q) : ∀ a, I a → Wp d b M pc (L a) [] (Z a) Q := by
  have h : ∀ (n : Nat) (a : α), m a ≤ n → I a → Wp d b M pc (L a) [] (Z a) Q := by
    intro n
    induction n with
    | zero => exact fun a hm hI => step a hI (fun a' h' _ => absurd h' (by omega))
    | succ n ih => exact fun a hm hI => step a hI (fun a' h' hI' => ih a' (by omega) hI')
  exact fun a hI => h (m a) a (Nat.le_refl _) hI
end CALLS
theorem wp_cut {d b M pc k : Nat} {ls st : List Value} {S : St} {Q : Out → St → Prop} (hl : (match look (tab M) pc with | some q => Nat.beq q.1 (k + 1) | none => false) = true) (h : Wp d b M pc (ls.take k) st S Q) : Wp d b M pc ls st S Q := by
  obtain ⟨out, S', ⟨n, h1⟩, h2⟩ := h
  refine ⟨out, S', ⟨n, ?_⟩, h2⟩
  cases n with
  | zero => cases h1
  | succ n =>
    obtain ⟨ct, o, e1, e2⟩ := h1
    rw [e1] at hl
    have e : ct = k + 1 := Nat.eq_of_beq_eq_true hl
    subst e
    refine ⟨k + 1, o, e1, ?_⟩
    have e3 : cutL (k + 1) (ls.take k) = cutL (k + 1) ls := by
      show (ls.take k).take k = ls.take k
      rw [List.take_take, Nat.min_self]
    rw [e3] at e2
    exact e2
