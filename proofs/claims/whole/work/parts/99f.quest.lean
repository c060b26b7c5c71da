/-! QUESTIONS: what they ask -/
section QUEST
variable {y : Nat → Int32} {n : Nat} {ev : Nat → Nat → Int32}
def wNot : List Int32 := [110, 111, 116]
def wAnd : List Int32 := [97, 110, 100]
def wOr : List Int32 := [111, 114]
def wMany : List Int32 := [109, 97, 110, 121]
def wFirst : List Int32 := [102, 105, 114, 115, 116]
def wX : List Int32 := [120]
def wY : List Int32 := [121]
def wZ : List Int32 := [122]
def wW : List Int32 := [119]
def wSquare : List Int32 := [115, 113, 117, 97, 114, 101]
def wMeets : List Int32 := [109, 101, 101, 116, 115]
def wFrames : List Int32 := [102, 114, 97, 109, 101, 115]
def wYes : List Int32 := [121, 101, 115]
/-- which word of a value it is; 9 for none -/
def wIx (y : Nat → Int32) (n p : Nat) : Nat := if isWl y n p wRay = true then 0 else if isWl y n p wX = true then 1 else if isWl y n p wY = true then 2 else if isWl y n p wZ = true then 3 else if isWl y n p wW = true then 4 else if isWl y n p wSquare = true then 5 else if isWl y n p wMeets = true then 6 else if isWl y n p wFrames = true then 7 else if isWl y n p wYes = true then 8 else 9
theorem wIx_le (p : Nat) : wIx y n p ≤ 9 := by
  unfold wIx
  repeat' split
  all_goals omega
theorem isWl_k {p : Nat} {w : List Int32} (h : isWl y n p w = true) : kd y n p = 1 := by
  unfold isWl at h
  exact of_decide_eq_true (Bool.and_eq_true _ _ ▸ h : _ ∧ _).1
theorem isS_k {p : Nat} {c : Int32} (h : isS y n p c = true) : kd y n p = 3 := by
  unfold isS at h
  exact of_decide_eq_true (Bool.and_eq_true _ _ ▸ h : _ ∧ _).1
theorem isWl_no {p : Nat} {w : List Int32} (h : ¬ kd y n p = 1) : isWl y n p w = false := Bool.eq_false_iff.2 (fun z => h (isWl_k z))
theorem isS_no {p : Nat} {c : Int32} (h : ¬ kd y n p = 3) : isS y n p c = false := Bool.eq_false_iff.2 (fun z => h (isS_k z))
theorem wIx_k {p : Nat} (h : ¬ kd y n p = 1) : wIx y n p = 9 := by
  unfold wIx
  rw [isWl_no h, isWl_no h, isWl_no h, isWl_no h, isWl_no h, isWl_no h, isWl_no h, isWl_no h, isWl_no h]
  rfl
/-- a value that is read: where it ends, and what it is of a ray -/
def vlR (y : Nat → Int32) (n : Nat) (z : Nat × Nat) : Nat × Nat := if z.1 = 0 ∧ wIx y n z.2 < 9 then (0, en y n z.2) else sgR y n 999 z
def vlV (ev : Nat → Nat → Int32) (y : Nat → Int32) (n : Nat) (z : Nat × Nat) (e : Nat → Int32) (r : Nat) : Int32 := if wIx y n z.2 < 8 then ev (wIx y n z.2) r else if wIx y n z.2 = 8 then e r else sgV y n z
def opR (y : Nat → Int32) (n : Nat) (a : Nat × Nat) : Nat × Nat := if isSR y n a 60 = true ∨ isSR y n a 61 = true ∨ isSR y n a 62 = true then (0, en y n a.2) else wrgR 1 a
def cmpR (y : Nat → Int32) (n : Nat) (z : Nat × Nat) : Nat × Nat := vlR y n (opR y n (vlR y n z))
def cmpV (ev : Nat → Nat → Int32) (y : Nat → Int32) (n : Nat) (z : Nat × Nat) (e : Nat → Int32) (r : Nat) : Bool := if isSR y n (vlR y n z) 60 = true then decide (vlV ev y n z e r < vlV ev y n (opR y n (vlR y n z)) e r) else if isSR y n (vlR y n z) 62 = true then decide (vlV ev y n (opR y n (vlR y n z)) e r < vlV ev y n z e r) else decide (vlV ev y n z e r = vlV ev y n (opR y n (vlR y n z)) e r)
def cmpY (y : Nat → Int32) (n : Nat) (z : Nat × Nat) : Bool := decide (wIx y n z.2 = 8) || decide (wIx y n (opR y n (vlR y n z)).2 = 8)
abbrev Qr : Type := (Nat × Nat) × Bool × ((Nat → Int32) → Nat → Bool)
def lopR (y : Nat → Int32) (n : Nat) (g : Nat × Nat → Qr) (w : List Int32) (op : Bool → Bool → Bool) : Nat → Qr → Qr
  | 0, q => q
  | k + 1, q => if isWR y n q.1 w = true then lopR y n g w op k ((g (pasR y n q.1)).1, q.2.1 || (g (pasR y n q.1)).2.1, fun e r => op (q.2.2 e r) ((g (pasR y n q.1)).2.2 e r)) else q
def bthR (y : Nat → Int32) (n : Nat) (g : Nat × Nat → Qr) (z : Nat × Nat) : Qr := lopR y n g wAnd (fun a c => a && c) 200 (g z)
def tstR (y : Nat → Int32) (n : Nat) (g : Nat × Nat → Qr) (z : Nat × Nat) : Qr := lopR y n (bthR y n g) wOr (fun a c => a || c) 200 (bthR y n g z)
def fct (ev : Nat → Nat → Int32) (y : Nat → Int32) (n : Nat) : Nat → Nat × Nat → Qr
  | 0 => fun z => if isWR y n z wNot = true ∨ isSR y n z 40 = true then ((3, z.2), false, fun _ _ => false) else (cmpR y n z, cmpY y n z, cmpV ev y n z)
  | j + 1 => fun z => if isWR y n z wNot = true then ((fct ev y n j (pasR y n z)).1, (fct ev y n j (pasR y n z)).2.1, fun e r => !(fct ev y n j (pasR y n z)).2.2 e r) else if isSR y n z 40 = true then (mustR y n (tstR y n (fct ev y n j) (pasR y n z)).1 41, (tstR y n (fct ev y n j) (pasR y n z)).2.1, (tstR y n (fct ev y n j) (pasR y n z)).2.2) else (cmpR y n z, cmpY y n z, cmpV ev y n z)
/-- the reading stays within, goes on, and a fault stays -/
def Okg (n : Nat) (g : Nat × Nat → Qr) : Prop := ∀ z, z.2 ≤ n → (g z).1.2 ≤ n ∧ (¬ z.1 = 0 → (g z).1 = z) ∧ ((g z).1.1 = 0 → z.2 ≤ (g z).1.2) ∧ (z.1 < 1000 → (g z).1.1 < 1000) ∧ ((g z).2.1 = false → ∀ e e' r, (g z).2.2 e r = (g z).2.2 e' r)
theorem isSR_bad {z : Nat × Nat} {c : Int32} (h : ¬ z.1 = 0) : isSR y n z c = false := by unfold isSR; rw [decide_eq_false h]; rfl
theorem isWR_bad {z : Nat × Nat} {w : List Int32} (h : ¬ z.1 = 0) : isWR y n z w = false := by unfold isWR; rw [decide_eq_false h]; rfl
theorem isSR_0 {z : Nat × Nat} {c : Int32} (h : isSR y n z c = true) : z.1 = 0 ∧ isS y n z.2 c = true := by
  unfold isSR at h
  obtain ⟨a1, a2⟩ := (Bool.and_eq_true _ _ ▸ h : _ ∧ _)
  exact ⟨of_decide_eq_true a1, a2⟩
theorem isWR_0 {z : Nat × Nat} {w : List Int32} (h : isWR y n z w = true) : z.1 = 0 ∧ isWl y n z.2 w = true := by
  unfold isWR at h
  obtain ⟨a1, a2⟩ := (Bool.and_eq_true _ _ ▸ h : _ ∧ _)
  exact ⟨of_decide_eq_true a1, a2⟩
theorem pasR_mono {z : Nat × Nat} (hz : z.2 ≤ n) : z.2 ≤ (pasR y n z).2 := by
  unfold pasR
  split
  · have h1 := en_le (y := y) hz
    have h2 := bg_le (y := y) hz
    exact (show z.2 ≤ en y n z.2 by omega)
  · exact Nat.le_refl _
theorem sgR_mono {z : Nat × Nat} {hi : Int32} (hz : z.2 ≤ n) : z.2 ≤ (sgR y n hi z).2 := by
  have num : ∀ q : Nat × Nat, q.2 ≤ n → q.2 ≤ (numR y n 0 hi q).2 := by
    intro q hq
    unfold numR
    split
    · split
      · split
        · exact pasR_mono hq
        · exact pasR_mono (z := (2, q.2)) hq
      · exact pasR_mono (z := (1, q.2)) hq
    · exact pasR_mono hq
  unfold sgR
  split
  · exact Nat.le_trans (pasR_mono hz) (num _ (pasR_le hz))
  · exact num _ hz
theorem mustR_mono {z : Nat × Nat} {c : Int32} (hz : z.2 ≤ n) : z.2 ≤ (mustR y n z c).2 := by
  unfold mustR
  split
  · exact pasR_mono hz
  · have e : (wrgR 1 z).2 = z.2 := by unfold wrgR; split <;> rfl
    have := pasR_mono (y := y) (n := n) (z := wrgR 1 z) (by rw [e]; exact hz)
    rw [e] at this
    exact this
theorem vlR_bad {z : Nat × Nat} (h : ¬ z.1 = 0) : vlR y n z = z := by
  unfold vlR
  rw [if_neg (fun w => h w.1), sgR_bad h]
theorem vlR_ok {z : Nat × Nat} (hz : z.2 ≤ n) : (vlR y n z).2 ≤ n ∧ z.2 ≤ (vlR y n z).2 ∧ (z.1 < 1000 → (vlR y n z).1 < 1000) := by
  unfold vlR
  split
  · have h1 := en_le (y := y) hz
    have h2 := bg_le (y := y) hz
    exact ⟨h1.2.1, (show z.2 ≤ en y n z.2 by omega), fun _ => (show 0 < 1000 by omega)⟩
  · exact ⟨sgR_le hz, sgR_mono hz, fun h => sgR_lt h⟩
theorem opR_bad {z : Nat × Nat} (h : ¬ z.1 = 0) : opR y n z = z := by
  unfold opR
  rw [isSR_bad h, isSR_bad h, isSR_bad h, if_neg (by simp)]
  unfold wrgR
  rw [if_neg h]
theorem opR_ok {z : Nat × Nat} (hz : z.2 ≤ n) : (opR y n z).2 ≤ n ∧ z.2 ≤ (opR y n z).2 ∧ (z.1 < 1000 → (opR y n z).1 < 1000) := by
  unfold opR
  split
  · have h1 := en_le (y := y) hz
    have h2 := bg_le (y := y) hz
    exact ⟨h1.2.1, (show z.2 ≤ en y n z.2 by omega), fun _ => (show 0 < 1000 by omega)⟩
  · refine ⟨wrgR_le hz, ?_, fun h => wrgR_lt (by omega) h⟩
    unfold wrgR
    split
    · exact Nat.le_refl _
    · exact Nat.le_refl _
theorem cmp_ok {z : Nat × Nat} (hz : z.2 ≤ n) : (cmpR y n z).2 ≤ n ∧ (¬ z.1 = 0 → cmpR y n z = z) ∧ z.2 ≤ (cmpR y n z).2 ∧ (z.1 < 1000 → (cmpR y n z).1 < 1000) := by
  unfold cmpR
  obtain ⟨a1, a2, a3⟩ := vlR_ok (y := y) hz
  obtain ⟨b1, b2, b3⟩ := opR_ok (y := y) a1
  obtain ⟨c1, c2, c3⟩ := vlR_ok (y := y) b1
  exact ⟨c1, (fun h => by rw [vlR_bad h, opR_bad h, vlR_bad h]), by omega, fun h => c3 (b3 (a3 h))⟩
theorem vlV_indep {z : Nat × Nat} (h : ¬ wIx y n z.2 = 8) (e e' : Nat → Int32) (r : Nat) : vlV ev y n z e r = vlV ev y n z e' r := by
  unfold vlV
  rw [if_neg h, if_neg h]
theorem cmp_okg : Okg n (fun z => (cmpR y n z, cmpY y n z, cmpV ev y n z)) := by
  intro z hz
  obtain ⟨a1, a2, a3, a4⟩ := cmp_ok (y := y) hz
  refine ⟨a1, a2, fun _ => a3, a4, fun h e e' r => ?_⟩
  have h : cmpY y n z = false := h
  unfold cmpY at h
  rw [Bool.or_eq_false_iff] at h
  have h1 := of_decide_eq_false h.1
  have h2 := of_decide_eq_false h.2
  show cmpV ev y n z e r = cmpV ev y n z e' r
  unfold cmpV
  rw [vlV_indep h1 e e' r, vlV_indep h2 e e' r]
theorem lop_okg {g : Nat × Nat → Qr} {w : List Int32} {op : Bool → Bool → Bool} (hg : Okg n g) : ∀ k (q : Qr), q.1.2 ≤ n → (lopR y n g w op k q).1.2 ≤ n ∧ (¬ q.1.1 = 0 → lopR y n g w op k q = q) ∧ ((lopR y n g w op k q).1.1 = 0 → q.1.2 ≤ (lopR y n g w op k q).1.2) ∧ (q.1.1 < 1000 → (lopR y n g w op k q).1.1 < 1000) ∧ ((lopR y n g w op k q).2.1 = false → q.2.1 = false ∧ ((∀ e e' r, q.2.2 e r = q.2.2 e' r) → ∀ e e' r, (lopR y n g w op k q).2.2 e r = (lopR y n g w op k q).2.2 e' r)) := by
  intro k
  induction k with
  | zero => intro q hq; exact ⟨hq, fun _ => rfl, fun _ => Nat.le_refl _, id, fun h => ⟨h, id⟩⟩
  | succ k ih =>
    intro q hq
    unfold lopR
    by_cases h : isWR y n q.1 w = true
    · rw [if_pos h]
      have h0 := (isWR_0 h).1
      have p1 := pasR_le (y := y) hq
      have p2 := pasR_mono (y := y) hq
      obtain ⟨g1, g2, g3, g4, g5⟩ := hg (pasR y n q.1) p1
      obtain ⟨i1, i2, i3, i4, i5⟩ := ih ((g (pasR y n q.1)).1, q.2.1 || (g (pasR y n q.1)).2.1, fun e r => op (q.2.2 e r) ((g (pasR y n q.1)).2.2 e r)) g1
      refine ⟨i1, fun z => absurd h0 z, fun z => ?_, fun z => i4 (g4 (pasR_lt z)), fun z => ?_⟩
      · have := i3 z
        by_cases gz : (g (pasR y n q.1)).1.1 = 0
        · have := g3 gz
          have h9 : (g (pasR y n q.1)).1.2 ≤ (lopR y n g w op k ((g (pasR y n q.1)).1, q.2.1 || (g (pasR y n q.1)).2.1, fun e r => op (q.2.2 e r) ((g (pasR y n q.1)).2.2 e r))).1.2 := i3 z
          omega
        · rw [i2 gz] at z
          exact absurd z gz
      · obtain ⟨j1, j2⟩ := i5 z
        have j1 : (q.2.1 || (g (pasR y n q.1)).2.1) = false := j1
        rw [Bool.or_eq_false_iff] at j1
        refine ⟨j1.1, fun hq' => j2 (fun e e' r => ?_)⟩
        show op (q.2.2 e r) _ = op (q.2.2 e' r) _
        rw [hq' e e' r, g5 j1.2 e e' r]
    · rw [if_neg h]
      exact ⟨hq, fun _ => rfl, fun _ => Nat.le_refl _, id, fun z => ⟨z, id⟩⟩
theorem bth_okg {g : Nat × Nat → Qr} (hg : Okg n g) : Okg n (bthR y n g) := by
  intro z hz
  obtain ⟨a1, a2, a3, a4, a5⟩ := hg z hz
  obtain ⟨b1, b2, b3, b4, b5⟩ := lop_okg (y := y) (w := wAnd) (op := fun a c => a && c) hg 200 (g z) a1
  refine ⟨b1, fun h => ?_, fun h => ?_, fun h => b4 (a4 h), fun h => ?_⟩
  · have e := a2 h
    unfold bthR
    rw [b2 (by rw [e]; exact h)]
    exact e
  · by_cases gz : (g z).1.1 = 0
    · have := a3 gz
      have h9 : (g z).1.2 ≤ (bthR y n g z).1.2 := b3 h
      omega
    · have : bthR y n g z = g z := b2 gz
      rw [this] at h
      exact absurd h gz
  · obtain ⟨c1, c2⟩ := b5 h
    exact c2 (a5 c1)
theorem tst_okg {g : Nat × Nat → Qr} (hg : Okg n g) : Okg n (tstR y n g) := by
  intro z hz
  have hb := bth_okg (y := y) hg
  obtain ⟨a1, a2, a3, a4, a5⟩ := hb z hz
  obtain ⟨b1, b2, b3, b4, b5⟩ := lop_okg (y := y) (w := wOr) (op := fun a c => a || c) hb 200 (bthR y n g z) a1
  refine ⟨b1, fun h => ?_, fun h => ?_, fun h => b4 (a4 h), fun h => ?_⟩
  · have e := a2 h
    unfold tstR
    rw [b2 (by rw [e]; exact h)]
    exact e
  · by_cases gz : (bthR y n g z).1.1 = 0
    · have := a3 gz
      have h9 : (bthR y n g z).1.2 ≤ (tstR y n g z).1.2 := b3 h
      omega
    · have : tstR y n g z = bthR y n g z := b2 gz
      rw [this] at h
      exact absurd h gz
  · obtain ⟨c1, c2⟩ := b5 h
    exact c2 (a5 c1)
theorem fct_okg : ∀ j, Okg n (fct ev y n j) := by
  intro j
  induction j with
  | zero =>
    intro z hz
    show (if isWR y n z wNot = true ∨ isSR y n z 40 = true then (((3, z.2), false, fun _ _ => false) : Qr) else (cmpR y n z, cmpY y n z, cmpV ev y n z)).1.2 ≤ n ∧ _
    unfold fct
    by_cases h : isWR y n z wNot = true ∨ isSR y n z 40 = true
    · rw [if_pos h]
      refine ⟨hz, fun w => ?_, fun w => absurd w (show ¬ 3 = 0 by omega), fun _ => (show 3 < 1000 by omega), fun _ _ _ _ => rfl⟩
      rcases h with h | h
      · exact absurd (isWR_0 h).1 w
      · exact absurd (isSR_0 h).1 w
    · rw [if_neg h]
      exact cmp_okg (ev := ev) (y := y) z hz
  | succ j ih =>
    intro z hz
    have p1 := pasR_le (y := y) hz
    have p2 := pasR_mono (y := y) hz
    by_cases h : isWR y n z wNot = true
    · have e : fct ev y n (j + 1) z = ((fct ev y n j (pasR y n z)).1, (fct ev y n j (pasR y n z)).2.1, fun e r => !(fct ev y n j (pasR y n z)).2.2 e r) := by
        show (if isWR y n z wNot = true then _ else _) = _
        rw [if_pos h]
      rw [e]
      obtain ⟨a1, a2, a3, a4, a5⟩ := ih (pasR y n z) p1
      refine ⟨a1, fun w => absurd (isWR_0 h).1 w, fun w => ?_, fun w => a4 (pasR_lt w), fun w e e' r => ?_⟩
      · have := a3 w
        show z.2 ≤ (fct ev y n j (pasR y n z)).1.2
        omega
      · show (!_) = (!_)
        rw [a5 w e e' r]
    · by_cases h2 : isSR y n z 40 = true
      · have e : fct ev y n (j + 1) z = (mustR y n (tstR y n (fct ev y n j) (pasR y n z)).1 41, (tstR y n (fct ev y n j) (pasR y n z)).2.1, (tstR y n (fct ev y n j) (pasR y n z)).2.2) := by
          show (if isWR y n z wNot = true then _ else if isSR y n z 40 = true then _ else _) = _
          rw [if_neg h, if_pos h2]
        rw [e]
        obtain ⟨a1, a2, a3, a4, a5⟩ := tst_okg (y := y) ih (pasR y n z) p1
        refine ⟨mustR_le a1, fun w => absurd (isSR_0 h2).1 w, fun w => ?_, fun w => mustR_lt (a4 (pasR_lt w)), a5⟩
        have m1 := must_good w
        have m2 := mustR_mono (y := y) (c := 41) a1
        have := a3 m1.1
        show z.2 ≤ (mustR y n (tstR y n (fct ev y n j) (pasR y n z)).1 41).2
        omega
      · have e : fct ev y n (j + 1) z = (cmpR y n z, cmpY y n z, cmpV ev y n z) := by
          show (if isWR y n z wNot = true then _ else if isSR y n z 40 = true then _ else _) = _
          rw [if_neg h, if_neg h2]
        rw [e]
        exact cmp_okg (ev := ev) (y := y) z hz
end QUEST
