/-! THE REFERENCE: the first so many choices -/
section MOD4
variable {b m rl : Nat} {ins : Int32} {up : Nat → Int32} {F : List Int32}
/-- where the count ends -/
def Hit (L : List Int32) (j : Nat) (v : Int32) (S1 : St) : Prop := (j ≤ L.length ∧ S1.2.2.1.toInt = 0 ∧ S1.1 46 13 = L.getD (j - 1) 0 ∧ v = Int32.ofNat j) ∨ (L.length < j ∧ S1.2.2.1.toInt = (j : Int) - L.length ∧ v = Int32.ofNat L.length)
theorem getD_left {L L2 : List Int32} {i : Nat} (h : i < L.length) : (L ++ L2).getD i 0 = L.getD i 0 := by
  rw [List.getD_eq_getElem?_getD, List.getD_eq_getElem?_getD, List.getElem?_append_left h]
theorem getD_right {L L2 : List Int32} {i : Nat} : (L ++ L2).getD (L.length + i) 0 = L2.getD i 0 := by
  rw [List.getD_eq_getElem?_getD, List.getD_eq_getElem?_getD, List.getElem?_append_right (by omega)]
  congr 2
  omega
theorem w167p (set : Int32) : ∀ (r dd j : Nat) (y : Int32) (S : St) (Q : Out → St → Prop), r + 2 ≤ dd → r ≤ m → MW m rl ins up F S → S.1 46 14 = -1 → 1 ≤ j → j ≤ 4294967296 → S.2.2.1.toInt = (j : Int) →
    (∀ v S1, Fz [(46, 13)] [] S S1 → Hit (chl rl up F set r y) j v S1 → Q (.inl (some (.int v))) S1) → Wp dd 0 167 0 [.ref 46, .int y, .int (Int32.ofNat r), .int set] [] S Q := by
  intro r
  induction r with
  | zero =>
    intro dd j y S Q hdd hr hW hA hj hj2 ht K
    obtain ⟨e, rfl⟩ : ∃ e, dd = e + 2 := ⟨dd - 2, by omega⟩
    obtain ⟨hm, hm20, hi, hlow, hrl, h1, hup, hL, hlen, hbs⟩ := id hW
    refine b167_0 (s165 set hL hlen) ?_
    rintro _ _ ⟨rfl, rfl⟩
    refine b167_7 (fun h => b167_12 (fun q => absurd rfl q) (fun _ => w167leaf (ac := fun _ => true) (Or.inl ⟨hA, fun _ => rfl⟩) (fun _ => ?_) (fun ha => by cases ha))) (fun h => b167_10 ?_)
    · have ec : chl rl up F set 0 y = [y] := by
        unfold chl
        rw [bi0.1 h, if_neg (by decide)]
      rw [ec] at K
      refine K 1 _ ((Fz.refl.seti (by decide)).setl) ?_
      have e1 : (setL (setI S 46 13 y) (S.2.2.1 - ((1 : Int32)).toInt64)).2.2.1.toInt = (j : Int) - 1 := by
        show (S.2.2.1 - ((1 : Int32)).toInt64).toInt = _
        rw [lsub1 (by omega) (by omega), ht]
      by_cases e : j = 1
      · subst e
        exact Or.inl ⟨Nat.le_refl _, by rw [e1]; rfl, rfl, rfl⟩
      · exact Or.inr ⟨by show 1 < j; omega, by rw [e1]; rfl, rfl⟩
    · have ec : chl rl up F set 0 y = [] := by
        unfold chl
        rw [bi1.1 h, if_pos rfl]
      rw [ec] at K
      exact K 0 _ Fz.refl (Or.inr ⟨by show 0 < j; omega, by rw [ht]; simp, rfl⟩)
  | succ r ih =>
    intro dd j y S Q hdd hr hW hA hj hj2 ht K
    obtain ⟨e, rfl⟩ : ∃ e, dd = e + 2 := ⟨dd - 2, by omega⟩
    obtain ⟨hm, hm20, hi, hlow, hrl, h1, hup, hL, hlen, hbs⟩ := id hW
    refine b167_0 (s165 set hL hlen) ?_
    rintro _ _ ⟨rfl, rfl⟩
    refine b167_7 (fun h => b167_12 (fun _ => b167_86 (P := fun v S1 => Fz [(46, 13)] [] S S1 ∧ Hit (chl rl up F set r y) j v S1) ?_ ?_) (fun q => ?_)) (fun h => b167_10 ?_)
    · rw [i_pre]
      exact ih (e + 1) j y S _ (by omega) (by omega) hW hA hj hj2 ht (fun v S1 h2 h3 => ⟨_, rfl, h2, h3⟩)
    · rintro v S1 ⟨hF1, hH1⟩
      have hW1 : MW m rl ins up F S1 := hW.of hF1 (by decide)
      have eL : ¬ lostB F set y (r + 1) = true := by rw [bi0.1 h]; decide
      have last : (¬ (tb set r = true ∧ barB rl up F set r y = false) ∨ j ≤ (chl rl up F set r y).length) → Wp (e + 2) 0 167 130 [.ref 46, .int y, .int (Int32.ofNat (r + 1)), .int set, .int (Int32.ofNat (r + 1) - 1), .int v] [] S1 Q := by
        intro hn
        refine b167_130 (K v S1 hF1 ?_)
        by_cases hy : tb set r = true ∧ barB rl up F set r y = false
        · have hj' : j ≤ (chl rl up F set r y).length := by
            rcases hn with hn | hn
            · exact absurd hy hn
            · exact hn
          have ec : chl rl up F set (r + 1) y = chl rl up F set r y ++ chl rl up F set r (y ||| bit r) := by
            show (if _ then _ else _ ++ (if _ then _ else _)) = _
            rw [if_neg eL, if_pos hy]
          rw [ec]
          rcases hH1 with ⟨a1, a2, a3, a4⟩ | ⟨a1, _⟩
          · refine Or.inl ⟨by rw [List.length_append]; omega, a2, ?_, a4⟩
            rw [getD_left (by omega)]
            exact a3
          · omega
        · have ec : chl rl up F set (r + 1) y = chl rl up F set r y := by
            show (if _ then _ else _ ++ (if _ then _ else _)) = _
            rw [if_neg eL, if_neg hy, List.append_nil]
          rw [ec]
          exact hH1
      refine b167_99 (fun h2 => last (Or.inr ?_)) (fun h2 => b167_110 (P := Vx (bi (tb set r)) S1) ?_ ?_)
      · have := lcmp0.1 h2
        rcases hH1 with ⟨a1, _⟩ | ⟨a1, a2, _⟩
        · exact a1
        · omega
      · rw [i_pre]; exact s154 set (by omega)
      · have h2' : ¬ S1.2.2.1.toInt = 0 := fun q => h2 (lcmp0.2 q)
        obtain ⟨a1, a2, a3⟩ : (chl rl up F set r y).length < j ∧ S1.2.2.1.toInt = (j : Int) - (chl rl up F set r y).length ∧ v = Int32.ofNat (chl rl up F set r y).length := by
          rcases hH1 with ⟨_, q, _⟩ | q
          · exact absurd q h2'
          · exact q
        rintro _ _ ⟨rfl, rfl⟩
        refine b167_116 (fun h3 => last (Or.inl (fun q => ?_))) (fun h3 => b167_119 (P := Vx (bi (barB rl up F set r y)) S1) ?_ ?_)
        · rw [bi0.1 h3] at q; exact absurd q.1 (by decide)
        · rw [i_pre]; exact s166 set hW1 (by omega)
        · rintro _ _ ⟨rfl, rfl⟩
          refine b167_127 (fun h4 => ?_) (fun h4 => last (Or.inl (fun q => ?_)))
          · have ec : chl rl up F set (r + 1) y = chl rl up F set r y ++ chl rl up F set r (y ||| bit r) := by
              show (if _ then _ else _ ++ (if _ then _ else _)) = _
              rw [if_neg eL, if_pos ⟨bi1.1 h3, bi0.1 h4⟩]
            rw [ec] at K
            refine b167_133 (P := fun v2 S2 => Fz [(46, 13)] [] S1 S2 ∧ Hit (chl rl up F set r (y ||| bit r)) (j - (chl rl up F set r y).length) v2 S2) ?_ ?_
            · rw [i_pre]
              exact ih (e + 1) (j - (chl rl up F set r y).length) _ S1 _ (by omega) (by omega) hW1 ((hF1.f (by decide)).trans hA) (by omega) (by omega) (by rw [a2]; omega) (fun v2 S2 h2 h3 => ⟨_, rfl, h2, h3⟩)
            · rintro v2 S2 ⟨hF2, hH2⟩
              refine b167_148 (K _ S2 (hF1.trans hF2) ?_)
              rw [a3]
              rcases hH2 with ⟨c1, c2, c3, c4⟩ | ⟨c1, c2, c3⟩
              · refine Or.inl ⟨by rw [List.length_append]; omega, c2, ?_, ?_⟩
                · rw [show j - 1 = (chl rl up F set r y).length + (j - (chl rl up F set r y).length - 1) by omega, getD_right]
                  exact c3
                · rw [c4, i_add]; congr 1; omega
              · refine Or.inr ⟨by rw [List.length_append]; omega, ?_, ?_⟩
                · rw [c2, List.length_append]; omega
                · rw [c3, i_add, List.length_append]
          · rw [bi1.1 h4] at q; exact absurd q.2 (by decide)
    · have q := Classical.not_not.1 q
      have := (i_inj (b := 0) (by omega) (by omega)).1 q
      omega
    · have ec : chl rl up F set (r + 1) y = [] := by
        show (if _ then _ else _) = _
        rw [if_pos (bi1.1 h)]
      rw [ec] at K
      exact K 0 _ Fz.refl (Or.inr ⟨by show 0 < j; omega, by rw [ht]; simp, rfl⟩)
/-- all choices within a set -/
def chs (m rl : Nat) (up : Nat → Int32) (F : List Int32) (set : Int32) : List Int32 := chl rl up F set m 0
theorem chs_len {m rl : Nat} {up : Nat → Int32} {F : List Int32} {set : Int32} (h : m ≤ 20) : (chs m rl up F set).length ≤ 1048576 := by
  refine Nat.le_trans (chl_len m 0 set) ?_
  exact Nat.pow_le_pow_right (n := 2) (by omega) h
theorem w168 {d : Nat} {S : St} {Q : Out → St → Prop} (set : Int32) (hW : MW m rl ins up F S) (K : ∀ S1, Fz [(46, 13), (46, 14)] [] S S1 → Q (.inl (some (.int (Int32.ofNat (chs m rl up F set).length)))) S1) : Wp (d + 23) b 168 0 [.ref 46, .int set] [] S Q := by
  obtain ⟨hm, hm20, hi, hlow, hrl, h1, hup, hL, hlen, hbs⟩ := id hW
  have hF0 : Fz [(46, 13), (46, 14)] [] S (setI (setL S ((-1 : Int32)).toInt64) 46 14 (-1)) := Fz.seti (Fz.setl Fz.refl) (by decide)
  refine b168_0 (P := fun v S1 => v = Int32.ofNat (chs m rl up F set).length ∧ Fz [(46, 13), (46, 14)] [] S S1) ?_ ?_
  · have e1 : (setI (setL S ((-1 : Int32)).toInt64) 46 14 (-1)).1 46 1 = Int32.ofNat m := hm
    rw [e1]
    have hp : 2 ^ m ≤ 2 ^ 20 := Nat.pow_le_pow_right (n := 2) (by omega) hm20
    refine w167n (ac := fun _ => true) set m (d + 22) 0 0 _ _ (by omega) (Nat.le_refl _) (hW.of hF0 (by decide)) (Or.inl ⟨seti_same, fun _ => rfl⟩) (by show ((-1 : Int32)).toInt64.toInt = _; decide) (by omega) (fun S1 h2 h3 => ⟨_, rfl, ?_, hF0.trans (h2.mono (by decide) (by decide))⟩)
    rw [List.filter_eq_self.2 (fun _ _ => rfl)]
    rfl
  · rintro _ S1 ⟨rfl, hF⟩
    exact b168_22 (K S1 hF)
theorem w169 {d : Nat} {S : St} {Q : Out → St → Prop} (set : Int32) (hW : MW m rl ins up F S) (K : ∀ S1, Fz [(46, 13), (46, 14)] [] S S1 → (¬ chs m rl up F (set &&& ins) = [] → S1.1 46 13 = (chs m rl up F (set &&& ins)).getD 0 0) → Q (.inl (some (.int (bi (!(chs m rl up F (set &&& ins)).isEmpty))))) S1) : Wp (d + 23) b 169 0 [.ref 46, .int set] [] S Q := by
  obtain ⟨hm, hm20, hi, hlow, hrl, h1, hup, hL, hlen, hbs⟩ := id hW
  have hF0 : Fz [(46, 13), (46, 14)] [] S (setI (setL S ((1 : Int32)).toInt64) 46 14 (-1)) := Fz.seti (Fz.setl Fz.refl) (by decide)
  refine b169_0 (P := Vx (set &&& ins) (setI (setL S ((1 : Int32)).toInt64) 46 14 (-1))) (b170_0 ⟨_, rfl, ?_, rfl⟩) ?_
  · show set &&& S.1 46 2 = _
    rw [hi]
  · rintro _ _ ⟨rfl, rfl⟩
    refine b169_21 (P := fun v S1 => Fz [(46, 13), (46, 14)] [] S S1 ∧ Hit (chs m rl up F (set &&& ins)) 1 v S1) ?_ ?_
    · have e1 : (setI (setL S ((1 : Int32)).toInt64) 46 14 (-1)).1 46 1 = Int32.ofNat m := hm
      rw [e1]
      exact w167p (set &&& ins) m (d + 22) 1 0 _ _ (by omega) (Nat.le_refl _) (hW.of hF0 (by decide)) seti_same (by omega) (by omega) (by show ((1 : Int32)).toInt64.toInt = _; decide) (fun v S1 h2 h3 => ⟨_, rfl, hF0.trans (h2.mono (by decide) (by decide)), h3⟩)
    · rintro v S1 ⟨hF, hH⟩
      have hz : ¬ Int32.ofNat 1 ≤ 0 := by decide
      refine b169_24 (fun h => b169_31 (b169_32 (Or.inl rfl) ?_)) (fun h => b169_27 (b169_32 (Or.inr rfl) ?_))
      · rcases hH with ⟨a1, a2, a3, a4⟩ | ⟨a1, a2, a3⟩
        · rw [a4] at h; exact absurd h hz
        · have e0 : chs m rl up F (set &&& ins) = [] := List.length_eq_zero_iff.1 (by omega)
          have := K S1 hF (fun q => absurd e0 q)
          rw [e0] at this
          exact this
      · rcases hH with ⟨a1, a2, a3, a4⟩ | ⟨a1, a2, a3⟩
        · have := K S1 hF (fun _ => a3)
          have e1 : (chs m rl up F (set &&& ins)).isEmpty = false := by
            cases e : chs m rl up F (set &&& ins) with
            | nil => rw [e] at a1; exact absurd a1 (by decide)
            | cons _ _ => rfl
          rw [e1] at this
          exact this
        · rw [a3] at h
          have : (chs m rl up F (set &&& ins)).length = 0 := by omega
          rw [this] at h
          exact absurd (by decide) h
/-- whether a set is refused -/
def refB (m rl : Nat) (ins : Int32) (up : Nat → Int32) (F : List Int32) (set : Int32) : Bool := (chs m rl up F (set &&& ins)).isEmpty
theorem w171 {d : Nat} {S : St} {Q : Out → St → Prop} (set : Int32) (hW : MW m rl ins up F S) (K : ∀ S1, Fz [(46, 13), (46, 14)] [] S S1 → Q (.inl (some (.int (bi (refB m rl ins up F set))))) S1) : Wp (d + 24) b 171 0 [.ref 46, .int set] [] S Q := by
  refine b171_0 (P := fun v S1 => v = bi (!refB m rl ins up F set) ∧ Fz [(46, 13), (46, 14)] [] S S1) (w169 set hW (fun S1 h1 _ => ⟨_, rfl, rfl, h1⟩)) ?_
  rintro _ S1 ⟨rfl, hF⟩
  have k := K S1 hF
  refine b171_5 (fun h => b171_12 (b171_13 (Or.inl rfl) ?_)) (fun h => b171_8 (b171_13 (Or.inr rfl) ?_))
  · have := bi1.1 h
    cases e : refB m rl ins up F set
    · rw [e] at k; exact k
    · rw [e] at this; cases this
  · have := bi0.1 (Classical.not_not.1 h)
    cases e : refB m rl ins up F set
    · rw [e] at this; cases this
    · rw [e] at k; exact k
end MOD4
