/-! THE REFERENCE: choices gone through -/
/-- what the reference has laid, as a query needs it -/
def MW (m rl : Nat) (ins : Int32) (up : Nat → Int32) (F : List Int32) (S : St) : Prop := S.1 46 1 = Int32.ofNat m ∧ m ≤ 20 ∧ S.1 46 2 = ins ∧ Low m ins ∧ S.1 46 3 = Int32.ofNat rl ∧ rl ≤ 1 ∧ (∀ r, r < m → S.2.1 48 r = up r) ∧ FL S F ∧ F.length ≤ 4845 ∧ (∀ r, r < m → S.2.1 49 r = bes rl up F r)
theorem MW.of {m rl : Nat} {ins : Int32} {up : Nat → Int32} {F : List Int32} {fs : List (Nat × Nat)} {as : List Nat} {S S1 : St} (h : MW m rl ins up F S) (hF : Fz fs as S S1) (n : (46, 1) ∉ fs ∧ (46, 2) ∉ fs ∧ (46, 3) ∉ fs ∧ (46, 9) ∉ fs ∧ 48 ∉ as ∧ 49 ∉ as ∧ 50 ∉ as) : MW m rl ins up F S1 := by
  obtain ⟨h1, h2, h3, h4, h5, h6, h7, h8, h9, h10⟩ := h
  obtain ⟨n1, n2, n3, n4, n5, n6, n7⟩ := n
  exact ⟨(hF.f n1).trans h1, h2, (hF.f n2).trans h3, h4, (hF.f n3).trans h5, h6, fun r hr => (hF.a n5 r).trans (h7 r hr), h8.of hF n4 n7, h9, fun r hr => (hF.a n6 r).trans (h10 r hr)⟩
theorem any_of_get {F : List Int32} {p : Int32 → Bool} {i : Nat} (hi : i < F.length) (h : p (F.getD i 0) = true) : F.any p = true := by
  rw [List.any_eq_true]
  rw [List.getD_eq_getElem?_getD, List.getElem?_eq_getElem hi] at h
  exact ⟨F[i], List.getElem_mem hi, h⟩
theorem any_none {F : List Int32} {p : Int32 → Bool} (h : ∀ j, j < F.length → p (F.getD j 0) = false) : F.any p = false := by
  cases e : F.any p
  · rfl
  · rw [List.any_eq_true] at e
    obtain ⟨x, hx, hp⟩ := e
    obtain ⟨i, hi, rfl⟩ := List.getElem_of_mem hx
    have := h i hi
    rw [List.getD_eq_getElem?_getD, List.getElem?_eq_getElem hi] at this
    rw [show (some F[i]).getD 0 = F[i] from rfl, hp] at this
    cases this
def lostB (F : List Int32) (set y : Int32) (fr : Nat) : Bool := F.any (fun f => decide (f &&& (set ^^^ -1) = 0) && decide (f &&& (bit fr - 1) = 0) && decide (f &&& y = 0))
def barB (rl : Nat) (up : Nat → Int32) (F : List Int32) (set : Int32) (r : Nat) (y : Int32) : Bool := if rl = 0 then !decide (up r &&& y = 0) else F.any (fun f => decide (f &&& (set ^^^ -1) = 0) && tb f r && !decide (f &&& y = 0))
/-- choices that go on from a set, rays below r being open -/
def chl (rl : Nat) (up : Nat → Int32) (F : List Int32) (set : Int32) : Nat → Int32 → List Int32
  | 0, y => if lostB F set y 0 = true then [] else [y]
  | r + 1, y => if lostB F set y (r + 1) = true then [] else chl rl up F set r y ++ (if tb set r = true ∧ barB rl up F set r y = false then chl rl up F set r (y ||| bit r) else [])
section MOD3
variable {b m rl : Nat} {ins : Int32} {up : Nat → Int32} {F : List Int32}
theorem s165 {d : Nat} {S : St} {y : Int32} {fr : Nat} (set : Int32) (hL : FL S F) (hlen : F.length ≤ 4845) : Wp d b 165 0 [.ref 46, .int y, .int (Int32.ofNat fr), .int set] [] S (Ri (Vx (bi (lostB F set y fr)) S)) := by
  have L : ∀ k i, i + k = F.length → (∀ j, j < i → (fun f => decide (f &&& (set ^^^ -1) = 0) && decide (f &&& (bit fr - 1) = 0) && decide (f &&& y = 0)) (F.getD j 0) = false) → Wp d b 165 3 [.ref 46, .int y, .int (Int32.ofNat fr), .int set, .int (Int32.ofNat i)] [] S (Ri (Vx (bi (lostB F set y fr)) S)) := by
    intro k
    induction k with
    | zero =>
      intro i hi hn
      refine b165_3 (fun _ => b165_69 (Or.inl rfl) ⟨_, rfl, ?_, rfl⟩) (fun h => ?_)
      · have : lostB F set y fr = false := any_none (fun j hj => hn j (by omega))
        rw [this]; rfl
      · rw [hL.1] at h
        exact absurd ((i_le (by omega) (by omega)).2 (by omega)) h
    | succ k ih =>
      intro i hi hn
      have e50 : S.2.1 50 (Int32.ofNat i).toNatClampNeg = F.getD i 0 := by rw [i_cl (by omega)]; exact hL.2 i (by omega)
      have next : (fun f => decide (f &&& (set ^^^ -1) = 0) && decide (f &&& (bit fr - 1) = 0) && decide (f &&& y = 0)) (F.getD i 0) = false → Wp d b 165 63 [.ref 46, .int y, .int (Int32.ofNat fr), .int set, .int (Int32.ofNat i)] [] S (Ri (Vx (bi (lostB F set y fr)) S)) := by
        intro hp
        refine b165_63 ?_
        rw [i_suc]
        refine ih (i + 1) (by omega) (fun j hj => ?_)
        by_cases e : j = i
        · subst e; exact hp
        · exact hn j (by omega)
      have vp := i_vp (k := i) (n := 4845) (by omega) (by omega)
      refine b165_3 (fun h => ?_) (fun _ => b165_12 vp (fun h1 => b165_29 vp (fun h2 => next ?_) (fun h2 => b165_49 vp (fun h3 => next ?_) (fun h3 => b165_61 (Or.inr rfl) ⟨_, rfl, ?_, rfl⟩))) (fun h1 => b165_26 (next ?_)))
      · rw [hL.1] at h
        have := (i_le (by omega) (by omega)).1 h
        omega
      · rw [e50] at h2
        show (_ && decide (F.getD i 0 &&& (bit fr - 1) = 0) && _) = false
        rw [decide_eq_false (show ¬ F.getD i 0 &&& (bit fr - 1) = 0 from h2), Bool.and_false, Bool.false_and]
      · rw [e50] at h3
        show (_ && _ && decide (F.getD i 0 &&& y = 0)) = false
        rw [decide_eq_false h3, Bool.and_false]
      · rw [e50] at h1 h2 h3
        have : lostB F set y fr = true := any_of_get (i := i) (by omega) (by
          show (decide (F.getD i 0 &&& (set ^^^ -1) = 0) && decide (F.getD i 0 &&& (bit fr - 1) = 0) && decide (F.getD i 0 &&& y = 0)) = true
          rw [decide_eq_true h1, decide_eq_true (show F.getD i 0 &&& (bit fr - 1) = 0 from Classical.not_not.1 h2), decide_eq_true (Classical.not_not.1 h3)]; rfl)
        rw [this]; rfl
      · rw [e50] at h1
        show (decide (F.getD i 0 &&& (set ^^^ -1) = 0) && _ && _) = false
        rw [decide_eq_false h1, Bool.false_and, Bool.false_and]
  exact b165_0 (L F.length 0 (by omega) (fun j h => absurd h (by omega)))
theorem s166 {d : Nat} {S : St} {y : Int32} {r : Nat} (set : Int32) (hW : MW m rl ins up F S) (hr : r < m) : Wp (d + 1) b 166 0 [.ref 46, .int (Int32.ofNat r), .int y, .int set] [] S (Ri (Vx (bi (barB rl up F set r y)) S)) := by
  obtain ⟨hm, h20, hi, hlow, hrl, h1, hup, hL, hlen, hbs⟩ := hW
  have L : rl = 1 → ∀ k i, i + k = F.length → (∀ j, j < i → (fun f => decide (f &&& (set ^^^ -1) = 0) && tb f r && !decide (f &&& y = 0)) (F.getD j 0) = false) → Wp (d + 1) b 166 27 [.ref 46, .int (Int32.ofNat r), .int y, .int set, .int (Int32.ofNat i)] [] S (Ri (Vx (bi (barB rl up F set r y)) S)) := by
    intro r1 k
    have r0 : ¬ rl = 0 := by omega
    induction k with
    | zero =>
      intro i hi hn
      refine b166_27 (fun _ => b166_84 (Or.inl rfl) ⟨_, rfl, ?_, rfl⟩) (fun h => ?_)
      · unfold barB
        rw [if_neg r0, any_none (fun j hj => hn j (by omega))]; rfl
      · rw [hL.1] at h
        exact absurd ((i_le (by omega) (by omega)).2 (by omega)) h
    | succ k ih =>
      intro i hi hn
      have e50 : S.2.1 50 (Int32.ofNat i).toNatClampNeg = F.getD i 0 := by rw [i_cl (by omega)]; exact hL.2 i (by omega)
      have next : (fun f => decide (f &&& (set ^^^ -1) = 0) && tb f r && !decide (f &&& y = 0)) (F.getD i 0) = false → Wp (d + 1) b 166 78 [.ref 46, .int (Int32.ofNat r), .int y, .int set, .int (Int32.ofNat i)] [] S (Ri (Vx (bi (barB rl up F set r y)) S)) := by
        intro hp
        refine b166_78 ?_
        rw [i_suc]
        refine ih (i + 1) (by omega) (fun j hj => ?_)
        by_cases e : j = i
        · subst e; exact hp
        · exact hn j (by omega)
      have vp := i_vp (k := i) (n := 4845) (by omega) (by omega)
      refine b166_27 (fun h => ?_) (fun _ => b166_36 vp (fun h2 => next ?_) (fun h2 => b166_50 vp (P := Vx (bi (tb (F.getD i 0) r)) S) ?_ ?_))
      · rw [hL.1] at h
        have := (i_le (by omega) (by omega)).1 h
        omega
      · rw [e50] at h2
        show (decide (F.getD i 0 &&& (set ^^^ -1) = 0) && _ && _) = false
        rw [decide_eq_false h2, Bool.false_and, Bool.false_and]
      · rw [e50]; exact s154 _ (by omega)
      · rintro _ _ ⟨rfl, rfl⟩
        refine b166_61 (fun h3 => next ?_) (fun h3 => b166_64 vp (fun h4 => next ?_) (fun h4 => b166_76 (Or.inr rfl) ⟨_, rfl, ?_, rfl⟩))
        · show (_ && tb (F.getD i 0) r && _) = false
          rw [bi0.1 h3, Bool.and_false, Bool.false_and]
        · rw [e50] at h4
          show (_ && _ && !decide (F.getD i 0 &&& y = 0)) = false
          rw [decide_eq_true h4, Bool.not_true, Bool.and_false]
        · rw [e50] at h2 h4
          unfold barB
          rw [if_neg r0, any_of_get (i := i) (by omega)]
          · rfl
          · show (decide (F.getD i 0 &&& (set ^^^ -1) = 0) && tb (F.getD i 0) r && !decide (F.getD i 0 &&& y = 0)) = true
            rw [decide_eq_true (Classical.not_not.1 h2), bi1.1 h3, decide_eq_false h4]; rfl
  refine b166_0 (fun h => b166_24 (L ?_ F.length 0 (by omega) (fun j h => absurd h (by omega)))) (fun h => b166_7 (i_vp (by omega) (by omega)) (fun h2 => b166_22 (b166_23 (Or.inl rfl) ⟨_, rfl, ?_, rfl⟩)) (fun h2 => b166_18 (b166_23 (Or.inr rfl) ⟨_, rfl, ?_, rfl⟩)))
  · rw [hrl] at h
    by_cases e : rl = 0
    · subst e; exact absurd rfl h
    · omega
  all_goals
    have h := Classical.not_not.1 h
    rw [hrl] at h
    have r0 : rl = 0 := (i_inj (by omega) (by omega)).1 h
    rw [i_cl (by omega), hup r hr] at h2
    unfold barB
    rw [if_pos r0]
  · rw [decide_eq_true h2]; rfl
  · rw [decide_eq_false h2]; rfl
/-- which choices are asked for -/
def AC (S : St) (ac : Int32 → Bool) : Prop := (S.1 46 14 = -1 ∧ ∀ y, ac y = true) ∨ (∃ q z, q < 20 ∧ S.1 46 14 = Int32.ofNat q ∧ z ≤ 1 ∧ S.1 46 15 = Int32.ofNat z ∧ ∀ y, ac y = (tb y q == decide (z = 1)))
theorem AC.of {fs : List (Nat × Nat)} {as : List Nat} {S S1 : St} {ac : Int32 → Bool} (h : AC S ac) (hF : Fz fs as S S1) (n : (46, 14) ∉ fs ∧ (46, 15) ∉ fs) : AC S1 ac := by
  unfold AC
  rw [hF.f n.1, hF.f n.2]
  exact h
theorem w167leaf {d : Nat} {S : St} {ac : Int32 → Bool} {y x2 set : Int32} {Q : Out → St → Prop} (hA : AC S ac) (K1 : ac y = true → Q (.inl (some (.int 1))) (setL (setI S 46 13 y) (S.2.2.1 - ((1 : Int32)).toInt64))) (K0 : ac y = false → Q (.inl (some (.int 0))) (setI S 46 13 y)) : Wp (d + 1) 0 167 16 [.ref 46, .int y, .int x2, .int set] [] S Q := by
  have yes : ac y = true → Wp (d + 1) 0 167 53 [.ref 46, .int y, .int x2, .int set] [] (setI S 46 13 y) Q := fun h =>
    b167_53 (b167_58 (fun q => absurd q (by decide)) (fun _ => b167_65 (b167_75 (fun q => absurd q (by decide)) (fun _ => b167_80 (b167_85 (K1 h))))))
  have no : ac y = false → Wp (d + 1) 0 167 57 [.ref 46, .int y, .int x2, .int set] [] (setI S 46 13 y) Q := fun h =>
    b167_57 (b167_58 (fun _ => b167_75 (fun _ => b167_84 (b167_85 (K0 h))) (fun q => absurd rfl q)) (fun q => absurd rfl q))
  have e14 : (setI S 46 13 y).1 46 14 = S.1 46 14 := seti_ne (by decide)
  have e15 : (setI S 46 13 y).1 46 15 = S.1 46 15 := seti_ne (by decide)
  rcases hA with ⟨h1, h2⟩ | ⟨q, z, hq, h1, hz, h3, h4⟩
  · refine b167_16 (fun _ => yes (h2 y)) (fun h => ?_)
    rw [e14] at h
    exact absurd h1 h
  · refine b167_16 (fun h => ?_) (fun h => b167_29 (P := Vx (bi (tb y q)) (setI S 46 13 y)) ?_ ?_)
    · rw [e14, h1] at h
      have : ∀ q : Fin 20, ¬ Int32.ofNat q.val = -1 := by decide +kernel
      exact absurd h (this ⟨q, hq⟩)
    · rw [e14, h1]
      exact s154 y (by omega)
    · rintro _ _ ⟨rfl, rfl⟩
      refine b167_37 (fun h5 => b167_49 (b167_50 (fun h6 => no ?_) (fun h6 => yes ?_))) (fun h5 => b167_45 (b167_50 (fun h6 => no ?_) (fun h6 => yes ?_)))
      all_goals rw [e15, h3] at h5
      · have : z = 0 := by
          by_cases e : z = 1
          · subst e; exact absurd rfl h5
          · omega
        rw [h4, this]
        cases e : tb y q
        · rw [e] at h6; exact absurd rfl h6
        · rfl
      · have : z = 0 := by
          by_cases e : z = 1
          · subst e; exact absurd rfl h5
          · omega
        rw [h4, this]
        cases e : tb y q
        · rfl
        · rw [e] at h6; exact absurd h6 (by decide)
      · have h5 := Classical.not_not.1 h5
        have : z = 1 := (i_inj (by omega) (by omega)).1 h5
        rw [h4, this]
        cases e : tb y q
        · rfl
        · rw [e] at h6; exact absurd rfl h6
      · have h5 := Classical.not_not.1 h5
        have : z = 1 := (i_inj (by omega) (by omega)).1 h5
        rw [h4, this]
        cases e : tb y q
        · rw [e] at h6; exact absurd h6 (by decide)
        · rfl
theorem l1 : ((1 : Int32)).toInt64.toInt = 1 := by decide
theorem lsub1 {x : Int64} (h1 : -1099511627776 ≤ x.toInt) (h2 : x.toInt ≤ 1099511627776) : (x - ((1 : Int32)).toInt64).toInt = x.toInt - 1 := by
  rw [Int64.toInt_sub, l1]
  apply Int.bmod_eq_of_le <;> omega
theorem lcmp0 {x : Int64} : lg_cmp x ((0 : Int32)).toInt64 = 0 ↔ x.toInt = 0 := by
  have z : ((0 : Int32)).toInt64.toInt = 0 := by decide
  unfold lg_cmp
  by_cases h : x > ((0 : Int32)).toInt64
  · rw [if_pos h]
    have h' : ((0 : Int32)).toInt64.toInt < x.toInt := Int64.lt_iff_toInt_lt.1 h
    constructor
    · intro q; exact absurd q (by decide)
    · intro q; omega
  · rw [if_neg h]
    by_cases h2 : x = ((0 : Int32)).toInt64
    · rw [if_pos h2, h2]; simp [z]
    · rw [if_neg h2]
      constructor
      · intro q; exact absurd q (by decide)
      · intro q
        exact absurd (Int64.toInt_inj.1 (q.trans z.symm)) h2
theorem chl_len : ∀ (r : Nat) (y set : Int32), (chl rl up F set r y).length ≤ 2 ^ r := by
  intro r
  induction r with
  | zero => intro y set; unfold chl; split <;> simp
  | succ r ih =>
    intro y set
    unfold chl
    split
    · simp
    · rw [List.length_append, Nat.pow_succ]
      have h1 := ih y set
      have h2 := ih (y ||| bit r) set
      split
      · omega
      · simp; omega
/-- all gone through -/
theorem w167n {ac : Int32 → Bool} (set : Int32) : ∀ (r dd t : Nat) (y : Int32) (S : St) (Q : Out → St → Prop), r + 2 ≤ dd → r ≤ m → MW m rl ins up F S → AC S ac → S.2.2.1.toInt = -(1 + t : Int) → t + 2 ^ r ≤ 1048576 →
    (∀ S1, Fz [(46, 13)] [] S S1 → S1.2.2.1.toInt = -(1 + t + ((chl rl up F set r y).filter ac).length : Int) → Q (.inl (some (.int (Int32.ofNat ((chl rl up F set r y).filter ac).length)))) S1) → Wp dd 0 167 0 [.ref 46, .int y, .int (Int32.ofNat r), .int set] [] S Q := by
  intro r
  induction r with
  | zero =>
    intro dd t y S Q hdd hr hW hA ht h20 K
    obtain ⟨e, rfl⟩ : ∃ e, dd = e + 2 := ⟨dd - 2, by omega⟩
    obtain ⟨hm, hm20, hi, hlow, hrl, h1, hup, hL, hlen, hbs⟩ := id hW
    refine b167_0 (s165 set hL hlen) ?_
    rintro _ _ ⟨rfl, rfl⟩
    refine b167_7 (fun h => b167_12 (fun q => absurd rfl q) (fun _ => w167leaf hA (fun ha => ?_) (fun ha => ?_))) (fun h => b167_10 ?_)
    · have ec : (chl rl up F set 0 y).filter ac = [y] := by
        unfold chl
        rw [bi0.1 h, if_neg (by decide), List.filter_cons, ha]
        rfl
      rw [ec] at K
      refine K _ ((Fz.refl.seti (by decide)).setl) ?_
      show (S.2.2.1 - ((1 : Int32)).toInt64).toInt = _
      rw [lsub1 (by omega) (by omega), ht]
      simp
      omega
    · have ec : (chl rl up F set 0 y).filter ac = [] := by
        unfold chl
        rw [bi0.1 h, if_neg (by decide), List.filter_cons, ha]
        rfl
      rw [ec] at K
      refine K _ (Fz.refl.seti (by decide)) ?_
      show S.2.2.1.toInt = _
      rw [ht]
      simp
    · have ec : (chl rl up F set 0 y).filter ac = [] := by
        unfold chl
        rw [bi1.1 h, if_pos rfl]
        rfl
      rw [ec] at K
      refine K _ Fz.refl ?_
      rw [ht]
      simp
  | succ r ih =>
    intro dd t y S Q hdd hr hW hA ht h20 K
    obtain ⟨e, rfl⟩ : ∃ e, dd = e + 2 := ⟨dd - 2, by omega⟩
    obtain ⟨hm, hm20, hi, hlow, hrl, h1, hup, hL, hlen, hbs⟩ := id hW
    rw [Nat.pow_succ] at h20
    refine b167_0 (s165 set hL hlen) ?_
    rintro _ _ ⟨rfl, rfl⟩
    refine b167_7 (fun h => b167_12 (fun _ => b167_86 (P := fun v S1 => v = Int32.ofNat ((chl rl up F set r y).filter ac).length ∧ Fz [(46, 13)] [] S S1 ∧ S1.2.2.1.toInt = -(1 + t + ((chl rl up F set r y).filter ac).length : Int)) ?_ ?_) (fun q => ?_)) (fun h => b167_10 ?_)
    · rw [i_pre]
      exact ih (e + 1) t y S _ (by omega) (by omega) hW hA ht (by omega) (fun S1 h2 h3 => ⟨_, rfl, rfl, h2, h3⟩)
    · rintro _ S1 ⟨rfl, hF1, ht1⟩
      have hc1 := chl_len (rl := rl) (up := up) (F := F) r y set
      have hf1 := List.length_filter_le ac (chl rl up F set r y)
      have hW1 : MW m rl ins up F S1 := hW.of hF1 (by decide)
      have eL : ¬ lostB F set y (r + 1) = true := by rw [bi0.1 h]; decide
      have last : ¬ (tb set r = true ∧ barB rl up F set r y = false) → Wp (e + 2) 0 167 130 [.ref 46, .int y, .int (Int32.ofNat (r + 1)), .int set, .int (Int32.ofNat (r + 1) - 1), .int (Int32.ofNat ((chl rl up F set r y).filter ac).length)] [] S1 Q := by
        intro hn
        have ec : chl rl up F set (r + 1) y = chl rl up F set r y := by
          show (if _ then _ else _ ++ (if _ then _ else _)) = _
          rw [if_neg eL, if_neg hn, List.append_nil]
        rw [ec] at K
        exact b167_130 (K S1 hF1 ht1)
      refine b167_99 (fun h2 => ?_) (fun _ => b167_110 (P := Vx (bi (tb set r)) S1) ?_ ?_)
      · have := lcmp0.1 h2
        omega
      · rw [i_pre]; exact s154 set (by omega)
      · rintro _ _ ⟨rfl, rfl⟩
        refine b167_116 (fun h3 => last (fun q => ?_)) (fun h3 => b167_119 (P := Vx (bi (barB rl up F set r y)) S1) ?_ ?_)
        · rw [bi0.1 h3] at q; exact absurd q.1 (by decide)
        · rw [i_pre]; exact s166 set hW1 (by omega)
        · rintro _ _ ⟨rfl, rfl⟩
          refine b167_127 (fun h4 => ?_) (fun h4 => last (fun q => ?_))
          · have ec : chl rl up F set (r + 1) y = chl rl up F set r y ++ chl rl up F set r (y ||| bit r) := by
              show (if _ then _ else _ ++ (if _ then _ else _)) = _
              rw [if_neg eL, if_pos ⟨bi1.1 h3, bi0.1 h4⟩]
            rw [ec, List.filter_append, List.length_append] at K
            refine b167_133 (P := fun v S2 => v = Int32.ofNat ((chl rl up F set r (y ||| bit r)).filter ac).length ∧ Fz [(46, 13)] [] S1 S2 ∧ S2.2.2.1.toInt = -(1 + (t + ((chl rl up F set r y).filter ac).length : Nat) + ((chl rl up F set r (y ||| bit r)).filter ac).length : Int)) ?_ ?_
            · rw [i_pre]
              exact ih (e + 1) (t + ((chl rl up F set r y).filter ac).length) _ S1 _ (by omega) (by omega) hW1 (hA.of hF1 (by decide)) (by rw [ht1]; omega) (by omega) (fun S2 h2 h3 => ⟨_, rfl, rfl, h2, h3⟩)
            · rintro _ S2 ⟨rfl, hF2, ht2⟩
              refine b167_148 ?_
              rw [i_add]
              exact K S2 (hF1.trans hF2) (by rw [ht2]; omega)
          · rw [bi1.1 h4] at q; exact absurd q.2 (by decide)
    · have q := Classical.not_not.1 q
      have := (i_inj (b := 0) (by omega) (by omega)).1 q
      omega
    · have ec : chl rl up F set (r + 1) y = [] := by
        show (if _ then _ else _) = _
        rw [if_pos (bi1.1 h)]
      rw [ec] at K
      refine K _ Fz.refl ?_
      rw [ht]
      simp
end MOD3
