/-! LACKING: the class -/
section CLACK
variable {b D m rl : Nat} {ins : Int32} {nu : Nat → Nat → Int} {up : Nat → Int32} {F : List Int32}
theorem c77a {d : Nat} {S : St} {c : Int32} {Q : Out → St → Prop} (h1 : S.1 2 1 = Int32.ofNat m) (hm : m ≤ 20) (K1 : ∀ t, t < m → S.2.1 17 t = c → Q (.inl (some (.int (Int32.ofNat t)))) S) (K2 : (∀ t, t < m → ¬ S.2.1 17 t = c) → Q (.inl (some (.int (-1)))) S) : Wp d b 77 0 [.ref 2, .int c] [] S Q := by
  refine b77a_0 ?_
  have loop : ∀ n i, i + n = m → (∀ t, t < i → ¬ S.2.1 17 t = c) → Wp d b 77 2 [.ref 2, .int c, .int (Int32.ofNat i)] [] S Q := by
    intro n
    induction n with
    | zero =>
      intro i hi h
      have hi : i = m := hi
      subst hi
      exact b77a_2 (fun _ => b77a_37 (K2 h)) (fun q => absurd (by rw [h1]; exact (i_le (by omega) (by omega)).2 (Nat.le_refl _)) q)
    | succ n ih =>
      intro i hi h
      refine b77a_2 (fun q => ?_) (fun _ => b77a_10 (fun q => ?_) (fun _ => b77a_19 (i_vp (by omega) (by omega)) (fun q => b77a_31 ?_) (fun q => b77a_29 (K1 i (by omega) ?_))))
      · rw [h1] at q
        have := (i_le (by omega) (by omega)).1 q
        omega
      · have := (i_le (a := 20) (by omega) (by omega)).1 q
        omega
      · rw [i_cl (by omega)] at q
        rw [i_suc]
        refine ih (i + 1) (by omega) (fun t ht => ?_)
        by_cases e : t = i
        · rw [e]; exact q
        · exact h t (by omega)
      · rw [i_cl (by omega)] at q
        exact Classical.byContradiction q
  exact loop m 0 (by omega) (fun t ht => absurd ht (Nat.not_lt_zero _))
theorem th_sg (a c : Nat → Int) : Sg (th a c) (rd (cr a c)) := by
  unfold th
  by_cases q : fst3 (cr a c) < 0
  · exact Or.inr (fun k _ => if_pos q)
  · exact Or.inl (fun k _ => if_neg q)
theorem th_par {a c e : Nat → Int} (nz : Nz (cr a c)) (he : Nz e) (h9 : B9 e) : Par (th a c) e ↔ (B9 (th a c) ∧ codeN (th a c) = codeN (rd e)) := by
  have sg := th_sg a c
  have ab : ∀ k, k < 4 → (th a c k).natAbs = (rd (cr a c) k).natAbs := fun k hk => by
    rcases sg with h | h
    · rw [h k hk]
    · rw [h k hk, Int.natAbs_neg]
  have nzv : Nz (th a c) := by
    obtain ⟨k, hk, h⟩ := rd_nz nz
    exact ⟨k, hk, fun z => h (Int.natAbs_eq_zero.1 (by rw [← ab k hk, z]; rfl))⟩
  have g1 : gc (rd (cr a c)) = 1 := by
    have h := gc_scale (rd (cr a c)) ((gc (cr a c) : Nat) : Int)
    have h2 : gc (fun k => ((gc (cr a c) : Nat) : Int) * rd (cr a c) k) = gc (cr a c) := gc_congr (fun k hk => by rw [Int.mul_comm, rd_mul _ hk])
    rw [h2, Int.natAbs_natCast] at h
    have gp := gc_pos nz
    exact (Nat.eq_of_mul_eq_mul_left gp (by rw [Nat.mul_one]; exact h)).symm
  have gv : gc (th a c) = 1 := (gc_congr ab).trans g1
  have rv : ∀ k, k < 4 → rd (th a c) k = th a c k := fun k hk => by
    have := rd_mul (th a c) hk
    rw [gv] at this
    simpa using this
  rw [par_rd nzv he]
  have hs : Sg (rd (th a c)) (rd e) ↔ Sg (th a c) (rd e) := by
    unfold Sg
    constructor
    · rintro (h | h)
      · exact Or.inl (fun k hk => by rw [← rv k hk]; exact h k hk)
      · exact Or.inr (fun k hk => by rw [← rv k hk]; exact h k hk)
    · rintro (h | h)
      · exact Or.inl (fun k hk => by rw [rv k hk]; exact h k hk)
      · exact Or.inr (fun k hk => by rw [rv k hk]; exact h k hk)
  rw [hs]
  have r9 := rd_b9 h9
  constructor
  · intro h
    have b9 : B9 (th a c) := fun k hk => by
      have := r9 k hk
      rcases h with h | h
      · rw [h k hk]; exact this
      · rw [h k hk]; omega
    exact ⟨b9, (code_iff b9 r9).2 h⟩
  · exact fun h => (code_iff h.1 r9).1 h.2
def hasB (m : Nat) (nu : Nat → Nat → Int) (r o : Nat) : Bool := (List.range m).any (fun t => parB (th (nu r) (nu o)) (nu t))
theorem hasB_iff {r o : Nat} : hasB m nu r o = true ↔ ∃ t, t < m ∧ Par (th (nu r) (nu o)) (nu t) := by
  unfold hasB
  rw [List.any_eq_true]
  constructor
  · rintro ⟨t, h1, h2⟩
    exact ⟨t, List.mem_range.1 h1, parB_iff.1 h2⟩
  · rintro ⟨t, h1, h2⟩
    exact ⟨t, List.mem_range.2 h1, parB_iff.2 h2⟩
theorem c81 {d r o : Nat} {S : St} {Q : Out → St → Prop} (hm : m ≤ 20) (hR : RWd 3 m nu) (hT : Tld 3 m nu S) (hr : r < m) (ho : o < m) (hro : ¬ r = o) (K : ∀ v, (v = -1 ↔ hasB m nu r o = false) → Q (.inl (some (.int v))) S) : Wp (d + 4) b 81 0 [.ref 2, .int (Int32.ofNat r), .int (Int32.ofNat o)] [] S Q := by
  obtain ⟨r1, _, r3⟩ := hR.1 r hr
  obtain ⟨o1, _, o3⟩ := hR.1 o ho
  have nz : Nz (cr (nu r) (nu o)) := cr_nz (r3 3 (by omega)) (o3 3 (by omega)) (fun z => hro (hR.2 r o hr ho z))
  have tp := fun t ht => th_par (e := nu t) nz (hR.1 t ht).2.1 (hR.1 t ht).1
  have t3 := th_3 (nu r) (nu o)
  have tb' := th_b r1 o1 nz
  have w79 := fun (d k : Nat) (hk : k < 3) (Q : Out → St → Prop) => c79 (d := d) (b := 0) (Q := Q) hm hR hT hr ho hro hk
  have no : (∀ t, t < m → ¬ Par (th (nu r) (nu o)) (nu t)) → hasB m nu r o = false := fun h => Bool.eq_false_iff.2 (fun q => by
    obtain ⟨t, ht, hp⟩ := hasB_iff.1 q
    exact h t ht hp)
  have yes : ∀ t, t < m → Par (th (nu r) (nu o)) (nu t) → hasB m nu r o = true := fun t ht h => hasB_iff.2 ⟨t, ht, h⟩
  generalize hasB m nu r o = B at *
  generalize th (nu r) (nu o) = u at *
  refine b81_0 ?_
  have fin : ∀ x3 x4 : Int32, B9 u → x3.toInt = lin u → Wp (d + 4) b 81 50 [.ref 2, .int (Int32.ofNat r), .int (Int32.ofNat o), .int x3, .int x4] [] S Q := by
    intro x3 x4 h9 h3
    have cl := code_le h9
    unfold codeN at cl
    refine b81_50 (P := fun v S1 => S = S1 ∧ (v = -1 ↔ B = false)) ?_ ?_
    · rw [ti_abs (by rw [h3]; omega), h3]
      refine c77a hT.2.1 hm (fun t ht h => ⟨_, rfl, rfl, ?_⟩) (fun h => ⟨_, rfl, rfl, ?_⟩)
      · rw [hT.2.2.2.2 t ht] at h
        have hc := (rd_code hR ht).2
        have := (i_inj (by omega) (by omega)).1 h
        have y := yes t ht ((tp t ht).2 ⟨h9, this.symm⟩)
        rw [y]
        constructor
        · intro e
          have := congrArg Int32.toInt e
          rw [i_toInt (by omega)] at this
          have e : (-1 : Int32).toInt = -1 := by decide
          omega
        · intro e; cases e
      · refine ⟨fun _ => no (fun t ht hp => h t ht ?_), fun _ => rfl⟩
        rw [hT.2.2.2.2 t ht, ← ((tp t ht).1 hp).2]
        rfl
    · rintro v _ ⟨rfl, hv⟩
      exact b81_58 (K v hv)
  have loop : ∀ n k (x3 : Int32), k + n = 3 → (∀ j, j < k → -9 ≤ u j ∧ u j ≤ 9) → x3.toInt = (if 0 < k then 6859 * u 0 else 0) + (if 1 < k then 361 * u 1 else 0) + (if 2 < k then 19 * u 2 else 0) → Wp (d + 4) b 81 5 [.ref 2, .int (Int32.ofNat r), .int (Int32.ofNat o), .int x3, .int (Int32.ofNat k)] [] S Q := by
    intro n
    induction n with
    | zero =>
      intro k x3 hk h9 h3
      have hk : k = 3 := hk
      subst hk
      refine b81_5 (fun _ => fin x3 _ (fun j hj => ?_) ?_) (fun q => absurd ((i_le (a := 3) (by omega) (by omega)).2 (by omega)) q)
      · by_cases e : j = 3
        · rw [e, t3]; omega
        · exact h9 j (by omega)
      · rw [h3, if_pos (by omega), if_pos (by omega), if_pos (by omega)]
        unfold lin
        rw [t3]
        omega
    | succ n ih =>
      intro k x3 hk h9 h3
      have hk3 : k < 3 := by omega
      refine b81_5 (fun q => ?_) (fun _ => b81_11 (P := fun v S1 => S = S1 ∧ v.toInt = u k) (w79 _ k hk3 _ (fun v hv => ⟨_, rfl, rfl, hv⟩)) ?_)
      · have := (i_le (a := 3) (by omega) (by omega)).1 q
        omega
      rintro v _ ⟨rfl, hv⟩
      have hb := tb' k (by omega)
      have ea := ti_abs (x := v) (by omega)
      refine b81_19 (fun q => b81_33 (s76 (by omega)) ?_) (fun q => b81_31 (K _ ⟨fun _ => no (fun t ht hp => q ?_), fun _ => rfl⟩))
      rotate_left
      · have h9 := ((tp t ht).1 hp).1 k (by omega)
        rw [ea, hv]
        exact (i_le (b := 9) (by omega) (by omega)).2 (by omega)
      rintro _ _ ⟨rfl, rfl⟩
      rw [ea, hv] at q
      have q := (i_le (b := 9) (by omega) (by omega)).1 q
      refine b81_41 ?_
      rw [i_suc]
      have h0 : 0 < k → -9 ≤ u 0 ∧ u 0 ≤ 9 := fun h => h9 0 h
      have h1 : 1 < k → -9 ≤ u 1 ∧ u 1 ≤ 9 := fun h => h9 1 h
      have p0 : (pw32 0).toInt = 6859 := by decide
      have p1 : (pw32 1).toInt = 361 := by decide
      have p2 : (pw32 2).toInt = 19 := by decide
      refine ih (k + 1) _ (by omega) (fun j hj => ?_) ?_
      · by_cases e : j = k
        · rw [e]; omega
        · exact h9 j (by omega)
      · have ek : k = 0 ∨ k = 1 ∨ k = 2 := by omega
        rcases ek with rfl | rfl | rfl
        · have mu : (v * pw32 0).toInt = u 0 * 6859 := by
            rw [ti_mul (by rw [hv, p0]; omega) (by rw [hv, p0]; omega), hv, p0]
          simp at h3
          rw [ti_add (by rw [h3, mu]; omega) (by rw [h3, mu]; omega), h3, mu]
          simp
          omega
        · have := h0 (by omega)
          have mu : (v * pw32 1).toInt = u 1 * 361 := by
            rw [ti_mul (by rw [hv, p1]; omega) (by rw [hv, p1]; omega), hv, p1]
          simp at h3
          rw [ti_add (by rw [h3, mu]; omega) (by rw [h3, mu]; omega), h3, mu]
          simp
          omega
        · have := h0 (by omega)
          have := h1 (by omega)
          have mu : (v * pw32 2).toInt = u 2 * 19 := by
            rw [ti_mul (by rw [hv, p2]; omega) (by rw [hv, p2]; omega), hv, p2]
          simp at h3
          rw [ti_add (by rw [h3, mu]; omega) (by rw [h3, mu]; omega), h3, mu]
          simp
          omega
  exact loop 3 0 0 (by omega) (fun j hj => absurd hj (Nat.not_lt_zero _)) rfl
theorem c96 {d r o : Nat} {S : St} (hm : m ≤ 20) (hD : D = 3 ∨ D = 4) (hR : RWd D m nu) (hT : Tld D m nu S) (hr : r < m) (ho : o < m) (hro : ¬ r = o) : Wp (d + 5) b 96 0 [.ref 5, .int (Int32.ofNat r), .int (Int32.ofNat o)] [] S (Ri (Vx (bi (decide (D = 3) && hasB m nu r o)) S)) := by
  refine b96_0 (fun q => b96_28 (b96_29 (Or.inl rfl) ⟨_, rfl, ?_, rfl⟩)) (fun q => ?_)
  · rw [hT.1] at q
    rw [decide_eq_false (fun e => q (by rw [e]; rfl))]
    rfl
  have q := Classical.byContradiction q
  rw [hT.1] at q
  have d3 := (i_inj (b := 3) (by omega) (by omega)).1 q
  subst d3
  rw [decide_eq_true rfl, Bool.true_and]
  refine b96_11 (P := fun v S1 => S = S1 ∧ (v = -1 ↔ hasB m nu r o = false)) (c81 hm hR hT hr ho hro (fun v hv => ⟨_, rfl, rfl, hv⟩)) ?_
  rintro v _ ⟨rfl, hv⟩
  refine b96_20 (fun z => b96_28 (b96_29 (Or.inl rfl) ⟨_, rfl, ?_, rfl⟩)) (fun z => b96_24 (b96_29 (Or.inr rfl) ⟨_, rfl, ?_, rfl⟩))
  · rw [hv.1 z]; rfl
  · rw [bpos (fun e => z (hv.2 e))]; rfl
def lkC (up : Nat → Int32) (F : List Int32) (r o : Nat) : Bool := tb (up r) o && !tb (matesL F r) o
theorem tb_lone {r o : Nat} : tb (up r &&& (matesL F r ^^^ -1)) o = lkC up F r o := by
  unfold lkC
  rw [tb_and]
  by_cases h : o < 32
  · rw [tb_not _ h]
  · rw [tb_ge (by omega), Bool.false_and, Bool.false_and]
theorem c95 {d : Nat} {S : St} {tl : Bool} {Q : Out → St → Prop} (hU : UW m rl ins up F) (hD : D = 3 ∨ D = 4) (hR : RWd D m nu) (hT : Tld D m nu S) (hW : WB ins up F S) (K : Q (.inl (some (.int (Int32.ofNat (prs (fun r o => lkC up F r o && (!tl || (decide (D = 3) && hasB m nu r o))) 20))))) S) : Wp (d + 6) b 95 0 [.ref 5, .int (bi tl)] [] S Q := by
  obtain ⟨hm, _, hl, hsym, hirr, hin, _⟩ := id hU
  obtain ⟨_, _, h23, _, _, h24⟩ := id hW
  have ok : ∀ r o, lkC up F r o = true → r < m ∧ o < m ∧ ¬ r = o := by
    intro r o h
    unfold lkC at h
    obtain ⟨h1, _⟩ := (Bool.and_eq_true _ _ ▸ h : _ ∧ _)
    exact ⟨hl r (hin o r (by rw [← hsym]; exact h1)), hl o (hin r o h1), fun e => by rw [e, hirr] at h1; cases h1⟩
  unfold prs at K
  refine b95_0 ?_
  have outer : ∀ n r, r + n = 20 → Wp (d + 6) b 95 4 [.ref 5, .int (bi tl), .int (Int32.ofNat (sumN (fun r => cnt (fun o => decide (r < o) && (lkC up F r o && (!tl || (decide (D = 3) && hasB m nu r o)))) 20) r)), .int (Int32.ofNat r)] [] S Q := by
    intro n
    induction n with
    | zero =>
      intro r hr
      have hr : r = 20 := hr
      subst hr
      exact b95_4 (fun _ => b95_78 K) (fun q => absurd ((i_le (a := 20) (by omega) (by omega)).2 (by omega)) q)
    | succ n iho =>
      intro r hr
      have hr20 : r < 20 := by omega
      have rv := i_vp (k := r) (n := 20) hr20 (by omega)
      refine b95_4 (fun q => ?_) (fun _ => b95_10 rv rv ?_)
      · have := (i_le (a := 20) (by omega) (by omega)).1 q
        omega
      rw [i_cl (by omega), h23 r hr20, (h24 r hr20).1, i_suc]
      have inner : ∀ n o, o + n = 20 → r < o → Wp (d + 6) b 95 32 [.ref 5, .int (bi tl), .int (Int32.ofNat (sumN (fun r => cnt (fun o => decide (r < o) && (lkC up F r o && (!tl || (decide (D = 3) && hasB m nu r o)))) 20) r + cnt (fun o => decide (r < o) && (lkC up F r o && (!tl || (decide (D = 3) && hasB m nu r o)))) o)), .int (Int32.ofNat r), .int (up r &&& (matesL F r ^^^ -1)), .int (Int32.ofNat o)] [] S Q := by
        intro n
        induction n with
        | zero =>
          intro o ho hro
          have ho : o = 20 := ho
          subst ho
          refine b95_32 (fun _ => b95_72 ?_) (fun q => absurd ((i_le (a := 20) (by omega) (by omega)).2 (by omega)) q)
          rw [i_suc]
          exact iho (r + 1) (by omega)
        | succ n ihi =>
          intro o ho hro
          have ho20 : o < 20 := by omega
          have s1 : cnt (fun o => decide (r < o) && (lkC up F r o && (!tl || (decide (D = 3) && hasB m nu r o)))) (o + 1) = cnt (fun o => decide (r < o) && (lkC up F r o && (!tl || (decide (D = 3) && hasB m nu r o)))) o + if (lkC up F r o && (!tl || (decide (D = 3) && hasB m nu r o))) = true then 1 else 0 := by
            show _ + (if (decide (r < o) && _) = true then 1 else 0) = _
            rw [decide_eq_true hro, Bool.true_and]
          have ihi := ihi (o + 1) (by omega) (by omega)
          rw [s1] at ihi
          refine b95_32 (fun q => ?_) (fun _ => b95_39 (s146 _ (by omega)) ?_)
          · have := (i_le (a := 20) (by omega) (by omega)).1 q
            omega
          rintro _ _ ⟨rfl, rfl⟩
          rw [tb_lone]
          have no : (lkC up F r o && (!tl || (decide (D = 3) && hasB m nu r o))) = false → Wp (d + 6) b 95 66 [.ref 5, .int (bi tl), .int (Int32.ofNat (sumN (fun r => cnt (fun o => decide (r < o) && (lkC up F r o && (!tl || (decide (D = 3) && hasB m nu r o)))) 20) r + cnt (fun o => decide (r < o) && (lkC up F r o && (!tl || (decide (D = 3) && hasB m nu r o)))) o)), .int (Int32.ofNat r), .int (up r &&& (matesL F r ^^^ -1)), .int (Int32.ofNat o)] [] S Q := by
            intro z
            refine b95_66 ?_
            rw [i_suc]
            rw [z] at ihi
            exact ihi
          have yes : (lkC up F r o && (!tl || (decide (D = 3) && hasB m nu r o))) = true → Wp (d + 6) b 95 63 [.ref 5, .int (bi tl), .int (Int32.ofNat (sumN (fun r => cnt (fun o => decide (r < o) && (lkC up F r o && (!tl || (decide (D = 3) && hasB m nu r o)))) 20) r + cnt (fun o => decide (r < o) && (lkC up F r o && (!tl || (decide (D = 3) && hasB m nu r o)))) o)), .int (Int32.ofNat r), .int (up r &&& (matesL F r ^^^ -1)), .int (Int32.ofNat o)] [] S Q := by
            intro z
            refine b95_63 (b95_66 ?_)
            rw [i_suc, i_suc]
            rw [z] at ihi
            exact ihi
          refine b95_46 (fun z => no (by rw [bi0.1 z]; rfl)) (fun z => ?_)
          have z := bi1.1 z
          obtain ⟨o1, o2, o3⟩ := ok r o z
          refine b95_49 (fun t => yes (by rw [z, bi0.1 t]; rfl)) (fun t => b95_53 (c96 hm hD hR hT o1 o2 o3) ?_)
          have t := bi1.1 t
          rintro _ _ ⟨rfl, rfl⟩
          exact b95_60 (fun w => no (by rw [z, t, bi0.1 w]; rfl)) (fun w => yes (by rw [z, t, bi1.1 w]; rfl))
      have := inner (20 - (r + 1)) (r + 1) (by omega) (by omega)
      rw [cnt_up0 (fun r o => lkC up F r o && (!tl || (decide (D = 3) && hasB m nu r o))) r, Nat.add_zero] at this
      exact this
  exact outer 20 0 (by omega)
theorem c97 {d : Nat} {S : St} {Q : Out → St → Prop} (hU : UW m rl ins up F) (hW : WB ins up F S) (K : ∀ v, FrP (lkC up F) v → Q (.inl (some (.int v))) S) : Wp (d + 2) b 97 0 [.ref 5] [] S Q := by
  obtain ⟨hm, _, hl, hsym, hirr, hin, _⟩ := id hU
  obtain ⟨_, _, h23, _, _, h24⟩ := id hW
  have ok : ∀ r o, lkC up F r o = true → r < 20 ∧ o < 20 := by
    intro r o h
    unfold lkC at h
    obtain ⟨h1, _⟩ := (Bool.and_eq_true _ _ ▸ h : _ ∧ _)
    have := hl r (hin o r (by rw [← hsym]; exact h1))
    have := hl o (hin r o h1)
    omega
  refine b97_0 ?_
  have sh1 : ∀ (x : Int32) k, tb (x >>> ((1 : Int32) &&& 31)) k = (decide (k < 32) && tb x (if 1 + k < 32 then 1 + k else 31)) := fun x k => tb_shr x (r := 1) (by omega)
  have loop : ∀ n r, r + n = 20 → (∀ r' o', r' < o' → r' < r → lkC up F r' o' = false) → Wp (d + 2) b 97 2 [.ref 5, .int (Int32.ofNat r)] [] S Q := by
    intro n
    induction n with
    | zero =>
      intro r hr h
      have hr : r = 20 := hr
      subst hr
      exact b97_2 (fun _ => b97_52 (K _ (Or.inl ⟨rfl, fun r o hro => Bool.eq_false_iff.2 (fun z => by rw [h r o hro (ok r o z).1] at z; cases z)⟩))) (fun q => absurd ((i_le (a := 20) (by omega) (by omega)).2 (by omega)) q)
    | succ n ih =>
      intro r hr h
      have hr20 : r < 20 := by omega
      have rv := i_vp (k := r) (n := 20) hr20 (by omega)
      have tl : ∀ k, tb (((up r &&& (matesL F r ^^^ -1)) >>> (Int32.ofNat r &&& 31)) >>> ((1 : Int32) &&& 31)) k = lkC up F r (r + 1 + k) := by
        intro k
        rw [sh1, tb_shr _ (by omega), tb_lone]
        have big : ∀ o, 20 ≤ o → lkC up F r o = false := fun o ho => Bool.eq_false_iff.2 (fun z => by have := (ok r o z).2; omega)
        by_cases hk : k < 32
        · rw [decide_eq_true hk, Bool.true_and]
          by_cases h1 : 1 + k < 32
          · rw [if_pos h1, decide_eq_true h1, Bool.true_and]
            by_cases h2 : r + (1 + k) < 32
            · rw [if_pos h2]
              congr 1
              omega
            · rw [if_neg h2, big 31 (by omega), big _ (by omega)]
          · rw [if_neg h1, decide_eq_true (by omega : 31 < 32), Bool.true_and]
            by_cases h2 : r + 31 < 32
            · rw [if_pos h2, big _ (by omega), big _ (by omega)]
            · rw [if_neg h2, big 31 (by omega), big _ (by omega)]
        · rw [decide_eq_false hk, Bool.false_and, big _ (by omega)]
      refine b97_2 (fun q => ?_) (fun _ => b97_8 rv rv (fun q => b97_46 ?_) (fun q => ?_))
      · have := (i_le (a := 20) (by omega) (by omega)).1 q
        omega
      · rw [i_cl (by omega), h23 r hr20, (h24 r hr20).1] at q
        rw [i_suc]
        refine ih (r + 1) (by omega) (fun r' o' hro hlt => ?_)
        by_cases e : r' = r
        · rw [e] at hro ⊢
          have := tl (o' - (r + 1))
          rw [q, tb_zero, show r + 1 + (o' - (r + 1)) = o' by omega] at this
          exact this.symm
        · exact h r' o' hro (by omega)
      · rw [i_cl (by omega), h23 r hr20, (h24 r hr20).1] at q ⊢
        generalize ((up r &&& (matesL F r ^^^ -1)) >>> (Int32.ofNat r &&& 31)) >>> ((1 : Int32) &&& 31) = s at *
        obtain ⟨l, l32, hl1, hl2⟩ := least_ex q
        refine b97_32 (s148l hl1 hl2) ?_
        rintro _ _ ⟨rfl, rfl⟩
        refine b97_44 ?_
        have e : (20 : Int32) * Int32.ofNat r + Int32.ofNat r + 1 + Int32.ofNat l = Int32.ofNat (20 * r + (r + 1 + l)) := by
          rw [show (20 : Int32) = Int32.ofNat 20 from rfl, i_mul, i_add, i_suc, i_add]
          congr 1
          omega
        rw [e]
        refine K _ (Or.inr ⟨r, r + 1 + l, by omega, (tl l).symm.trans hl1, rfl, fun r' o' hro hlt => ?_⟩)
        rcases hlt with hlt | ⟨e, hlt⟩
        · exact h r' o' hro hlt
        · rw [e] at hro ⊢
          have := tl (o' - (r + 1))
          rw [hl2 _ (by omega), show r + 1 + (o' - (r + 1)) = o' by omega] at this
          exact this.symm
  exact loop 20 0 (by omega) (fun r' o' _ h => absurd h (Nat.not_lt_zero _))
end CLACK
