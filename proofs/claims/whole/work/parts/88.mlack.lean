/-! LACKING: the reference -/
section MLACK
variable {b D m rl : Nat} {ins : Int32} {nu : Nat → Nat → Int} {up : Nat → Int32} {F : List Int32}
def upB (m : Nat) (ins : Int32) (up : Nat → Int32) (x y : Int32) : Bool := (rayB m x && tb ins x.toNatClampNeg) && (rayB m y && tb ins y.toNatClampNeg) && tb (up x.toNatClampNeg) y.toNatClampNeg
theorem w211 {d : Nat} {S : St} {x y : Int32} (hW : MW m rl ins up F S) : Wp (d + 3) b 211 0 [.ref 46, .int x, .int y] [] S (Ri (Vx (bi (upB m ins up x y)) S)) := by
  obtain ⟨h1, h2, h3, _, _, _, h7, _⟩ := hW
  unfold upB
  refine b211_0 (s159 x h1 h2 h3) ?_
  rintro _ _ ⟨rfl, rfl⟩
  refine b211_5 (fun q => b211_33 (b211_34 (Or.inl rfl) ⟨_, rfl, by rw [bi0.1 q]; rfl, rfl⟩)) (fun qx => b211_8 (s159 y h1 h2 h3) ?_)
  rintro _ _ ⟨rfl, rfl⟩
  have qx := bi1.1 qx
  refine b211_13 (fun q => b211_33 (b211_34 (Or.inl rfl) ⟨_, rfl, by rw [bi0.1 q, Bool.and_false]; rfl, rfl⟩)) (fun qy => ?_)
  have qy := bi1.1 qy
  rw [qx, qy]
  obtain ⟨hx, _⟩ := (Bool.and_eq_true _ _ ▸ qx : _ ∧ _)
  obtain ⟨x0, xm⟩ := of_decide_eq_true hx
  obtain ⟨hy, _⟩ := (Bool.and_eq_true _ _ ▸ qy : _ ∧ _)
  obtain ⟨y0, ym⟩ := of_decide_eq_true hy
  have ex := i_of x0
  have ey := i_of y0
  generalize x.toNatClampNeg = r at *
  generalize y.toNatClampNeg = o at *
  subst ex ey
  refine b211_16 (i_vp (by omega) (by omega)) (P := Vx (bi (tb (up r) o)) S) (by rw [i_cl (by omega), h7 r xm]; exact s154 _ (by omega)) ?_
  rintro _ _ ⟨rfl, rfl⟩
  exact b211_26 (fun q => b211_33 (b211_34 (Or.inl rfl) ⟨_, rfl, by rw [bi0.1 q]; rfl, rfl⟩)) (fun q => b211_29 (b211_34 (Or.inr rfl) ⟨_, rfl, by rw [bi1.1 q]; rfl, rfl⟩))
theorem upB_of {r o : Nat} (hm : m ≤ 20) (hr : r < m) (ho : o < m) : upB m ins up (Int32.ofNat r) (Int32.ofNat o) = (tb ins r && tb ins o && tb (up r) o) := by
  unfold upB
  rw [rayB_of (by omega), rayB_of (by omega), i_cl (by omega), i_cl (by omega), decide_eq_true hr, decide_eq_true ho, Bool.true_and, Bool.true_and]
theorem MW.of4 {S S1 : St} (h : MW m rl ins up F S) (hF : Fz [(46, 4)] [59] S S1) : MW m rl ins up F S1 := by
  obtain ⟨h1, h2, h3, h4, h5, h6, h7, ⟨h8, h8'⟩, h9, h10⟩ := h
  exact ⟨(hF.f (by decide)).trans h1, h2, (hF.f (by decide)).trans h3, h4, (hF.f (by decide)).trans h5, h6, fun r hr => (hF.a (by decide) r).trans (h7 r hr), ⟨(hF.f (by decide)).trans h8, fun i hi => (hF.a (by decide) i).trans (h8' i hi)⟩, h9, fun r hr => (hF.a (by decide) r).trans (h10 r hr)⟩
/-- the pair lacks a frame -/
def lkB (ins : Int32) (up : Nat → Int32) (F : List Int32) (r o : Nat) : Bool := (tb ins r && tb ins o && tb (up r) o) && !(F.any (fun f => tb f r && tb f o))
theorem take_any {α : Type} (p : α → Bool) (L : List α) (df : α) {i : Nat} (hi : i < L.length) : (L.take (i + 1)).any p = ((L.take i).any p || p (L.getD i df)) := by
  have e : L.getD i df = L[i] := by rw [List.getD_eq_getElem?_getD, List.getElem?_eq_getElem hi]; rfl
  rw [List.take_succ, List.any_append, List.getElem?_eq_getElem hi, e]
  simp
theorem w213 {d r o : Nat} {S : St} (hW : MW m rl ins up F S) (hr : r < m) (ho : o < m) : Wp (d + 4) b 213 0 [.ref 46, .int (Int32.ofNat r), .int (Int32.ofNat o)] [] S (Ri (Vx (bi (lkB ins up F r o)) S)) := by
  have hm := hW.2.1
  refine b213_0 (w211 hW) ?_
  rintro _ _ ⟨rfl, rfl⟩
  rw [upB_of hm hr ho]
  refine b213_6 ?_
  unfold lkB
  generalize (tb ins r && tb ins o && tb (up r) o) = A
  obtain ⟨h1, h2, h3, _, _, _, h7, ⟨h8, h8'⟩, h9, _⟩ := hW
  have loop : ∀ n i, i + n = F.length → Wp (d + 4) b 213 10 [.ref 46, .int (Int32.ofNat r), .int (Int32.ofNat o), .int (bi (A && !((F.take i).any (fun f => tb f r && tb f o)))), .int (Int32.ofNat i)] [] S (Ri (Vx (bi (A && !(F.any (fun f => tb f r && tb f o)))) S)) := by
    intro n
    induction n with
    | zero =>
      intro i hi
      have hi : i = F.length := hi
      subst hi
      rw [List.take_length]
      refine b213_10 (fun _ => b213_63 (bi01 _) ⟨_, rfl, rfl, rfl⟩) (fun q => absurd ?_ q)
      rw [h8]
      exact (i_le (by omega) (by omega)).2 (Nat.le_refl _)
    | succ n ih =>
      intro i hi
      have iv := i_vp (k := i) (n := 4845) (by omega) (by omega)
      have ih := ih (i + 1) (by omega)
      rw [take_any _ F 0 (by omega)] at ih
      refine b213_10 (fun q => ?_) (fun _ => b213_19 (fun q => ?_) (fun q => ?_))
      · rw [h8] at q
        have := (i_le (by omega) (by omega)).1 q
        omega
      · refine b213_55 (b213_56 ?_)
        rw [i_suc]
        have q := bi0.1 q
        have e : (A && !(((F.take i).any (fun f => tb f r && tb f o)) || (tb (F.getD i 0) r && tb (F.getD i 0) o))) = false := by
          revert q
          generalize ((F.take i).any (fun f => tb f r && tb f o)) = B
          intro q
          cases A <;> cases B <;> first | rfl | cases q
        rw [e] at ih
        exact ih
      · have q := bi1.1 q
        have e : (A && !(((F.take i).any (fun f => tb f r && tb f o)) || (tb (F.getD i 0) r && tb (F.getD i 0) o))) = !(tb (F.getD i 0) r && tb (F.getD i 0) o) := by
          revert q
          generalize ((F.take i).any (fun f => tb f r && tb f o)) = B
          intro q
          cases A <;> cases B <;> first | rfl | cases q
        rw [e] at ih
        have yes : (tb (F.getD i 0) r && tb (F.getD i 0) o) = false → Wp (d + 4) b 213 51 [.ref 46, .int (Int32.ofNat r), .int (Int32.ofNat o), .int (bi (A && !((F.take i).any (fun f => tb f r && tb f o)))), .int (Int32.ofNat i)] [] S (Ri (Vx (bi (A && !(F.any (fun f => tb f r && tb f o)))) S)) := by
          intro z
          rw [z] at ih
          refine b213_51 (b213_56 ?_)
          rw [i_suc]
          exact ih
        refine b213_23 iv (P := Vx (bi (tb (F.getD i 0) r)) S) (by rw [i_cl (by omega), h8' i (by omega)]; exact s154 _ (by omega)) ?_
        rintro _ _ ⟨rfl, rfl⟩
        refine b213_34 (fun z => yes (by rw [bi0.1 z]; rfl)) (fun z => b213_37 iv (P := Vx (bi (tb (F.getD i 0) o)) S) (by rw [i_cl (by omega), h8' i (by omega)]; exact s154 _ (by omega)) ?_)
        rintro _ _ ⟨rfl, rfl⟩
        refine b213_48 (fun w => b213_55 (b213_56 ?_)) (fun w => yes (by rw [bi0.1 (Classical.byContradiction w), Bool.and_false]))
        rw [bi1.1 z, bi1.1 w] at ih
        rw [i_suc]
        exact ih
  have := loop F.length 0 (by omega)
  rw [List.take_zero] at this
  simpa using this
/-- what stands on both is told, but out -/
def outB (m : Nat) (ins : Int32) (nu : Nat → Nat → Int) (r o : Nat) : Bool := (List.range m).any (fun t => !tb ins t && parB (th (nu r) (nu o)) (nu t))
theorem th_3 (a c : Nat → Int) : th a c 3 = 0 := by
  have : rd (cr a c) 3 = 0 := by
    show (0 : Int) / _ = 0
    exact Int.zero_ediv _
  unfold th
  rw [this]
  split <;> rfl
theorem th_b {a c : Nat → Int} (ha : B9 a) (hc : B9 c) (nz : Nz (cr a c)) (k : Nat) (hk : k < 4) : -162 ≤ th a c k ∧ th a c k ≤ 162 := by
  have cb := cr_b ha hc k
  have gp := gc_pos nz
  have e := rd_mul (cr a c) hk
  have : -162 ≤ rd (cr a c) k ∧ rd (cr a c) k ≤ 162 := by
    generalize rd (cr a c) k = q at *
    have hg : (1 : Int) ≤ ((gc (cr a c) : Nat) : Int) := by omega
    generalize ((gc (cr a c) : Nat) : Int) = gg at *
    rw [← e] at cb
    constructor
    · refine Int.le_of_not_gt (fun z => ?_)
      have : q * gg ≤ (-163) * gg := Int.mul_le_mul_of_nonneg_right (by omega) (by omega)
      omega
    · refine Int.le_of_not_gt (fun z => ?_)
      have : 163 * gg ≤ q * gg := Int.mul_le_mul_of_nonneg_right (by omega) (by omega)
      omega
  unfold th
  split <;> omega
theorem mul_t {x y : Int} (hx : -162 ≤ x ∧ x ≤ 162) (hy : -9 ≤ y ∧ y ≤ 9) : -1458 ≤ x * y ∧ x * y ≤ 1458 := by
  obtain ⟨n, hn⟩ : ∃ n : Nat, y + 9 = n := ⟨(y + 9).toNat, by omega⟩
  have : y = (n : Int) - 9 := by omega
  have hn : n ≤ 18 := by omega
  subst this
  have : n = 0 ∨ n = 1 ∨ n = 2 ∨ n = 3 ∨ n = 4 ∨ n = 5 ∨ n = 6 ∨ n = 7 ∨ n = 8 ∨ n = 9 ∨ n = 10 ∨ n = 11 ∨ n = 12 ∨ n = 13 ∨ n = 14 ∨ n = 15 ∨ n = 16 ∨ n = 17 ∨ n = 18 := by omega
  rcases this with rfl | rfl | rfl | rfl | rfl | rfl | rfl | rfl | rfl | rfl | rfl | rfl | rfl | rfl | rfl | rfl | rfl | rfl | rfl <;> omega
theorem w214 {d r o : Nat} {S : St} {Q : Out → St → Prop} (hW : MW m rl ins up F S) (hR : RWd 3 m nu) (hM : MTl 3 m nu S) (hr : r < m) (ho : o < m) (hro : ¬ r = o) (K : ∀ S1, Fz [] [59] S S1 → Q (.inl (some (.int (bi (outB m ins nu r o))))) S1) : Wp (d + 3) b 214 0 [.ref 46, .int (Int32.ofNat r), .int (Int32.ofNat o)] [] S Q := by
  obtain ⟨r1, _, r3⟩ := hR.1 r hr
  obtain ⟨o1, _, o3⟩ := hR.1 o ho
  have nz : Nz (cr (nu r) (nu o)) := cr_nz (r3 3 (by omega)) (o3 3 (by omega)) (fun z => hro (hR.2 r o hr ho z))
  have tbd := th_b r1 o1 nz
  have hm := hW.2.1
  refine b214_0 (P := fun S1 => Fz [] [59] S S1 ∧ ∀ k, k < 3 → (S1.2.1 59 k).toInt = th (nu r) (nu o) k) (w210 hm hR hM hr ho hro (fun S1 a1 a2 => ⟨rfl, a1, a2⟩)) ?_
  rintro S1 ⟨f1, h59⟩
  have K := K S1 f1
  have hM1 : MTl 3 m nu S1 := fun r k hr hk => by rw [f1.a (by decide)]; exact hM r k hr hk
  have e1 : S1.1 46 1 = Int32.ofNat m := (f1.f (by decide)).trans hW.1
  have e2 : S1.1 46 2 = ins := (f1.f (by decide)).trans hW.2.2.1
  have t3 := th_3 (nu r) (nu o)
  unfold outB at K
  generalize th (nu r) (nu o) = u at *
  refine b214_6 ?_
  have loop : ∀ n t, t + n = m → (List.range m).any (fun t => !tb ins t && parB u (nu t)) = ((List.range t).any (fun t => !tb ins t && parB u (nu t)) || (List.range m).any (fun t => !tb ins t && parB u (nu t))) → (List.range t).any (fun t => !tb ins t && parB u (nu t)) = false → Wp (d + 3) b 214 8 [.ref 46, .int (Int32.ofNat r), .int (Int32.ofNat o), .int (Int32.ofNat t)] [] S1 Q := by
    intro n
    induction n with
    | zero =>
      intro t ht _ h0
      have ht : t = m := ht
      subst ht
      rw [h0] at K
      refine b214_8 (fun _ => b214_118 (Or.inl rfl) K) (fun q => absurd ?_ q)
      rw [e1]
      exact (i_le (by omega) (by omega)).2 (Nat.le_refl _)
    | succ n ih =>
      intro t ht _ h0
      have htm : t < m := by omega
      have step : (!tb ins t && parB u (nu t)) = false → Wp (d + 3) b 214 112 [.ref 46, .int (Int32.ofNat r), .int (Int32.ofNat o), .int (Int32.ofNat t)] [] S1 Q := by
        intro z
        refine b214_112 ?_
        rw [i_suc]
        have e0 : (List.range (t + 1)).any (fun t => !tb ins t && parB u (nu t)) = false := by
          rw [List.range_succ, List.any_append, h0]
          simp only [List.any_cons, List.any_nil, Bool.or_false, Bool.false_or]
          exact z
        exact ih (t + 1) (by omega) (by rw [e0, Bool.false_or]) e0
      refine b214_8 (fun q => ?_) (fun _ => b214_16 (s159n htm e1 hm e2) ?_)
      · rw [e1] at q
        have := (i_le (by omega) (by omega)).1 q
        omega
      rintro _ _ ⟨rfl, rfl⟩
      refine b214_21 (fun hin => b214_27 ?_) (fun hin => b214_24 (step (by rw [bi1.1 hin]; rfl)))
      have hin := bi0.1 hin
      obtain ⟨t1, _, tz⟩ := hR.1 t htm
      -- the end of the two loops
      have fin : ∀ (p : Bool) x5, (p = true ↔ ∀ i k, i < 3 → k < 3 → u i * nu t k = u k * nu t i) → Wp (d + 3) b 214 105 [.ref 46, .int (Int32.ofNat r), .int (Int32.ofNat o), .int (Int32.ofNat t), .int (bi p), .int x5] [] S1 Q := by
        intro p x5 hp
        have hpar : parB u (nu t) = p := by
          rw [Bool.eq_iff_iff, parB_iff, hp]
          constructor
          · exact fun h i k hi hk => h i k (by omega) (by omega)
          · intro h i k hi hk
            by_cases ei : i = 3
            · subst ei
              rw [t3, tz 3 (by omega), Int.zero_mul, Int.mul_zero]
            · by_cases ek : k = 3
              · subst ek
                rw [t3, tz 3 (by omega), Int.zero_mul, Int.mul_zero]
              · exact h i k (by omega) (by omega)
        refine b214_105 (fun z => step (by rw [hpar, bi0.1 z, Bool.and_false])) (fun z => b214_110 (Or.inr rfl) ?_)
        have : (List.range m).any (fun t => !tb ins t && parB u (nu t)) = true := List.any_eq_true.2 ⟨t, List.mem_range.2 htm, by show (!tb ins t && parB u (nu t)) = true; rw [hin, hpar, bi1.1 z]; rfl⟩
        rw [this] at K
        exact K
      have outer : ∀ n i (p : Bool), i + n = 3 → (p = true ↔ ∀ i' k, i' < i → k < 3 → u i' * nu t k = u k * nu t i') → Wp (d + 3) b 214 33 [.ref 46, .int (Int32.ofNat r), .int (Int32.ofNat o), .int (Int32.ofNat t), .int (bi p), .int (Int32.ofNat i)] [] S1 Q := by
        intro n
        induction n with
        | zero =>
          intro i p hi hp
          have hi : i = 3 := hi
          subst hi
          exact b214_33 (fun _ => fin p _ hp) (fun q => absurd ((i_le (a := 3) (by omega) (by omega)).2 (by omega)) q)
        | succ n iho =>
          intro i p hi hp
          have hi3 : i < 3 := by omega
          refine b214_33 (fun q => ?_) (fun _ => b214_39 ?_)
          · have := (i_le (a := 3) (by omega) (by omega)).1 q
            omega
          have inner : ∀ n k (p : Bool), k + n = 3 → (p = true ↔ ((∀ i' k, i' < i → k < 3 → u i' * nu t k = u k * nu t i') ∧ ∀ k', k' < k → u i * nu t k' = u k' * nu t i)) → Wp (d + 3) b 214 42 [.ref 46, .int (Int32.ofNat r), .int (Int32.ofNat o), .int (Int32.ofNat t), .int (bi p), .int (Int32.ofNat i), .int (Int32.ofNat k)] [] S1 Q := by
            intro n
            induction n with
            | zero =>
              intro k p hk hp
              have hk : k = 3 := hk
              subst hk
              refine b214_42 (fun _ => b214_99 ?_) (fun q => absurd ((i_le (a := 3) (by omega) (by omega)).2 (by omega)) q)
              rw [i_suc]
              refine iho (i + 1) p (by omega) (hp.trans ⟨fun h i' k hi' hk => ?_, fun h => ⟨fun i' k hi' hk => h i' k (by omega) hk, fun k' hk' => h i k' (by omega) hk'⟩⟩)
              by_cases e : i' = i
              · rw [e]; exact h.2 k hk
              · exact h.1 i' k (by omega) hk
            | succ n ihi =>
              intro k p hk hp
              have hk3 : k < 3 := by omega
              have next : ∀ p' : Bool, (p' = true ↔ (p = true ∧ u i * nu t k = u k * nu t i)) → Wp (d + 3) b 214 91 [.ref 46, .int (Int32.ofNat r), .int (Int32.ofNat o), .int (Int32.ofNat t), .int (bi p), .int (Int32.ofNat i), .int (Int32.ofNat k)] [.int (bi p')] S1 Q := by
                intro p' hp'
                refine b214_91 ?_
                rw [i_suc]
                refine ihi (k + 1) p' (by omega) (hp'.trans ⟨fun h => ⟨(hp.1 h.1).1, fun k' hk' => ?_⟩, fun h => ⟨hp.2 ⟨h.1, fun k' hk' => h.2 k' (by omega)⟩, h.2 k (by omega)⟩⟩)
                by_cases e : k' = k
                · rw [e]; exact h.2
                · exact (hp.1 h.1).2 k' (by omega)
              refine b214_42 (fun q => ?_) (fun _ => b214_48 (fun z => b214_90 (next false ⟨(fun q => by cases q), fun q => absurd q.1 (by rw [bi0.1 z]; decide)⟩)) (fun z => ?_))
              · have := (i_le (a := 3) (by omega) (by omega)).1 q
                omega
              have z := bi1.1 z
              refine b214_53 (i_vp hi3 (by omega)) (s157 (by omega) (by omega)) ?_
              rintro _ _ ⟨rfl, rfl⟩
              refine b214_67 (i_vp hk3 (by omega)) (s157 (by omega) (by omega)) ?_
              rintro _ _ ⟨rfl, rfl⟩
              rw [i_cl (by omega), i_cl (by omega)]
              have a1 := h59 i hi3
              have a2 := h59 k hk3
              have a3 := hM1 t k htm hk3
              have a4 := hM1 t i htm hi3
              have m1 := mul_t (tbd i (by omega)) (t1 k (by omega))
              have m2 := mul_t (tbd k (by omega)) (t1 i (by omega))
              have p1 : (S1.2.1 59 i * S1.2.1 47 (4 * t + k)).toInt = u i * nu t k := by
                rw [ti_mul (by rw [a1, a3]; omega) (by rw [a1, a3]; omega), a1, a3]
              have p2 : (S1.2.1 59 k * S1.2.1 47 (4 * t + i)).toInt = u k * nu t i := by
                rw [ti_mul (by rw [a2, a4]; omega) (by rw [a2, a4]; omega), a2, a4]
              refine b214_82 (fun q => b214_90 (next false ⟨(fun q => by cases q), fun h => absurd (ti_ext (p1.trans (h.2.trans p2.symm))) q⟩)) (fun q => b214_86 (next true ⟨fun _ => ⟨z, ?_⟩, fun _ => rfl⟩))
              have q := Classical.byContradiction q
              rw [← p1, ← p2, q]
          exact inner 3 0 p (by omega) (hp.trans ⟨fun h => ⟨h, fun k' hk' => absurd hk' (Nat.not_lt_zero _)⟩, fun h => h.1⟩)
      exact outer 3 0 true (by omega) ⟨fun _ i' k hi' => absurd hi' (Nat.not_lt_zero _), fun _ => rfl⟩
  exact loop m 0 (by omega) rfl rfl
end MLACK
