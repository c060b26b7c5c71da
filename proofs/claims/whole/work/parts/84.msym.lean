/-! SYMMETRIES: the reference -/
section MSYM
variable {b D m : Nat} {ins : Int32} {nu : Nat → Nat → Int}
theorem tb_nat {t k : Nat} (ht : t < 4294967296) : tb (Int32.ofNat t) k = decide (t / 2 ^ k % 2 = 1) := by
  have : tb (Int32.ofNat t) k = (tn (Int32.ofNat t)).testBit k := rfl
  rw [this, tn_of ht, Nat.testBit_eq_decide_div_mod_eq]
/-- numbers as the reference keeps them -/
def MTl (D m : Nat) (nu : Nat → Nat → Int) (S : St) : Prop := ∀ r k, r < m → k < D → (S.2.1 47 (4 * r + k)).toInt = nu r k
theorem key1_dgt {ord : Nat → Nat} {t k : Nat} (hk : k < 4) : dgt (key1 D ord t) k = if k < D then 2 * (ord k % 4) + t / 2 ^ k % 2 else 2 * k := by
  unfold key1
  refine kf_dgt (fun j hj => ?_) hk
  have h1 := Nat.mod_lt (ord j) (show 4 > 0 by omega)
  have h2 := Nat.mod_lt (t / 2 ^ j) (show 2 > 0 by omega)
  by_cases c : j < D
  · rw [if_pos c]; omega
  · rw [if_neg c]; omega
theorem key1_act {ord : Nat → Nat} {t k : Nat} {a : Nat → Int} (h4 : D ≤ 4) (hk : k < D) (ho : ord k < 4) : act (key1 D ord t) a k = if t / 2 ^ k % 2 = 1 then - a (ord k) else a (ord k) := by
  unfold act
  rw [key1_dgt (by omega), if_pos hk, Nat.mod_eq_of_lt ho]
  have h2 := Nat.mod_lt (t / 2 ^ k) (show 2 > 0 by omega)
  rw [show (2 * ord k + t / 2 ^ k % 2) / 2 = ord k by omega]
  by_cases c : t / 2 ^ k % 2 = 1
  · rw [if_pos (by omega), if_pos c]
  · rw [if_neg (by omega), if_neg c]
theorem w202 {d r k t : Nat} {ord : Nat → Nat} {S : St} {Q : Out → St → Prop} (hD : D = 3 ∨ D = 4) (hm : m ≤ 20) (hR : RWd D m nu) (hM : MTl D m nu S) (hr : r < m) (hk : k < D) (ht : t < 16) (ho : ord k < D) (h56 : S.2.1 56 k = Int32.ofNat (ord k)) (K : ∀ x, x.toInt = act (key1 D ord t) (nu r) k → Q (.inl (some (.int x))) S) : Wp (d + 1) b 202 0 [.ref 46, .int (Int32.ofNat r), .int (Int32.ofNat t), .int (Int32.ofNat k)] [] S Q := by
  obtain ⟨r1, _, _⟩ := hR.1 r hr
  have hb := r1 (ord k) (by omega)
  refine b202_0 (i_vp (by omega) (by omega)) (by rw [i_cl (by omega), h56]; exact s157 (by omega) (by omega)) ?_
  rintro _ _ ⟨rfl, rfl⟩
  refine b202_11 (s154 _ (by omega)) ?_
  rintro _ _ ⟨rfl, rfl⟩
  have hv := hM r (ord k) hr ho
  rw [tb_nat (by omega)]
  refine b202_18 (fun h0 => b202_27 (b202_29 (K _ ?_))) (fun h1 => b202_21 (b202_29 (K _ ?_)))
  · rw [key1_act (by omega) hk (by omega), if_neg (of_decide_eq_false (bi0.1 h0))]
    exact hv
  · rw [key1_act (by omega) hk (by omega), if_pos (of_decide_eq_true (bi1.1 h1)), ti_neg (by omega) (by omega), hv]
theorem mul_9 {x y : Int} (hx : -9 ≤ x ∧ x ≤ 9) (hy : -9 ≤ y ∧ y ≤ 9) : -65160 ≤ x * y ∧ x * y ≤ 65160 := mul_b hx (by omega)
theorem w203 {d r o t : Nat} {ord : Nat → Nat} {S : St} {Q : Out → St → Prop} (hD : D = 3 ∨ D = 4) (hm : m ≤ 20) (hR : RWd D m nu) (hM : MTl D m nu S) (h0 : S.1 46 0 = Int32.ofNat D) (hr : r < m) (ho : o < m) (ht : t < 16) (hord : ∀ k, k < D → ord k < D ∧ S.2.1 56 k = Int32.ofNat (ord k)) (K : Q (.inl (some (.int (bi (parB (act (key1 D ord t) (nu r)) (nu o)))))) S) : Wp (d + 2) b 203 0 [.ref 46, .int (Int32.ofNat r), .int (Int32.ofNat t), .int (Int32.ofNat o)] [] S Q := by
  obtain ⟨r1, _, r3⟩ := hR.1 r hr
  obtain ⟨o1, _, o3⟩ := hR.1 o ho
  have a9 : B9 (act (key1 D ord t) (nu r)) := act_b9 r1
  have K1 : Par (act (key1 D ord t) (nu r)) (nu o) → Q (.inl (some (.int 1))) S := fun h => by rw [parB_iff.2 h] at K; exact K
  have K0 : ¬ Par (act (key1 D ord t) (nu r)) (nu o) → Q (.inl (some (.int 0))) S := fun h => by
    have e : parB (act (key1 D ord t) (nu r)) (nu o) = false := bneg (fun z => h (parB_iff.1 z))
    rw [e] at K; exact K
  have a3 : D = 3 → act (key1 D ord t) (nu r) 3 = 0 := by
    intro e
    have e6 : dgt (key1 D ord t) 3 = 6 := by rw [key1_dgt (by omega), if_neg (by omega : ¬ 3 < D)]
    unfold act
    rw [e6, if_neg (by decide)]
    exact r3 _ (by omega)
  have full : (∀ i k, i < D → k < D → act (key1 D ord t) (nu r) i * nu o k = act (key1 D ord t) (nu r) k * nu o i) → Par (act (key1 D ord t) (nu r)) (nu o) := by
    intro h i k hi hk
    rcases hD with e | e
    · by_cases c1 : i < 3
      · by_cases c2 : k < 3
        · exact h i k (by omega) (by omega)
        · rw [show k = 3 by omega, a3 e, o3 3 (by omega), Int.mul_zero, Int.zero_mul]
      · rw [show i = 3 by omega, a3 e, o3 3 (by omega), Int.mul_zero, Int.zero_mul]
    · exact h i k (by omega) (by omega)
  have outer : ∀ n i, i + n = D → (∀ j k, j < i → k < D → act (key1 D ord t) (nu r) j * nu o k = act (key1 D ord t) (nu r) k * nu o j) → Wp (d + 2) b 203 3 [.ref 46, .int (Int32.ofNat r), .int (Int32.ofNat t), .int (Int32.ofNat o), .int (Int32.ofNat i)] [] S Q := by
    intro n
    induction n with
    | zero =>
      intro i hi h
      have hi : i = D := hi
      subst hi
      refine b203_3 (fun _ => b203_73 (Or.inr rfl) (K1 (full h))) (fun z => absurd ?_ z)
      rw [h0]; exact (i_le (by omega) (by omega)).2 (Nat.le_refl _)
    | succ n ih =>
      intro i hi h
      refine b203_3 (fun z => ?_) (fun _ => b203_12 ?_)
      · rw [h0] at z
        have := (i_le (by omega) (by omega)).1 z
        omega
      have inner : ∀ n k, k + n = D → (∀ j, j < k → act (key1 D ord t) (nu r) i * nu o j = act (key1 D ord t) (nu r) j * nu o i) → Wp (d + 2) b 203 15 [.ref 46, .int (Int32.ofNat r), .int (Int32.ofNat t), .int (Int32.ofNat o), .int (Int32.ofNat i), .int (Int32.ofNat k)] [] S Q := by
        intro n
        induction n with
        | zero =>
          intro k hk h2
          have hk : k = D := hk
          subst hk
          refine b203_15 (fun _ => b203_67 ?_) (fun z => absurd ?_ z)
          · rw [i_suc]
            refine ih (i + 1) (by omega) (fun j c hj hc => ?_)
            by_cases e : j = i
            · rw [e]; exact h2 c hc
            · exact h j c (by omega) hc
          · rw [h0]; exact (i_le (by omega) (by omega)).2 (Nat.le_refl _)
        | succ n ihk =>
          intro k hk h2
          refine b203_15 (fun z => ?_) (fun _ => b203_24 (P := fun x S1 => S = S1 ∧ x.toInt = act (key1 D ord t) (nu r) i) (w202 hD hm hR hM hr (by omega) ht (hord i (by omega)).1 (hord i (by omega)).2 (fun x hx => ⟨_, rfl, rfl, hx⟩)) ?_)
          · rw [h0] at z
            have := (i_le (by omega) (by omega)).1 z
            omega
          rintro x _ ⟨rfl, hx⟩
          refine b203_32 (s157 (by omega) (by omega)) ?_
          rintro _ _ ⟨rfl, rfl⟩
          refine b203_39 (P := fun x S1 => S = S1 ∧ x.toInt = act (key1 D ord t) (nu r) k) (w202 hD hm hR hM hr (by omega) ht (hord k (by omega)).1 (hord k (by omega)).2 (fun x hx => ⟨_, rfl, rfl, hx⟩)) ?_
          rintro y _ ⟨rfl, hy⟩
          refine b203_48 (s157 (by omega) (by omega)) ?_
          rintro _ _ ⟨rfl, rfl⟩
          have ok' := hM o k ho (by omega)
          have oi' := hM o i ho (by omega)
          have m1 := mul_9 (a9 i (by omega)) (o1 k (by omega))
          have m2 := mul_9 (a9 k (by omega)) (o1 i (by omega))
          have t1 : (x * S.2.1 47 (4 * o + k)).toInt = act (key1 D ord t) (nu r) i * nu o k := by
            rw [ti_mul (by rw [hx, ok']; omega) (by rw [hx, ok']; omega), hx, ok']
          have t2 : (y * S.2.1 47 (4 * o + i)).toInt = act (key1 D ord t) (nu r) k * nu o i := by
            rw [ti_mul (by rw [hy, oi']; omega) (by rw [hy, oi']; omega), hy, oi']
          refine b203_55 (fun e => b203_61 ?_) (fun e => b203_59 (Or.inl rfl) (K0 (fun hp => e ?_)))
          · rw [i_suc]
            refine ihk (k + 1) (by omega) (fun j hj => ?_)
            by_cases c : j = k
            · rw [c, ← t1, ← t2, e]
            · exact h2 j (by omega)
          · apply ti_ext
            rw [t1, t2]
            exact hp i k (by omega) (by omega)
      exact inner D 0 (by omega) (fun j hj => by omega)
  exact b203_0 (outer D 0 (by omega) (fun j k hj => by omega))
theorem w201 {d r t : Nat} {ord : Nat → Nat} {S : St} {Q : Out → St → Prop} (hB : MB D m ins S) (hR : RWd D m nu) (hM : MTl D m nu S) (hr : r < m) (ht : t < 16) (hord : ∀ k, k < D → ord k < D ∧ S.2.1 56 k = Int32.ofNat (ord k)) (K1 : ∀ o, o < m → imB ins nu (key1 D ord t) r o = true → Q (.inl (some (.int (Int32.ofNat o)))) S) (K0 : (∀ o, o < m → imB ins nu (key1 D ord t) r o = false) → Q (.inl (some (.int (-1)))) S) : Wp (d + 3) b 201 0 [.ref 46, .int (Int32.ofNat r), .int (Int32.ofNat t)] [] S Q := by
  obtain ⟨h0, hD, h1, hm, h2, hl⟩ := hB
  have loop : ∀ n o, o + n = m → (∀ c, c < o → imB ins nu (key1 D ord t) r c = false) → Wp (d + 3) b 201 2 [.ref 46, .int (Int32.ofNat r), .int (Int32.ofNat t), .int (Int32.ofNat o)] [] S Q := by
    intro n
    induction n with
    | zero =>
      intro o ho h
      have ho : o = m := ho
      subst ho
      refine b201_2 (fun _ => b201_36 (K0 h)) (fun z => absurd ?_ z)
      rw [h1]; exact (i_le (by omega) (by omega)).2 (Nat.le_refl _)
    | succ n ih =>
      intro o ho h
      have hom : o < m := by omega
      have no : imB ins nu (key1 D ord t) r o = false → Wp (d + 3) b 201 30 [.ref 46, .int (Int32.ofNat r), .int (Int32.ofNat t), .int (Int32.ofNat o)] [] S Q := by
        intro hf
        refine b201_30 ?_
        rw [i_suc]
        refine ih (o + 1) (by omega) (fun c hc => ?_)
        by_cases e : c = o
        · rw [e]; exact hf
        · exact h c (by omega)
      refine b201_2 (fun z => ?_) (fun _ => b201_10 (s159n hom h1 hm h2) ?_)
      · rw [h1] at z
        have := (i_le (by omega) (by omega)).1 z
        omega
      rintro _ _ ⟨rfl, rfl⟩
      refine b201_15 (fun hn => no ?_) (fun hi => b201_18 (P := Vx (bi (parB (act (key1 D ord t) (nu r)) (nu o))) S) (w203 hD hm hR hM h0 hr hom ht hord ⟨_, rfl, rfl, rfl⟩) ?_)
      · unfold imB; rw [bi0.1 hn]; rfl
      rintro _ _ ⟨rfl, rfl⟩
      refine b201_25 (fun hn => no ?_) (fun hp => b201_28 (K1 o hom ?_))
      · unfold imB; rw [bi0.1 hn, Bool.and_false]
      · unfold imB; rw [bi1.1 hi, bi1.1 hp]; rfl
  exact b201_0 (loop m 0 (by omega) (fun c hc => by omega))
theorem w204 {d t : Nat} {ord : Nat → Nat} {S : St} {Q : Out → St → Prop} (hB : MB D m ins S) (hR : RWd D m nu) (hM : MTl D m nu S) (ht : t < 16) (hord : ∀ k, k < D → ord k < D ∧ S.2.1 56 k = Int32.ofNat (ord k)) (K1 : ∀ S1, Fz [] [57] S S1 → fitB m ins nu (key1 D ord t) = true → (∀ r, r < m → tb ins r = true → ∃ o, o < m ∧ imB ins nu (key1 D ord t) r o = true ∧ S1.2.1 57 r = Int32.ofNat o) → Q (.inl (some (.int 1))) S1) (K0 : ∀ S1, Fz [] [57] S S1 → fitB m ins nu (key1 D ord t) = false → Q (.inl (some (.int 0))) S1) : Wp (d + 4) b 204 0 [.ref 46, .int (Int32.ofNat t)] [] S Q := by
  obtain ⟨h0, hD, h1, hm, h2, hl⟩ := id hB
  have loop : ∀ n r S', r + n = m → Fz [] [57] S S' → (∀ o, o < r → tb ins o = true → ∃ c, c < m ∧ imB ins nu (key1 D ord t) o c = true ∧ S'.2.1 57 o = Int32.ofNat c) → Wp (d + 4) b 204 2 [.ref 46, .int (Int32.ofNat t), .int (Int32.ofNat r)] [] S' Q := by
    intro n
    induction n with
    | zero =>
      intro r S' hr hF h
      have hr : r = m := hr
      subst hr
      refine b204_2 (fun _ => b204_51 (Or.inr rfl) (K1 S' hF ?_ h)) (fun z => absurd ?_ z)
      · rw [fitB_iff]
        intro r hr hi
        obtain ⟨o, o1, o2, _⟩ := h r hr hi
        exact ⟨o, o1, o2⟩
      · rw [hF.f (by simp), h1]; exact (i_le (by omega) (by omega)).2 (Nat.le_refl _)
    | succ n ih =>
      intro r S' hr hF h
      have hrm : r < m := by omega
      have hB' := hB.of hF (by simp) (by simp) (by simp)
      have hM' : MTl D m nu S' := fun r k hr hk => by rw [hF.a (by decide)]; exact hM r k hr hk
      refine b204_2 (fun z => ?_) (fun _ => b204_10 (s159n hrm hB'.2.2.1 hm hB'.2.2.2.2.1) ?_)
      · rw [hF.f (by simp), h1] at z
        have := (i_le (by omega) (by omega)).1 z
        omega
      rintro _ _ ⟨rfl, rfl⟩
      refine b204_15 (fun hi => ?_) (fun hn => b204_18 (b204_45 ?_))
      · have hi := bi1.1 hi
        refine b204_21 (P := fun x S1 => S' = S1 ∧ ((∃ o, o < m ∧ imB ins nu (key1 D ord t) r o = true ∧ x = Int32.ofNat o) ∨ (x = -1 ∧ ∀ o, o < m → imB ins nu (key1 D ord t) r o = false))) (w201 hB' hR hM' hrm ht (fun k hk => ⟨(hord k hk).1, by rw [hF.a (by decide)]; exact (hord k hk).2⟩) (fun o o1 o2 => ⟨_, rfl, rfl, Or.inl ⟨o, o1, o2, rfl⟩⟩) (fun hno => ⟨_, rfl, rfl, Or.inr ⟨rfl, hno⟩⟩)) ?_
        rintro x _ ⟨rfl, hx⟩
        have vp := i_vp (k := r) (n := 20) (by omega) (by omega)
        refine b204_32 vp vp (fun z => b204_45 ?_) (fun z => b204_43 (Or.inl rfl) (K0 _ (hF.seta (by decide)) ?_))
        · rw [i_cl (by omega), seta_same] at z
          rw [i_cl (by omega), i_suc]
          refine ih (r + 1) _ (by omega) (hF.seta (by decide)) (fun c hc hic => ?_)
          by_cases e : c = r
          · rw [e, seta_same]
            rcases hx with ⟨o, o1, o2, o3⟩ | ⟨hx, _⟩
            · exact ⟨o, o1, o2, o3⟩
            · exact absurd hx z
          · obtain ⟨o, o1, o2, o3⟩ := h c (by omega) hic
            exact ⟨o, o1, o2, (seta_ne (by omega)).trans o3⟩
        · rw [i_cl (by omega), seta_same] at z
          have z : x = -1 := Classical.byContradiction z
          rcases hx with ⟨o, o1, o2, o3⟩ | ⟨_, hno⟩
          · exact absurd (o3.symm.trans z) (nat_m1 (by omega))
          · refine bneg (fun hf => ?_)
            obtain ⟨o, o1, o2⟩ := fitB_iff.1 hf r hrm hi
            rw [hno o o1] at o2; cases o2
      · rw [i_suc]
        refine ih (r + 1) S' (by omega) hF (fun o ho hi => h o ?_ hi)
        have hn : tb ins r = false := bi0.1 (Classical.byContradiction hn)
        have : ¬ o = r := fun e => by rw [e, hn] at hi; cases hi
        omega
  exact b204_0 (loop m 0 S (by omega) Fz.refl (fun o ho => by omega))
/-- what stands while it goes on -/
def MI (m : Nat) (ins : Int32) (nu : Nat → Nat → Int) (L : List Nat) (S : St) : Prop := S.1 46 33 = Int32.ofNat (wayN m ins nu L) ∧ ∀ r, r < m → tb ins r = true → S.2.1 58 r = symI m ins nu L r
/-- all ways of turning, the sides in this order -/
theorem w205e {d : Nat} {x2 : Int32} {ord : Nat → Nat} {S : St} {L : List Nat} {Q : Out → St → Prop} (hB : MB D m ins S) (hR : RWd D m nu) (hM : MTl D m nu S) (hord : ∀ k, k < D → ord k < D ∧ S.2.1 56 k = Int32.ofNat (ord k)) (hgk : ∀ t, t < 2 ^ D → GK (key1 D ord t)) (hI : MI m ins nu L S) (K : ∀ S1, Fz [(46, 33)] [57, 58] S S1 → MI m ins nu (L ++ (List.range (2 ^ D)).map (key1 D ord)) S1 → Q (.inl none) S1) : Wp (d + 5) b 205 0 [.ref 46, .int (Int32.ofNat D), .int x2] [] S Q := by
  obtain ⟨h0, hD, h1, hm, h2, hl⟩ := id hB
  have p16 : 2 ^ D ≤ 16 := by rcases hD with rfl | rfl <;> decide
  have eD : ((1 : Int32) <<< (Int32.ofNat D &&& 31)) = Int32.ofNat (2 ^ D) := by rcases hD with rfl | rfl <;> decide
  refine b205_0 (fun _ => b205_55 ?_) (fun z => absurd (by rw [h0]; exact (i_le (by omega) (by omega)).2 (Nat.le_refl _)) z)
  have loop : ∀ n t S', t + n = 2 ^ D → Fz [(46, 33)] [57, 58] S S' → MI m ins nu (L ++ (List.range t).map (key1 D ord)) S' → Wp (d + 5) b 205 57 [.ref 46, .int (Int32.ofNat D), .int x2, .int (Int32.ofNat t)] [] S' Q := by
    intro n
    induction n with
    | zero =>
      intro t S' ht hF hI'
      have ht : t = 2 ^ D := ht
      subst ht
      refine b205_57 (fun _ => b205_140 (K S' hF hI')) (fun z => absurd ?_ z)
      rw [hF.f (by decide), h0, eD]; exact (i_le (by omega) (by omega)).2 (Nat.le_refl _)
    | succ n ih =>
      intro t S' ht hF hI'
      have hgt := hgk t (by omega)
      have hB' := hB.of hF (by decide) (by decide) (by decide)
      have hM' : MTl D m nu S' := fun r k hr hk => by rw [hF.a (by decide)]; exact hM r k hr hk
      have next : ∀ S2, Fz [(46, 33)] [57, 58] S S2 → MI m ins nu (L ++ (List.range t).map (key1 D ord) ++ [key1 D ord t]) S2 → Wp (d + 5) b 205 134 [.ref 46, .int (Int32.ofNat D), .int x2, .int (Int32.ofNat t)] [] S2 Q := by
        intro S2 f2 g2
        refine b205_134 ?_
        rw [i_suc]
        refine ih (t + 1) S2 (by omega) f2 ?_
        rw [List.range_succ, List.map_append, ← List.append_assoc]
        exact g2
      generalize L ++ (List.range t).map (key1 D ord) = L' at *
      refine b205_57 (fun z => ?_) (fun _ => b205_67 (P := fun x S2 => Fz [] [57] S' S2 ∧ ((x = 1 ∧ fitB m ins nu (key1 D ord t) = true ∧ ∀ r, r < m → tb ins r = true → ∃ o, o < m ∧ imB ins nu (key1 D ord t) r o = true ∧ S2.2.1 57 r = Int32.ofNat o) ∨ (x = 0 ∧ fitB m ins nu (key1 D ord t) = false))) (w204 hB' hR hM' (by omega) (fun k hk => ⟨(hord k hk).1, by rw [hF.a (by decide)]; exact (hord k hk).2⟩) (fun S2 a1 a2 a3 => ⟨_, rfl, a1, Or.inl ⟨rfl, a2, a3⟩⟩) (fun S2 a1 a2 => ⟨_, rfl, a1, Or.inr ⟨rfl, a2⟩⟩)) ?_)
      · rw [hF.f (by decide), h0, eD] at z
        have := (i_le (by omega) (by omega)).1 z
        omega
      rintro x S2 ⟨a1, ⟨rfl, a2, a3⟩ | ⟨rfl, a2⟩⟩
      · refine b205_72 (fun _ => b205_78 ?_) (fun z => absurd (by decide) z)
        have fS2 : Fz [(46, 33)] [57, 58] S S2 := hF.trans (a1.mono (by simp) (by decide))
        have e33 : (setI S2 46 33 (S2.1 46 33 + 1)).1 46 33 = Int32.ofNat (wayN m ins nu (L' ++ [key1 D ord t])) := by
          rw [seti_same, a1.f (by simp), hI'.1, i_suc, wayN_one, if_pos a2]
        have upd : ∀ n r S3, r + n = m → Fz [(46, 33)] [58] S2 S3 → S3.1 46 33 = Int32.ofNat (wayN m ins nu (L' ++ [key1 D ord t])) → (∀ o, o < r → tb ins o = true → S3.2.1 58 o = symI m ins nu (L' ++ [key1 D ord t]) o) → (∀ o, r ≤ o → S3.2.1 58 o = S2.2.1 58 o) → Wp (d + 5) b 205 91 [.ref 46, .int (Int32.ofNat D), .int x2, .int (Int32.ofNat t), .int (Int32.ofNat r)] [] S3 Q := by
          intro n
          induction n with
          | zero =>
            intro r S3 hr f3 e9 e58 _
            have hr : r = m := hr
            subst hr
            refine b205_91 (fun _ => next S3 (fS2.trans (f3.mono (by decide) (by decide))) ⟨e9, e58⟩) (fun z => absurd ?_ z)
            rw [f3.f (by decide), a1.f (by simp), hB'.2.2.1]; exact (i_le (by omega) (by omega)).2 (Nat.le_refl _)
          | succ n ihr =>
            intro r S3 hr f3 e9 e58 e58'
            have hrm : r < m := by omega
            have hB3 : MB D m ins S3 := (hB'.of a1 (by simp) (by simp) (by simp)).of f3 (by decide) (by decide) (by decide)
            refine b205_91 (fun z => ?_) (fun _ => b205_100 (s159n hrm hB3.2.2.1 hm hB3.2.2.2.2.1) ?_)
            · rw [hB3.2.2.1] at z
              have := (i_le (by omega) (by omega)).1 z
              omega
            rintro _ _ ⟨rfl, rfl⟩
            have vp := i_vp (k := r) (n := 20) (by omega) (by omega)
            refine b205_106 (fun hn => b205_128 ?_) (fun hi => b205_109 vp vp vp (b205_128 ?_))
            · rw [i_suc]
              refine ihr (r + 1) S3 (by omega) f3 e9 (fun o ho hi => e58 o ?_ hi) (fun o ho => e58' o (by omega))
              have : ¬ o = r := fun e => by rw [e, bi0.1 hn] at hi; cases hi
              omega
            · have hi := bi1.1 hi
              obtain ⟨o, o1, o2, o3⟩ := a3 r hrm hi
              rw [i_cl (by omega), i_suc, f3.a (j := 57) (by decide) r, o3]
              refine ihr (r + 1) _ (by omega) (f3.seta (by decide)) e9 (fun c hc hic => ?_) (fun c hc => (seta_ne (by omega)).trans (e58' c (by omega)))
              by_cases e : c = r
              · subst e
                rw [seta_same, e58' c (Nat.le_refl _), a1.a (by decide), hI'.2 c hrm hic]
                exact (symI_one hm hR hrm hgt o1 a2 o2).symm
              · rw [seta_ne (by omega)]; exact e58 c (by omega) hic
        exact upd m 0 _ (by omega) (Fz.refl.seti (by decide)) e33 (fun o ho => by omega) (fun _ _ => rfl)
      · refine b205_72 (fun z => absurd rfl z) (fun _ => b205_75 (next S2 (hF.trans (a1.mono (by simp) (by decide))) ⟨?_, fun r hr hi => ?_⟩))
        · rw [a1.f (by simp), hI'.1, wayN_one, if_neg (by rw [a2]; decide), Nat.add_zero]
        · rw [a1.a (by decide), hI'.2 r hr hi, symI_no a2]
  exact loop (2 ^ D) 0 S (by omega) Fz.refl (by rw [List.range_zero, List.map_nil, List.append_nil]; exact hI)
end MSYM
