/-! HOW MANY WAYS: parts that don't come to one another -/
/-- the world of rays that are in -/
def Wd (bs : Nat → Int32) (F : List Int32) (m : Nat) (ins : Int32) : Prop := m ≤ 20 ∧ Low m ins ∧ (∀ r, r < m → sb (bs r) ins) ∧ (∀ r o, r < m → tb (bs r) o = true → tb (bs o) r = true) ∧ (∀ f, f ∈ F → sb f ins) ∧ (∀ f, f ∈ F → ∀ r o, tb f r = true → tb f o = true → r ≠ o → tb (bs r) o = true) ∧ (∀ f, f ∈ F → 2 ≤ pcn f) ∧ (∀ r, r < m → tb (bs r) r = false)
/-- chosen within a part -/
def LV (bs : Nat → Int32) (F : List Int32) (P y T : Int32) : Prop := sb T P ∧ (∀ r, tb T r = true → ∀ j, ¬ (tb (bs r) j = true ∧ tb T j = true)) ∧ (∀ f, f ∈ F → f &&& y = 0 → (∃ k, tb f k = true ∧ tb P k = true) → ∃ k, tb f k = true ∧ tb T k = true)
noncomputable def Wn (bs : Nat → Int32) (F : List Int32) (P y : Int32) : Nat := cd (LV bs F P y)
/-- a part of what is open, closed -/
def Cls (bs : Nat → Int32) (ins P y n : Int32) : Prop := (∀ k, tb P k = true → tb ins k = true ∧ tb y k = false ∧ tb n k = false) ∧ (∀ r, tb P r = true → ∀ o, tb ins o = true → tb y o = false → tb n o = false → tb (bs r) o = true → tb P o = true)
theorem bneg {a : Bool} (h : ¬ a = true) : a = false := by
  cases a
  · rfl
  · exact absurd rfl h
theorem bpos {a : Bool} (h : ¬ a = false) : a = true := by
  cases a
  · exact absurd rfl h
  · rfl
theorem or_t {s t : Int32} {k : Nat} : tb (s ||| t) k = true ↔ (tb s k = true ∨ tb t k = true) := by rw [tb_or, Bool.or_eq_true]
theorem and_t {s t : Int32} {k : Nat} : tb (s &&& t) k = true ↔ (tb s k = true ∧ tb t k = true) := by rw [tb_and, Bool.and_eq_true]
theorem dif_t {s t : Int32} {k : Nat} : tb (s &&& (t ^^^ -1)) k = true ↔ (tb s k = true ∧ tb t k = false) := by rw [tb_diff, Bool.and_eq_true, Bool.not_eq_true']
theorem and_n {s t : Int32} (h : s &&& t = 0) {k : Nat} (h1 : tb s k = true) : tb t k = false := by
  cases e : tb t k
  · rfl
  · exact absurd ⟨h1, e⟩ (and0.1 h k (tb_lt h1))
theorem and_e {s t : Int32} (h : ¬ s &&& t = 0) : ∃ k, tb s k = true ∧ tb t k = true := by
  obtain ⟨k, hk⟩ := ne0 h
  exact ⟨k, and_t.1 hk⟩
theorem pcn_one {s : Int32} (h : pcn s = 1) {j k : Nat} (hj : tb s j = true) (hk : tb s k = true) : j = k := by
  refine Classical.byContradiction fun q => ?_
  have hk32 := tb_lt hk
  have l1 : pcn (bit k) < pcn s := by
    refine pcn_lt (fun z hz => ?_) (fun e => ?_)
    · rw [tb_bit hk32] at hz
      have : z = k := by simpa using hz
      subst this; exact hk
    · rw [← e, tb_bit hk32] at hj
      exact q (by simpa using hj)
  have l2 : ¬ bit k = 0 := by
    intro e
    have := tb_bit hk32 k
    rw [e, tb_zero] at this
    simp at this
  have := pcn_drop l2
  omega
section WAYS
variable {bs : Nat → Int32} {F : List Int32} {m : Nat} {ins : Int32}
theorem left_in {P y n f : Int32} (hW : Wd bs F m ins) (hC : Cls bs ins P y n) (hf : f ∈ F) (hfy : f &&& y = 0) {k j : Nat} (hk : tb f k = true) (hkP : tb P k = true) (hj : tb f j = true) (hjn : tb n j = false) : tb P j = true := by
  obtain ⟨_, _, _, _, w5, w6, _⟩ := hW
  by_cases e : k = j
  · subst e; exact hkP
  · exact hC.2 k hkP j (w5 f hf j hj) (and_n hfy hj) hjn (w6 f hf k j hk hj e)
theorem abo_of {P y n y' n' T : Int32} (hW : Wd bs F m ins) (hG : Goo bs F m y n) (hC : Cls bs ins P y n) (hT : LV bs F P y T) (h4 : sb n' (n ||| P)) (k1 : sb y' (y ||| T)) (k2 : ∀ k, ¬ (tb n' k = true ∧ tb T k = true)) : Abo bs F m y' n' (y ||| T) (n ||| (P &&& (T ^^^ -1))) := by
  obtain ⟨w1, w2, w3, w4, w5, w6, w7⟩ := id hW
  obtain ⟨g1, g2, g3, g4⟩ := hG
  obtain ⟨t1, t2, t3⟩ := hT
  have dis : ∀ k, ¬ (tb (y ||| T) k = true ∧ tb (n ||| (P &&& (T ^^^ -1))) k = true) := by
    rintro k ⟨a, b⟩
    rw [or_t] at a b
    rw [dif_t] at b
    rcases a with a | a
    · rcases b with b | b
      · exact g1 k ⟨a, b⟩
      · rw [(hC.1 k b.1).2.1] at a; cases a
    · rcases b with b | b
      · rw [(hC.1 k (t1 k a)).2.2] at b; cases b
      · rw [a] at b; cases b.2
  refine ⟨⟨dis, fun f hf hs => ?_, fun r hr hq o ho => ?_, fun f hf hp j hj => ?_⟩, k1, fun k hk => ?_⟩
  · by_cases hfy : f &&& y = 0
    · by_cases hP : ∃ k, tb f k = true ∧ tb P k = true
      · obtain ⟨k, a, b⟩ := t3 f hf hfy hP
        exact dis k ⟨or_t.2 (Or.inr b), hs k a⟩
      · refine g2 f hf (fun k hk => ?_)
        rcases or_t.1 (hs k hk) with q | q
        · exact q
        · exact absurd ⟨k, hk, (dif_t.1 q).1⟩ hP
    · obtain ⟨k, a, b⟩ := and_e hfy
      exact dis k ⟨or_t.2 (Or.inl b), hs k a⟩
  · rcases or_t.1 hq with q | q
    · exact or_t.2 (Or.inl (g3 r hr q o ho))
    · have hP := t1 r q
      cases en : tb n o
      · cases ey : tb y o
        · refine or_t.2 (Or.inr (dif_t.2 ⟨hC.2 r hP o (w3 r hr o ho) ey en ho, ?_⟩))
          exact bneg (fun e => t2 r q o ⟨ho, e⟩)
        · have hom : o < m := w2 o (w3 r hr o ho)
          have := g3 o hom ey r (w4 r o hr ho)
          rw [(hC.1 r hP).2.2] at this
          cases this
      · exact or_t.2 (Or.inl en)
  · obtain ⟨j1, j2⟩ := dif_t.1 hj
    by_cases hfy : f &&& y = 0
    · by_cases hP : ∃ k, tb f k = true ∧ tb P k = true
      · obtain ⟨k, a, b⟩ := hP
        have jn : tb n j = false := bneg (fun e => by rw [or_t.2 (Or.inl e)] at j2; cases j2)
        have jP := left_in hW hC hf hfy a b j1 jn
        refine or_t.2 (Or.inr (bpos (fun e => ?_)))
        rw [or_t.2 (Or.inr (dif_t.2 ⟨jP, e⟩))] at j2
        cases j2
      · have e : f &&& ((n ||| (P &&& (T ^^^ -1))) ^^^ -1) = f &&& (n ^^^ -1) := by
          apply tb_ext
          intro k _
          rw [tb_diff, tb_diff, tb_or, tb_diff]
          cases ef : tb f k
          · rfl
          · cases eP : tb P k
            · simp
            · exact absurd ⟨k, ef, eP⟩ hP
        rw [e] at hp hj
        exact or_t.2 (Or.inl (g4 f hf hp j hj))
    · obtain ⟨k, a, b⟩ := and_e hfy
      have hk : tb (f &&& ((n ||| (P &&& (T ^^^ -1))) ^^^ -1)) k = true := dif_t.2 ⟨a, bneg (fun e => dis k ⟨or_t.2 (Or.inl b), e⟩)⟩
      have := pcn_one hp hj hk
      subst this
      exact or_t.2 (Or.inl b)
  · rcases or_t.1 (h4 k hk) with q | q
    · exact or_t.2 (Or.inl q)
    · exact or_t.2 (Or.inr (dif_t.2 ⟨q, bneg (fun e => k2 k ⟨hk, e⟩)⟩))
/-- what is forced stays within the part -/
theorem stay {P y n y' n' Y N : Int32} (hW : Wd bs F m ins) (hG : Goo bs F m y n) (hC : Cls bs ins P y n) (h1 : sb y y') (h2 : sb n n') (h3 : sb y' (y ||| P)) (h4 : sb n' (n ||| P)) (hA : Abo bs F m y' n' Y N) (hl : ∀ Y' N', Abo bs F m y' n' Y' N' → sb Y Y' ∧ sb N N') : sb Y (y ||| P) ∧ sb N (n ||| P) := by
  obtain ⟨w1, w2, w3, w4, w5, w6, w7⟩ := id hW
  obtain ⟨g1, g2, g3, g4⟩ := hG
  obtain ⟨⟨q1, q2, q3, q4⟩, s1, s2⟩ := hA
  have hg : Abo bs F m y' n' (Y &&& (y ||| P)) (N &&& (n ||| P)) := by
    refine ⟨⟨fun k hk => q1 k ⟨(and_t.1 hk.1).1, (and_t.1 hk.2).1⟩, fun f hf hs => q2 f hf (hs.trans (sb_andl _ _)), fun r hr hq o ho => ?_, fun f hf hp j hj => ?_⟩, fun k hk => and_t.2 ⟨s1 k hk, h3 k hk⟩, fun k hk => and_t.2 ⟨s2 k hk, h4 k hk⟩⟩
    · obtain ⟨a, b⟩ := and_t.1 hq
      refine and_t.2 ⟨q3 r hr a o ho, ?_⟩
      rcases or_t.1 b with b | b
      · exact or_t.2 (Or.inl (g3 r hr b o ho))
      · cases en : tb n o
        · cases ey : tb y o
          · exact or_t.2 (Or.inr (hC.2 r b o (w3 r hr o ho) ey en ho))
          · have := g3 o (w2 o (w3 r hr o ho)) ey r (w4 r o hr ho)
            rw [(hC.1 r b).2.2] at this
            cases this
        · exact or_t.2 (Or.inl en)
    · obtain ⟨j1, j2⟩ := dif_t.1 hj
      by_cases hfy : f &&& y = 0
      · by_cases hP : ∃ k, tb f k = true ∧ tb P k = true
        · obtain ⟨k, a, b⟩ := hP
          have e : f &&& ((N &&& (n ||| P)) ^^^ -1) = f &&& (N ^^^ -1) := by
            apply tb_ext
            intro i _
            rw [tb_diff, tb_diff, tb_and, tb_or]
            cases ef : tb f i
            · rfl
            · cases en : tb n i
              · rw [left_in hW hC hf hfy a b ef en]; simp
              · simp
          rw [e] at hp hj
          have jY := q4 f hf hp j hj
          refine and_t.2 ⟨jY, or_t.2 (Or.inr ?_)⟩
          refine left_in hW hC hf hfy a b j1 (bneg (fun en => ?_))
          have := (dif_t.1 hj).2
          rw [s2 j (h2 j en)] at this
          cases this
        · have e : f &&& ((N &&& (n ||| P)) ^^^ -1) = f &&& (n ^^^ -1) := by
            apply tb_ext
            intro i _
            rw [tb_diff, tb_diff, tb_and, tb_or]
            cases ef : tb f i
            · rfl
            · cases eP : tb P i
              · cases en : tb n i
                · simp
                · rw [s2 i (h2 i en)]; simp
              · exact absurd ⟨i, ef, eP⟩ hP
          rw [e] at hp hj
          have := g4 f hf hp j hj
          rw [and_n hfy (dif_t.1 hj).1] at this
          cases this
      · obtain ⟨k, a, b⟩ := and_e hfy
        have kN : tb N k = false := bneg (fun en => q1 k ⟨s1 k (h1 k b), en⟩)
        have hk : tb (f &&& ((N &&& (n ||| P)) ^^^ -1)) k = true := dif_t.2 ⟨a, by rw [tb_and, kN]; rfl⟩
        have := pcn_one hp hj hk
        subst this
        exact and_t.2 ⟨s1 j (h1 j b), or_t.2 (Or.inl b)⟩
  obtain ⟨a, b⟩ := hl _ _ hg
  exact ⟨a.trans (sb_andr _ _), b.trans (sb_andr _ _)⟩
/-- what remains of a part -/
theorem cls_step {P y n Y N : Int32} (hC : Cls bs ins P y n) (h1 : sb y Y) (h2 : sb n N) : Cls bs ins (P &&& ((Y ||| N) ^^^ -1)) Y N := by
  refine ⟨fun k hk => ?_, fun r hr o ho hy hn hb => ?_⟩
  · obtain ⟨a, b⟩ := dif_t.1 hk
    refine ⟨(hC.1 k a).1, bneg (fun e => ?_), bneg (fun e => ?_)⟩
    · rw [or_t.2 (Or.inl e)] at b; cases b
    · rw [or_t.2 (Or.inr e)] at b; cases b
  · obtain ⟨a, b⟩ := dif_t.1 hr
    refine dif_t.2 ⟨hC.2 r a o ho (bneg (fun e => ?_)) (bneg (fun e => ?_)) hb, ?_⟩
    · rw [h1 o e] at hy; cases hy
    · rw [h2 o e] at hn; cases hn
    · rw [tb_or, hy, hn]; rfl
theorem ways_step {P y n y' n' Y N : Int32} {c : Bool} (hW : Wd bs F m ins) (hG : Goo bs F m y n) (hC : Cls bs ins P y n) (h1 : sb y y') (h2 : sb n n') (h3 : sb y' (y ||| P)) (h4 : sb n' (n ||| P)) (hfc : Fc bs F m y' n' Y N c) : cd (fun T => LV bs F P y T ∧ sb y' (y ||| T) ∧ ∀ k, ¬ (tb n' k = true ∧ tb T k = true)) = if c = true then 0 else Wn bs F (P &&& ((Y ||| N) ^^^ -1)) Y := by
  obtain ⟨w1, w2, w3, w4, w5, w6, w7⟩ := id hW
  obtain ⟨_, _, hfc⟩ := hfc
  rcases hfc with ⟨rfl, hA, hl⟩ | ⟨rfl, hno⟩
  · rw [if_neg (by decide)]
    obtain ⟨st1, st2⟩ := stay hW hG hC h1 h2 h3 h4 hA hl
    obtain ⟨⟨q1, q2, q3, q4⟩, s1, s2⟩ := id hA
    have hin : ∀ {k}, tb P k = true → k < 20 := fun hk => by
      have := w2 _ (hC.1 _ hk).1
      omega
    refine cd_bij (fun T => T &&& (P &&& ((Y ||| N) ^^^ -1))) (fun T => T ||| (Y &&& (y ^^^ -1))) ?_ ?_ ?_ ?_
    · rintro T hT ⟨hL, k1, k2⟩
      obtain ⟨b1, b2⟩ := hl _ _ (abo_of hW hG hC hL h4 k1 k2)
      obtain ⟨t1, t2, t3⟩ := id hL
      refine ⟨low_and hT, sb_andr _ _, fun r hr j hj => t2 r (and_t.1 hr).1 j ⟨hj.1, (and_t.1 hj.2).1⟩, fun f hf hfY hx => ?_⟩
      obtain ⟨k, a, b⟩ := hx
      have hfy : f &&& y = 0 := and0.2 (fun i hi q => by
        have := and_n hfY q.1
        rw [s1 i (h1 i q.2)] at this
        cases this)
      obtain ⟨i, i1, i2⟩ := t3 f hf hfy ⟨k, a, (dif_t.1 b).1⟩
      refine ⟨i, i1, and_t.2 ⟨i2, dif_t.2 ⟨t1 i i2, ?_⟩⟩⟩
      have e1 : tb Y i = false := and_n hfY i1
      have e2 : tb N i = false := bneg (fun e => by
        rcases or_t.1 (b2 i e) with z | z
        · rw [(hC.1 i (t1 i i2)).2.2] at z; cases z
        · have := (dif_t.1 z).2
          rw [i2] at this; cases this)
      rw [tb_or, e1, e2]; rfl
    · rintro T hT ⟨t1, t2, t3⟩
      have yP : ∀ k, tb (Y &&& (y ^^^ -1)) k = true → tb P k = true := fun k hk => by
        obtain ⟨a, b⟩ := dif_t.1 hk
        rcases or_t.1 (st1 k a) with q | q
        · rw [q] at b; cases b
        · exact q
      have tP : ∀ k, tb T k = true → tb P k = true ∧ tb Y k = false ∧ tb N k = false := fun k hk => by
        obtain ⟨a, b⟩ := dif_t.1 (t1 k hk)
        refine ⟨a, bneg (fun e => ?_), bneg (fun e => ?_)⟩
        · rw [or_t.2 (Or.inl e)] at b; cases b
        · rw [or_t.2 (Or.inr e)] at b; cases b
      refine ⟨low_or hT (fun k hk => hin (yP k hk)), ⟨sb_or (fun k hk => (tP k hk).1) yP, fun r hr j hj => ?_, fun f hf hfy hx => ?_⟩, fun k hk => ?_, fun k hk => ?_⟩
      · obtain ⟨j1, j2⟩ := hj
        rcases or_t.1 hr with r1 | r1 <;> rcases or_t.1 j2 with j3 | j3
        · exact t2 r r1 j ⟨j1, j3⟩
        · have jY := (dif_t.1 j3).1
          have rm : r < m := w2 r (hC.1 r (tP r r1).1).1
          have := q3 j (w2 j (w3 r rm j j1)) jY r (w4 r j rm j1)
          rw [(tP r r1).2.2] at this
          cases this
        · have rY := (dif_t.1 r1).1
          have rm : r < m := w2 r (hC.1 r (yP r r1)).1
          have := q3 r rm rY j j1
          rw [(tP j j3).2.2] at this
          cases this
        · have rY := (dif_t.1 r1).1
          have rm : r < m := w2 r (hC.1 r (yP r r1)).1
          exact q1 j ⟨(dif_t.1 j3).1, q3 r rm rY j j1⟩
      · obtain ⟨k, a, b⟩ := hx
        by_cases hfY : f &&& Y = 0
        · have hne : ∃ i, tb f i = true ∧ tb N i = false := by
            refine Classical.byContradiction fun q => q2 f hf (fun i hi => bpos (fun e => q ⟨i, hi, e⟩))
          obtain ⟨i, i1, i2⟩ := hne
          have iP := left_in hW hC hf hfy a b i1 (bneg (fun e => by rw [s2 i (h2 i e)] at i2; cases i2))
          obtain ⟨z, z1, z2⟩ := t3 f hf hfY ⟨i, i1, dif_t.2 ⟨iP, by rw [tb_or, and_n hfY i1, i2]; rfl⟩⟩
          exact ⟨z, z1, or_t.2 (Or.inl z2)⟩
        · obtain ⟨i, i1, i2⟩ := and_e hfY
          exact ⟨i, i1, or_t.2 (Or.inr (dif_t.2 ⟨i2, and_n hfy i1⟩))⟩
      · cases ey : tb y k
        · exact or_t.2 (Or.inr (or_t.2 (Or.inr (dif_t.2 ⟨s1 k hk, ey⟩))))
        · exact or_t.2 (Or.inl ey)
      · obtain ⟨a, b⟩ := hk
        have kN := s2 k a
        rcases or_t.1 b with b | b
        · rw [(tP k b).2.2] at kN; cases kN
        · exact q1 k ⟨(dif_t.1 b).1, kN⟩
    · rintro T hT ⟨hL, k1, k2⟩
      obtain ⟨b1, b2⟩ := hl _ _ (abo_of hW hG hC hL h4 k1 k2)
      obtain ⟨t1, t2, t3⟩ := id hL
      refine sb_anti (sb_or (sb_andl _ _) (fun k hk => ?_)) (fun k hk => ?_)
      · obtain ⟨a, b⟩ := dif_t.1 hk
        rcases or_t.1 (b1 k a) with z | z
        · rw [z] at b; cases b
        · exact z
      · have kP := t1 k hk
        cases eY : tb Y k
        · refine or_t.2 (Or.inl (and_t.2 ⟨hk, dif_t.2 ⟨kP, ?_⟩⟩))
          have e2 : tb N k = false := bneg (fun e => by
            rcases or_t.1 (b2 k e) with z | z
            · rw [(hC.1 k kP).2.2] at z; cases z
            · have := (dif_t.1 z).2
              rw [hk] at this; cases this)
          rw [tb_or, eY, e2]; rfl
        · exact or_t.2 (Or.inr (dif_t.2 ⟨eY, (hC.1 k kP).2.1⟩))
    · rintro T hT ⟨t1, _, _⟩
      refine sb_anti (fun k hk => ?_) (fun k hk => and_t.2 ⟨or_t.2 (Or.inl hk), t1 k hk⟩)
      obtain ⟨a, b⟩ := and_t.1 hk
      rcases or_t.1 a with a | a
      · exact a
      · have := (dif_t.1 b).2
        rw [or_t.2 (Or.inl (dif_t.1 a).1)] at this
        cases this
  · rw [if_pos rfl]
    refine cd_zero (fun T _ h => ?_)
    exact hno _ _ (abo_of hW hG hC h.1 h4 h.2.1 h.2.2)
/-- parts that don't come to one another multiply -/
theorem ways_mul {P R y n : Int32} (hW : Wd bs F m ins) (hC : Cls bs ins P y n) (hR : sb R P) (hcl : ∀ r, tb R r = true → ∀ o, tb P o = true → tb (bs r) o = true → tb R o = true) : Wn bs F R y * Wn bs F (P &&& (R ^^^ -1)) y = Wn bs F P y ∧ Cls bs ins R y n ∧ Cls bs ins (P &&& (R ^^^ -1)) y n := by
  obtain ⟨w1, w2, w3, w4, w5, w6, w7⟩ := id hW
  have cross : ∀ r o, tb P r = true → tb R r = false → tb R o = true → tb (bs r) o = true → False := fun r o hr hrR ho hb => by
    have rm : r < m := w2 r (hC.1 r hr).1
    have := hcl o ho r hr (w4 r o rm hb)
    rw [hrR] at this
    cases this
  refine ⟨?_, ⟨fun k hk => hC.1 k (hR k hk), fun r hr o a b c d => hcl r hr o (hC.2 r (hR r hr) o a b c d) d⟩, ⟨fun k hk => hC.1 k (dif_t.1 hk).1, fun r hr o a b c d => ?_⟩⟩
  · refine cd_mul (P := R) (P' := P &&& (R ^^^ -1)) (fun k hk => ?_) (fun T h => h.1) (fun T h => h.1) ?_ ?_
    · have := (dif_t.1 hk.2).2
      rw [hk.1] at this
      cases this
    · rintro T T' _ _ ⟨a1, a2, a3⟩ ⟨b1, b2, b3⟩
      refine ⟨sb_or (a1.trans hR) (b1.trans (sb_andl _ _)), fun r hr j hj => ?_, fun f hf hfy hx => ?_⟩
      · obtain ⟨j1, j2⟩ := hj
        rcases or_t.1 hr with r1 | r1 <;> rcases or_t.1 j2 with j3 | j3
        · exact a2 r r1 j ⟨j1, j3⟩
        · obtain ⟨z1, z2⟩ := dif_t.1 (b1 j j3)
          have rm : r < m := w2 r (hC.1 r (hR r (a1 r r1))).1
          have := hcl r (a1 r r1) j z1 j1
          rw [z2] at this
          cases this
        · obtain ⟨z1, z2⟩ := dif_t.1 (b1 r r1)
          exact cross r j z1 z2 (a1 j j3) j1
        · exact b2 r r1 j ⟨j1, j3⟩
      · obtain ⟨k, k1, k2⟩ := hx
        cases e : tb R k
        · obtain ⟨z, z1, z2⟩ := b3 f hf hfy ⟨k, k1, dif_t.2 ⟨k2, e⟩⟩
          exact ⟨z, z1, or_t.2 (Or.inr z2)⟩
        · obtain ⟨z, z1, z2⟩ := a3 f hf hfy ⟨k, k1, e⟩
          exact ⟨z, z1, or_t.2 (Or.inl z2)⟩
    · rintro T _ ⟨a1, a2, a3⟩
      have same : ∀ f, f ∈ F → ∀ k j, tb f k = true → tb P k = true → tb f j = true → tb P j = true → tb R k = tb R j := by
        intro f hf k j k1 k2 j1 j2
        by_cases e : k = j
        · rw [e]
        · cases ek : tb R k <;> cases ej : tb R j
          · rfl
          · exact absurd (w6 f hf k j k1 j1 e) (fun hb => cross k j k2 ek ej hb)
          · exact absurd (w6 f hf j k j1 k1 (fun q => e q.symm)) (fun hb => cross j k j2 ej ek hb)
          · rfl
      refine ⟨fun k hk => ?_, ⟨sb_andr _ _, fun r hr j hj => a2 r (and_t.1 hr).1 j ⟨hj.1, (and_t.1 hj.2).1⟩, fun f hf hfy hx => ?_⟩, ⟨sb_andr _ _, fun r hr j hj => a2 r (and_t.1 hr).1 j ⟨hj.1, (and_t.1 hj.2).1⟩, fun f hf hfy hx => ?_⟩⟩
      · cases e : tb R k
        · exact or_t.2 (Or.inr (dif_t.2 ⟨a1 k hk, e⟩))
        · exact or_t.2 (Or.inl e)
      · obtain ⟨k, k1, k2⟩ := hx
        obtain ⟨z, z1, z2⟩ := a3 f hf hfy ⟨k, k1, hR k k2⟩
        refine ⟨z, z1, and_t.2 ⟨z2, ?_⟩⟩
        rw [← same f hf k z k1 (hR k k2) z1 (a1 z z2)]; exact k2
      · obtain ⟨k, k1, k2⟩ := hx
        obtain ⟨k3, k4⟩ := dif_t.1 k2
        obtain ⟨z, z1, z2⟩ := a3 f hf hfy ⟨k, k1, k3⟩
        refine ⟨z, z1, and_t.2 ⟨z2, dif_t.2 ⟨a1 z z2, ?_⟩⟩⟩
        rw [← same f hf k z k1 k3 z1 (a1 z z2)]; exact k4
  · obtain ⟨r1, r2⟩ := dif_t.1 hr
    have oP := hC.2 r r1 o a b c d
    exact dif_t.2 ⟨oP, bneg (fun e => cross r o r1 r2 e d)⟩
/-- a ray by itself -/
theorem ways_lone {y n : Int32} {l : Nat} (hW : Wd bs F m ins) (hG : Goo bs F m y n) (hC : Cls bs ins (bit l) y n) (hl : l < 20) : Wn bs F (bit l) y = 2 := by
  obtain ⟨w1, w2, w3, w4, w5, w6, w7⟩ := id hW
  have tl : tb (bit l) l = true := by rw [tb_bit (by omega)]; simp
  have only : ∀ k, tb (bit l) k = true → k = l := fun k hk => by
    rw [tb_bit (by omega)] at hk
    simpa using hk
  have hlin := (hC.1 l tl).1
  have lm : l < m := w2 l hlin
  have nofr : ∀ f, f ∈ F → f &&& y = 0 → ¬ ∃ k, tb f k = true ∧ tb (bit l) k = true := by
    rintro f hf hfy ⟨k, k1, k2⟩
    have := only k k2
    subst this
    have e : f &&& (n ^^^ -1) = bit k := by
      refine sb_anti (fun j hj => ?_) (fun j hj => ?_)
      · obtain ⟨j1, j2⟩ := dif_t.1 hj
        exact left_in hW hC hf hfy k1 k2 j1 j2
      · have := only j hj
        subst this
        exact dif_t.2 ⟨k1, (hC.1 j k2).2.2⟩
    have hp : pcn (f &&& (n ^^^ -1)) = 1 := by
      rw [e]
      have : ∀ r : Fin 32, pcn (bit r.val) = 1 := by decide +kernel
      exact this ⟨k, by omega⟩
    have := hG.2.2.2 f hf hp k (by rw [e]; exact k2)
    rw [(hC.1 k k2).2.1] at this
    cases this
  have nob : tb (bs l) l = false := w7.2 l lm
  · show cd _ = 2
    rw [cd_split (fun T => tb T l = true)]
    have c1 : cd (fun T => LV bs F (bit l) y T ∧ tb T l = true) = 1 := by
      refine cd_one (a := bit l) (low_bit hl (by omega)) (fun T _ => ⟨fun h => ?_, ?_⟩)
      · refine sb_anti h.1.1 (fun k hk => ?_)
        rw [only k hk]; exact h.2
      · rintro rfl
        refine ⟨⟨sb.refl _, fun r hr j hj => ?_, fun f hf hfy hx => absurd hx (nofr f hf hfy)⟩, tl⟩
        rw [only r hr, only j hj.2, nob] at hj
        cases hj.1
    have c2 : cd (fun T => LV bs F (bit l) y T ∧ ¬ tb T l = true) = 1 := by
      refine cd_one (a := 0) (low_zero _) (fun T _ => ⟨fun h => ?_, ?_⟩)
      · refine sb_anti (fun k hk => ?_) (sb_zero _)
        have := only k (h.1.1 k hk)
        subst this
        exact absurd hk h.2
      · rintro rfl
        refine ⟨⟨sb_zero _, (fun r hr => by rw [tb_zero] at hr; cases hr), fun f hf hfy hx => absurd hx (nofr f hf hfy)⟩, by rw [tb_zero]; decide⟩
    rw [c1, c2]
theorem ways_none {y : Int32} : Wn bs F 0 y = 1 := by
  refine cd_one (a := 0) (low_zero _) (fun T _ => ⟨fun h => sb_anti h.1 (sb_zero _), ?_⟩)
  rintro rfl
  refine ⟨sb_zero _, (fun r hr => by rw [tb_zero] at hr; cases hr), fun f hf hfy hx => ?_⟩
  obtain ⟨k, _, k2⟩ := hx
  rw [tb_zero] at k2
  cases k2
end WAYS
