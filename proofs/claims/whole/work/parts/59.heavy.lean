/-! THE HEAVIEST SET of rays none of which bar one another -/
-- method 147, on (('r', 32), ('i',))
theorem b147z_0 {d b : Nat} {x1 : Int32} {S : St} {Q : Out → St → Prop} (k1 : x1 < 0 → Wp d b 147 16 [.ref 32, .int x1] [] S Q) (k2 : ¬ (x1 < 0) → Wp d b 147 4 [.ref 32, .int x1] [] S Q) : Wp d b 147 0 [.ref 32, .int x1] [] S Q := wp_blk [(0, 3, 1, 0, 0, 0, 0)] (pc' := 1) (by decide +kernel) (And.intro trivial (wp_if (by decide +kernel : rowIs 147 1 (0, 51, 16, 2, 0, 0, 0) = true) (fun h => (k1 h)) (fun h => (k2 h))))
theorem b147z_4 {d b : Nat} {x1 : Int32} {S : St} {Q : Out → St → Prop} (k1 : (20 : Int32) ≤ x1 → Wp d b 147 16 [.ref 32, .int x1] [] S Q) (k2 : ¬ ((20 : Int32) ≤ x1) → Wp d b 147 10 [.ref 32, .int x1] [] S Q) : Wp d b 147 4 [.ref 32, .int x1] [] S Q := wp_blk [(0, 3, 1, 0, 0, 0, 0), (0, 4, 0, 0, 0, 0, 0), (0, 27, 0, 0, 0, 0, 0)] (pc' := 7) (by decide +kernel) (And.intro trivial (And.intro trivial (And.intro trivial (wp_icmp (by decide +kernel : rowIs 147 7 (0, 52, 16, 3, 0, 0, 0) = true) (fun h => (k1 h)) (fun h => (k2 h))))))
theorem b147z_10 {d b : Nat} {x1 : Int32} {S : St} {Q : Out → St → Prop} (c2 : vp_in x1 20) (k : Wp d b 147 17 [.ref 32, .int x1] [.int (S.2.1 32 (x1).toNatClampNeg)] S Q) : Wp d b 147 10 [.ref 32, .int x1] [] S Q := wp_blk [(0, 4, 0, 0, 0, 0, 0), (0, 3, 1, 0, 0, 0, 0), (0, 21, 0, 0, 0, 0, 0)] (pc' := 13) (by decide +kernel) (And.intro trivial (And.intro trivial (And.intro ⟨c2, trivial⟩ (wp_goto (by decide +kernel : rowIs 147 13 (0, 50, 17, 0, 0, 0, 0) = true) k))))
theorem b147z_16 {d b : Nat} {x1 : Int32} {S : St} {Q : Out → St → Prop} (k : Wp d b 147 17 [.ref 32, .int x1] [.int (0 : Int32)] S Q) : Wp d b 147 16 [.ref 32, .int x1] [] S Q := wp_blk [(0, 0, 0, 0, 0, 0, 0)] (pc' := 17) (by decide +kernel) (And.intro trivial k)
theorem b147z_17 {d b : Nat} {x1 y0 : Int32} {S : St} {Q : Out → St → Prop} (k : Q (.inl (some (.int y0))) S) : Wp d b 147 17 [.ref 32, .int x1] [.int y0] S Q := (wp_ret (by decide +kernel : rowIs 147 17 (0, 54, 0, 0, 0, 0, 0) = true) (fun q => absurd q (by decide)) k)
theorem s147z {d b : Nat} {S : St} {i : Nat} (hi : i < 2147483648) : Wp d b 147 0 [.ref 32, .int (Int32.ofNat i)] [] S (Ri (Vx (if i < 20 then S.2.1 32 i else 0) S)) := by
  refine b147z_0 (fun h => absurd h (i_nneg hi)) (fun _ => b147z_4 (fun h => b147z_16 (b147z_17 ⟨_, rfl, ?_, rfl⟩)) (fun h => b147z_10 (i_vp ?_ (by omega)) (b147z_17 ⟨_, rfl, ?_, rfl⟩)))
  · rw [if_neg (by have := (i_le (a := 20) (by omega) hi).1 h; omega)]
  · have := mt (i_le (a := 20) (by omega) hi).2 h; omega
  · rw [i_cl hi, if_pos (by have := mt (i_le (a := 20) (by omega) hi).2 h; omega)]
def sumI (f : Nat → Int) : Nat → Int
  | 0 => 0
  | n + 1 => sumI f n + f n
theorem sumI_congr {f g : Nat → Int} {n : Nat} (h : ∀ k, k < n → f k = g k) : sumI f n = sumI g n := by
  induction n with
  | zero => rfl
  | succ n ih =>
    unfold sumI
    rw [ih (fun k hk => h k (by omega)), h n (by omega)]
theorem sumI_flip {f g : Nat → Int} {n l : Nat} (hl : l < n) (h : ∀ k, k < n → k ≠ l → f k = g k) (hg : g l = 0) : sumI f n = f l + sumI g n := by
  induction n with
  | zero => omega
  | succ n ih =>
    unfold sumI
    by_cases e : l = n
    · subst e
      rw [sumI_congr (fun k hk => h k (by omega) (by omega)), hg]
      omega
    · rw [ih (by omega) (fun k hk => h k (by omega)), h n (by omega) (fun q => e q.symm)]
      omega
/-- what a set is worth -/
def sc (wt : Nat → Int) (T : Int32) : Int := sumI (fun r => if tb T r = true then wt r else 0) 20
def Ind (bs : Nat → Int32) (T : Int32) : Prop := ∀ r, tb T r = true → ∀ j, ¬ (tb (bs r) j = true ∧ tb T j = true)
theorem sc_zero (wt : Nat → Int) : sc wt 0 = 0 := by
  have : ∀ n, sumI (fun r => if tb 0 r = true then wt r else 0) n = 0 := by
    intro n
    induction n with
    | zero => rfl
    | succ n ih =>
      unfold sumI
      rw [ih, if_neg (by rw [tb_zero]; decide)]
      rfl
  exact this 20
theorem sc_out (wt : Nat → Int) {T : Int32} {r : Nat} (h : tb T r = true) (hr : r < 20) : sc wt T = wt r + sc wt (T &&& (bit r ^^^ -1)) := by
  unfold sc
  rw [sumI_flip (l := r) (g := fun k => if tb (T &&& (bit r ^^^ -1)) k = true then wt k else 0) hr]
  · rw [if_pos h]
  · intro k hk hne
    have : tb (T &&& (bit r ^^^ -1)) k = tb T k := by
      rw [tb_diff, tb_bit (by omega), decide_eq_false hne]
      simp
    rw [this]
  · rw [if_neg]
    rw [tb_diff, tb_bit (by omega)]
    simp
theorem sc_in (wt : Nat → Int) {T : Int32} {r : Nat} (h : tb T r = false) (hr : r < 20) : sc wt (T ||| bit r) = wt r + sc wt T := by
  rw [sc_out wt (r := r) (by rw [tb_or, tb_bit (by omega)]; simp) hr]
  congr 2
  apply tb_ext
  intro k _
  rw [tb_diff, tb_or, tb_bit (by omega)]
  by_cases e : k = r
  · subst e; rw [h]; simp
  · simp [e]
/-- the best of what a set has -/
def HV (bs : Nat → Int32) (wt : Nat → Int) (set : Int32) (v : Int) : Prop := (∃ T, sb T set ∧ Ind bs T ∧ sc wt T = v) ∧ ∀ T, sb T set → Ind bs T → sc wt T ≤ v
theorem Ind.sub {bs : Nat → Int32} {T T' : Int32} (h : Ind bs T) (hs : sb T' T) : Ind bs T' := fun r hr j hj => h r (hs r hr) j ⟨hj.1, hs j hj.2⟩
theorem hv_zero (bs : Nat → Int32) (wt : Nat → Int) : HV bs wt 0 0 := by
  refine ⟨⟨0, sb.refl _, (fun r hr => by rw [tb_zero] at hr; cases hr), sc_zero wt⟩, fun T hT _ => ?_⟩
  have : T = 0 := sb_anti hT (sb_zero _)
  rw [this, sc_zero]
  exact Int.le_refl _
section HEAVY
variable {bs : Nat → Int32} {wt : Nat → Int} {set W : Int32}
theorem hv_take (hs : Low 20 set) (hsym : ∀ r o, r < 20 → o < 20 → tb (bs r) o = true → tb (bs o) r = true) (hirr : ∀ r, r < 20 → tb (bs r) r = false) {r : Nat} {v : Int} (hr : tb set r = true) (hw : 0 < wt r) (hn : bs r &&& set = 0 ∨ ∃ q, bs r &&& set = bit q ∧ q < 20 ∧ wt q < wt r) (h : HV bs wt ((set &&& ((bs r &&& set) ^^^ -1)) &&& (bit r ^^^ -1)) v) : HV bs wt set (wt r + v) := by
  have r20 := hs r hr
  have tl : tb (bit r) r = true := by rw [tb_bit (by omega)]; simp
  have only : ∀ z, tb (bit r) z = true → z = r := fun z hz => by
    rw [tb_bit (by omega)] at hz
    simpa using hz
  have inR : ∀ {z}, tb ((set &&& ((bs r &&& set) ^^^ -1)) &&& (bit r ^^^ -1)) z = true ↔ (tb set z = true ∧ tb (bs r) z = false ∧ z ≠ r) := by
    intro z
    rw [dif_t, dif_t, tb_and]
    constructor
    · rintro ⟨⟨a, b⟩, c⟩
      rw [a, Bool.and_true] at b
      exact ⟨a, b, fun q => by subst q; rw [tl] at c; cases c⟩
    · rintro ⟨a, b, c⟩
      refine ⟨⟨a, by rw [b]; rfl⟩, bneg (fun q => c (only z q))⟩
  obtain ⟨⟨T1, t1, t2, t3⟩, hmax⟩ := h
  constructor
  · refine ⟨T1 ||| bit r, sb_or (fun z hz => (inR.1 (t1 z hz)).1) (fun z hz => by rw [only z hz]; exact hr), fun z hz j hj => ?_, ?_⟩
    · obtain ⟨j1, j2⟩ := hj
      rcases or_t.1 hz with z1 | z1 <;> rcases or_t.1 j2 with j3 | j3
      · exact t2 z z1 j ⟨j1, j3⟩
      · rw [only j j3] at j1
        have a := inR.1 (t1 z z1)
        have := hsym z r (hs z a.1) r20 j1
        rw [a.2.1] at this; cases this
      · rw [only z z1] at j1
        have a := inR.1 (t1 j j3)
        rw [a.2.1] at j1; cases j1
      · rw [only z z1, only j j3, hirr r r20] at j1; cases j1
    · rw [sc_in wt (bneg (fun e => (inR.1 (t1 r e)).2.2 rfl)) r20, t3]
  · intro T hT hI
    cases eT : tb T r
    · by_cases hx : ∃ q, tb T q = true ∧ tb (bs r) q = true
      · obtain ⟨q, q1, q2⟩ := hx
        rcases hn with hn | ⟨p, hn, hp, hlt⟩
        · exact absurd ⟨q2, hT q q1⟩ (and0.1 hn q (tb_lt q1))
        · have hqp : ∀ z, tb (bs r) z = true → tb set z = true → z = p := fun z a c => by
            have : tb (bit p) z = true := by rw [← hn, tb_and, a, c]; rfl
            rw [tb_bit (by omega)] at this
            simpa using this
          have := hqp q q2 (hT q q1)
          subst this
          rw [sc_out wt q1 hp]
          have : sc wt (T &&& (bit q ^^^ -1)) ≤ v := by
            refine hmax _ (fun z hz => ?_) (hI.sub (sb_andl _ _))
            obtain ⟨z1, z2⟩ := dif_t.1 hz
            refine inR.2 ⟨hT z z1, bneg (fun e => ?_), fun e => ?_⟩
            · have := hqp z e (hT z z1)
              subst this
              rw [tb_bit (by omega)] at z2
              simp at z2
            · subst e; rw [eT] at z1; cases z1
          omega
      · have : sc wt T ≤ v := hmax T (fun z hz => inR.2 ⟨hT z hz, bneg (fun e => hx ⟨z, hz, e⟩), fun e => by subst e; rw [eT] at hz; cases hz⟩) hI
        omega
    · rw [sc_out wt eT r20]
      have : sc wt (T &&& (bit r ^^^ -1)) ≤ v := by
        refine hmax _ (fun z hz => ?_) (hI.sub (sb_andl _ _))
        obtain ⟨z1, z2⟩ := dif_t.1 hz
        refine inR.2 ⟨hT z z1, bneg (fun e => hI r eT z ⟨e, z1⟩), fun e => ?_⟩
        subst e; rw [tl] at z2; cases z2
      omega
theorem hv_pivot (hs : Low 20 set) (hsym : ∀ r o, r < 20 → o < 20 → tb (bs r) o = true → tb (bs o) r = true) (hirr : ∀ r, r < 20 → tb (bs r) r = false) {p : Nat} {v1 v2 : Int} (hp : tb set p = true) (h1 : HV bs wt ((set &&& (bit p ^^^ -1)) &&& (bs p ^^^ -1)) v1) (h2 : HV bs wt (set &&& (bit p ^^^ -1)) v2) : HV bs wt set (max (wt p + v1) v2) := by
  have p20 := hs p hp
  have tl : tb (bit p) p = true := by rw [tb_bit (by omega)]; simp
  have only : ∀ z, tb (bit p) z = true → z = p := fun z hz => by
    rw [tb_bit (by omega)] at hz
    simpa using hz
  have inR : ∀ {z}, tb (set &&& (bit p ^^^ -1)) z = true ↔ (tb set z = true ∧ z ≠ p) := by
    intro z
    rw [dif_t]
    constructor
    · rintro ⟨a, b⟩
      exact ⟨a, fun q => by subst q; rw [tl] at b; cases b⟩
    · rintro ⟨a, b⟩
      exact ⟨a, bneg (fun q => b (only z q))⟩
  obtain ⟨⟨T1, a1, a2, a3⟩, amax⟩ := h1
  obtain ⟨⟨T2, b1, b2, b3⟩, bmax⟩ := h2
  constructor
  · by_cases h : v2 ≤ wt p + v1
    · rw [Int.max_eq_left h]
      refine ⟨T1 ||| bit p, sb_or (fun z hz => (inR.1 (dif_t.1 (a1 z hz)).1).1) (fun z hz => by rw [only z hz]; exact hp), fun z hz j hj => ?_, ?_⟩
      · obtain ⟨j1, j2⟩ := hj
        rcases or_t.1 hz with z1 | z1 <;> rcases or_t.1 j2 with j3 | j3
        · exact a2 z z1 j ⟨j1, j3⟩
        · rw [only j j3] at j1
          obtain ⟨c1, c2⟩ := dif_t.1 (a1 z z1)
          have := hsym z p (hs z (inR.1 c1).1) p20 j1
          rw [c2] at this; cases this
        · rw [only z z1] at j1
          have := (dif_t.1 (a1 j j3)).2
          rw [j1] at this; cases this
        · rw [only z z1, only j j3, hirr p p20] at j1; cases j1
      · rw [sc_in wt (bneg (fun e => (inR.1 (dif_t.1 (a1 p e)).1).2 rfl)) p20, a3]
    · rw [Int.max_eq_right (by omega)]
      exact ⟨T2, b1.trans (sb_andl _ _), b2, b3⟩
  · intro T hT hI
    cases eT : tb T p
    · have : sc wt T ≤ v2 := bmax T (fun z hz => inR.2 ⟨hT z hz, fun e => by subst e; rw [eT] at hz; cases hz⟩) hI
      omega
    · rw [sc_out wt eT p20]
      have : sc wt (T &&& (bit p ^^^ -1)) ≤ v1 := by
        refine amax _ (fun z hz => ?_) (hI.sub (sb_andl _ _))
        obtain ⟨z1, z2⟩ := dif_t.1 hz
        refine dif_t.2 ⟨inR.2 ⟨hT z z1, fun e => ?_⟩, bneg (fun e => hI p eT z ⟨e, z1⟩)⟩
        subst e; rw [tl] at z2; cases z2
      omega
theorem c44 (hsym : ∀ r o, r < 20 → o < 20 → tb (bs r) o = true → tb (bs o) r = true) (hirr : ∀ r, r < 20 → tb (bs r) r = false) (hW : Low 20 W) (hpos : ∀ r, tb W r = true → 0 < wt r) (hbd : ∀ T, sb T W → Ind bs T → sc wt T ≤ 1000000000) : ∀ (k dd deep : Nat) (set : Int32) (S : St) (Q : Out → St → Prop), k + 3 ≤ dd → (∀ r, r < 20 → (S.2.1 31 r).toInt = wt r) → (∀ r, r < 20 → S.2.1 32 r = bs r) → sb set W → pcn set < k → deep + k ≤ 40 → (∀ x : Int32, HV bs wt set x.toInt → Q (.inl (some (.int x))) S) → Wp dd 0 44 0 [.ref 8, .int set, .int (Int32.ofNat deep)] [] S Q := by
  intro k
  induction k with
  | zero => intro dd deep set S Q hdd h31 h32 hs hp; omega
  | succ k ih =>
    intro dd deep set S Q hdd h31 h32 hs hp hde K
    obtain ⟨e, rfl⟩ : ∃ e, dd = e + 3 := ⟨dd - 3, by omega⟩
    have set20 : Low 20 set := sb_low hs hW
    have zero_le : ∀ {set' : Int32} {v : Int}, HV bs wt set' v → 0 ≤ v := fun h => by
      have := h.2 0 (sb_zero _) (fun r hr => by rw [tb_zero] at hr; cases hr)
      rw [sc_zero] at this
      exact this
    have top : ∀ {set' : Int32} {v : Int}, sb set' W → HV bs wt set' v → v ≤ 1000000000 := fun h1 h => by
      obtain ⟨⟨T, t1, t2, t3⟩, _⟩ := h
      rw [← t3]
      exact hbd T (t1.trans h1) t2
    have wtop : ∀ r, tb W r = true → wt r ≤ 1000000000 := fun r hr => by
      have r20 := hW r hr
      have only : ∀ z, tb (bit r) z = true → z = r := fun z hz => by
        rw [tb_bit (by omega)] at hz
        simpa using hz
      have := hbd (bit r) (fun z hz => by rw [only z hz]; exact hr) (fun z hz j hj => by
        rw [only z hz, only j hj.2, hirr r r20] at hj; cases hj.1)
      rw [sc_out wt (r := r) (by rw [tb_bit (by omega)]; simp) r20] at this
      have e0 : bit r &&& (bit r ^^^ -1) = 0 := sb_sub0.2 (sb.refl _)
      rw [e0, sc_zero] at this
      omega
    have addI : ∀ (x y : Int32), 0 ≤ x.toInt → x.toInt ≤ 1000000000 → 0 ≤ y.toInt → y.toInt ≤ 1000000000 → (x + y).toInt = x.toInt + y.toInt := by
      intro x y a1 a2 a3 a4
      rw [Int32.toInt_add]
      apply Int.bmod_eq_of_le <;> omega
    refine b44_0 (fun h => b44_10 ?_) (fun hne => b44_4 (fun _ => b44_12 ?_) (fun h => absurd ((i_lt (b := 45) (by omega) (by omega)).2 (by omega)) h))
    · subst h
      exact K 0 (hv_zero bs wt)
    · have loop : ∀ j i (x3 x4 : Int32), i + j = 20 → ((x4 = -1 ∧ ∀ z, z < i → tb set z = false) ∨ (∃ p c, tb set p = true ∧ x3 = Int32.ofNat p ∧ x4 = Int32.ofNat c ∧ c ≤ 32)) → Wp (e + 3) 0 44 20 [.ref 8, .int set, .int (Int32.ofNat deep), .int x3, .int x4, .int (Int32.ofNat i)] [] S Q := by
        intro j
        induction j with
        | zero =>
          intro i x3 x4 hi h
          refine b44_20 (fun _ => ?_) (fun h => absurd ((i_le (a := 20) (by omega) (by omega)).2 (by omega)) h)
          rcases h with ⟨_, h⟩ | ⟨p, c, hp', rfl, rfl, hc⟩
          · obtain ⟨z, hz⟩ := ne0 hne
            have := set20 z hz
            rw [h z (by omega)] at hz; cases hz
          · have p20 := set20 p hp'
            have tl : tb (bit p) p = true := by rw [tb_bit (by omega)]; simp
            have hlt : pcn (set &&& (bit p ^^^ -1)) < pcn set := pcn_lt (sb_andl _ _) (fun q => by
              have := hp'
              rw [← q] at this
              have := (dif_t.1 this).2
              rw [tl] at this; cases this)
            have vp := i_vp (k := p) (n := 20) p20 (by omega)
            refine b44_136 (s147j (by omega)) ?_
            rintro _ _ ⟨rfl, rfl⟩
            rw [if_pos p20]
            refine b44_153 (s147z (by omega)) ?_
            rintro _ _ ⟨rfl, rfl⟩
            rw [if_pos p20, h32 p p20]
            refine b44_164 (P := fun x S1 => S = S1 ∧ HV bs wt ((set &&& (bit p ^^^ -1)) &&& (bs p ^^^ -1)) x.toInt) ?_ ?_
            · rw [i_suc]
              exact ih (e + 2) (deep + 1) _ S _ (by omega) h31 h32 (((sb_andl _ _).trans (sb_andl _ _)).trans hs) (Nat.lt_of_le_of_lt (pcn_mono (sb_andl _ _)) (Nat.lt_of_lt_of_le hlt (by omega))) (by omega) (fun x h => ⟨_, rfl, rfl, h⟩)
            · rintro x1 _ ⟨rfl, hv1⟩
              refine b44_173 (P := fun x S1 => S = S1 ∧ HV bs wt (set &&& (bit p ^^^ -1)) x.toInt) ?_ ?_
              · rw [i_suc]
                exact ih (e + 2) (deep + 1) _ S _ (by omega) h31 h32 ((sb_andl _ _).trans hs) (Nat.lt_of_lt_of_le hlt (by omega)) (by omega) (fun x h => ⟨_, rfl, rfl, h⟩)
              · rintro x2 _ ⟨rfl, hv2⟩
                have hpiv := hv_pivot set20 hsym hirr hp' hv1 hv2
                have z1 := zero_le hv1
                have z2 := top (((sb_andl _ _).trans (sb_andl _ _)).trans hs) hv1
                have w1 := hpos p (hs p hp')
                have w2 := wtop p (hs p hp')
                have ew := h31 p p20
                have es : (S.2.1 31 p + x1).toInt = wt p + x1.toInt := by
                  rw [addI _ _ (by omega) (by omega) z1 z2, ew]
                refine b44_185 ?_
                by_cases hlt2 : S.2.1 31 p + x1 < x2
                · rw [if_pos hlt2]
                  rw [Int32.lt_iff_toInt_lt, es] at hlt2
                  rw [Int.max_eq_right (by omega)] at hpiv
                  exact K x2 hpiv
                · rw [if_neg hlt2]
                  rw [Int32.lt_iff_toInt_lt, es] at hlt2
                  rw [Int.max_eq_left (by omega)] at hpiv
                  exact K _ (by rw [es]; exact hpiv)
        | succ j ihj =>
          intro i x3 x4 hi h
          refine b44_20 (fun h => ?_) (fun _ => b44_27 (s146 _ (by omega)) ?_)
          · have := (i_le (a := 20) (by omega) (by omega)).1 h
            omega
          · rintro _ _ ⟨rfl, rfl⟩
            refine b44_33 (fun h0 => b44_130 ?_) (fun h0 => ?_)
            · rw [i_suc]
              refine ihj (i + 1) x3 x4 (by omega) ?_
              rcases h with ⟨q1, q2⟩ | q
              · refine Or.inl ⟨q1, fun z hz => ?_⟩
                by_cases ez : z = i
                · subst ez; exact bi0.1 h0
                · exact q2 z (by omega)
              · exact Or.inr q
            · have hti := bi1.1 h0
              have vp := i_vp (k := i) (n := 20) (by omega) (by omega)
              have tl : tb (bit i) i = true := by rw [tb_bit (by omega)]; simp
              refine b44_36 vp (s0 _) ?_
              rintro _ _ ⟨rfl, rfl⟩
              have eb : S.2.1 32 (Int32.ofNat i).toNatClampNeg = bs i := by rw [i_cl (by omega)]; exact h32 i (by omega)
              have e31 : S.2.1 31 (Int32.ofNat i).toNatClampNeg = S.2.1 31 i := by rw [i_cl (by omega)]
              rw [eb]
              have hpn := pcn_le (bs i &&& set)
              -- taken
              have take : (bs i &&& set = 0 ∨ ∃ q, bs i &&& set = bit q ∧ q < 20 ∧ wt q < wt i) → ∀ x7, Wp (e + 3) 0 44 87 [.ref 8, .int set, .int (Int32.ofNat deep), .int x3, .int x4, .int (Int32.ofNat i), .int (bs i &&& set), .int x7] [] S Q := by
                intro hn x7
                refine b44_87 vp (P := fun x S1 => S = S1 ∧ HV bs wt ((set &&& ((bs i &&& set) ^^^ -1)) &&& (bit i ^^^ -1)) x.toInt) ?_ ?_
                · rw [i_suc]
                  refine ih (e + 2) (deep + 1) _ S _ (by omega) h31 h32 (((sb_andl _ _).trans (sb_andl _ _)).trans hs) ?_ (by omega) (fun x h => ⟨_, rfl, rfl, h⟩)
                  have : pcn ((set &&& ((bs i &&& set) ^^^ -1)) &&& (bit i ^^^ -1)) < pcn set := pcn_lt ((sb_andl _ _).trans (sb_andl _ _)) (fun q => by
                    have := hti
                    rw [← q] at this
                    have := (dif_t.1 this).2
                    rw [tl] at this; cases this)
                  have : pcn ((set &&& ((bs i &&& set) ^^^ -1)) &&& (((1 : Int32) <<< (Int32.ofNat i &&& 31)) ^^^ -1)) < pcn set := this
                  omega
                · rintro x _ ⟨rfl, hv⟩
                  have hT := hv_take set20 hsym hirr hti (hpos i (hs i hti)) hn hv
                  have z1 := zero_le hv
                  have z2 := top (((sb_andl _ _).trans (sb_andl _ _)).trans hs) hv
                  have w1 := hpos i (hs i hti)
                  have w2 := wtop i (hs i hti)
                  have ew := h31 i (by omega)
                  refine b44_114 (K _ ?_)
                  rw [e31, addI _ _ (by omega) (by omega) z1 z2, ew]
                  exact hT
              have later : Wp (e + 3) 0 44 116 [.ref 8, .int set, .int (Int32.ofNat deep), .int x3, .int x4, .int (Int32.ofNat i), .int (bs i &&& set), .int (Int32.ofNat (pcn (bs i &&& set)))] [] S Q := by
                refine b44_116 (fun hle => b44_130 ?_) (fun hle => b44_123 (b44_130 ?_))
                · rw [i_suc]
                  refine ihj (i + 1) x3 x4 (by omega) ?_
                  rcases h with ⟨rfl, _⟩ | q
                  · rw [Int32.le_iff_toInt_le, i_toInt (by omega)] at hle
                    have : (-1 : Int32).toInt = -1 := by decide
                    omega
                  · exact Or.inr q
                · rw [i_suc]
                  exact ihj (i + 1) _ _ (by omega) (Or.inr ⟨i, _, hti, rfl, rfl, hpn⟩)
              refine b44_52 (fun hz => take (Or.inl ?_) _) (fun hz => b44_59 (fun _ => later) (fun h1 => ?_))
              · refine Classical.byContradiction fun q => ?_
                have := pcn_drop q
                have := (i_inj (b := 0) (by omega) (by omega)).1 hz
                omega
              · have hp1 : pcn (bs i &&& set) = 1 := (i_inj (by omega) (by omega)).1 (Classical.not_not.1 h1)
                have hne1 : ¬ bs i &&& set = 0 := fun q => by rw [q, pcn_zero] at hp1; omega
                obtain ⟨q, q32, hq, hqm⟩ := least_ex hne1
                have q20 := set20 q (and_t.1 hq).2
                refine b44_65 vp (s148l hq hqm) ?_
                rintro _ _ ⟨rfl, rfl⟩
                refine b44_81 (s147j (by omega)) ?_
                rintro _ _ ⟨rfl, rfl⟩
                rw [if_pos q20, e31]
                refine b44_84 (fun _ => later) (fun hlt => take (Or.inr ⟨q, ?_, q20, ?_⟩) _)
                · refine sb_anti (fun z hz => ?_) (fun z hz => ?_)
                  · rw [pcn_one hp1 hz hq, tb_bit q32]; simp
                  · rw [tb_bit q32] at hz
                    have : z = q := by simpa using hz
                    subst this; exact hq
                · rw [Int32.le_iff_toInt_le, h31 i (by omega), h31 q q20] at hlt
                  omega
      exact loop 20 0 0 (-1) (by omega) (Or.inl ⟨rfl, fun z hz => absurd hz (by omega)⟩)
end HEAVY
