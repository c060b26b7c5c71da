/-! HUES -/
/-- so many hues are enough -/
def Col (up : Nat → Int32) (ins : Int32) (h : Nat) : Prop := ∃ col : Nat → Nat, (∀ r, tb ins r = true → col r < h) ∧ ∀ r o, tb ins r = true → tb ins o = true → tb (up r) o = true → col r ≠ col o
def HueIs (up : Nat → Int32) (ins : Int32) (h : Nat) : Prop := Col up ins h ∧ ∀ k, k < h → ¬ Col up ins k
theorem HueIs.uniq {up : Nat → Int32} {ins : Int32} {h k : Nat} (a : HueIs up ins h) (c : HueIs up ins k) : h = k := by
  rcases Nat.lt_trichotomy h k with q | q | q
  · exact absurd a.1 (c.2 h q)
  · exact q
  · exact absurd c.1 (a.2 k q)
/-- some are painted: it can be gone on -/
def Ext (up : Nat → Int32) (ins : Int32) (H : Nat → Int32) (h : Nat) : Prop := ∃ col : Nat → Nat, ((∀ r, tb ins r = true → col r < h) ∧ ∀ r o, tb ins r = true → tb ins o = true → tb (up r) o = true → col r ≠ col o) ∧ ∀ c, c < 20 → ∀ r, tb (H c) r = true → col r = c
def PI (up : Nat → Int32) (ins : Int32) (H : Nat → Int32) (rest : Int32) (used h : Nat) : Prop := (∀ c, c < 20 → sb (H c) ins ∧ (∀ r, tb (H c) r = true → tb rest r = false) ∧ (∀ r o, tb (H c) r = true → tb (H c) o = true → tb (up r) o = false)) ∧ (∀ c, c < 20 → used ≤ c → H c = 0) ∧ (∀ r, tb ins r = true → tb rest r = false → ∃ c, c < used ∧ c < 20 ∧ tb (H c) r = true) ∧ (∀ c c' r, c < 20 → c' < 20 → tb (H c) r = true → tb (H c') r = true → c = c') ∧ used ≤ h ∧ used + pcn rest ≤ 20 ∧ sb rest ins
def swp (a b x : Nat) : Nat := if x = a then b else if x = b then a else x
theorem swp_inj {a b x y : Nat} (h : swp a b x = swp a b y) : x = y := by
  unfold swp at h
  by_cases x1 : x = a
  · rw [if_pos x1] at h
    by_cases y1 : y = a
    · omega
    · rw [if_neg y1] at h
      by_cases y2 : y = b
      · rw [if_pos y2] at h; omega
      · rw [if_neg y2] at h; omega
  · rw [if_neg x1] at h
    by_cases x2 : x = b
    · rw [if_pos x2] at h
      by_cases y1 : y = a
      · rw [if_pos y1] at h; omega
      · rw [if_neg y1] at h
        by_cases y2 : y = b
        · omega
        · rw [if_neg y2] at h; omega
    · rw [if_neg x2] at h
      by_cases y1 : y = a
      · rw [if_pos y1] at h; omega
      · rw [if_neg y1] at h
        by_cases y2 : y = b
        · rw [if_pos y2] at h; omega
        · rw [if_neg y2] at h; exact h
def hadd (H : Nat → Int32) (c r : Nat) : Nat → Int32 := fun k => if k = c then H k ||| bit r else H k
section HUES
variable {b m rl : Nat} {ins : Int32} {up : Nat → Int32} {F : List Int32} {H : Nat → Int32} {rest : Int32} {used h : Nat}
theorem ext_base (hP : PI up ins H 0 used h) : Ext up ins H h := by
  obtain ⟨p1, p2, p3, p4, p5, p6, p7⟩ := hP
  have : ∀ r, ∃ c, tb ins r = true → (c < used ∧ c < 20 ∧ tb (H c) r = true) := fun r => by
    cases e : tb ins r
    · exact ⟨0, fun q => by cases q⟩
    · obtain ⟨c, hc⟩ := p3 r e (tb_zero r)
      exact ⟨c, fun _ => hc⟩
  obtain ⟨col, hcol⟩ := Classical.axiomOfChoice this
  refine ⟨col, ⟨fun r hr => by have := hcol r hr; omega, fun r o hr ho hb e => ?_⟩, fun c hc r hr => ?_⟩
  · have a := hcol r hr
    have a2 := hcol o ho
    rw [← e] at a2
    have := (p1 _ a.2.1).2.2 r o a.2.2 a2.2.2
    rw [hb] at this; cases this
  · have a := hcol r ((p1 c hc).1 r hr)
    exact p4 _ _ r a.2.1 hc a.2.2 hr
theorem ext_step (hP : PI up ins H rest used h) {r : Nat} (hr : tb rest r = true) : Ext up ins H h ↔ ∃ c, c ≤ used ∧ c < h ∧ H c &&& up r = 0 ∧ Ext up ins (hadd H c r) h := by
  obtain ⟨p1, p2, p3, p4, p5, p6, p7⟩ := id hP
  have r32 := tb_lt hr
  have hri := p7 r hr
  have u20 : used < 20 := by
    have l0 : ¬ rest = 0 := fun q => by rw [q, tb_zero] at hr; cases hr
    have := pcn_drop l0
    omega
  have only : ∀ z, tb (bit r) z = true → z = r := fun z hz => by
    rw [tb_bit r32] at hz
    simpa using hz
  constructor
  · rintro ⟨col, ⟨c1, c2⟩, c3⟩
    by_cases hle : col r ≤ used
    · refine ⟨col r, hle, c1 r hri, and0.2 (fun k _ q => ?_), col, ⟨c1, c2⟩, fun c hc k hk => ?_⟩
      · have hk := (p1 (col r) (by omega)).1 k q.1
        exact c2 r k hri hk q.2 (c3 (col r) (by omega) k q.1).symm
      · unfold hadd at hk
        by_cases e : c = col r
        · rw [if_pos e] at hk
          rcases or_t.1 hk with q | q
          · exact c3 c hc k q
          · rw [only k q, e]
        · rw [if_neg e] at hk
          exact c3 c hc k hk
    · have h0 : H used = 0 := p2 used u20 (Nat.le_refl _)
      have hcr := c1 r hri
      refine ⟨used, Nat.le_refl _, by omega, by rw [h0]; exact and_zero_l _, fun x => swp (col r) used (col x), ⟨fun x hx => ?_, fun x y hx hy hb q => c2 x y hx hy hb (swp_inj q)⟩, fun c hc k hk => ?_⟩
      · have := c1 x hx
        show swp (col r) used (col x) < h
        unfold swp
        split
        · omega
        · split
          · omega
          · exact this
      · unfold hadd at hk
        by_cases e : c = used
        · rw [if_pos e, e, h0, or_zero_l] at hk
          rw [only k hk]
          show swp (col r) used (col r) = c
          unfold swp
          rw [if_pos rfl, e]
        · rw [if_neg e] at hk
          have ck := c3 c hc k hk
          have hcu : c < used := by
            refine Nat.lt_of_not_le (fun q => ?_)
            rw [p2 c hc q, tb_zero] at hk; cases hk
          show swp (col r) used (col k) = c
          unfold swp
          rw [ck, if_neg (by omega), if_neg (by omega)]
  · rintro ⟨c, hc, _, _, col, c1, c2⟩
    refine ⟨col, c1, fun k hk z hz => c2 k hk z ?_⟩
    unfold hadd
    split
    · exact or_t.2 (Or.inl hz)
    · exact hz
theorem pi_step (hsym : ∀ r o, tb (up r) o = tb (up o) r) (hirr : ∀ r, tb (up r) r = false) (hP : PI up ins H rest used h) {r c : Nat} (hr : tb rest r = true) (hc : c ≤ used) (hch : c < h) (h0 : H c &&& up r = 0) : PI up ins (hadd H c r) (rest &&& (bit r ^^^ -1)) (if used < c + 1 then c + 1 else used) h := by
  obtain ⟨p1, p2, p3, p4, p5, p6, p7⟩ := hP
  have r32 := tb_lt hr
  have tl : tb (bit r) r = true := by rw [tb_bit r32]; simp
  have only : ∀ z, tb (bit r) z = true → z = r := fun z hz => by
    rw [tb_bit r32] at hz
    simpa using hz
  have hlt : pcn (rest &&& (bit r ^^^ -1)) < pcn rest := pcn_lt (sb_andl _ _) (fun q => by
    have := hr
    rw [← q] at this
    have := (dif_t.1 this).2
    rw [tl] at this; cases this)
  have u20 : used < 20 := by omega
  have new : ∀ {k z}, tb (hadd H c r k) z = true ↔ (tb (H k) z = true ∨ (k = c ∧ z = r)) := by
    intro k z
    unfold hadd
    by_cases e : k = c
    · rw [if_pos e, or_t]
      constructor
      · rintro (q | q)
        · exact Or.inl q
        · exact Or.inr ⟨e, only z q⟩
      · rintro (q | ⟨_, q⟩)
        · exact Or.inl q
        · rw [q]; exact Or.inr tl
    · rw [if_neg e]
      constructor
      · exact fun q => Or.inl q
      · rintro (q | ⟨q, _⟩)
        · exact q
        · exact absurd q e
  have notin : ∀ k, k < 20 → ¬ tb (H k) r = true := fun k hk q => by
    have := (p1 k hk).2.1 r q
    rw [hr] at this; cases this
  refine ⟨fun k hk => ⟨fun z hz => ?_, fun z hz => ?_, fun z o hz ho => ?_⟩, fun k hk hku => ?_, fun z hz hzr => ?_, fun k k' z hk hk' hz hz' => ?_, ?_, ?_, (sb_andl _ _).trans p7⟩
  · rcases new.1 hz with q | ⟨_, q⟩
    · exact (p1 k hk).1 z q
    · rw [q]; exact p7 r hr
  · refine bneg (fun e => ?_)
    obtain ⟨e1, e2⟩ := dif_t.1 e
    rcases new.1 hz with q | ⟨_, q⟩
    · have := (p1 k hk).2.1 z q
      rw [e1] at this; cases this
    · rw [q, tl] at e2; cases e2
  · rcases new.1 hz with q | ⟨q1, q2⟩ <;> rcases new.1 ho with w | ⟨w1, w2⟩
    · exact (p1 k hk).2.2 z o q w
    · rw [w2, hsym]
      rw [w1] at q
      exact and_n h0 q
    · rw [q2]
      rw [q1] at w
      exact and_n h0 w
    · rw [q2, w2]; exact hirr r
  · have hku' : c + 1 ≤ k ∧ used ≤ k := by
      split at hku <;> omega
    have e : k ≠ c := by omega
    unfold hadd
    rw [if_neg e]
    exact p2 k hk hku'.2
  · by_cases e : z = r
    · subst e
      exact ⟨c, by split <;> omega, by omega, new.2 (Or.inr ⟨rfl, rfl⟩)⟩
    · obtain ⟨k, k1, k2, k3⟩ := p3 z hz (bneg (fun q => by
        have : tb (rest &&& (bit r ^^^ -1)) z = true := dif_t.2 ⟨q, bneg (fun w => e (only z w))⟩
        rw [hzr] at this; cases this))
      exact ⟨k, by split <;> omega, k2, new.2 (Or.inl k3)⟩
  · rcases new.1 hz with q | ⟨q1, q2⟩ <;> rcases new.1 hz' with w | ⟨w1, w2⟩
    · exact p4 k k' z hk hk' q w
    · subst w2; exact absurd q (notin k hk)
    · subst q2; exact absurd w (notin k' hk')
    · omega
  · split <;> omega
  · split <;> omega
theorem hadd_back {r c : Nat} (hr' : ∀ k, k < 20 → tb (H k) r = false) (r32 : r < 32) (hc : c < 20) : hadd H c r c &&& (bit r ^^^ -1) = H c := by
  unfold hadd
  rw [if_pos rfl]
  apply tb_ext
  intro z _
  rw [tb_diff, tb_or, tb_bit r32]
  by_cases e : z = r
  · subst e; rw [hr' c hc]; simp
  · simp [e]
theorem c48 {d : Nat} {S : St} {Q : Out → St → Prop} (hrest : Low 20 rest) (hne : ¬ rest = 0) (hu : used ≤ 20) (K : ∀ r, tb rest r = true → Q (.inl (some (.int (Int32.ofNat r)))) S) : Wp (d + 1) b 48 0 [.ref 8, .int rest, .int (Int32.ofNat used)] [] S Q := by
  have loop : ∀ k i x3 x4, i + k = 20 → ((x4 = -1 ∧ ∀ j, j < i → tb rest j = false) ∨ (∃ l c, tb rest l = true ∧ x3 = Int32.ofNat l ∧ x4 = Int32.ofNat c ∧ c ≤ 1000)) → Wp (d + 1) b 48 8 [.ref 8, .int rest, .int (Int32.ofNat used), .int x3, .int x4, .int (Int32.ofNat i)] [] S Q := by
    intro k
    induction k with
    | zero =>
      intro i x3 x4 hi h
      refine b48_8 (fun _ => b48_107 ?_) (fun h => absurd ((i_le (a := 20) (by omega) (by omega)).2 (by omega)) h)
      rcases h with ⟨_, h⟩ | ⟨l, c, h1, rfl, _⟩
      · obtain ⟨z, hz⟩ := ne0 hne
        have := hrest z hz
        rw [h z (by omega)] at hz; cases hz
      · exact K l h1
    | succ k ih =>
      intro i x3 x4 hi h
      refine b48_8 (fun h => ?_) (fun _ => b48_15 (s146 _ (by omega)) ?_)
      · have := (i_le (a := 20) (by omega) (by omega)).1 h
        omega
      · rintro _ _ ⟨rfl, rfl⟩
        refine b48_21 (fun h0 => b48_101 ?_) (fun h0 => b48_24 (i_vp (by omega) (by omega)) (s0 _) ?_)
        · rw [i_suc]
          refine ih (i + 1) x3 x4 (by omega) ?_
          rcases h with ⟨q1, q2⟩ | q
          · refine Or.inl ⟨q1, fun j hj => ?_⟩
            by_cases e : j = i
            · subst e; exact bi0.1 h0
            · exact q2 j (by omega)
          · exact Or.inr q
        · rintro _ _ ⟨rfl, rfl⟩
          have hp := pcn_le (S.2.1 23 (Int32.ofNat i).toNatClampNeg &&& rest)
          have inner : ∀ j z g, z + j = used → g ≤ 32 + 20 * z → Wp (d + 1) b 48 44 [.ref 8, .int rest, .int (Int32.ofNat used), .int x3, .int x4, .int (Int32.ofNat i), .int (Int32.ofNat g), .int (Int32.ofNat z)] [] S Q := by
            intro j
            induction j with
            | zero =>
              intro z g hz hg
              refine b48_44 (fun _ => b48_87 (fun hle => b48_101 ?_) (fun hle => b48_94 (b48_101 ?_))) (fun h => absurd ((i_le (by omega) (by omega)).2 (by omega)) h)
              · rw [i_suc]
                refine ih (i + 1) x3 x4 (by omega) ?_
                rcases h with ⟨rfl, _⟩ | q
                · rw [Int32.le_iff_toInt_le, i_toInt (by omega)] at hle
                  have : (-1 : Int32).toInt = -1 := by decide
                  omega
                · exact Or.inr q
              · rw [i_suc]
                exact ih (i + 1) _ _ (by omega) (Or.inr ⟨i, g, bi1.1 h0, rfl, rfl, by omega⟩)
            | succ j ihj =>
              intro z g hz hg
              have vp := i_vp (k := z) (n := 20) (by omega) (by omega)
              refine b48_44 (fun h => ?_) (fun _ => b48_50 (fun h => ?_) (fun _ => b48_57 vp (i_vp (by omega) (by omega)) (fun _ => b48_81 ?_) (fun _ => b48_78 (b48_81 ?_))))
              · have := (i_le (by omega) (by omega)).1 h
                omega
              · have := (i_le (a := 20) (by omega) (by omega)).1 h
                omega
              · rw [i_suc]
                exact ihj (z + 1) g (by omega) (by omega)
              · rw [i_suc, show (20 : Int32) = Int32.ofNat 20 from rfl, i_add]
                exact ihj (z + 1) (g + 20) (by omega) (by omega)
          exact b48_39 (inner used 0 _ (by omega) (by omega))
  exact b48_0 (loop 20 0 0 (-1) (by omega) (Or.inl ⟨rfl, fun j h => absurd h (by omega)⟩))
end HUES
