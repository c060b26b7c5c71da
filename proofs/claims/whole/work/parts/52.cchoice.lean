/-! THE CLASS: the k-th choice, the tree -/
theorem split_sorted {R : Int32 → Int32 → Prop} {p : Int32 → Bool} : ∀ (L : List Int32), L.Pairwise R → (∀ A, A ∈ L → ∀ B, B ∈ L → R A B → p A = false → p B = false) → L = L.filter p ++ L.filter (fun x => !p x) := by
  intro L
  induction L with
  | nil => intro _ _; rfl
  | cons a t ih =>
    intro hp h
    rw [List.pairwise_cons] at hp
    have ih := ih hp.2 (fun A hA B hB => h A (List.mem_cons_of_mem _ hA) B (List.mem_cons_of_mem _ hB))
    rw [List.filter_cons, List.filter_cons]
    cases e : p a
    · have hall : ∀ x, x ∈ t → p x = false := fun x hx => h a List.mem_cons_self x (List.mem_cons_of_mem _ hx) (hp.1 x hx) e
      have e1 : t.filter p = [] := List.filter_eq_nil_iff.2 (fun x hx => by rw [hall x hx]; decide)
      have e2 : t.filter (fun x => !p x) = t := List.filter_eq_self.2 (fun x hx => by rw [hall x hx]; rfl)
      rw [e1, e2]
      rfl
    · show a :: t = a :: t.filter p ++ t.filter (fun x => !p x)
      rw [List.cons_append, ← ih]
/-- the choices that some yes and no allow -/
def fit (C : List Int32) (y n : Int32) : List Int32 := C.filter (fun Y => decide (y &&& (Y ^^^ -1) = 0) && decide (n &&& Y = 0))
theorem mem_fit {C : List Int32} {y n Y : Int32} : Y ∈ fit C y n ↔ (Y ∈ C ∧ sb y Y ∧ ∀ k, ¬ (tb n k = true ∧ tb Y k = true)) := by
  unfold fit
  rw [List.mem_filter, Bool.and_eq_true, decide_eq_true_eq, decide_eq_true_eq, sb_sub0]
  constructor
  · rintro ⟨h1, h2, h3⟩
    exact ⟨h1, h2, fun k hk => and0.1 h3 k (tb_lt hk.1) hk⟩
  · rintro ⟨h1, h2, h3⟩
    exact ⟨h1, h2, and0.2 (fun k _ => h3 k)⟩
theorem fit_congr {C : List Int32} {y n y' n' : Int32} (h : ∀ Y, Y ∈ C → ((sb y Y ∧ ∀ k, ¬ (tb n k = true ∧ tb Y k = true)) ↔ (sb y' Y ∧ ∀ k, ¬ (tb n' k = true ∧ tb Y k = true)))) : fit C y n = fit C y' n' := by
  unfold fit
  apply List.filter_congr
  intro Y hY
  have h1 := h Y hY
  have e : ∀ y n : Int32, ((decide (y &&& (Y ^^^ -1) = 0) && decide (n &&& Y = 0)) = true ↔ (sb y Y ∧ ∀ k, ¬ (tb n k = true ∧ tb Y k = true))) := by
    intro y n
    rw [Bool.and_eq_true, decide_eq_true_eq, decide_eq_true_eq, sb_sub0]
    exact ⟨fun q => ⟨q.1, fun k hk => and0.1 q.2 k (tb_lt hk.1) hk⟩, fun q => ⟨q.1, and0.2 (fun k _ => q.2 k)⟩⟩
  rw [Bool.eq_iff_iff, e, e]
  exact h1
theorem fit_all (C : List Int32) : fit C 0 0 = C := by
  unfold fit
  rw [List.filter_eq_self]
  intro Y _
  rw [and_zero_l, and_zero_l]
  rfl
section CCH
variable {b : Nat} {bs : Nat → Int32} {F : List Int32} {m : Nat} {ins : Int32} {C : List Int32}
/-- C has all choices, rising -/
def Cho (bs : Nat → Int32) (F : List Int32) (ins : Int32) (C : List Int32) : Prop := C.Pairwise Lt ∧ ∀ Y, Y ∈ C ↔ LV bs F ins 0 Y
theorem Cho.nodup (h : Cho bs F ins C) : C.Nodup := h.1.imp Lt.ne
theorem goo0 (hW : Wd bs F m ins) : Goo bs F m 0 0 := by
  obtain ⟨w1, w2, w3, w4, w5, w6, w7⟩ := hW
  refine ⟨fun k hk => by rw [tb_zero] at hk; exact absurd hk.1 (by decide), fun f hf hs => ?_, (fun r hr hq => by rw [tb_zero] at hq; cases hq), fun f hf hp => ?_⟩
  · have := w7.1 f hf
    have e : f = 0 := sb_anti hs (sb_zero _)
    rw [e, pcn_zero] at this
    omega
  · have := w7.1 f hf
    have e : f &&& ((0 : Int32) ^^^ -1) = f := by
      apply tb_ext
      intro z _
      rw [tb_diff, tb_zero]
      cases tb f z <;> rfl
    rw [e] at hp
    omega
theorem cls0 (hW : Wd bs F m ins) : Cls bs ins ins 0 0 := ⟨fun k hk => ⟨hk, tb_zero k, tb_zero k⟩, fun r _ o ho _ _ _ => ho⟩
/-- as many as are found -/
theorem fit_len (hW : Wd bs F m ins) (hCh : Cho bs F ins C) {y n Y N : Int32} {c : Bool} (hy : sb y ins) (hn : sb n ins) (hfc : Fc bs F m y n Y N c) : (fit C y n).length = if c = true then 0 else Wn bs F (ins &&& ((Y ||| N) ^^^ -1)) Y := by
  rw [← ways_step hW (goo0 hW) (cls0 hW) (sb_zero _) (sb_zero _) (hy.trans (sb_orr _ _)) (hn.trans (sb_orr _ _)) hfc]
  refine (cd_list (hCh.nodup.filter _) (fun T => ?_)).symm
  have := mem_fit (C := C) (y := y) (n := n) (Y := T)
  unfold fit at this
  rw [this, hCh.2, or_zero_l]
  constructor
  · rintro ⟨h1, h2, h3⟩
    exact ⟨low_le (sb_low h1.1 hW.2.1) hW.1, h1, h2, h3⟩
  · rintro ⟨_, h1, h2, h3⟩
    exact ⟨h1, h2, h3⟩
theorem lv_abo (hW : Wd bs F m ins) {y n Y : Int32} (hn : sb n ins) (h : LV bs F ins 0 Y) (h1 : sb y Y) (h2 : ∀ k, ¬ (tb n k = true ∧ tb Y k = true)) : Abo bs F m y n Y (ins &&& (Y ^^^ -1)) := by
  have := abo_of hW (goo0 hW) (cls0 hW) h (hn.trans (sb_orr _ _)) (by rw [or_zero_l]; exact h1) h2
  rw [or_zero_l, or_zero_l] at this
  exact this
/-- what is forced allows the same -/
theorem fit_force (hW : Wd bs F m ins) (hCh : Cho bs F ins C) {y n Y N : Int32} {c : Bool} (hn : sb n ins) (hfc : Fc bs F m y n Y N c) : (c = true → fit C y n = []) ∧ (c = false → fit C Y N = fit C y n) := by
  obtain ⟨_, _, hfc⟩ := hfc
  rcases hfc with ⟨rfl, hA, hl⟩ | ⟨rfl, hno⟩
  · refine ⟨(fun q => by cases q), fun _ => fit_congr (fun T hT => ⟨fun h => ⟨hA.2.1.trans h.1, fun k hk => h.2 k ⟨hA.2.2 k hk.1, hk.2⟩⟩, fun h => ?_⟩)⟩
    obtain ⟨a, b⟩ := hl _ _ (lv_abo hW hn ((hCh.2 T).1 hT) h.1 h.2)
    refine ⟨a, fun k hk => ?_⟩
    have := (dif_t.1 (b k hk.1)).2
    rw [hk.2] at this
    cases this
  · refine ⟨fun _ => List.eq_nil_iff_forall_not_mem.2 (fun T hT => ?_), (fun q => by cases q)⟩
    obtain ⟨h1, h2, h3⟩ := mem_fit.1 hT
    exact hno _ _ (lv_abo hW hn ((hCh.2 T).1 h1) h2 h3)
theorem c11 {d : Nat} {S : St} {y n : Int32} {Q : Out → St → Prop} (hW : Wd bs F m ins) (hCh : Cho bs F ins C) (hFl : ∀ f, f ∈ F → Low m f) (hbl : ∀ r, r < m → Low m (bs r)) (hC : CHa 20 bs F S) (ha : S.1 6 4 = ins) (hy : sb y ins) (hn : sb n ins) (K : ∀ S1, Fz [(6, 5), (6, 6)] [] S S1 → Q (.inl (some (.int (Int32.ofNat (fit C y n).length)))) S1) : Wp (d + 46) b 11 0 [.ref 6, .int y, .int n] [] S Q := by
  refine b11_0 (P := fun v S1 => ∃ c, v = bi (!c) ∧ Fz [(6, 5), (6, 6)] [] S S1 ∧ Fc bs F m y n (S1.1 6 5) (S1.1 6 6) c) (c6a (d := d + 43) (hC.le hW.1) hW.1 hFl hbl (sb_low hy hW.2.1) (sb_low hn hW.2.1) (fun r _ _ h => by rw [tb_zero] at h; cases h) (fun S1 c h1 h2 => ⟨_, rfl, c, rfl, h1, h2⟩)) ?_
  rintro _ S1 ⟨c, rfl, hF, hfc⟩
  have e := fit_len hW hCh hy hn hfc
  cases c with
  | true =>
    refine b11_7 (fun q => absurd rfl q) (fun _ => b11_10 ?_)
    have := K S1 hF
    rw [e] at this
    exact this
  | false =>
    obtain ⟨l1, l2, hA⟩ : Low m (S1.1 6 5) ∧ Low m (S1.1 6 6) ∧ Abo bs F m y n (S1.1 6 5) (S1.1 6 6) := by
      obtain ⟨a1, a2, a3⟩ := hfc
      rcases a3 with ⟨_, a3, _⟩ | ⟨a3, _⟩
      · exact ⟨a1, a2, a3⟩
      · cases a3
    refine b11_7 (fun _ => b11_12 (P := fun v S2 => v = Int32.ofNat (fit C y n).length ∧ Fz [(6, 5), (6, 6)] [] S1 S2) ?_ ?_) (fun q => absurd q (by decide))
    · rw [hF.f (by decide), ha]
      have hcl := cls_step (Y := S1.1 6 5) (N := S1.1 6 6) (cls0 hW) (sb_zero _) (sb_zero _)
      refine c12 hW hFl hbl 20 (d + 45) 0 _ _ _ S1 _ (by omega) (hC.of hF (by decide)) l1 l2 hA.1 hcl ?_ (by omega) (fun S2 h => ⟨_, rfl, by rw [e]; rfl, h⟩)
      exact Nat.le_trans (pcn_mono (sb_andl _ _)) (pcn_lown (low_le hW.2.1 hW.1) (by omega))
    · rintro _ S2 ⟨rfl, hF2⟩
      exact b11_41 (K S2 (hF.trans hF2))
/-- what the chooser keeps -/
def CC (C : List Int32) (S : St) : Prop := (S.1 6 7 = -1 ∨ S.1 6 7 = Int32.ofNat C.length) ∧ (S.1 6 8 = -1 ∨ S.1 6 8 = C.getD 0 0)
theorem c10 {d : Nat} {S : St} {Q : Out → St → Prop} (hW : Wd bs F m ins) (hCh : Cho bs F ins C) (hFl : ∀ f, f ∈ F → Low m f) (hbl : ∀ r, r < m → Low m (bs r)) (hC : CHa 20 bs F S) (ha : S.1 6 4 = ins) (hk : CC C S) (K : ∀ S1, Fz [(6, 5), (6, 6), (6, 7)] [] S S1 → CC C S1 → Q (.inl (some (.int (Int32.ofNat C.length)))) S1) : Wp (d + 47) b 10 0 [.ref 6] [] S Q := by
  refine b10_0 (fun h => b10_18 ?_) (fun h => b10_8 (P := fun v S1 => v = Int32.ofNat C.length ∧ Fz [(6, 5), (6, 6)] [] S S1) ?_ ?_)
  · rcases hk.1 with q | q
    · exact absurd q h
    · rw [q]; exact K S Fz.refl hk
  · refine c11 hW hCh hFl hbl hC ha (sb_zero _) (sb_zero _) (fun S1 h => ⟨_, rfl, ?_, h⟩)
    rw [fit_all]
  · rintro _ S1 ⟨rfl, hF⟩
    refine b10_15 (b10_18 ?_)
    rw [seti_same]
    refine K _ ((hF.mono (by decide) (by decide)).seti (by decide)) ⟨Or.inr seti_same, ?_⟩
    rw [seti_ne (by decide), hF.f (by decide)]
    exact hk.2
theorem c15 {d k : Nat} {S : St} {Q : Out → St → Prop} (hW : Wd bs F m ins) (hCh : Cho bs F ins C) (hFl : ∀ f, f ∈ F → Low m f) (hbl : ∀ r, r < m → Low m (bs r)) (hC : CHa 20 bs F S) (ha : S.1 6 4 = ins) (hk : k < C.length) (hk31 : C.length ≤ 1048576) (K : ∀ S1, Fz [(6, 5), (6, 6)] [] S S1 → Q (.inl (some (.int (C.getD k 0)))) S1) : Wp (d + 47) b 15 0 [.ref 6, .int (Int32.ofNat k)] [] S Q := by
  obtain ⟨w1, w2, w3, w4, w5, w6, w7⟩ := id hW
  have loop : ∀ r (S' : St) (lf : Nat) (y n : Int32), r ≤ 20 → Fz [(6, 5), (6, 6)] [] S S' → Goo bs F m y n → sb y ins → sb n ins → (∀ q, r ≤ q → tb ins q = true → tb y q = true ∨ tb n q = true) → lf < (fit C y n).length → (fit C y n).getD lf 0 = C.getD k 0 → ∀ x5, x5 = Int32.ofNat r - 1 → Wp (d + 47) b 15 11 [.ref 6, .int (Int32.ofNat k), .int (Int32.ofNat lf), .int y, .int n, .int x5] [] S' Q := by
    intro r
    induction r with
    | zero =>
      rintro S' lf y n hr hF hG hy hn hall hlf hget x5 rfl
      refine b15_11 (fun _ => b15_108 ?_) (fun h => absurd (by decide) h)
      have hmem : (fit C y n).getD lf 0 ∈ fit C y n := get_mem hlf
      obtain ⟨h1, h2, h3⟩ := mem_fit.1 hmem
      have h4 := ((hCh.2 _).1 h1).1
      have e : (fit C y n).getD lf 0 = y := by
        refine sb_anti (fun q hq => ?_) h2
        rcases hall q (Nat.zero_le _) (h4 q hq) with z | z
        · exact z
        · exact absurd ⟨z, hq⟩ (h3 q)
      rw [← e, hget]
      exact K S' hF
    | succ r ih =>
      rintro S' lf y n hr hF hG hy hn hall hlf hget x5 rfl
      rw [i_pre]
      have flen : (fit C y n).length ≤ 1048576 := Nat.le_trans (List.length_filter_le _ _) hk31
      have tl : tb (bit r) r = true := by rw [tb_bit (by omega)]; simp
      have only : ∀ z, tb (bit r) z = true → z = r := fun z hz => by
        rw [tb_bit (by omega)] at hz
        simpa using hz
      have dec : Int32.ofNat r + -1 = Int32.ofNat r - 1 := by rw [← Int32.sub_eq_add_neg]
      refine b15_11 (fun h => absurd h (i_nneg (by omega))) (fun _ => b15_16 (P := Vx (bi (tb (ins &&& ((y ||| n) ^^^ -1)) r)) S') ?_ ?_)
      · rw [hF.f (by decide), ha]
        exact s146 _ (by omega)
      · rintro _ _ ⟨rfl, rfl⟩
        refine b15_32 (fun h => b15_102 ?_) (fun h => ?_)
        · refine ih S' lf y n (by omega) hF hG hy hn (fun q hq hi => ?_) hlf hget _ dec
          by_cases e : q = r
          · subst e
            have h0 := bi0.1 h
            rw [tb_diff, hi, tb_or] at h0
            cases e1 : tb y q
            · cases e2 : tb n q
              · rw [e1, e2] at h0; cases h0
              · exact Or.inr rfl
            · exact Or.inl rfl
          · exact hall q (by omega) hi
        · obtain ⟨hri, hrn⟩ := dif_t.1 (bi1.1 h)
          have hry : tb y r = false := bneg (fun e => by rw [or_t.2 (Or.inl e)] at hrn; cases hrn)
          have hrn' : tb n r = false := bneg (fun e => by rw [or_t.2 (Or.inr e)] at hrn; cases hrn)
          have bi' : sb (bit r) ins := fun z hz => by rw [only z hz]; exact hri
          -- those without the ray, then those with it
          have e1 : fit C y (n ||| bit r) = (fit C y n).filter (fun Y => !tb Y r) := by
            unfold fit
            rw [List.filter_filter]
            apply List.filter_congr
            intro Y _
            rw [Bool.eq_iff_iff]
            simp only [Bool.and_eq_true, decide_eq_true_eq, Bool.not_eq_true']
            constructor
            · rintro ⟨q1, q2⟩
              refine ⟨bneg (fun e => and0.1 q2 r (by omega) ⟨or_t.2 (Or.inr tl), e⟩), q1, and0.2 (fun z hz q => and0.1 q2 z hz ⟨or_t.2 (Or.inl q.1), q.2⟩)⟩
            · rintro ⟨q1, q2, q3⟩
              refine ⟨q2, and0.2 (fun z hz q => ?_)⟩
              rcases or_t.1 q.1 with w | w
              · exact and0.1 q3 z hz ⟨w, q.2⟩
              · rw [only z w, q1] at q; cases q.2
          have e2 : fit C (y ||| bit r) n = (fit C y n).filter (fun Y => !!tb Y r) := by
            unfold fit
            rw [List.filter_filter]
            apply List.filter_congr
            intro Y _
            rw [Bool.eq_iff_iff]
            simp only [Bool.and_eq_true, decide_eq_true_eq, Bool.not_not, sb_sub0]
            constructor
            · rintro ⟨q1, q2⟩
              exact ⟨q1 r (or_t.2 (Or.inr tl)), (sb_orl _ _).trans q1, q2⟩
            · rintro ⟨q1, q2, q3⟩
              exact ⟨sb_or q2 (fun z hz => by rw [only z hz]; exact q1), q3⟩
          have hsp : fit C y n = fit C y (n ||| bit r) ++ fit C (y ||| bit r) n := by
            rw [e1, e2]
            refine split_sorted (R := Lt) _ (hCh.1.filter _) (fun A hA B hB hlt hpA => ?_)
            obtain ⟨a1, a2, a3⟩ := mem_fit.1 hA
            obtain ⟨b1, b2, b3⟩ := mem_fit.1 hB
            have agree : ∀ q, r < q → tb A q = tb B q := by
              intro q hq
              cases ei : tb ins q
              · have f1 : tb A q = false := bneg (fun e => by rw [((hCh.2 A).1 a1).1 q e] at ei; cases ei)
                have f2 : tb B q = false := bneg (fun e => by rw [((hCh.2 B).1 b1).1 q e] at ei; cases ei)
                rw [f1, f2]
              · rcases hall q (by omega) ei with z | z
                · rw [a2 q z, b2 q z]
                · have f1 : tb A q = false := bneg (fun e => a3 q ⟨z, e⟩)
                  have f2 : tb B q = false := bneg (fun e => b3 q ⟨z, e⟩)
                  rw [f1, f2]
            obtain ⟨z, z1, z2, z3⟩ := hlt
            have hAr : tb A r = true := by simpa using hpA
            rcases Nat.lt_trichotomy z r with q | q | q
            · rw [← z3 r q, hAr]; rfl
            · subst q; rw [hAr] at z1; cases z1
            · rw [agree z q, z2] at z1; cases z1
          refine b15_35 (P := fun v S1 => v = Int32.ofNat (fit C y (n ||| bit r)).length ∧ Fz [(6, 5), (6, 6)] [] S' S1) (c11 (d := d) hW hCh hFl hbl (hC.of hF (by decide)) ((hF.f (by decide)).trans ha) hy (sb_or hn bi') (fun S1 h => ⟨_, rfl, rfl, h⟩)) ?_
          rintro _ S1 ⟨rfl, hF1⟩
          have l1 : (fit C y (n ||| bit r)).length ≤ 1048576 := Nat.le_trans (List.length_filter_le _ _) hk31
          -- going on from what is forced
          have goon : ∀ (y' n' : Int32) (lf' : Nat) (S2 : St) (x6 : Int32) (c : Bool), Fz [(6, 5), (6, 6)] [] S S2 → sb y y' → sb n n' → sb y' ins → sb n' ins → (tb y' r = true ∨ tb n' r = true) → Fc bs F m y' n' (S2.1 6 5) (S2.1 6 6) c → lf' < (fit C y' n').length → (fit C y' n').getD lf' 0 = C.getD k 0 → Wp (d + 47) b 15 91 [.ref 6, .int (Int32.ofNat k), .int (Int32.ofNat lf'), .int y, .int n, .int (Int32.ofNat r), .int x6] [] S2 Q := by
            intro y' n' lf' S2 x6 c hF2 s1 s2 s3 s4 hr' hfc hl' hg'
            obtain ⟨f1, f2⟩ := fit_force hW hCh s4 hfc
            cases c with
            | true => rw [f1 rfl] at hl'; exact absurd hl' (by simp)
            | false =>
              obtain ⟨hA, hlst⟩ : Abo bs F m y' n' (S2.1 6 5) (S2.1 6 6) ∧ ∀ Y' N', Abo bs F m y' n' Y' N' → sb (S2.1 6 5) Y' ∧ sb (S2.1 6 6) N' := by
                obtain ⟨a1, a2, a3⟩ := hfc
                rcases a3 with ⟨_, a3, a4⟩ | ⟨a3, _⟩
                · exact ⟨a3, a4⟩
                · cases a3
              obtain ⟨st1, st2⟩ := stay hW (goo0 hW) (cls0 hW) (sb_zero _) (sb_zero _) (s3.trans (sb_orr _ _)) (s4.trans (sb_orr _ _)) hA hlst
              rw [or_zero_l] at st1 st2
              refine b15_91 (b15_102 ?_)
              refine ih S2 lf' _ _ (by omega) hF2 hA.1 st1 st2 (fun q hq hi => ?_) (by rw [f2 rfl]; exact hl') (by rw [f2 rfl]; exact hg') _ dec
              by_cases e : q = r
              · subst e
                rcases hr' with z | z
                · exact Or.inl (hA.2.1 q z)
                · exact Or.inr (hA.2.2 q z)
              · rcases hall q (by omega) hi with z | z
                · exact Or.inl (hA.2.1 q (s1 q z))
                · exact Or.inr (hA.2.2 q (s2 q z))
          refine b15_47 (fun h => b15_72 (P := fun v S2 => ∃ c, Fz [(6, 5), (6, 6)] [] S1 S2 ∧ Fc bs F m (y ||| bit r) n (S2.1 6 5) (S2.1 6 6) c) ?_ ?_) (fun h => b15_55 (P := fun v S2 => ∃ c, Fz [(6, 5), (6, 6)] [] S1 S2 ∧ Fc bs F m y (n ||| bit r) (S2.1 6 5) (S2.1 6 6) c) ?_ ?_)
          · exact c6a (d := d + 44) ((hC.of (hF.trans hF1) (by decide)).le w1) w1 hFl hbl (sb_low (sb_or hy bi') w2) (sb_low hn w2) (fun q hq _ h2 => hG.2.2.1 q hq h2) (fun S2 c h1 h2 => ⟨_, rfl, c, h1, h2⟩)
          · rintro v S2 ⟨c, hF2, hfc⟩
            have h := (i_le (by omega) (by omega)).1 h
            refine b15_90 ?_
            rw [i_sub h]
            refine goon (y ||| bit r) n (lf - (fit C y (n ||| bit r)).length) S2 _ c ((hF.trans hF1).trans hF2) (sb_orl _ _) (sb.refl _) (sb_or hy bi') hn (Or.inl (or_t.2 (Or.inr tl))) hfc ?_ ?_
            · rw [hsp, List.length_append] at hlf
              omega
            · rw [← hget, hsp]
              have := getD_right (L := fit C y (n ||| bit r)) (L2 := fit C (y ||| bit r) n) (i := lf - (fit C y (n ||| bit r)).length)
              rw [show (fit C y (n ||| bit r)).length + (lf - (fit C y (n ||| bit r)).length) = lf by omega] at this
              exact this.symm
          · exact c6a (d := d + 44) ((hC.of (hF.trans hF1) (by decide)).le w1) w1 hFl hbl (sb_low hy w2) (sb_low (sb_or hn bi') w2) (fun q hq _ h2 => (hG.2.2.1 q hq h2).trans (sb_orl _ _)) (fun S2 c h1 h2 => ⟨_, rfl, c, h1, h2⟩)
          · rintro v S2 ⟨c, hF2, hfc⟩
            have h := mt (i_le (by omega) (by omega)).2 h
            refine b15_68 (goon y (n ||| bit r) lf S2 _ c ((hF.trans hF1).trans hF2) (sb.refl _) (sb_orl _ _) hy (sb_or hn bi') (Or.inr (or_t.2 (Or.inr tl))) hfc (by omega) ?_)
            rw [← hget, hsp, getD_left (by omega)]
  refine b15_0 (loop 20 S k 0 0 (by omega) Fz.refl (goo0 hW) (sb_zero _) (sb_zero _) (fun q hq hi => ?_) (by rw [fit_all]; exact hk) (by rw [fit_all]) 19 (by decide))
  have := w2 q hi
  omega
theorem c16 {d : Nat} {S : St} {Q : Out → St → Prop} (hW : Wd bs F m ins) (hCh : Cho bs F ins C) (hFl : ∀ f, f ∈ F → Low m f) (hbl : ∀ r, r < m → Low m (bs r)) (hC : CHa 20 bs F S) (ha : S.1 6 4 = ins) (hk31 : C.length ≤ 1048576) (hk : CC C S) (K : ∀ S1, Fz [(6, 5), (6, 6), (6, 7), (6, 8)] [] S S1 → CC C S1 → Q (.inl (some (.int (C.getD 0 0)))) S1) : Wp (d + 48) b 16 0 [.ref 6] [] S Q := by
  refine b16_0 (fun h => b16_28 ?_) (fun h => b16_8 (P := fun v S1 => v = Int32.ofNat C.length ∧ Fz [(6, 5), (6, 6), (6, 7)] [] S S1 ∧ CC C S1) (c10 hW hCh hFl hbl hC ha hk (fun S1 h1 h2 => ⟨_, rfl, rfl, h1, h2⟩)) ?_)
  · rcases hk.2 with q | q
    · exact absurd q h
    · rw [q]; exact K S Fz.refl hk
  · rintro _ S1 ⟨rfl, hF, hk1⟩
    have fin : ∀ (v : Int32) (S2 : St), Fz [(6, 5), (6, 6)] [] S1 S2 → v = C.getD 0 0 → Wp (d + 48) b 16 25 [.ref 6] [.int v, .ref 6] S2 Q := by
      rintro v S2 hF2 rfl
      refine b16_25 (b16_28 ?_)
      rw [seti_same]
      refine K _ (((hF.trans (hF2.mono (by decide) (by decide))).mono (by decide) (by decide)).seti (by decide)) ⟨?_, Or.inr seti_same⟩
      rw [seti_ne (by decide), hF2.f (by decide)]
      exact hk1.1
    refine b16_13 (fun h => b16_20 (P := fun v S2 => v = C.getD 0 0 ∧ Fz [(6, 5), (6, 6)] [] S1 S2) ?_ ?_) (fun h => b16_16 (fin 0 S1 Fz.refl ?_))
    · refine c15 (k := 0) (d := d) hW hCh hFl hbl (hC.of hF (by decide)) ((hF.f (by decide)).trans ha) ?_ hk31 (fun S2 h => ⟨_, rfl, rfl, h⟩)
      refine Nat.pos_of_ne_zero (fun q => h ?_)
      rw [q]; rfl
    · rintro _ S2 ⟨rfl, hF2⟩
      exact fin _ S2 hF2 rfl
    · have := (i_inj (b := 0) (by omega) (by omega)).1 (Classical.not_not.1 h)
      rw [List.length_eq_zero_iff.1 this]; rfl
end CCH
