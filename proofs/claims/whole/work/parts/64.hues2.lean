/-! HUES: class and reference -/
section HUES2
variable {b m rl : Nat} {ins : Int32} {up : Nat → Int32} {F : List Int32} {h : Nat}
theorem i_max (a c : Nat) (ha : a < 2147483648) (hc : c < 2147483648) : (if Int32.ofNat a < Int32.ofNat c then Int32.ofNat c else Int32.ofNat a) = Int32.ofNat (if a < c then c else a) := by
  by_cases q : a < c
  · rw [if_pos q, if_pos ((i_lt ha hc).2 q)]
  · rw [if_neg q, if_neg (fun z => q ((i_lt ha hc).1 z))]
theorem c47 (hsym : ∀ r o, tb (up r) o = tb (up o) r) (hirr : ∀ r, tb (up r) r = false) (hins : Low 20 ins) (hh : h ≤ 100) : ∀ (k dd deep used : Nat) (rest : Int32) (H : Nat → Int32) (S : St) (Q : Out → St → Prop), k + 3 ≤ dd → (∀ r, r < 20 → S.2.1 23 r = up r) → PI up ins H rest used h → (∀ c, c < 20 → S.2.1 33 c = H c) → pcn rest < k → deep + k ≤ 40 → (∀ S1 (z : Bool), Fz [] [33] S S1 → (z = true ↔ Ext up ins H h) → (z = false → ∀ c, c < 20 → S1.2.1 33 c = H c) → Q (.inl (some (.int (bi z)))) S1) → Wp dd 0 47 0 [.ref 8, .int rest, .int (Int32.ofNat used), .int (Int32.ofNat h), .int (Int32.ofNat deep)] [] S Q := by
  intro k
  induction k with
  | zero => intro dd deep used rest H S Q hdd hu hP h33 hp; omega
  | succ k ih =>
    intro dd deep used rest H S Q hdd hu hP h33 hp hde K
    obtain ⟨e, rfl⟩ : ∃ e, dd = e + 3 := ⟨dd - 3, by omega⟩
    obtain ⟨p1, p2, p3, p4, p5, p6, p7⟩ := id hP
    have rest20 : Low 20 rest := sb_low p7 hins
    refine b47_0 (fun hne => b47_6 (P := fun v S1 => S = S1 ∧ ∃ r, tb rest r = true ∧ v = Int32.ofNat r) (c48 rest20 hne (by omega) (fun r hr => ⟨_, rfl, rfl, r, hr, rfl⟩)) ?_) (fun h0 => b47_4 (Or.inr rfl) ?_)
    · rintro _ _ ⟨rfl, r, hr, rfl⟩
      have r20 := rest20 r hr
      have u20 : used < 20 := by
        have := pcn_drop hne
        omega
      have tl : tb (bit r) r = true := by rw [tb_bit (by omega)]; simp
      have hlt : pcn (rest &&& (bit r ^^^ -1)) < pcn rest := pcn_lt (sb_andl _ _) (fun q => by
        have := hr
        rw [← q] at this
        have := (dif_t.1 this).2
        rw [tl] at this; cases this)
      have notin : ∀ c, c < 20 → tb (H c) r = false := fun c hc => bneg (fun q => by
        have := (p1 c hc).2.1 r q
        rw [hr] at this; cases this)
      have loop : ∀ j z S', z + j = used + 1 → Fz [] [33] S S' → (∀ c, c < 20 → S'.2.1 33 c = H c) → (∀ c, c < z → ¬ (c < h ∧ H c &&& up r = 0 ∧ Ext up ins (hadd H c r) h)) → Wp (e + 3) 0 47 23 [.ref 8, .int rest, .int (Int32.ofNat used), .int (Int32.ofNat h), .int (Int32.ofNat deep), .int (Int32.ofNat r), .int (bit r), .int (Int32.ofNat z)] [] S' Q := by
        intro j
        induction j with
        | zero =>
          intro z S' hz hF h33' hno
          refine b47_23 (fun _ => b47_132 (Or.inl rfl) (K S' false hF ⟨(fun q => by cases q), fun q => ?_⟩ (fun _ => h33'))) (fun hq => absurd ((i_lt (by omega) (by omega)).2 (by omega)) hq)
          obtain ⟨c, c1, c2, c3, c4⟩ := (ext_step hP hr).1 q
          exact absurd ⟨c2, c3, c4⟩ (hno c (by omega))
        | succ j ihj =>
          intro z S' hz hF h33' hno
          have z20 : z < 20 := by omega
          have vp := i_vp (k := z) (n := 20) z20 (by omega)
          have e33 : S'.2.1 33 (Int32.ofNat z).toNatClampNeg = H z := by rw [i_cl (by omega)]; exact h33' z z20
          have next : ∀ S2, Fz [] [33] S S2 → (∀ c, c < 20 → S2.2.1 33 c = H c) → ¬ (z < h ∧ H z &&& up r = 0 ∧ Ext up ins (hadd H z r) h) → Wp (e + 3) 0 47 126 [.ref 8, .int rest, .int (Int32.ofNat used), .int (Int32.ofNat h), .int (Int32.ofNat deep), .int (Int32.ofNat r), .int (bit r), .int (Int32.ofNat z)] [] S2 Q := by
            intro S2 hF2 h332 hn
            refine b47_126 ?_
            rw [i_suc]
            refine ihj (z + 1) S2 (by omega) hF2 h332 (fun c hc => ?_)
            by_cases ec : c = z
            · subst ec; exact hn
            · exact hno c (by omega)
          refine b47_23 (fun hq => ?_) (fun _ => b47_29 (fun hq => b47_132 (Or.inl rfl) (K S' false hF ⟨(fun q => by cases q), fun q => ?_⟩ (fun _ => h33'))) (fun hq => b47_35 (fun hq2 => ?_) (fun _ => b47_42 (fun hq2 => ?_) (fun _ => b47_49 vp (s147d (by omega)) ?_))))
          · have := (i_lt (by omega) (by omega)).1 hq
            omega
          · have hle := (i_le (by omega) (by omega)).1 hq
            obtain ⟨c, c1, c2, c3, c4⟩ := (ext_step hP hr).1 q
            exact absurd ⟨c2, c3, c4⟩ (hno c (by omega))
          · have := (i_le (a := 20) (by omega) (by omega)).1 hq2
            omega
          · have := (i_le (a := 45) (by omega) (by omega)).1 hq2
            omega
          · have zh : z < h := by
              have := mt (i_le (by omega) (by omega)).2 hq
              omega
            rintro _ _ ⟨rfl, rfl⟩
            have eu : (if r < 20 then S'.2.1 23 r else 0) = up r := by
              rw [if_pos r20]
              exact (hF.a (by decide) r).trans (hu r r20)
            rw [eu, e33]
            refine b47_68 (fun hq2 => next S' hF h33' (fun w => hq2 w.2.1)) (fun hq2 => b47_72 vp vp ?_)
            have h0 := Classical.not_not.1 hq2
            rw [e33, i_suc, i_max used (z + 1) (by omega) (by omega), i_cl (by omega)]
            have hP' := pi_step hsym hirr hP hr (by omega : z ≤ used) zh h0
            have hA33 : ∀ c, c < 20 → (setA S' 33 z (H z ||| bit r)).2.1 33 c = hadd H z r c := fun c hc => by
              unfold hadd
              by_cases ec : c = z
              · rw [if_pos ec, ec, seta_same]
              · rw [if_neg ec, seta_ne (by omega)]; exact h33' c hc
            have hFA : Fz [] [33] S (setA S' 33 z (H z ||| bit r)) := hF.seta (by decide)
            refine b47_100 (P := fun v S2 => ∃ y : Bool, v = bi y ∧ Fz [] [33] (setA S' 33 z (H z ||| bit r)) S2 ∧ (y = true ↔ Ext up ins (hadd H z r) h) ∧ (y = false → ∀ c, c < 20 → S2.2.1 33 c = hadd H z r c)) ?_ ?_
            · rw [i_suc]
              exact ih (e + 2) (deep + 1) _ _ (hadd H z r) _ _ (by omega) (fun r' hr' => (hFA.a (by decide) r').trans (hu r' hr')) hP' hA33 (by omega) (by omega) (fun S2 y k1 k2 k3 => ⟨_, rfl, y, rfl, k1, k2, k3⟩)
            · rintro _ S2 ⟨y, rfl, hF2, hy, hback⟩
              have hF2' := hFA.trans hF2
              cases y with
              | true =>
                refine b47_107 (fun q => absurd q (by decide)) (fun _ => b47_110 (Or.inr rfl) (K S2 true hF2' ⟨fun _ => (ext_step hP hr).2 ⟨z, by omega, zh, h0, hy.1 rfl⟩, fun _ => rfl⟩ (fun q => by cases q)))
              | false =>
                refine b47_107 (fun _ => b47_112 vp vp ?_) (fun q => absurd rfl q)
                rw [i_cl (by omega), hback rfl z z20, hadd_back notin (by omega) z20]
                refine next _ (hF2'.seta (by decide)) (fun c hc => ?_) (fun w => by have := hy.2 w.2.2; cases this)
                by_cases ec : c = z
                · rw [ec, seta_same]
                · rw [seta_ne (by omega), hback rfl c hc]
                  unfold hadd
                  rw [if_neg ec]
      exact b47_12 (loop (used + 1) 0 S (by omega) Fz.refl h33 (fun c hc => absurd hc (by omega)))
    · have h0 := Classical.not_not.1 h0
      subst h0
      exact K S true Fz.refl ⟨fun _ => ext_base hP, fun _ => rfl⟩ (fun q => by cases q)
theorem pi_start (hins : Low 20 ins) : PI up ins (fun _ => 0) ins 0 h := by
  refine ⟨fun c _ => ⟨sb_zero _, (fun r hr => by rw [tb_zero] at hr; cases hr), (fun r o hr => by rw [tb_zero] at hr; cases hr)⟩, fun _ _ _ => rfl, (fun r h1 h2 => by rw [h1] at h2; cases h2), (fun c c' r _ _ hr => by rw [tb_zero] at hr; cases hr), Nat.zero_le _, ?_, sb.refl _⟩
  have := pcn_lown hins (by omega)
  omega
theorem ext_start : Ext up ins (fun _ => 0) h ↔ Col up ins h := by
  constructor
  · rintro ⟨col, c1, _⟩; exact ⟨col, c1⟩
  · rintro ⟨col, c1⟩; exact ⟨col, c1, (fun c _ r hr => by rw [tb_zero] at hr; cases hr)⟩
theorem c46 {d : Nat} {S : St} {Q : Out → St → Prop} (hU : UW m rl ins up F) (hW : WB ins up F S) (hh : h ≤ 100) (K : ∀ S1 (z : Bool), Fz [] [33] S S1 → (z = true ↔ Col up ins h) → Q (.inl (some (.int (bi z)))) S1) : Wp (d + 25) b 46 0 [.ref 8, .int (Int32.ofNat h)] [] S Q := by
  have i20 : Low 20 ins := low_le hU.2.2.1 hU.1
  have loop : ∀ k i S', i + k = 20 → Fz [] [33] S S' → (∀ c, c < i → S'.2.1 33 c = 0) → Wp (d + 25) b 46 2 [.ref 8, .int (Int32.ofNat h), .int (Int32.ofNat i)] [] S' Q := by
    intro k
    induction k with
    | zero =>
      intro i S' hi hF hc
      refine b46_2 (fun _ => b46_21 (P := fun v S1 => ∃ z : Bool, v = bi z ∧ Fz [] [33] S S1 ∧ (z = true ↔ Col up ins h)) ?_ ?_) (fun hq => absurd ((i_le (a := 20) (by omega) (by omega)).2 (by omega)) hq)
      · rw [(hF.f (by decide)).trans hW.1]
        refine c47 hU.2.2.2.1 hU.2.2.2.2.1 i20 hh 21 (d + 24) 0 0 ins (fun _ => 0) S' _ (by omega) (fun r hr => (hF.a (by decide) r).trans (hW.2.2.1 r hr)) (pi_start i20) (fun c hc' => hc c (by omega)) ?_ (by omega) (fun S1 z k1 k2 _ => ⟨_, rfl, z, rfl, hF.trans k1, k2.trans ext_start⟩)
        have := pcn_lown i20 (by omega)
        omega
      · rintro _ S1 ⟨z, rfl, k1, k2⟩
        exact b46_35 (bi01 z) (K S1 z k1 k2)
    | succ k ih =>
      intro i S' hi hF hc
      refine b46_2 (fun hq => ?_) (fun _ => b46_8 (i_vp (by omega) (by omega)) ?_)
      · have := (i_le (a := 20) (by omega) (by omega)).1 hq
        omega
      · rw [i_suc, i_cl (by omega)]
        refine ih (i + 1) _ (by omega) (hF.seta (by decide)) (fun c hc' => ?_)
        by_cases e : c = i
        · rw [e, seta_same]
        · rw [seta_ne (by omega)]; exact hc c (by omega)
  exact b46_0 (loop 20 0 S (by omega) Fz.refl (fun c h => absurd h (by omega)))
theorem col_mono {h k : Nat} (hk : h ≤ k) (hc : Col up ins h) : Col up ins k := by
  obtain ⟨col, c1, c2⟩ := hc
  exact ⟨col, fun r hr => Nat.lt_of_lt_of_le (c1 r hr) hk, c2⟩
theorem col_20 (hirr : ∀ r, tb (up r) r = false) (hins : Low 20 ins) : Col up ins 20 := ⟨fun r => r, fun r hr => hins r hr, fun r o _ _ hb e => by
  have e : r = o := e
  rw [← e, hirr] at hb; cases hb⟩
/-- as many upright on one another need as many hues -/
theorem col_two {r o : Nat} (hr : tb ins r = true) (ho : tb ins o = true) (hb : tb (up r) o = true) {k : Nat} (hc : Col up ins k) : 2 ≤ k := by
  obtain ⟨col, c1, c2⟩ := hc
  have := c2 r o hr ho hb
  have := c1 r hr
  have := c1 o ho
  omega
theorem c45 {d D : Nat} {S : St} {Q : Out → St → Prop} (hU : UW m rl ins up F) (hW : WB ins up F S) (hD : S.1 2 0 = Int32.ofNat D) (hD4 : D ≤ 4) (hlow : ∀ k, Col up ins k → (0 < F.length → D ≤ k) ∧ (0 < sumN (fun r => pcn (up r)) 20 / 2 → 2 ≤ k)) (hk : S.1 8 6 = -1 ∨ ∃ k, HueIs up ins k ∧ k ≤ 20 ∧ S.1 8 6 = Int32.ofNat k) (K : ∀ S1 k, Fz [(8, 6)] [33] S S1 → HueIs up ins k → k ≤ 20 → S1.1 8 6 = Int32.ofNat k → Q (.inl (some (.int (Int32.ofNat k)))) S1) : Wp (d + 26) b 45 0 [.ref 8] [] S Q := by
  have i20 : Low 20 ins := low_le hU.2.2.1 hU.1
  have F300 := hU.2.2.2.2.2.2.2.2.2
  have hs := sumN_le (f := fun r => pcn (up r)) (c := 32) (fun k => pcn_le _) 20
  refine b45_0 (fun q => b45_96 ?_) (fun q => ?_)
  · rcases hk with w | ⟨k, k1, k2, k3⟩
    · exact absurd w q
    · rw [k3]; exact K S k Fz.refl k1 k2 k3
  · -- from a number on below which it can't be
    have from_ : ∀ low, low ≤ 4 → (∀ k, Col up ins k → low ≤ k) → Wp (d + 26) b 45 60 [.ref 8] [.int (Int32.ofNat low)] S Q := by
      intro low hl4 hlw
      have loop : ∀ j z S', z + j = 20 → Fz [(8, 6)] [33] S S' → S'.1 8 6 = Int32.ofNat 20 → (∀ k, k < z → ¬ Col up ins k) → Wp (d + 26) b 45 69 [.ref 8, .int (Int32.ofNat low), .int (Int32.ofNat z)] [] S' Q := by
        intro j
        induction j with
        | zero =>
          intro z S' hz hF h6 hno
          refine b45_69 (fun _ => b45_96 ?_) (fun hq => ?_)
          · rw [h6]
            exact K S' 20 hF ⟨col_20 hU.2.2.2.2.1 i20, fun k hk' => hno k (by omega)⟩ (Nat.le_refl _) h6
          · rw [h6] at hq
            exact absurd ((i_le (by omega) (by omega)).2 (by omega)) hq
        | succ j ihj =>
          intro z S' hz hF h6 hno
          refine b45_69 (fun hq => ?_) (fun _ => b45_77 (P := fun v S1 => ∃ y : Bool, v = bi y ∧ Fz [] [33] S' S1 ∧ (y = true ↔ Col up ins z)) (c46 (h := z) hU (hW.of hF (by decide)) (by omega) (fun S1 y k1 k2 => ⟨_, rfl, y, rfl, k1, k2⟩)) ?_)
          · rw [h6] at hq
            have := (i_le (by omega) (by omega)).1 hq
            omega
          · rintro _ S1 ⟨y, rfl, hF1, hy⟩
            have hF1' : Fz [(8, 6)] [33] S S1 := hF.trans (hF1.mono (by decide) (by decide))
            cases y with
            | true =>
              refine b45_82 (fun w => absurd w (by decide)) (fun _ => b45_85 (b45_90 ?_))
              rw [i_suc]
              refine b45_69 (fun _ => b45_96 ?_) (fun hq => ?_)
              · rw [seti_same]
                exact K _ z (hF1'.seti (by decide)) ⟨hy.1 rfl, hno⟩ (by omega) seti_same
              · rw [seti_same] at hq
                exact absurd ((i_le (by omega) (by omega)).2 (by omega)) hq
            | false =>
              refine b45_82 (fun _ => b45_90 ?_) (fun w => absurd rfl w)
              rw [i_suc]
              refine ihj (z + 1) S1 (by omega) hF1' ((hF1.f (by decide)).trans h6) (fun k hk' hc => ?_)
              by_cases e : k = z
              · subst e
                have := hy.2 hc
                cases this
              · exact hno k (by omega) hc
      exact b45_60 (loop (20 - low) low _ (by omega) (Fz.refl.seti (by decide)) seti_same (fun k hk' hc => by have := hlw k hc; omega))
    refine b45_8 (fun hq => b45_31 (fun hq2 => b45_45 (fun hq3 => b45_59 (from_ 0 (by omega) (fun k _ => Nat.zero_le k))) (fun hq3 => b45_55 (from_ 1 (by omega) (fun k hc => ?_)))) (fun hq2 => b45_41 (from_ 2 (by omega) (fun k hc => ?_)))) (fun hq => b45_18 ?_)
    · rw [hW.1] at hq3
      obtain ⟨r, hr⟩ := ne0 hq3
      obtain ⟨col, c1, _⟩ := hc
      have := c1 r hr
      omega
    · rw [hW.2.1] at hq2
      refine (hlow k hc).2 ?_
      refine Nat.pos_of_ne_zero (fun e => hq2 ?_)
      rw [e]; decide
    · rw [hD]
      refine from_ D hD4 (fun k hc => (hlow k hc).1 ?_)
      rw [hW.2.2.2.1] at hq
      refine Nat.pos_of_ne_zero (fun e => hq ?_)
      rw [e]; decide
end HUES2
