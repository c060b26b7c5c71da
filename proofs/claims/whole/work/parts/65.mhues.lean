/-! HUES: the reference -/
section MHUES
variable {b m rl : Nat} {ins : Int32} {up : Nat → Int32} {F : List Int32} {h : Nat}
theorem hi_out {r : Nat} (hr : tb ins r = false) : hi ins (r + 1) = hi ins r := by
  apply tb_ext
  intro k _
  rw [tb_hi, tb_hi]
  by_cases e : k = r
  · subst e; rw [hr, Bool.and_false, Bool.and_false]
  · have : decide (r + 1 ≤ k) = decide (r ≤ k) := by
      rw [decide_eq_decide]; omega
    rw [this]
theorem hi_in {r : Nat} (hr : r < 32) : hi ins r &&& (bit r ^^^ -1) = hi ins (r + 1) := by
  apply tb_ext
  intro k _
  rw [tb_diff, tb_hi, tb_hi, tb_bit hr]
  by_cases e : k = r
  · subst e
    rw [decide_eq_true rfl, decide_eq_false (by omega : ¬ k + 1 ≤ k)]
    simp
  · have : decide (r + 1 ≤ k) = decide (r ≤ k) := by
      rw [decide_eq_decide]; omega
    rw [this, decide_eq_false e]
    simp
theorem hi_end (hlow : Low m ins) : hi ins m = 0 := by
  apply tb_ext
  intro k _
  rw [tb_hi, tb_zero]
  cases e : tb ins k
  · rw [Bool.and_false]
  · have := hlow k e
    rw [decide_eq_false (by omega)]; rfl
theorem hi_zero : hi ins 0 = ins := by
  apply tb_ext
  intro k _
  rw [tb_hi]
  simp
theorem w222 (hU : UW m rl ins up F) (hh : h ≤ 100) : ∀ (j r dd used : Nat) (H : Nat → Int32) (S : St) (Q : Out → St → Prop), r + j = m → j + 4 ≤ dd → MW m rl ins up F S → PI up ins H (hi ins r) used h → (∀ c, c < 20 → S.2.1 60 c = H c) → (∀ S1 (z : Bool), Fz [] [60] S S1 → (z = true ↔ Ext up ins H h) → (∀ c, c < 20 → S1.2.1 60 c = H c) → Q (.inl (some (.int (bi z)))) S1) → Wp dd 0 222 0 [.ref 46, .int (Int32.ofNat r), .int (Int32.ofNat used), .int (Int32.ofNat h)] [] S Q := by
  intro j
  induction j with
  | zero =>
    intro r dd used H S Q hr hdd hW hP h60 K
    obtain ⟨hm, h20, hi', hlow, hrl, h1, hup, hL, hlen, hbs⟩ := id hW
    have e : r = m := by omega
    subst e
    rw [hi_end hlow] at hP
    refine b222_0 (fun q => absurd hm.symm q) (fun _ => b222_8 (Or.inr rfl) (K S true Fz.refl ⟨fun _ => ext_base hP, fun _ => rfl⟩ h60))
  | succ j ih =>
    intro r dd used H S Q hr hdd hW hP h60 K
    obtain ⟨e, rfl⟩ : ∃ e, dd = e + 4 := ⟨dd - 4, by omega⟩
    obtain ⟨hm, h20, hi', hlow, hrl, h1, hup, hL, hlen, hbs⟩ := id hW
    obtain ⟨p1, p2, p3, p4, p5, p6, p7⟩ := id hP
    refine b222_0 (fun _ => b222_10 (s159n (d := e + 1) (by omega) hm h20 hi') ?_) (fun q => ?_)
    · rintro _ _ ⟨rfl, rfl⟩
      refine b222_15 (fun hq => b222_28 ?_) (fun hq => b222_18 (P := fun v S1 => ∃ z : Bool, v = bi z ∧ Fz [] [60] S S1 ∧ (z = true ↔ Ext up ins H h) ∧ (∀ c, c < 20 → S1.2.1 60 c = H c)) ?_ ?_)
      · have hri := bi1.1 hq
        have hr' : tb (hi ins r) r = true := by rw [tb_hi, hri, decide_eq_true (Nat.le_refl _)]; rfl
        have u20 : used < 20 := by
          have l0 : ¬ hi ins r = 0 := fun q => by rw [q, tb_zero] at hr'; cases hr'
          have := pcn_drop l0
          omega
        have notin : ∀ c, c < 20 → tb (H c) r = false := fun c hc => bneg (fun q => by
          have := (p1 c hc).2.1 r q
          rw [hr'] at this; cases this)
        have loop : ∀ i z S', z + i = used + 1 → Fz [] [60] S S' → (∀ c, c < 20 → S'.2.1 60 c = H c) → (∀ c, c < z → ¬ (c < h ∧ H c &&& up r = 0 ∧ Ext up ins (hadd H c r) h)) → Wp (e + 4) 0 222 31 [.ref 46, .int (Int32.ofNat r), .int (Int32.ofNat used), .int (Int32.ofNat h), .int (Int32.ofNat z)] [] S' Q := by
          intro i
          induction i with
          | zero =>
            intro z S' hz hF h60' hno
            refine b222_31 (fun _ => b222_122 (Or.inl rfl) (K S' false hF ⟨(fun q => by cases q), fun q => ?_⟩ h60')) (fun hq => absurd ((i_lt (by omega) (by omega)).2 (by omega)) hq)
            obtain ⟨c, c1, c2, c3, c4⟩ := (ext_step hP hr').1 q
            exact absurd ⟨c2, c3, c4⟩ (hno c (by omega))
          | succ i ihi =>
            intro z S' hz hF h60' hno
            have z20 : z < 20 := by omega
            have vp := i_vp (k := z) (n := 20) z20 (by omega)
            have vr := i_vp (k := r) (n := 20) (by omega) (by omega)
            have e60 : S'.2.1 60 (Int32.ofNat z).toNatClampNeg = H z := by rw [i_cl (by omega)]; exact h60' z z20
            have e48 : S'.2.1 48 (Int32.ofNat r).toNatClampNeg = up r := by rw [i_cl (by omega)]; exact (hF.a (by decide) r).trans (hup r (by omega))
            have next : ∀ S2, Fz [] [60] S S2 → (∀ c, c < 20 → S2.2.1 60 c = H c) → ¬ (z < h ∧ H z &&& up r = 0 ∧ Ext up ins (hadd H z r) h) → Wp (e + 4) 0 222 116 [.ref 46, .int (Int32.ofNat r), .int (Int32.ofNat used), .int (Int32.ofNat h), .int (Int32.ofNat z)] [] S2 Q := by
              intro S2 hF2 h602 hn
              refine b222_116 ?_
              rw [i_suc]
              refine ihi (z + 1) S2 (by omega) hF2 h602 (fun c hc => ?_)
              by_cases ec : c = z
              · subst ec; exact hn
              · exact hno c (by omega)
            refine b222_31 (fun hq => ?_) (fun _ => b222_37 (fun hq => b222_122 (Or.inl rfl) (K S' false hF ⟨(fun q => by cases q), fun q => ?_⟩ h60')) (fun hq => b222_43 vp vr ?_ ?_))
            · have := (i_lt (by omega) (by omega)).1 hq
              omega
            · have hle := (i_le (by omega) (by omega)).1 hq
              obtain ⟨c, c1, c2, c3, c4⟩ := (ext_step hP hr').1 q
              exact absurd ⟨c2, c3, c4⟩ (hno c (by omega))
            all_goals rw [e60, e48]
            · intro h0
              have zh : z < h := by
                have := mt (i_le (by omega) (by omega)).2 hq
                omega
              have hP' := pi_step hU.2.2.2.1 hU.2.2.2.2.1 hP hr' (by omega : z ≤ used) zh h0
              rw [hi_in (by omega)] at hP'
              have hA60 : ∀ c, c < 20 → (setA S' 60 z (H z ||| bit r)).2.1 60 c = hadd H z r c := fun c hc => by
                unfold hadd
                by_cases ec : c = z
                · rw [if_pos ec, ec, seta_same]
                · rw [if_neg ec, seta_ne (by omega)]; exact h60' c hc
              have hFA : Fz [] [60] S (setA S' 60 z (H z ||| bit r)) := hF.seta (by decide)
              refine b222_63 vp vp (P := fun v S2 => ∃ y : Bool, v = bi y ∧ Fz [] [60] (setA S' 60 z (H z ||| bit r)) S2 ∧ (y = true ↔ Ext up ins (hadd H z r) h) ∧ (∀ c, c < 20 → S2.2.1 60 c = hadd H z r c)) ?_ ?_
              · rw [e60, i_suc, i_suc, i_max used (z + 1) (by omega) (by omega), i_cl (by omega)]
                exact ih (r + 1) (e + 3) _ (hadd H z r) _ _ (by omega) (by omega) (hW.of hFA (by decide)) hP' hA60 (fun S2 y k1 k2 k3 => ⟨_, rfl, y, rfl, k1, k2, k3⟩)
              · rintro _ S2 ⟨y, rfl, hF2, hy, hback⟩
                have hF2' := hFA.trans hF2
                have eb : S2.2.1 60 (Int32.ofNat z).toNatClampNeg &&& (((1 : Int32) <<< (Int32.ofNat r &&& 31)) ^^^ -1) = H z := by
                  rw [i_cl (by omega), hback z z20]
                  exact hadd_back notin (by omega) z20
                have h60r : ∀ c, c < 20 → (setA S2 60 z (H z)).2.1 60 c = H c := fun c hc => by
                  by_cases ec : c = z
                  · rw [ec, seta_same]
                  · rw [seta_ne (by omega), hback c hc]
                    unfold hadd
                    rw [if_neg ec]
                refine b222_92 vp vp ?_ ?_
                all_goals
                  rw [eb, i_cl (by omega)]
                  intro hy0
                · refine next _ (hF2'.seta (by decide)) h60r (fun w => ?_)
                  have := hy.2 w.2.2
                  rw [this] at hy0
                  exact absurd hy0 (by decide)
                · have hy1 := bi1.1 hy0
                  exact b222_114 (Or.inr rfl) (K _ true (hF2'.seta (by decide)) ⟨fun _ => (ext_step hP hr').2 ⟨z, by omega, zh, h0, hy.1 hy1⟩, fun _ => rfl⟩ h60r)
            · intro h0
              exact b222_60 (next S' hF h60' (fun w => h0 w.2.1))
        exact loop (used + 1) 0 S (by omega) Fz.refl h60 (fun c hc => absurd hc (by omega))
      · rw [i_suc]
        have hri := bi0.1 (Classical.not_not.1 hq)
        rw [← hi_out hri] at hP
        exact ih (r + 1) (e + 3) used H S _ (by omega) (by omega) hW hP h60 (fun S1 z k1 k2 k3 => ⟨_, rfl, z, rfl, k1, k2, k3⟩)
      · rintro _ S1 ⟨z, rfl, k1, k2, k3⟩
        exact b222_27 (bi01 z) (K S1 z k1 k2 k3)
    · have q := Classical.not_not.1 q
      rw [hm] at q
      have := (i_inj (by omega) (by omega)).1 q
      omega
theorem w223 {d : Nat} {S : St} {Q : Out → St → Prop} (hU : UW m rl ins up F) (hW : MW m rl ins up F S) (h60 : ∀ c, c < 20 → S.2.1 60 c = 0) (K : ∀ S1 k, Fz [(46, 4)] [60] S S1 → S1.1 46 4 = 0 → (∀ c, c < 20 → S1.2.1 60 c = 0) → HueIs up ins k → k ≤ 20 → Q (.inl (some (.int (Int32.ofNat k)))) S1) : Wp (d + 25) b 223 0 [.ref 46] [] S Q := by
  obtain ⟨hm, h20, hi', hlow, hrl, h1, hup, hL, hlen, hbs⟩ := id hW
  have i20 : Low 20 ins := low_le hlow h20
  have loop : ∀ j n S', n + j = 20 → Fz [(46, 4)] [60] S S' → S'.1 46 4 = 0 → (∀ c, c < 20 → S'.2.1 60 c = 0) → (∀ k, k < n → ¬ Col up ins k) → Wp (d + 25) b 223 7 [.ref 46, .int (Int32.ofNat n)] [] S' Q := by
    intro j
    induction j with
    | zero =>
      intro n S' hn hF h4 h60' hno
      have e : n = 20 := by omega
      subst e
      refine b223_7 (P := fun v S1 => ∃ z : Bool, v = bi z ∧ Fz [] [60] S' S1 ∧ (z = true ↔ Col up ins 20) ∧ (∀ c, c < 20 → S1.2.1 60 c = 0)) ?_ ?_
      · exact w222 hU (by omega) m 0 (d + 24) 0 (fun _ => 0) S' _ (by omega) (by omega) (hW.of hF (by decide)) (by rw [hi_zero]; exact pi_start i20) h60' (fun S1 z k1 k2 k3 => ⟨_, rfl, z, rfl, k1, k2.trans ext_start, k3⟩)
      · rintro _ S1 ⟨z, rfl, k1, k2, k3⟩
        have := k2.2 (col_20 hU.2.2.2.2.1 i20)
        subst this
        exact b223_14 (fun _ => b223_23 (K S1 20 (hF.trans (k1.mono (by decide) (by decide))) ((k1.f (by decide)).trans h4) k3 ⟨col_20 hU.2.2.2.2.1 i20, hno⟩ (Nat.le_refl _))) (fun q => absurd q (by decide))
    | succ j ih =>
      intro n S' hn hF h4 h60' hno
      refine b223_7 (P := fun v S1 => ∃ z : Bool, v = bi z ∧ Fz [] [60] S' S1 ∧ (z = true ↔ Col up ins n) ∧ (∀ c, c < 20 → S1.2.1 60 c = 0)) ?_ ?_
      · exact w222 hU (by omega) m 0 (d + 24) 0 (fun _ => 0) S' _ (by omega) (by omega) (hW.of hF (by decide)) (by rw [hi_zero]; exact pi_start i20) h60' (fun S1 z k1 k2 k3 => ⟨_, rfl, z, rfl, k1, k2.trans ext_start, k3⟩)
      · rintro _ S1 ⟨z, rfl, k1, k2, k3⟩
        have hF1 := hF.trans (k1.mono (fs' := [(46, 4)]) (as' := [60]) (by decide) (by decide))
        have h41 := (k1.f (by decide)).trans h4
        cases z with
        | true => exact b223_14 (fun _ => b223_23 (K S1 n hF1 h41 k3 ⟨k2.1 rfl, hno⟩ (by omega))) (fun q => absurd q (by decide))
        | false =>
          refine b223_14 (fun q => absurd rfl q) (fun _ => b223_17 ?_)
          rw [i_suc]
          refine ih (n + 1) S1 (by omega) hF1 h41 k3 (fun k hk hc => ?_)
          by_cases e : k = n
          · subst e
            have := k2.2 hc
            cases this
          · exact hno k (by omega) hc
  exact b223_0 (loop 20 0 _ (by omega) (Fz.refl.seti (by decide)) seti_same h60 (fun k hk => absurd hk (by omega)))
end MHUES
