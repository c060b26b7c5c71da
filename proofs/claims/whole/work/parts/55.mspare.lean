/-! THE REFERENCE: what can be left out; choices asked for -/
section MSP
variable {b m rl : Nat} {ins : Int32} {up : Nat → Int32} {F : List Int32}
theorem and_sub {s t : Int32} (h : sb s t) : s &&& t = s := sb_anti (sb_andl _ _) (fun k hk => and_t.2 ⟨hk, h k hk⟩)
theorem refB_rf {set : Int32} (h : sb set ins) : refB m rl ins up F set = rfB m rl up F set := by
  unfold refB rfB
  rw [and_sub h]
theorem w187 {d : Nat} {S : St} {back : Bool} {Q : Out → St → Prop} (hW : MW m rl ins up F S) (K : ∀ S1, Fz [(46, 4), (46, 13), (46, 14)] [] S S1 → S1.1 46 4 = 0 → Q (.inl (some (.int (if rfB m rl up F ins = true then spU (rfB m rl up F) (rayM m back) m ins else 0)))) S1) : Wp (d + 25) b 187 0 [.ref 46, .int (bi back)] [] S Q := by
  obtain ⟨hm, h20, hi, hlow, hrl, h1, hup, hL, hlen, hbs⟩ := id hW
  have hF0 : Fz [(46, 4), (46, 13), (46, 14)] [] S (setI S 46 4 0) := Fz.refl.seti (by decide)
  refine b187_0 (P := fun v S1 => v = bi (rfB m rl up F ins) ∧ Fz [(46, 4), (46, 13), (46, 14)] [] S S1 ∧ S1.1 46 4 = 0) ?_ ?_
  · have e : (setI S 46 4 0).1 46 2 = ins := hi
    rw [e]
    refine w171 ins (hW.of hF0 (by decide)) (fun S1 h => ⟨_, rfl, ?_, hF0.trans (h.mono (by decide) (by decide)), ?_⟩)
    · rw [refB_rf (sb.refl _)]
    · rw [h.f (by decide), seti_same]
  · rintro _ S1 ⟨rfl, hF1, h4⟩
    refine b187_13 (fun h => b187_18 ?_) (fun h => b187_16 ?_)
    · have hr := bi1.1 h
      have hi1 : S1.1 46 2 = ins := (hF1.f (by decide)).trans hi
      rw [hi1]
      have loop : ∀ k i S', i + k = m → Fz [(46, 4), (46, 13), (46, 14)] [] S S' → S'.1 46 4 = 0 → Wp (d + 25) b 187 25 [.ref 46, .int (bi back), .int (spU (rfB m rl up F) (rayM m back) i ins), .int (Int32.ofNat i)] [] S' Q := by
        intro k
        induction k with
        | zero =>
          intro i S' hi' hF h4'
          have e : i = m := by omega
          subst e
          refine b187_25 (fun _ => b187_90 ?_) (fun h => ?_)
          · have k0 := K S' hF h4'
            rw [if_pos hr] at k0
            exact k0
          · rw [(hF.f (by decide)).trans hm] at h
            exact absurd ((i_le (by omega) (by omega)).2 (Nat.le_refl _)) h
        | succ k ih =>
          intro i S' hi' hF h4'
          have hsb := spU_sb (rfB m rl up F) (rayM m back) i ins
          have r20 : rayM m back i < m := by unfold rayM; split <;> omega
          have hm' : S'.1 46 1 = Int32.ofNat m := (hF.f (by decide)).trans hm
          have next : ∀ (s : Int32) (S2 : St) (x4 : Int32), s = spU (rfB m rl up F) (rayM m back) (i + 1) ins → Fz [(46, 4), (46, 13), (46, 14)] [] S S2 → S2.1 46 4 = 0 → Wp (d + 25) b 187 84 [.ref 46, .int (bi back), .int s, .int (Int32.ofNat i), .int x4] [] S2 Q := by
            rintro s S2 x4 rfl hF2 h42
            refine b187_84 ?_
            rw [i_suc]
            exact ih (i + 1) S2 (by omega) hF2 h42
          have step : Wp (d + 25) b 187 49 [.ref 46, .int (bi back), .int (spU (rfB m rl up F) (rayM m back) i ins), .int (Int32.ofNat i)] [.int (Int32.ofNat (rayM m back i))] S' Q := by
            refine b187_49 (s154 _ (by omega)) ?_
            rintro _ _ ⟨rfl, rfl⟩
            refine b187_57 (fun h => next _ S' _ ?_ hF h4') (fun h => b187_60 (P := fun v S2 => v = bi (rfB m rl up F (spU (rfB m rl up F) (rayM m back) i ins &&& (bit (rayM m back i) ^^^ -1))) ∧ Fz [(46, 13), (46, 14)] [] S' S2) ?_ ?_)
            · show _ = spS _ _ _
              rw [spS_out (bi0.1 h)]
            · refine w171 (d := d) _ (hW.of hF (by decide)) (fun S2 h => ⟨_, rfl, ?_, h⟩)
              rw [refB_rf ((sb_andl _ _).trans hsb)]
              rfl
            · rintro _ S2 ⟨rfl, hF2⟩
              have hF2' := hF.trans (hF2.mono (fs' := [(46, 4), (46, 13), (46, 14)]) (as' := []) (by decide) (by decide))
              have h42 : S2.1 46 4 = 0 := (hF2.f (by decide)).trans h4'
              refine b187_72 (fun q => next _ S2 _ ?_ hF2' h42) (fun q => b187_75 (next _ S2 _ ?_ hF2' h42))
              · show _ = spS _ _ _
                unfold spS
                rw [if_neg (fun w => by rw [bi0.1 q] at w; cases w.2)]
              · show _ = spS _ _ _
                unfold spS
                rw [if_pos ⟨bi1.1 h, bi1.1 q⟩]
                rfl
          refine b187_25 (fun h => ?_) (fun _ => b187_33 (fun h => b187_48 ?_) (fun h => b187_37 ?_))
          · rw [hm'] at h
            have := (i_le (by omega) (by omega)).1 h
            omega
          · have hb := bi0.1 h
            subst hb
            exact step
          · have hb := bi1.1 h
            subst hb
            rw [hm', show (1 : Int32) = Int32.ofNat 1 from rfl, i_sub (by omega), i_sub (by omega)]
            exact step
      exact loop m 0 S1 (by omega) hF1 h4
    · have hr := bi0.1 (Classical.not_not.1 h)
      have k0 := K S1 hF1 h4
      rw [if_neg (by rw [hr]; decide)] at k0
      exact k0
/-- failing: code 1 -/
theorem s152 {d : Nat} {S : St} (x : Int32) : Wp d b 152 0 [.ref 46, .int x] [] S (Ri (Vx 0 (setI S 46 4 x))) := b152_0 ⟨_, rfl, rfl, rfl⟩
theorem w184 {d : Nat} {S : St} {x : Int32} {Q : Out → St → Prop} (hW : MW m rl ins up F S) (K1 : x < 0 ∨ (chs m rl up F ins).length ≤ x.toNatClampNeg → ∀ v S1, Fz [(46, 4), (46, 13), (46, 14)] [] S S1 → S1.1 46 4 = 1 → Q (.inl (some (.int v))) S1) (K0 : ¬ x < 0 → x.toNatClampNeg < (chs m rl up F ins).length → ∀ S1, Fz [(46, 4), (46, 13), (46, 14)] [] S S1 → S1.1 46 4 = 0 → Q (.inl (some (.int ((chs m rl up F ins).getD x.toNatClampNeg 0)))) S1) : Wp (d + 23) b 184 0 [.ref 46, .int x] [] S Q := by
  obtain ⟨hm, h20, hi, hlow, hrl, h1, hup, hL, hlen, hbs⟩ := id hW
  have hF0 : Fz [(46, 4), (46, 13), (46, 14)] [] S (setI S 46 4 0) := Fz.refl.seti (by decide)
  refine b184_0 (fun h => ?_) (fun h => b184_9 (s152 1) ?_)
  · have hx : ¬ x < 0 := by
      rw [Int32.lt_iff_toInt_lt]
      rw [Int32.le_iff_toInt_le] at h
      omega
    have ex : x.toInt = (x.toNatClampNeg : Int) := by
      conv => lhs; rw [i_of hx]
      rw [i_toInt (i_clt x)]
    have h31 := i_clt x
    have hF1 : Fz [(46, 4), (46, 13), (46, 14)] [] S (setI (setL (setI S 46 4 0) (x.toInt64 + ((1 : Int32)).toInt64)) 46 14 (-1)) := Fz.seti (Fz.setl hF0) (by decide)
    refine b184_15 (P := fun v S1 => Fz [(46, 4), (46, 13), (46, 14)] [] S S1 ∧ S1.1 46 4 = 0 ∧ Hit (chs m rl up F ins) (x.toNatClampNeg + 1) v S1) ?_ ?_
    · have e1 : (setI (setL (setI S 46 4 0) (x.toInt64 + ((1 : Int32)).toInt64)) 46 14 (-1)).1 46 1 = Int32.ofNat m := hm
      have e2 : (setI (setL (setI S 46 4 0) (x.toInt64 + ((1 : Int32)).toInt64)) 46 14 (-1)).1 46 2 = ins := hi
      rw [e1, e2]
      refine w167p ins m (d + 22) (x.toNatClampNeg + 1) 0 _ _ (by omega) (Nat.le_refl _) (hW.of hF1 (by decide)) seti_same (by omega) (by omega) ?_ (fun v S1 h2 h3 => ⟨_, rfl, hF1.trans (h2.mono (by decide) (by decide)), ?_, h3⟩)
      · show (x.toInt64 + ((1 : Int32)).toInt64).toInt = _
        rw [Int64.toInt_add, Int32.toInt_toInt64, l1, ex]
        rw [Int.bmod_eq_of_le (by omega) (by omega)]
        omega
      · rw [h2.f (by decide)]; rfl
    · rintro v S1 ⟨hF, h4, hH⟩
      refine b184_41 (fun q => b184_58 (s152 1) ?_) (fun q => b184_51 (b184_63 ?_))
      · have q' : ¬ S1.2.2.1.toInt = 0 := fun z => q (lcmp0.2 z)
        rintro _ _ ⟨rfl, rfl⟩
        refine b184_63 (K1 (Or.inr ?_) _ _ (hF.seti (by decide)) seti_same)
        rcases hH with ⟨_, z, _⟩ | ⟨z, _⟩
        · exact absurd z q'
        · omega
      · have q' := lcmp0.1 (Classical.not_not.1 q)
        rcases hH with ⟨z1, _, z3, _⟩ | ⟨z1, z2, _⟩
        · rw [z3]
          exact K0 hx (by omega) S1 hF h4
        · omega
  · rintro _ _ ⟨rfl, rfl⟩
    refine b184_14 (K1 (Or.inl ?_) _ _ (hF0.seti (by decide)) seti_same)
    rw [Int32.lt_iff_toInt_lt]
    rw [Int32.le_iff_toInt_le] at h
    omega
theorem w185 {d : Nat} {S : St} {x z : Int32} {Q : Out → St → Prop} (hW : MW m rl ins up F S) (K1 : ¬ ((rayB m x && tb ins x.toNatClampNeg) = true ∧ (z = 0 ∨ z = 1)) → ∀ v S1, Fz [(46, 4), (46, 13), (46, 14), (46, 15)] [] S S1 → S1.1 46 4 = 1 → Q (.inl (some (.int v))) S1) (K0 : (rayB m x && tb ins x.toNatClampNeg) = true → (z = 0 ∨ z = 1) → ∀ S1, Fz [(46, 4), (46, 13), (46, 14), (46, 15)] [] S S1 → S1.1 46 4 = 0 → Q (.inl (some (.int (Int32.ofNat ((chs m rl up F ins).filter (fun Y => tb Y x.toNatClampNeg == decide (z = 1))).length)))) S1) : Wp (d + 23) b 185 0 [.ref 46, .int x, .int z] [] S Q := by
  obtain ⟨hm, h20, hi, hlow, hrl, h1, hup, hL, hlen, hbs⟩ := id hW
  have hF0 : Fz [(46, 4), (46, 13), (46, 14), (46, 15)] [] S (setI S 46 4 0) := Fz.refl.seti (by decide)
  have bad : ¬ ((rayB m x && tb ins x.toNatClampNeg) = true ∧ (z = 0 ∨ z = 1)) → Wp (d + 23) b 185 22 [.ref 46, .int x, .int z] [] (setI S 46 4 0) Q := by
    intro hn
    refine b185_22 (s152 1) ?_
    rintro _ _ ⟨rfl, rfl⟩
    exact b185_27 (K1 hn _ _ (hF0.seti (by decide)) seti_same)
  refine b185_0 (P := Vx (bi (rayB m x && tb ins x.toNatClampNeg)) (setI S 46 4 0)) (s159 (d := d + 20) x hm h20 hi) ?_
  rintro _ _ ⟨rfl, rfl⟩
  refine b185_10 (fun h => bad (fun q => by rw [bi0.1 h] at q; cases q.1)) (fun h => b185_13 s153 ?_)
  rintro _ _ ⟨rfl, rfl⟩
  have hz : (0 ≤ z ∧ z ≤ 1) ↔ (z = 0 ∨ z = 1) := by
    rw [Int32.le_iff_toInt_le, Int32.le_iff_toInt_le, ← Int32.toInt_inj, ← Int32.toInt_inj]
    have e0 : (0 : Int32).toInt = 0 := by decide
    have e1 : (1 : Int32).toInt = 1 := by decide
    rw [e0, e1]
    omega
  refine b185_19 (fun h2 => ?_) (fun h2 => bad (fun q => ?_))
  · have hx := bi1.1 h
    have hz' := hz.1 (of_decide_eq_true (bi1.1 h2))
    have hx' := hx
    rw [Bool.and_eq_true] at hx'
    unfold rayB at hx'
    have hr := of_decide_eq_true hx'.1
    have ex := i_of hr.1
    have hF1 : Fz [(46, 4), (46, 13), (46, 14), (46, 15)] [] S (setI (setI (setL (setI S 46 4 0) ((-1 : Int32)).toInt64) 46 14 x) 46 15 z) := (Fz.seti (Fz.setl hF0) (by decide)).seti (by decide)
    refine b185_28 (P := fun v S1 => v = Int32.ofNat ((chs m rl up F ins).filter (fun Y => tb Y x.toNatClampNeg == decide (z = 1))).length ∧ Fz [(46, 4), (46, 13), (46, 14), (46, 15)] [] S S1 ∧ S1.1 46 4 = 0) ?_ ?_
    · have e1 : (setI (setI (setL (setI S 46 4 0) ((-1 : Int32)).toInt64) 46 14 x) 46 15 z).1 46 1 = Int32.ofNat m := hm
      have e2 : (setI (setI (setL (setI S 46 4 0) ((-1 : Int32)).toInt64) 46 14 x) 46 15 z).1 46 2 = ins := hi
      rw [e1, e2]
      have hp : 2 ^ m ≤ 2 ^ 20 := Nat.pow_le_pow_right (n := 2) (by omega) h20
      refine w167n (ac := fun Y => tb Y x.toNatClampNeg == decide (z = 1)) ins m (d + 22) 0 0 _ _ (by omega) (Nat.le_refl _) (hW.of hF1 (by decide)) (Or.inr ⟨x.toNatClampNeg, if z = 1 then 1 else 0, by omega, ?_, by split <;> omega, ?_, fun Y => ?_⟩) (by show ((-1 : Int32)).toInt64.toInt = _; decide) (by omega) (fun S1 h2 h3 => ⟨_, rfl, rfl, hF1.trans (h2.mono (by decide) (by decide)), ?_⟩)
      · rw [seti_ne (by decide), seti_same]; exact ex
      · rw [seti_same]
        rcases hz' with rfl | rfl <;> rfl
      · rcases hz' with rfl | rfl <;> rfl
      · rw [h2.f (by decide)]; rfl
    · rintro _ S1 ⟨rfl, hF, h4⟩
      exact b185_58 (K0 hx hz' S1 hF h4)
  · have := bi0.1 (Classical.not_not.1 h2)
    exact absurd (hz.2 q.2) (of_decide_eq_false this)
theorem w186 {d : Nat} {S : St} {x : Int32} {Q : Out → St → Prop} (hW : MW m rl ins up F S) (K1 : ¬ sb x ins → ∀ v S1, Fz [(46, 4), (46, 13), (46, 14)] [] S S1 → S1.1 46 4 = 1 → Q (.inl (some (.int v))) S1) (K0 : sb x ins → ∀ S1, Fz [(46, 4), (46, 13), (46, 14)] [] S S1 → S1.1 46 4 = 0 → Q (.inl (some (.int (bi (rfB m rl up F x))))) S1) : Wp (d + 25) b 186 0 [.ref 46, .int x] [] S Q := by
  obtain ⟨hm, h20, hi, hlow, hrl, h1, hup, hL, hlen, hbs⟩ := id hW
  refine b186_0 (fun h => b186_16 (b186_17 (fun q => ?_) (fun _ => ?_))) (fun h => b186_12 (b186_17 (fun _ => b186_39 (b186_40 (Or.inl rfl) (K1 ?_ _ _ (Fz.refl.seti (by decide)) seti_same))) (fun q => ?_)))
  · rw [seti_same] at q; exact absurd rfl q
  · rw [hi] at h
    have hs := sb_sub0.1 h
    have hF0 : Fz [(46, 4), (46, 13), (46, 14)] [] S (setI S 46 4 0) := Fz.refl.seti (by decide)
    refine b186_27 (P := fun v S1 => v = bi (rfB m rl up F x) ∧ Fz [(46, 4), (46, 13), (46, 14)] [] S S1 ∧ S1.1 46 4 = 0) ?_ ?_
    · refine w171 (d := d) x (hW.of hF0 (by decide)) (fun S1 h => ⟨_, rfl, ?_, hF0.trans (h.mono (by decide) (by decide)), ?_⟩)
      · rw [refB_rf hs]
      · rw [h.f (by decide), seti_same]
    · rintro _ S1 ⟨rfl, hF, h4⟩
      have k := K0 hs S1 hF h4
      refine b186_32 (fun q => b186_39 (b186_40 (Or.inl rfl) ?_)) (fun q => b186_35 (b186_40 (Or.inr rfl) ?_))
      · rw [bi0.1 q] at k; exact k
      · rw [bi1.1 q] at k; exact k
  · rw [hi] at h
    exact fun q => h (sb_sub0.2 q)
  · rw [seti_same] at q; exact absurd (Classical.not_not.1 q) (by decide)
end MSP
