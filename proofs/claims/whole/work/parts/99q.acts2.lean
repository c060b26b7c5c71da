/-! THE CALLS: acts -/
section ACTS2
variable {b D m rl rl' : Nat} {ins ins' : Int32} {nu : Nat → Nat → Int} {an : Nat} {aa : Nat → Int32 × Int32} {L : Nat}
theorem c140 {d : Nat} {S : St} {Q : Out → St → Prop} (h1 : S.1 0 14 = ins) (h2 : S.1 0 15 = Int32.ofNat rl) (hrl : rl ≤ 1) (hrl' : rl' ≤ 1) (hs : S.1 0 17 = 0 ∨ S.1 0 17 = 1) (K : ∀ S1, Fz [(0, 14), (0, 15), (0, 17)] [] S S1 → S1.1 0 14 = ins' → S1.1 0 15 = Int32.ofNat rl' → (S1.1 0 17 = 1 ∨ (S1.1 0 17 = S.1 0 17 ∧ ins' = ins ∧ rl' = rl)) → Q (.inl none) S1) : Wp d b 140 0 [.ref 0, .int ins', .int (Int32.ofNat rl')] [] S Q := by
  have fin : ∀ y0 : Int32, (y0 = 1 ∨ (y0 = 0 ∧ ins' = ins ∧ rl' = rl)) → Wp d b 140 26 [.ref 0, .int ins', .int (Int32.ofNat rl')] [.int y0, .int (S.1 0 17), .ref 0] S Q := by
    intro y0 hy
    have e : (S.1 0 17 ||| y0) = 1 ∨ ((S.1 0 17 ||| y0) = S.1 0 17 ∧ ins' = ins ∧ rl' = rl) := by
      rcases hs with h | h <;> rcases hy with hy | ⟨hy, hq⟩
      · rw [h, hy]; exact Or.inl (by decide)
      · rw [h, hy]; exact Or.inr ⟨by decide, hq⟩
      · rw [h, hy]; exact Or.inl (by decide)
      · rw [h, hy]; exact Or.inr ⟨by decide, hq⟩
    refine b140_26 ?_ (K _ (((Fz.refl.seti (by decide)).seti (by decide)).seti (by decide)) ((seti_ne (by decide)).trans seti_same) seti_same ?_)
    · rcases e with e | ⟨e, _⟩
      · exact Or.inr e
      · rw [e]; exact hs
    · rw [seti_ne (by decide), seti_ne (by decide), seti_same]
      exact e
  refine b140_0 (fun q => b140_21 (fin 1 (Or.inl rfl))) (fun q => b140_13 (fun q2 => b140_25 (fin 0 (Or.inr ⟨rfl, ?_, ?_⟩))) (fun q2 => b140_21 (fin 1 (Or.inl rfl))))
  · exact (Classical.byContradiction q).trans h1
  · rw [h2] at q2
    exact (i_inj (by omega) (by omega)).1 q2
theorem c139 {d : Nat} {S : St} {Q : Out → St → Prop} (h1 : S.1 0 14 = ins) (h2 : S.1 0 15 = Int32.ofNat rl) (hrl : rl ≤ 1) (hrl' : rl' ≤ 1) (hs : S.1 0 17 = 0 ∨ S.1 0 17 = 1) (hA : CA an aa S) (K : ∀ S1, Fz [(0, 14), (0, 15), (0, 17), (12, 2), (12, 3)] [43, 44] S S1 → S1.1 0 14 = ins' → S1.1 0 15 = Int32.ofNat rl' → CA (pushN an) (pushF an aa (ins, Int32.ofNat rl)) S1 → (S1.1 0 17 = 1 ∨ (S1.1 0 17 = S.1 0 17 ∧ ins' = ins ∧ rl' = rl)) → Q (.inl none) S1) : Wp (d + 1) b 139 0 [.ref 0, .int ins', .int (Int32.ofNat rl')] [] S Q := by
  refine b139_0 (P := fun S1 => Fz [(12, 2), (12, 3)] [43, 44] S S1 ∧ CA (pushN an) (pushF an aa (ins, Int32.ofNat rl)) S1) (by rw [h1, h2]; exact c2 hA (fun S1 a1 a2 => ⟨rfl, a1, a2⟩)) ?_
  rintro S1 ⟨a1, a2⟩
  refine b139_15 (P := fun S2 => Fz [(0, 14), (0, 15), (0, 17)] [] S1 S2 ∧ S2.1 0 14 = ins' ∧ S2.1 0 15 = Int32.ofNat rl' ∧ (S2.1 0 17 = 1 ∨ (S2.1 0 17 = S1.1 0 17 ∧ ins' = ins ∧ rl' = rl))) (c140 ((a1.f (by decide)).trans h1) ((a1.f (by decide)).trans h2) hrl hrl' (by rw [a1.f (by decide)]; exact hs) (fun S2 c1 c2 c3 c4 => ⟨rfl, c1, c2, c3, c4⟩)) ?_
  rintro S2 ⟨c1, c2, c3, c4⟩
  rw [a1.f (j := 0) (k := 17) (by decide)] at c4
  exact b139_21 (K S2 ((a1.mono (by decide) (by decide)).trans (c1.mono (by decide) (by decide))) c2 c3 (a2.of c1 (by decide)) c4)
theorem jc_st {S : St} (h : JC D m rl ins nu S) : S.1 0 17 = 0 ∨ S.1 0 17 = 1 := by
  rcases h with h | ⟨h, _⟩
  · exact Or.inr h
  · exact Or.inl h
/-- the reference changes -/
theorem chg {d : Nat} {S : St} {Q : Out → St → Prop} (hN : WN D m rl ins nu) (h0 : S.1 46 0 = Int32.ofNat D) (h1 : S.1 46 1 = Int32.ofNat m) (h2 : S.1 46 2 = ins) (h3 : S.1 46 3 = Int32.ofNat rl) (hM : MTl D m nu S) (K : ∀ S1, Fz [(46, 9), (46, 10), (46, 11)] [48, 49, 50] S S1 → MB D m ins S1 → MW m rl ins (upN m ins nu) (frN D m ins nu) S1 → MTl D m nu S1 → S1.1 46 10 = 0 → S1.1 46 11 = 0 → Q (.inl none) S1) : Wp (d + 8) b 161 0 [.ref 46] [] S Q := by
  obtain ⟨hD, hm, hrl, hlow, hR⟩ := id hN
  refine w161 (D := D) (m := m) (ins := ins) (rl := rl) ⟨h0, hD, h1, hm, h2, hlow⟩ h3 hrl (fun S1 a1 a2 a3 a4 => ?_)
  have hM1 : MTl D m nu S1 := fun r k hr hk => by rw [a1.a (by decide)]; exact hM r k hr hk
  obtain ⟨b1, b2, b3, b4, b5, b6⟩ := a2
  have eu : upS (S1.2.1 47) D m ins = upN m ins nu := ud_uniq (ud_upS hD hm hlow hR (fun r k hr hk => hM1 r k hr hk)) (ud_upN hm)
  have ef : frS (S1.2.1 47) D m ins = frN D m ins nu := by
    unfold frS frN
    rw [eu]
  rw [eu] at b4
  rw [ef] at b5
  rw [eu, ef] at b6
  have hU := wn_uw hN
  exact K S1 a1 b1 ⟨b1.2.2.1, hm, b1.2.2.2.2.1, hlow, b2, b3, b4, b5, by have := hU.2.2.2.2.2.2.2.2.2; omega, b6⟩ hM1 a3 a4
theorem push_ok (h : ∀ i, i < an → Low m (aa i).1 ∧ ((aa i).2 = 0 ∨ (aa i).2 = 1)) (han : an ≤ 20) (hi : Low m ins) (hrl : rl ≤ 1) : ∀ i, i < pushN an → Low m (pushF an aa (ins, Int32.ofNat rl) i).1 ∧ ((pushF an aa (ins, Int32.ofNat rl) i).2 = 0 ∨ (pushF an aa (ins, Int32.ofNat rl) i).2 = 1) := by
  intro i hi'
  have v : Low m (ins, Int32.ofNat rl).1 ∧ ((ins, Int32.ofNat rl).2 = 0 ∨ (ins, Int32.ofNat rl).2 = 1) := by
    refine ⟨hi, ?_⟩
    have : rl = 0 ∨ rl = 1 := by omega
    rcases this with rfl | rfl
    · exact Or.inl rfl
    · exact Or.inr rfl
  unfold pushN at hi'
  unfold pushF
  by_cases h20 : an < 20
  · rw [if_pos h20] at hi'
    simp only [if_pos h20]
    by_cases e : i = an
    · rw [if_pos e]; exact v
    · rw [if_neg e]; exact h i (by omega)
  · rw [if_neg h20] at hi'
    simp only [if_neg h20]
    by_cases e : i = 19
    · rw [if_pos e]; exact v
    · rw [if_neg e]; exact h (i + 1) (by omega)
/-- behind an act: what stands -/
theorem act_J {T : List Int32} {tn0 : Nat} {ty : Nat → Int32} {bn : Nat} {ba : Nat → Int32 × Int32} {S S1 S2 : St} (hJ : JS L D m rl ins nu tn0 ty an aa T S) (hC : JC D m rl ins nu S) (hN : WN D m rl' ins' nu) (f1 : Fz [(0, 14), (0, 15), (0, 17), (12, 2), (12, 3), (12, 4), (12, 5)] [43, 44] S S1) (f2 : Fz [(46, 2), (46, 3), (46, 4), (46, 9), (46, 10), (46, 11), (46, 40)] [48, 49, 50, 62, 63] S1 S2) (hi : S1.1 0 14 = ins') (hr : S1.1 0 15 = Int32.ofNat rl') (hst : S1.1 0 17 = 1 ∨ (S1.1 0 17 = S.1 0 17 ∧ ins' = ins ∧ rl' = rl)) (hA : JA m bn ba S2) (hMB : MB D m ins' S2) (hMW : MW m rl' ins' (upN m ins' nu) (frN D m ins' nu) S2) (hMT : MTl D m nu S2) (h10 : S2.1 46 10 = 0) (h11 : S2.1 46 11 = 0) : J L S2 := by
  obtain ⟨x1, x2, ⟨v1, v2, v3, v4, v5, v6, v7, v8⟩, x4, x5, x6, x7⟩ := hJ
  have F : Fz [(0, 14), (0, 15), (0, 17), (12, 2), (12, 3), (12, 4), (12, 5), (46, 2), (46, 3), (46, 4), (46, 9), (46, 10), (46, 11), (46, 40)] [43, 44, 48, 49, 50, 62, 63] S S2 := (f1.mono (by decide) (by decide)).trans (f2.mono (by decide) (by decide))
  have hC2 : JC D m rl' ins' nu S2 := by
    rcases hst with h | ⟨h, e1, e2⟩
    · exact Or.inl ((f2.f (by decide)).trans h)
    · subst e1 e2
      rcases hC with g | ⟨g, g'⟩
      · exact Or.inl ((f2.f (by decide)).trans (h.trans g))
      · exact Or.inr ⟨(f2.f (by decide)).trans (h.trans g), g'.of F (by decide) (by decide)⟩
  refine ⟨(F.f (by decide)).trans x1, D, m, rl', ins', nu, tn0, ty, bn, ba, T, hN, ⟨v1.of F (by decide), (fun r hr k => by rw [F.a (by decide)]; exact v2 r hr k), (f2.f (by decide)).trans hi, (f2.f (by decide)).trans hr, hMB, hMW, hMT, fun c hc => (F.a (by decide) c).trans (v8 c hc)⟩, x4.of F (by decide), x5.of F (by decide), hA, x7.of F (by decide), hC2, ⟨Or.inl h10, Or.inl h11⟩⟩
end ACTS2
