/-! PARITIES: the reference -/
section MPAR
variable {b : Nat} {F : List Int32}
theorem tn_low21 {X : Int32} (h : Low 21 X) : tn X < 2097152 := by
  have : tn X < 2 ^ 21 := by
    apply Nat.lt_pow_two_of_testBit
    intro i hi
    show tb X i = false
    refine bneg (fun e => ?_)
    have := h i e
    omega
  exact this
theorem cl21 {x : Int32} (h : Low 21 x) : x.toNatClampNeg < 2097152 ∧ Int32.ofNat x.toNatClampNeg = x := by
  have h1 := tn_low21 h
  have e : x = Int32.ofNat (tn x) := (of_tn x).symm
  have e2 : x.toNatClampNeg = tn x := by
    conv => lhs; rw [e]
    exact i_cl (by omega)
  rw [e2]
  exact ⟨h1, e.symm⟩
theorem low21n {q : Nat} (h : q < 2097152) : Low 21 (Int32.ofNat q) := by
  intro k hk
  refine Nat.lt_of_not_le (fun hl => ?_)
  have h1 : (tn (Int32.ofNat q)).testBit k = true := hk
  rw [tn_of (by omega), Nat.testBit_lt_two_pow (Nat.lt_of_lt_of_le h (show 2097152 ≤ 2 ^ k from Nat.pow_le_pow_right (n := 2) (by omega) hl))] at h1
  cases h1
theorem cl_inj {x y : Int32} (hx : Low 21 x) (hy : Low 21 y) (h : x.toNatClampNeg = y.toNatClampNeg) : x = y := by
  rw [← (cl21 hx).2, ← (cl21 hy).2, h]
def GM (F : List Int32) : List Int32 := (F.take 40).map odF
theorem gm_len (F : List Int32) : (GM F).length = min 40 F.length := by unfold GM; rw [List.length_map, List.length_take]
theorem gm_get {F : List Int32} {i : Nat} (hi : i < (GM F).length) : (GM F).getD i 0 = F.getD i 0 ^^^ 1048576 := by
  unfold GM at hi ⊢
  rw [List.length_map] at hi
  rw [getD_map _ hi]
  unfold odF
  congr 1
  rw [List.length_take] at hi
  rw [List.getD_eq_getElem?_getD, List.getD_eq_getElem?_getD, List.getElem?_take, if_pos (by omega)]
theorem gm_low {F : List Int32} (hF : ∀ f, f ∈ F → Low 20 f) : ∀ g, g ∈ GM F → Low 21 g := by
  intro g hg
  obtain ⟨f, hf, rfl⟩ := List.mem_map.1 hg
  exact low_od (hF f (List.mem_of_mem_take hf))
theorem s195 {d : Nat} {S : St} (hl : F.length ≤ 4845) (h9 : S.1 46 9 = Int32.ofNat F.length) : Wp d b 195 0 [.ref 46] [] S (Ri (Vx (Int32.ofNat (GM F).length) S)) := by
  refine b195_0 ⟨_, rfl, ?_, rfl⟩
  rw [h9, gm_len]
  by_cases q : F.length < 40
  · have z : Int32.ofNat F.length < 40 := (i_lt (b := 40) (by omega) (by omega)).2 q
    rw [if_pos z, Nat.min_eq_right (by omega)]
  · have z : ¬ Int32.ofNat F.length < 40 := fun z => q ((i_lt (b := 40) (by omega) (by omega)).1 z)
    rw [if_neg z, Nat.min_eq_left (by omega)]; rfl
/-- how many steps to a sum, as it stands -/
abbrev stp (S : St) (x : Int32) : Int32 := S.2.1 54 x.toNatClampNeg
/-- all that are no farther than t are known -/
def Lv (G : List Int32) (t : Nat) (S : St) : Prop := ∀ x, Low 21 x → (∃ k, k ≤ t ∧ Dk G k x ∧ stp S x = Int32.ofNat k) ∨ ((∀ k, k ≤ t → ¬ Dk G k x) ∧ stp S x = -1)
def Ly (G : List Int32) (S : St) : Prop := ∀ x, Low 21 x → (∃ k, Dk G k x ∧ stp S x = Int32.ofNat k) ∨ ((∀ k, ¬ Dk G k x) ∧ stp S x = -1)
theorem Ly.of {G : List Int32} {fs : List (Nat × Nat)} {as : List Nat} {S S1 : St} (h : Ly G S) (hF : Fz fs as S S1) (n : 54 ∉ as) : Ly G S1 := by
  intro x hx
  rcases h x hx with ⟨k, h1, h2⟩ | ⟨h1, h2⟩
  · exact Or.inl ⟨k, h1, (hF.a n _).trans h2⟩
  · exact Or.inr ⟨h1, (hF.a n _).trans h2⟩
/-- half of a step: all sums below q, and of q's frames those below c -/
def Lw (G : List Int32) (t q c : Nat) (is : Int32) (S : St) : Prop := (∀ x, Low 21 x → (∃ k, k ≤ t ∧ Dk G k x ∧ stp S x = Int32.ofNat k) ∨ (Dk G (t + 1) x ∧ stp S x = Int32.ofNat (t + 1) ∧ is = 1) ∨ ((∀ k, k ≤ t → ¬ Dk G k x) ∧ stp S x = -1 ∧ ∀ s a, Low 21 s → Dk G t s → a < G.length → (s.toNatClampNeg < q ∨ (s.toNatClampNeg = q ∧ a < c)) → ¬ x = s ^^^ G.getD a 0)) ∧ (is = 0 ∨ is = 1) ∧ (is = 1 → ∃ x, Low 21 x ∧ Dk G (t + 1) x)
theorem nat_ne {k j : Nat} (hk : k ≤ 50) (hj : j ≤ 50) (h : Int32.ofNat k = Int32.ofNat j) : k = j := (i_inj (by omega) (by omega)).1 h
theorem nat_m1 {k : Nat} (hk : k ≤ 50) : ¬ Int32.ofNat k = -1 := by
  have : ∀ g : Fin 51, ¬ Int32.ofNat g.val = -1 := by decide +kernel
  exact this ⟨k, by omega⟩
theorem w197 {d t : Nat} {S : St} {Q : Out → St → Prop} (hl : F.length ≤ 4845) (hF : ∀ f, f ∈ F → Low 20 f) (hL : FL S F) (ht : t ≤ 40) (hv : Lv (GM F) t S) (K1 : ∀ S1, Fz [] [54] S S1 → (∃ x, Low 21 x ∧ Dk (GM F) (t + 1) x) → Lv (GM F) (t + 1) S1 → Q (.inl (some (.int 1))) S1) (K0 : ∀ S1, Fz [] [54] S S1 → Ly (GM F) S1 → Q (.inl (some (.int 0))) S1) : Wp (d + 1) b 197 0 [.ref 46, .int (Int32.ofNat t)] [] S Q := by
  have g40 : (GM F).length ≤ 40 := by rw [gm_len]; exact Nat.min_le_left _ _
  have gF : (GM F).length ≤ F.length := by rw [gm_len]; exact Nat.min_le_right _ _
  have glow := gm_low hF
  generalize hG : GM F = G at *
  have outer : ∀ n q is S', q + n = 2097152 → Fz [] [54] S S' → Lw G t q 0 is S' → Wp (d + 1) b 197 4 [.ref 46, .int (Int32.ofNat t), .int is, .int (Int32.ofNat q)] [] S' Q := by
    intro n
    induction n with
    | zero =>
      intro q is S' hq hFz hw
      refine b197_4 (fun _ => ?_) (fun z => absurd ((i_le (a := 2097152) (by omega) (by omega)).2 (by omega)) z)
      have third : ∀ x, Low 21 x → ((∀ k, k ≤ t → ¬ Dk G k x) ∧ stp S' x = -1 ∧ ∀ s a, Low 21 s → Dk G t s → a < G.length → (s.toNatClampNeg < q ∨ (s.toNatClampNeg = q ∧ a < 0)) → ¬ x = s ^^^ G.getD a 0) → ¬ Dk G (t + 1) x := by
        rintro x hx ⟨h1, h2, h3⟩ hd
        obtain ⟨a, ha, hd'⟩ := dk_down hd
        have hlow : Low 21 (x ^^^ G.getD a 0) := low_xor hx (glow _ (getD_mem ha))
        have := (cl21 hlow).1
        exact h3 _ a hlow hd' ha (Or.inl (by omega)) (x_xx _ _).symm
      refine b197_89 hw.2.1 ?_
      rcases hw.2.1 with e | e
      · rw [e]
        refine K0 S' hFz (fun x hx => ?_)
        have no : ∀ y, Low 21 y → ¬ Dk G (t + 1) y := by
          intro y hy hd
          rcases hw.1 y hy with ⟨k, h1, h2, _⟩ | ⟨_, _, h3⟩ | h
          · have := dk_uniq h2 hd; omega
          · rw [e] at h3; exact absurd h3 (by decide)
          · exact third y hy h hd
        have no2 : ∀ k y, Low 21 y → ¬ Dk G (t + 1 + k) y := by
          intro k
          induction k with
          | zero => exact no
          | succ k ih =>
            intro y hy hd
            obtain ⟨a, ha, hd'⟩ := dk_down (k := t + 1 + k) hd
            exact ih _ (low_xor hy (glow _ (getD_mem ha))) hd'
        rcases hw.1 x hx with ⟨k, h1, h2, h3⟩ | ⟨h1, h2, h3⟩ | ⟨h1, h2, h3⟩
        · exact Or.inl ⟨k, h2, h3⟩
        · exact Or.inl ⟨_, h1, h2⟩
        · refine Or.inr ⟨fun k hk => ?_, h2⟩
          by_cases z : k ≤ t
          · exact h1 k z hk
          · exact no2 (k - (t + 1)) x hx (by rw [show t + 1 + (k - (t + 1)) = k by omega]; exact hk)
      · rw [e]
        refine K1 S' hFz (hw.2.2 e) (fun x hx => ?_)
        rcases hw.1 x hx with ⟨k, h1, h2, h3⟩ | ⟨h1, h2, h3⟩ | h
        · exact Or.inl ⟨k, by omega, h2, h3⟩
        · exact Or.inl ⟨_, Nat.le_refl _, h1, h2⟩
        · refine Or.inr ⟨fun k hk hd => ?_, h.2.1⟩
          by_cases z : k ≤ t
          · exact h.1 k z hd
          · exact third x hx h (by rw [show t + 1 = k by omega]; exact hd)
    | succ n ih =>
      intro q is S' hq hFz hw
      have hqs : q < 2097152 := by omega
      have lq := low21n hqs
      have cq : (Int32.ofNat q).toNatClampNeg = q := i_cl (by omega)
      refine b197_4 (fun z => ?_) (fun _ => b197_10 (i_vp hqs (by omega)) (fun he => b197_23 ?_) (fun hne => b197_20 (b197_83 ?_)))
      · have := (i_le (a := 2097152) (by omega) (by omega)).1 z
        omega
      · have hd : Dk G t (Int32.ofNat q) := by
          rcases hw.1 _ lq with ⟨k, h1, h2, h3⟩ | ⟨h1, h2, h3⟩ | ⟨h1, h2, h3⟩
          · have := nat_ne (by omega) (by omega) (h3.symm.trans he)
            rw [← this]; exact h2
          · have := nat_ne (by omega) (by omega) (h2.symm.trans he)
            omega
          · exact absurd (he.symm.trans h2) (nat_m1 (by omega))
        have inner : ∀ n c is S', c + n = G.length → Fz [] [54] S S' → Lw G t q c is S' → Wp (d + 1) b 197 26 [.ref 46, .int (Int32.ofNat t), .int is, .int (Int32.ofNat q), .int (Int32.ofNat c)] [] S' Q := by
          intro n
          induction n with
          | zero =>
            intro c is S' hc hFz hw
            have h195 : Wp d 0 195 0 [.ref 46] [] S' (Ri (Vx (Int32.ofNat G.length) S')) := by
              rw [← hG]; exact s195 hl ((hFz.f (by simp)).trans hL.1)
            refine b197_26 h195 ?_
            rintro _ _ ⟨rfl, rfl⟩
            refine b197_32 (fun _ => b197_83 ?_) (fun z => absurd ((i_le (by omega) (by omega)).2 (by omega)) z)
            rw [i_suc]
            refine ih (q + 1) is S' (by omega) hFz ⟨fun x hx => ?_, hw.2⟩
            rcases hw.1 x hx with h | h | ⟨h1, h2, h3⟩
            · exact Or.inl h
            · exact Or.inr (Or.inl h)
            · refine Or.inr (Or.inr ⟨h1, h2, fun s a hs hds ha hlt => h3 s a hs hds ha ?_⟩)
              omega
          | succ n ihn =>
            intro c is S' hc hFz hw
            have h195 : Wp d 0 195 0 [.ref 46] [] S' (Ri (Vx (Int32.ofNat G.length) S')) := by
              rw [← hG]; exact s195 hl ((hFz.f (by simp)).trans hL.1)
            refine b197_26 h195 ?_
            rintro _ _ ⟨rfl, rfl⟩
            have hcG : c < G.length := by omega
            have ex : (Int32.ofNat q ^^^ S'.2.1 50 (Int32.ofNat c).toNatClampNeg) ^^^ 1048576 = Int32.ofNat q ^^^ G.getD c 0 := by
              have : c < (GM F).length := by rw [hG]; exact hcG
              rw [i_cl (by omega), hFz.a (by decide), hL.2 c (by omega), Int32.xor_assoc, ← gm_get this, hG]
            have lx : Low 21 (Int32.ofNat q ^^^ G.getD c 0) := low_xor lq (glow _ (getD_mem hcG))
            have cx := cl21 lx
            have vx : vp_in (Int32.ofNat q ^^^ G.getD c 0) 2097152 := by
              rw [← cx.2]; exact i_vp cx.1 (by omega)
            refine b197_32 (fun z => ?_) (fun _ => b197_35 (i_vp (by omega) (by omega)) (by rw [ex]; exact vx) (fun hm => ?_) (fun hm => b197_61 (b197_77 ?_)))
            · have := (i_le (by omega) (by omega)).1 z
              omega
            · rw [ex] at hm ⊢
              obtain ⟨j, hj, hdj⟩ := dk_up hd hcG
              have hnew : Dk G (t + 1) (Int32.ofNat q ^^^ G.getD c 0) := by
                rcases hw.1 _ lx with ⟨k, h1, h2, h3⟩ | ⟨h1, h2, h3⟩ | ⟨h1, h2, h3⟩
                · exact absurd (h3.symm.trans hm) (nat_m1 (by omega))
                · exact h1
                · by_cases e : j = t + 1
                  · rw [← e]; exact hdj
                  · exact absurd hdj (h1 j (by omega))
              have ev : (((Int32.ofNat t + 1).toInt8.toInt32).toInt8.toInt32) = Int32.ofNat (t + 1) := by
                have : ∀ t : Fin 41, (((Int32.ofNat t.val + 1).toInt8.toInt32).toInt8.toInt32) = Int32.ofNat (t.val + 1) := by decide +kernel
                exact this ⟨t, by omega⟩
              refine b197_64 vx (b197_77 ?_)
              rw [ev, i_suc]
              refine ihn (c + 1) 1 _ (by omega) (hFz.seta (by decide)) ⟨fun x hx => ?_, Or.inr rfl, fun _ => ⟨_, lx, hnew⟩⟩
              by_cases e : x = Int32.ofNat q ^^^ G.getD c 0
              · rw [e]
                exact Or.inr (Or.inl ⟨hnew, seta_same, rfl⟩)
              · have es : stp (setA S' 54 (Int32.ofNat q ^^^ G.getD c 0).toNatClampNeg (Int32.ofNat (t + 1))) x = stp S' x := seta_ne (fun z => e (cl_inj hx lx z.2))
                rw [es]
                rcases hw.1 x hx with h | ⟨h1, h2, h3⟩ | ⟨h1, h2, h3⟩
                · exact Or.inl h
                · exact Or.inr (Or.inl ⟨h1, h2, rfl⟩)
                · refine Or.inr (Or.inr ⟨h1, h2, fun s a hs hds ha hlt => ?_⟩)
                  by_cases z : s.toNatClampNeg = q ∧ a = c
                  · rw [z.2, show s = Int32.ofNat q from cl_inj hs lq (z.1.trans cq.symm)]; exact e
                  · exact h3 s a hs hds ha (by omega)
            · rw [ex] at hm
              rw [i_suc]
              refine ihn (c + 1) is S' (by omega) hFz ⟨fun x hx => ?_, hw.2⟩
              rcases hw.1 x hx with h | h | ⟨h1, h2, h3⟩
              · exact Or.inl h
              · exact Or.inr (Or.inl h)
              · refine Or.inr (Or.inr ⟨h1, h2, fun s a hs hds ha hlt => ?_⟩)
                by_cases z : s.toNatClampNeg = q ∧ a = c
                · rw [z.2, show s = Int32.ofNat q from cl_inj hs lq (z.1.trans cq.symm)]
                  intro e
                  rw [e] at h2
                  exact hm h2
                · exact h3 s a hs hds ha (by omega)
        exact inner G.length 0 is S' (by omega) hFz hw
      · rw [i_suc]
        refine ih (q + 1) is S' (by omega) hFz ⟨fun x hx => ?_, hw.2⟩
        rcases hw.1 x hx with h | h | ⟨h1, h2, h3⟩
        · exact Or.inl h
        · exact Or.inr (Or.inl h)
        · refine Or.inr (Or.inr ⟨h1, h2, fun s a hs hds ha hlt => ?_⟩)
          by_cases z : s.toNatClampNeg = q
          · exfalso
            have es : s = Int32.ofNat q := cl_inj hs lq (z.trans cq.symm)
            rw [es] at hds
            apply hne
            rcases hw.1 _ lq with ⟨k, g1, g2, g3⟩ | ⟨g1, g2, g3⟩ | ⟨g1, g2, g3⟩
            · rw [dk_uniq hds g2]; exact g3
            · have := dk_uniq hds g1; omega
            · exact absurd hds (g1 t (Nat.le_refl _))
          · exact h3 s a hs hds ha (by omega)
  refine b197_0 (outer 2097152 0 0 S (by omega) Fz.refl ⟨fun x hx => ?_, Or.inl rfl, fun z => absurd z (by decide)⟩)
  rcases hv x hx with h | ⟨h1, h2⟩
  · exact Or.inl h
  · exact Or.inr (Or.inr ⟨h1, h2, fun s a hs hds ha hlt => by omega⟩)
theorem w196 {d : Nat} {S : St} {Q : Out → St → Prop} (hl : F.length ≤ 4845) (hF : ∀ f, f ∈ F → Low 20 f) (hL : FL S F) (h11 : S.1 46 11 = 0 ∨ (S.1 46 11 = 1 ∧ Ly (GM F) S)) (K : ∀ S1, Fz [(46, 11)] [54] S S1 → S1.1 46 11 = 1 → Ly (GM F) S1 → Q (.inl none) S1) : Wp (d + 2) b 196 0 [.ref 46] [] S Q := by
  have g40 : (GM F).length ≤ 40 := by rw [gm_len]; exact Nat.min_le_left _ _
  refine b196_0 (fun h0 => b196_8 (Or.inr rfl) ?_) (fun hn => b196_7 ?_)
  rotate_left
  · rcases h11 with e | ⟨e, hP⟩
    · exact absurd e hn
    · exact K S Fz.refl e hP
  have three : ∀ n t S', t + n = 41 → t ≤ 40 → Fz [(46, 11)] [54] S S' → S'.1 46 11 = 1 → Lv (GM F) t S' → Wp (d + 2) b 196 43 [.ref 46, .int (Int32.ofNat t)] [] S' Q := by
    intro n
    induction n with
    | zero =>
      intro t S' ht h40 hFz h1 hv
      omega
    | succ n ih =>
      intro t S' ht h40 hFz h1 hv
      refine b196_43 (P := fun x S2 => Fz [] [54] S' S2 ∧ ((x = 1 ∧ (∃ y, Low 21 y ∧ Dk (GM F) (t + 1) y) ∧ Lv (GM F) (t + 1) S2) ∨ (x = 0 ∧ Ly (GM F) S2))) (w197 hl hF (hL.of hFz (by decide) (by decide)) (by omega) hv (fun S2 g1 g2 g3 => ⟨_, rfl, g1, Or.inl ⟨rfl, g2, g3⟩⟩) (fun S2 g1 g2 => ⟨_, rfl, g1, Or.inr ⟨rfl, g2⟩⟩)) ?_
      rintro x S2 ⟨g1, ⟨rfl, ⟨y, hy, hd⟩, g3⟩ | ⟨rfl, g2⟩⟩
      · refine b196_48 (fun q => absurd q (by decide)) (fun _ => b196_51 ?_)
        have := pk_len hd.1
        rw [i_suc]
        exact ih (t + 1) S2 (by omega) (by omega) (hFz.trans (g1.mono (by simp) (by simp))) ((g1.f (by simp)).trans h1) g3
      · exact b196_48 (fun _ => b196_57 (K S2 (hFz.trans (g1.mono (by simp) (by simp))) ((g1.f (by simp)).trans h1) g2)) (fun q => absurd rfl q)
  have one : ∀ n c S', c + n = 2097152 → Fz [(46, 11)] [54] S S' → S'.1 46 11 = 1 → (∀ j, j < c → S'.2.1 54 j = -1) → Wp (d + 2) b 196 15 [.ref 46, .int (Int32.ofNat c)] [] S' Q := by
    intro n
    induction n with
    | zero =>
      intro c S' hc hFz h1 hz
      refine b196_15 (fun _ => b196_34 (i_vp (k := 0) (by omega) (by omega)) ?_) (fun q => absurd ((i_le (a := 2097152) (by omega) (by omega)).2 (by omega)) q)
      refine three 41 0 _ (by omega) (by omega) (hFz.seta (by decide)) h1 (fun x hx => ?_)
      have e0 : ((0 : Int32)).toNatClampNeg = 0 := by decide
      rw [e0, show ((0 : Int32)).toInt8.toInt32 = 0 by decide]
      have cx := cl21 hx
      by_cases e : x = 0
      · refine Or.inl ⟨0, Nat.le_refl _, ⟨by rw [e]; exact pk_zero _, fun j hj => by omega⟩, ?_⟩
        show (setA S' 54 0 0).2.1 54 x.toNatClampNeg = _
        rw [e, e0, seta_same]; rfl
      · refine Or.inr ⟨fun k hk hd => e ?_, ?_⟩
        · rw [show k = 0 by omega] at hd
          exact pk_0 hd.1
        · have : ¬ x.toNatClampNeg = 0 := fun z => e (by rw [← cx.2, z]; rfl)
          exact (seta_ne (fun z => this z.2)).trans (hz _ (by omega))
    | succ n ih =>
      intro c S' hc hFz h1 hz
      refine b196_15 (fun q => ?_) (fun _ => b196_21 (i_vp (by omega) (by omega)) ?_)
      · have := (i_le (a := 2097152) (by omega) (by omega)).1 q
        omega
      · rw [i_cl (by omega), i_suc]
        refine ih (c + 1) _ (by omega) (hFz.seta (by decide)) h1 (fun j hj => ?_)
        by_cases e : j = c
        · rw [e, seta_same]; decide
        · exact (seta_ne (by omega)).trans (hz j (by omega))
  exact one 2097152 0 _ (by omega) (Fz.refl.seti (by decide)) seti_same (fun j hj => by omega)
end MPAR
