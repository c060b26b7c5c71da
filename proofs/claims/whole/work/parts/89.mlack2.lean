/-! LACKING: the reference, the answers -/
section MLACK2
variable {b D m rl : Nat} {ins : Int32} {nu : Nat → Nat → Int} {up : Nat → Int32} {F : List Int32}
theorem w212 {d : Nat} {S : St} {x y z : Int32} {Q : Out → St → Prop} (hB : MB D m ins S) (hW : MW m rl ins up F S) (hR : RWd D m nu) (hM : MTl D m nu S) (hirr : ∀ r, tb (up r) r = false)
    (K1 : ¬ (D = 3 ∧ upB m ins up x y = true ∧ (0 : Int32) ≤ z ∧ z ≤ 2) → ∀ v S1, Fz [(46, 4)] [59] S S1 → S1.1 46 4 = 1 → Q (.inl (some (.int v))) S1)
    (K0 : D = 3 → upB m ins up x y = true → (0 : Int32) ≤ z → z ≤ 2 → ∀ v S1, Fz [(46, 4)] [59] S S1 → S1.1 46 4 = 0 → v.toInt = th (nu x.toNatClampNeg) (nu y.toNatClampNeg) z.toNatClampNeg → Q (.inl (some (.int v))) S1) : Wp (d + 4) b 212 0 [.ref 46, .int x, .int y, .int z] [] S Q := by
  obtain ⟨h0, hD, h1, hm, h2, hl⟩ := id hB
  have f0 : Fz [(46, 4)] [59] S (setI S 46 4 0) := Fz.refl.seti (by decide)
  have hB0 := hB.of f0 (by decide) (by decide) (by decide)
  have hW0 := hW.of4 f0
  have fail : ¬ (D = 3 ∧ upB m ins up x y = true ∧ (0 : Int32) ≤ z ∧ z ≤ 2) → Wp (d + 4) b 212 31 [.ref 46, .int x, .int y, .int z] [] (setI S 46 4 0) Q := by
    intro hn
    refine b212_31 (s152 1) ?_
    rintro _ _ ⟨rfl, rfl⟩
    exact b212_36 (K1 hn _ _ (f0.seti (by decide)) seti_same)
  refine b212_0 (fun q => fail (fun h => q (by rw [hB0.1, h.1]; rfl))) (fun q => b212_13 (w211 hW0) ?_)
  rintro _ _ ⟨rfl, rfl⟩
  have d3 : D = 3 := by
    have q := Classical.byContradiction q
    rw [hB0.1] at q
    exact (i_inj (b := 3) (by omega) (by omega)).1 q
  refine b212_19 (fun q => fail (fun h => by rw [bi0.1 q] at h; exact absurd h.2.1 (by decide))) (fun qu => b212_22 s153 ?_)
  have qu := bi1.1 qu
  rintro _ _ ⟨rfl, rfl⟩
  refine b212_28 (fun q => ?_) (fun q => fail (fun h => q (bi1.2 (decide_eq_true h.2.2))))
  obtain ⟨z0, z2⟩ := of_decide_eq_true (bi1.1 q)
  have K2 := K0 d3 qu z0 z2
  have zc : z.toNatClampNeg < 3 := by
    have a := Int32.le_iff_toInt_le.1 z0
    have c := Int32.le_iff_toInt_le.1 z2
    have e0 : ((0 : Int32)).toInt = 0 := by decide
    have e2 : ((2 : Int32)).toInt = 2 := by decide
    unfold Int32.toNatClampNeg
    omega
  have ez := i_of (x := z) (fun q => by
    have a := Int32.le_iff_toInt_le.1 z0
    have c := Int32.lt_iff_toInt_lt.1 q
    omega)
  have qu' := qu
  unfold upB at qu'
  obtain ⟨qxy, quo⟩ := (Bool.and_eq_true _ _ ▸ qu' : _ ∧ _)
  obtain ⟨qx, qy⟩ := (Bool.and_eq_true _ _ ▸ qxy : _ ∧ _)
  obtain ⟨hx, _⟩ := (Bool.and_eq_true _ _ ▸ qx : _ ∧ _)
  obtain ⟨x0, xm⟩ := of_decide_eq_true hx
  obtain ⟨hy, _⟩ := (Bool.and_eq_true _ _ ▸ qy : _ ∧ _)
  obtain ⟨y0, ym⟩ := of_decide_eq_true hy
  have ex := i_of x0
  have ey := i_of y0
  subst d3
  clear K0 K1 fail qu'
  generalize x.toNatClampNeg = r at *
  generalize y.toNatClampNeg = o at *
  generalize z.toNatClampNeg = k at *
  subst ex ey ez
  refine b212_37 (P := fun S1 => Fz [] [59] (setI S 46 4 0) S1 ∧ ∀ k, k < 3 → (S1.2.1 59 k).toInt = th (nu r) (nu o) k) (w210 hm hR (fun r k hr hk => hM r k hr hk) xm ym (fun e => by rw [e, hirr] at quo; cases quo) (fun S1 a1 a2 => ⟨rfl, a1, a2⟩)) ?_
  rintro S1 ⟨f1, h59⟩
  refine b212_43 (i_vp zc (by omega)) ?_
  rw [i_cl (by omega)]
  exact K2 _ S1 (f0.trans (f1.mono (by decide) (by decide))) ((f1.f (by decide)).trans seti_same) (h59 k zc)
/-- how many pairs, the first of them -/
def prs (p : Nat → Nat → Bool) (n : Nat) : Nat := sumN (fun r => cnt (fun o => decide (r < o) && p r o) n) n
def FrP (p : Nat → Nat → Bool) (v : Int32) : Prop := (v = -1 ∧ ∀ r o, r < o → p r o = false) ∨ ∃ r o, r < o ∧ p r o = true ∧ v = Int32.ofNat (20 * r + o) ∧ ∀ r' o', r' < o' → (r' < r ∨ (r' = r ∧ o' < o)) → p r' o' = false
theorem FrP.uniq {p : Nat → Nat → Bool} {v w : Int32} (h : FrP p v) (h2 : FrP p w) : v = w := by
  rcases h with ⟨rfl, h⟩ | ⟨r, o, hro, hp, rfl, h⟩
  · rcases h2 with ⟨rfl, _⟩ | ⟨r', o', hro', hp', rfl, _⟩
    · rfl
    · rw [h r' o' hro'] at hp'; cases hp'
  · rcases h2 with ⟨rfl, h2⟩ | ⟨r', o', hro', hp', rfl, h2⟩
    · rw [h2 r o hro] at hp; cases hp
    · have e1 : ¬ (r' < r ∨ (r' = r ∧ o' < o)) := fun q => by rw [h r' o' hro' q] at hp'; cases hp'
      have e2 : ¬ (r < r' ∨ (r = r' ∧ o < o')) := fun q => by rw [h2 r o hro q] at hp; cases hp
      have : r = r' ∧ o = o' := by omega
      rw [this.1, this.2]
theorem cnt_up0 (p : Nat → Nat → Bool) (r : Nat) : cnt (fun o => decide (r < o) && p r o) (r + 1) = 0 := cnt_zero (fun k hk => by
  rw [decide_eq_false (by omega), Bool.false_and])
theorem prs_eq {p : Nat → Nat → Bool} {n n' : Nat} (hn : n ≤ n') (h : ∀ r o, p r o = true → r < n ∧ o < n) : prs p n' = prs p n := by
  unfold prs
  have e1 : ∀ r, cnt (fun o => decide (r < o) && p r o) n' = cnt (fun o => decide (r < o) && p r o) n := fun r => cnt_ext hn (fun k hk _ => by
    have : p r k = false := Bool.eq_false_iff.2 (fun q => by have := (h r k q).2; omega)
    rw [this, Bool.and_false])
  simp only [e1]
  have e2 : ∀ r, n ≤ r → cnt (fun o => decide (r < o) && p r o) n = 0 := fun r hr => cnt_zero (fun k hk => by
    rw [decide_eq_false (by omega), Bool.false_and])
  obtain ⟨f, hf⟩ : ∃ f, f = fun r => cnt (fun o => decide (r < o) && p r o) n := ⟨_, rfl⟩
  rw [← hf]
  have e2 : ∀ r, n ≤ r → f r = 0 := fun r hr => by rw [hf]; exact e2 r hr
  obtain ⟨k, rfl⟩ := Nat.exists_eq_add_of_le hn
  clear hn e1 hf
  induction k with
  | zero => rfl
  | succ k ih => show sumN f (n + k) + f (n + k) = _; rw [ih, e2 (n + k) (by omega), Nat.add_zero]
def FrI (p : Nat → Nat → Bool) (r o n : Nat) (v : Int32) : Prop := (n = 0 ∧ v = -1 ∧ ∀ r' o', r' < o' → (r' < r ∨ (r' = r ∧ o' < o)) → p r' o' = false) ∨ (0 < n ∧ ∃ a c, a < c ∧ p a c = true ∧ v = Int32.ofNat (20 * a + c) ∧ ∀ r' o', r' < o' → (r' < a ∨ (r' = a ∧ o' < c)) → p r' o' = false)
def thB (D m : Nat) (ins : Int32) (nu : Nat → Nat → Int) (p : Nat → Nat → Bool) (r o : Nat) : Bool := p r o && (decide (D = 3) && outB m ins nu r o)
theorem lk_low (hl : Low m ins) {r o : Nat} (h : lkB ins up F r o = true) : r < m ∧ o < m := by
  unfold lkB at h
  simp only [Bool.and_eq_true] at h
  exact ⟨hl r h.1.1.1, hl o h.1.1.2⟩
theorem w215 {d : Nat} {S : St} {x : Int32} {Q : Out → St → Prop} (hB : MB D m ins S) (hW : MW m rl ins up F S) (hR : RWd D m nu) (hM : MTl D m nu S)
    (K1 : ¬ ((0 : Int32) ≤ x ∧ x ≤ 2) → ∀ v S1, Fz [(46, 4)] [59] S S1 → S1.1 46 4 = 1 → Q (.inl (some (.int v))) S1)
    (K0 : (0 : Int32) ≤ x → x ≤ 2 → ∀ v S1, Fz [(46, 4)] [59] S S1 → S1.1 46 4 = 0 → (x = 0 → v = Int32.ofNat (prs (lkB ins up F) m)) → (x = 1 → FrP (lkB ins up F) v) → (x = 2 → v = Int32.ofNat (prs (thB D m ins nu (lkB ins up F)) m)) → Q (.inl (some (.int v))) S1) : Wp (d + 5) b 215 0 [.ref 46, .int x] [] S Q := by
  obtain ⟨h0, hD, h1, hm, h2, hl⟩ := id hB
  have f0 : Fz [(46, 4)] [59] S (setI S 46 4 0) := Fz.refl.seti (by decide)
  refine b215_0 s153 ?_
  rintro _ _ ⟨rfl, rfl⟩
  refine b215_11 (fun q => b215_20 ?_) (fun q => b215_14 (s152 1) ?_)
  rotate_left
  · rintro _ _ ⟨rfl, rfl⟩
    exact b215_19 (K1 (fun h => q (bi1.2 (decide_eq_true h))) _ _ (f0.seti (by decide)) seti_same)
  obtain ⟨x0, x2⟩ := of_decide_eq_true (bi1.1 q)
  have K0 := K0 x0 x2
  have hp := fun r o => lk_low (up := up) (F := F) hl (r := r) (o := o)
  have wl : ∀ (d : Nat) r o S', r < m → o < m → Fz [(46, 4)] [59] S S' → Wp (d + 4) 0 213 0 [.ref 46, .int (Int32.ofNat r), .int (Int32.ofNat o)] [] S' (Ri (Vx (bi (lkB ins up F r o)) S')) := fun d r o S' hr ho hF => w213 (hW.of4 hF) hr ho
  generalize lkB ins up F = p at *
  -- the two sums
  have bnd : ∀ (p : Nat → Nat → Bool) r o, r < 20 → o ≤ 20 → sumN (fun r => cnt (fun o => decide (r < o) && p r o) m) r + cnt (fun o => decide (r < o) && p r o) o ≤ 1000 := by
    intro p r o hr ho
    have a := sumN_le (f := fun r => cnt (fun o => decide (r < o) && p r o) m) (c := 20) (fun k => Nat.le_trans (cnt_le _ _) hm) r
    have c := cnt_le (fun o => decide (r < o) && p r o) o
    omega
  have fin : ∀ S' n v k, Fz [(46, 4)] [59] S S' → S'.1 46 4 = 0 → n = prs p m → FrP p v → k = prs (thB D m ins nu p) m → ∀ x5, Wp (d + 5) b 215 125 [.ref 46, .int x, .int (Int32.ofNat n), .int v, .int (Int32.ofNat k), .int x5] [] S' Q := by
    intro S' n v k hF h4 hn hv hk x5
    have n01 : ¬ (1 : Int32) = 0 := by decide
    have n02 : ¬ (2 : Int32) = 0 := by decide
    have n12 : ¬ (1 : Int32) = 2 := by decide
    refine b215_125 (fun xn => b215_133 (fun xn1 => b215_142 (b215_144 (K0 _ S' hF h4 (fun e => absurd e xn) (fun e => absurd e xn1) (fun _ => by rw [hk])))) (fun x1 => b215_138 (b215_144 (K0 _ S' hF h4 (fun e => absurd e xn) (fun _ => hv) (fun e => ?_))))) (fun xz => b215_129 (b215_144 (K0 _ S' hF h4 (fun _ => by rw [hn]) (fun e => ?_) (fun e => ?_))))
    · exact absurd ((Classical.byContradiction x1).symm.trans e) n12
    · exact absurd (e.symm.trans (Classical.byContradiction xz)) n01
    · exact absurd (e.symm.trans (Classical.byContradiction xz)) n02
  have outer : ∀ n r S' v, r + n = m → Fz [(46, 4)] [59] S S' → S'.1 46 4 = 0 → FrI p r 0 (sumN (fun r => cnt (fun o => decide (r < o) && p r o) m) r) v → Wp (d + 5) b 215 30 [.ref 46, .int x, .int (Int32.ofNat (sumN (fun r => cnt (fun o => decide (r < o) && p r o) m) r)), .int v, .int (Int32.ofNat (sumN (fun r => cnt (fun o => decide (r < o) && thB D m ins nu p r o) m) r)), .int (Int32.ofNat r)] [] S' Q := by
    intro n
    induction n with
    | zero =>
      intro r S' v hr hF h4 hv
      have hr : r = m := hr
      subst hr
      refine b215_30 (fun _ => fin S' _ v _ hF h4 rfl ?_ rfl _) (fun q => absurd ?_ q)
      · rcases hv with ⟨_, rfl, h⟩ | ⟨_, h⟩
        · exact Or.inl ⟨rfl, fun r' o' hro => Bool.eq_false_iff.2 (fun z => by rw [h r' o' hro (Or.inl (hp r' o' z).1)] at z; cases z)⟩
        · exact Or.inr h
      · rw [hF.f (by decide), h1]
        exact (i_le (by omega) (by omega)).2 (Nat.le_refl _)
    | succ n iho =>
      intro r S' v hr hF h4 hv
      have hrm : r < m := by omega
      refine b215_30 (fun q => ?_) (fun _ => b215_39 ?_)
      · rw [hF.f (by decide), h1] at q
        have := (i_le (by omega) (by omega)).1 q
        omega
      have inner : ∀ n o S' v, o + n = m → r < o → Fz [(46, 4)] [59] S S' → S'.1 46 4 = 0 → FrI p r o (sumN (fun r => cnt (fun o => decide (r < o) && p r o) m) r + cnt (fun o => decide (r < o) && p r o) o) v → Wp (d + 5) b 215 45 [.ref 46, .int x, .int (Int32.ofNat (sumN (fun r => cnt (fun o => decide (r < o) && p r o) m) r + cnt (fun o => decide (r < o) && p r o) o)), .int v, .int (Int32.ofNat (sumN (fun r => cnt (fun o => decide (r < o) && thB D m ins nu p r o) m) r + cnt (fun o => decide (r < o) && thB D m ins nu p r o) o)), .int (Int32.ofNat r), .int (Int32.ofNat o)] [] S' Q := by
        intro n
        induction n with
        | zero =>
          intro o S' v ho hro hF h4 hv
          have ho : o = m := ho
          subst ho
          refine b215_45 (fun _ => b215_119 ?_) (fun q => absurd ?_ q)
          · rw [i_suc]
            refine iho (r + 1) S' v (by omega) hF h4 ?_
            rcases hv with ⟨hn, rfl, h⟩ | h
            · refine Or.inl ⟨hn, rfl, fun r' o' hro' hlt => Bool.eq_false_iff.2 (fun z => ?_)⟩
              have := (hp r' o' z).2
              rw [h r' o' hro' (by omega)] at z
              cases z
            · exact Or.inr h
          · rw [hF.f (by decide), h1]
            exact (i_le (by omega) (by omega)).2 (Nat.le_refl _)
        | succ n ihi =>
          intro o S' v ho hro hF h4 hv
          have hom : o < m := by omega
          have s1 : ∀ (p : Nat → Nat → Bool) A, A + cnt (fun o => decide (r < o) && p r o) (o + 1) = A + cnt (fun o => decide (r < o) && p r o) o + if p r o = true then 1 else 0 := by
            intro p A
            show A + (_ + (if (decide (r < o) && p r o) = true then 1 else 0)) = _
            rw [decide_eq_true hro, Bool.true_and, Nat.add_assoc]
          have bp := bnd p r o (by omega) (by omega)
          have bt := bnd (thB D m ins nu p) r o (by omega) (by omega)
          refine b215_45 (fun q => ?_) (fun _ => b215_54 (wl _ r o S' hrm hom hF) ?_)
          · rw [hF.f (by decide), h1] at q
            have := (i_le (by omega) (by omega)).1 q
            omega
          rintro _ _ ⟨rfl, rfl⟩
          have ihi := fun S' v => ihi (o + 1) S' v (by omega) (by omega)
          rw [s1 p, s1 (thB D m ins nu p)] at ihi
          generalize sumN (fun r => cnt (fun o => decide (r < o) && p r o) m) r + cnt (fun o => decide (r < o) && p r o) o = N at *
          have next : p r o = true → ∀ w, FrI p r (o + 1) (N + 1) w → Wp (d + 5) b 215 81 [.ref 46, .int x, .int (Int32.ofNat N), .int w, .int (Int32.ofNat (sumN (fun r => cnt (fun o => decide (r < o) && thB D m ins nu p r o) m) r + cnt (fun o => decide (r < o) && thB D m ins nu p r o) o)), .int (Int32.ofNat r), .int (Int32.ofNat o)] [] S' Q := by
            intro y w hw
            rw [y] at ihi
            have done : ∀ S2 (c : Bool), Fz [(46, 4)] [59] S S2 → S2.1 46 4 = 0 → thB D m ins nu p r o = c → Wp (d + 5) b 215 110 [.ref 46, .int x, .int (Int32.ofNat (N + 1)), .int w, .int (Int32.ofNat (sumN (fun r => cnt (fun o => decide (r < o) && thB D m ins nu p r o) m) r + cnt (fun o => decide (r < o) && thB D m ins nu p r o) o)), .int (Int32.ofNat r), .int (Int32.ofNat o)] [.int (bi c), .int (Int32.ofNat (sumN (fun r => cnt (fun o => decide (r < o) && thB D m ins nu p r o) m) r + cnt (fun o => decide (r < o) && thB D m ins nu p r o) o))] S2 Q := by
              intro S2 c hF2 h42 hc
              refine b215_110 (b215_113 ?_)
              have e : bi c = Int32.ofNat (if c = true then 1 else 0) := by cases c <;> rfl
              rw [i_suc, e, i_add]
              have := ihi S2 w hF2 h42 hw
              rw [hc] at this
              exact this
            have dS : S'.1 46 0 = Int32.ofNat D := (hF.f (by decide)).trans h0
            have zero : ∀ S2, Fz [(46, 4)] [59] S S2 → S2.1 46 4 = 0 → thB D m ins nu p r o = false → Wp (d + 5) b 215 109 [.ref 46, .int x, .int (Int32.ofNat (N + 1)), .int w, .int (Int32.ofNat (sumN (fun r => cnt (fun o => decide (r < o) && thB D m ins nu p r o) m) r + cnt (fun o => decide (r < o) && thB D m ins nu p r o) o)), .int (Int32.ofNat r), .int (Int32.ofNat o)] [.int (Int32.ofNat (sumN (fun r => cnt (fun o => decide (r < o) && thB D m ins nu p r o) m) r + cnt (fun o => decide (r < o) && thB D m ins nu p r o) o))] S2 Q := fun S2 hF2 h42 hc => b215_109 (done S2 false hF2 h42 hc)
            refine b215_81 (fun q => ?_) (fun q => ?_)
            · rw [i_suc]
              refine zero S' hF h4 ?_
              have : ¬ D = 3 := fun e => q (by rw [dS, e]; rfl)
              unfold thB
              rw [decide_eq_false this, Bool.false_and, Bool.and_false]
            · have q := Classical.byContradiction q
              rw [dS] at q
              have d3 := (i_inj (b := 3) (by omega) (by omega)).1 q
              have hR3 : RWd 3 m nu := d3 ▸ hR
              have hM3 : MTl 3 m nu S' := fun r k hr hk => by rw [hF.a (by decide)]; exact hM r k hr (by omega)
              rw [i_suc]
              refine b215_94 (P := fun v S2 => v = bi (outB m ins nu r o) ∧ Fz [] [59] S' S2) (w214 (hW.of4 hF) hR3 hM3 hrm hom (by omega) (fun S2 a => ⟨_, rfl, rfl, a⟩)) ?_
              rintro _ S2 ⟨rfl, f2⟩
              have eo : thB D m ins nu p r o = outB m ins nu r o := by unfold thB; rw [y, decide_eq_true d3, Bool.true_and, Bool.true_and]
              have f2' := hF.trans (f2.mono (fs' := [(46, 4)]) (as' := [59]) (by decide) (by decide))
              have h42 := (f2.f (j := 46) (k := 4) (by decide)).trans h4
              exact b215_102 (fun z => zero S2 f2' h42 (eo.trans (bi0.1 z))) (fun z => b215_105 (done S2 true f2' h42 (eo.trans (bi1.1 z))))
          refine b215_62 (fun hy => b215_68 (fun hN => ?_) (fun hN => b215_72 ?_)) (fun hy => b215_65 (b215_113 ?_))
          rotate_left
          rotate_left
          · have z := bi0.1 (Classical.byContradiction hy)
            have z2 : thB D m ins nu p r o = false := by unfold thB; rw [z]; rfl
            rw [z, z2] at ihi
            rw [i_suc]
            refine ihi S' v hF h4 ?_
            rcases hv with ⟨hn, rfl, h⟩ | h
            · refine Or.inl ⟨by simpa using hn, rfl, fun r' o' hro' hlt => ?_⟩
              by_cases e : r' = r ∧ o' = o
              · rw [e.1, e.2]; exact z
              · exact h r' o' hro' (by omega)
            · exact Or.inr (by simpa using h)
          · refine next (bi1.1 hy) v ?_
            rcases hv with ⟨hn, _⟩ | ⟨_, h⟩
            · exact absurd (show Int32.ofNat N = 0 by rw [hn]; rfl) hN
            · exact Or.inr ⟨by omega, h⟩
          · have n0 := (i_inj (b := 0) (by omega) (by omega)).1 (Classical.byContradiction hN)
            have e : (20 : Int32) * Int32.ofNat r + Int32.ofNat o = Int32.ofNat (20 * r + o) := by
              rw [show (20 : Int32) = Int32.ofNat 20 from rfl, i_mul, i_add]
            rw [e]
            refine next (bi1.1 hy) _ (Or.inr ⟨by omega, r, o, hro, bi1.1 hy, rfl, ?_⟩)
            rcases hv with ⟨_, _, h⟩ | ⟨h, _⟩
            · exact h
            · omega
      rw [i_suc]
      have := inner (m - (r + 1)) (r + 1) S' v (by omega) (by omega) hF h4
      rw [cnt_up0 p r, cnt_up0 (thB D m ins nu p) r, Nat.add_zero, Nat.add_zero] at this
      refine this ?_
      rcases hv with ⟨hn, rfl, h⟩ | h
      · exact Or.inl ⟨hn, rfl, fun r' o' hro' hlt => h r' o' hro' (by omega)⟩
      · exact Or.inr h
  exact outer m 0 (setI S 46 4 0) (-1) (by omega) f0 seti_same (Or.inl ⟨rfl, rfl, fun r' o' _ h => by omega⟩)
end MLACK2
