/-! SYMMETRIES: the class, all -/
section TURN3
variable {b D m : Nat} {ins : Int32} {nu : Nat → Nat → Int}
theorem c88 {d q : Nat} {S : St} {L : List Nat} {Q : Out → St → Prop} (hm : m ≤ 20) (hins : Low m ins) (hR : RWd D m nu) (hq : GK q) (h21 : S.1 2 1 = Int32.ofNat m) (h51 : S.1 5 1 = ins) (hI : TI m ins nu L S) (hw : WQ q S) (K1 : ∀ S1, Fz [] [38] S S1 → fitB m ins nu q = true → (∀ r, r < m → tb ins r = true → ∃ o, o < m ∧ imB ins nu q r o = true ∧ S1.2.1 38 r = bit o) → (∀ r, tb ins r = false → S1.2.1 38 r = S.2.1 38 r) → Q (.inl (some (.int 1))) S1) (K0 : ∀ S1, Fz [] [38] S S1 → fitB m ins nu q = false → (∀ r, tb ins r = false → S1.2.1 38 r = S.2.1 38 r) → Q (.inl (some (.int 0))) S1) : Wp (d + 2) b 88 0 [.ref 10] [] S Q := by
  have tiF : ∀ S', Fz [] [38] S S' → (∀ r, tb ins r = false → S'.2.1 38 r = S.2.1 38 r) → TI m ins nu L S' := by
    intro S' hF h0
    obtain ⟨i1, i2, i3, ⟨i4, i5⟩, i6⟩ := hI
    refine ⟨(hF.f (by simp)).trans i1, fun r hr => (hF.a (by decide) r).trans (i2 r hr), fun r hr hn => (h0 r hn).trans (i3 r hr hn), ⟨fun p hp => ?_, fun r hr hi => ?_⟩, fun r k hr hi hk => by rw [hF.a (by decide)]; exact i6 r k hr hi hk⟩
    · rw [hF.a (by decide), hF.a (by decide)]; exact i4 p hp
    · obtain ⟨j, j1, j2, j3⟩ := i5 r hr hi
      unfold sl at j2 j3 ⊢
      exact ⟨j, j1, by rw [hF.a (by decide)]; exact j2, fun i hi => by rw [hF.a (by decide)]; exact j3 i hi⟩
  have loop : ∀ n r S', r + n = m → Fz [] [38] S S' → (∀ o, o < r → tb ins o = true → ∃ c, c < m ∧ imB ins nu q o c = true ∧ S'.2.1 38 o = bit c) → (∀ o, tb ins o = false → S'.2.1 38 o = S.2.1 38 o) → Wp (d + 2) b 88 2 [.ref 10, .int (Int32.ofNat r)] [] S' Q := by
    intro n
    induction n with
    | zero =>
      intro r S' hr hF h1 h0
      have hr : r = m := hr
      subst hr
      refine b88_2 (fun _ => b88_60 (Or.inr rfl) (K1 S' hF ?_ h1 h0)) (fun z => absurd ?_ z)
      · rw [fitB_iff]
        intro r hr hi
        obtain ⟨o, o1, o2, _⟩ := h1 r hr hi
        exact ⟨o, o1, o2⟩
      · rw [hF.f (by simp), h21]
        exact (i_le (by omega) (by omega)).2 (Nat.le_refl _)
    | succ n ih =>
      intro r S' hr hF h1 h0
      have hrm : r < m := by omega
      refine b88_2 (fun z => ?_) (fun _ => b88_13 (fun z => ?_) (fun _ => b88_19 (by rw [hF.f (by simp), h51]; exact s146 ins (by omega)) ?_))
      · rw [hF.f (by simp), h21] at z
        have := (i_le (by omega) (by omega)).1 z
        omega
      · have := (i_le (a := 20) (by omega) (by omega)).1 z
        omega
      rintro _ _ ⟨rfl, rfl⟩
      refine b88_30 (fun hn => b88_54 ?_) (fun hi => ?_)
      · rw [i_suc]
        refine ih (r + 1) S' (by omega) hF (fun o ho hi => h1 o ?_ hi) h0
        have : ¬ o = r := fun e => by rw [e, bi0.1 hn] at hi; cases hi
        omega
      · have hi := bi1.1 hi
        have e4 : Int32.ofNat r * 4 = Int32.ofNat (4 * r) := by rw [show (4 : Int32) = Int32.ofNat 4 from rfl, i_mul, Nat.mul_comm]
        refine b88_33 (P := fun x S1 => S' = S1 ∧ ((∃ o, o < m ∧ imB ins nu q r o = true ∧ x = bit o) ∨ (x = 0 ∧ ∀ o, o < m → imB ins nu q r o = false))) (by
          rw [e4]
          exact c89 hm hR hq hrm hi hins (tiF S' hF h0) (fun k hk => by rw [hF.a (by decide)]; exact hw k hk) (fun o o1 o2 => ⟨_, rfl, rfl, Or.inl ⟨o, o1, o2, rfl⟩⟩) (fun h => ⟨_, rfl, rfl, Or.inr ⟨rfl, h⟩⟩)) ?_
        rintro x _ ⟨rfl, ⟨o, o1, o2, rfl⟩ | ⟨rfl, h⟩⟩
        · have bne : ¬ bit o = 0 := fun z => by
            have := tb_bit (r := o) (by omega) o
            rw [z, tb_zero] at this
            simp at this
          refine b88_40 (fun _ => b88_47 (i_vp (by omega) (by omega)) (b88_54 ?_)) (fun z => absurd bne z)
          rw [i_cl (by omega), i_suc]
          refine ih (r + 1) _ (by omega) (hF.seta (by decide)) (fun c hc hic => ?_) (fun c hc => ?_)
          · by_cases e : c = r
            · rw [e]; exact ⟨o, o1, o2, seta_same⟩
            · obtain ⟨z, z1, z2, z3⟩ := h1 c (by omega) hic
              exact ⟨z, z1, z2, (seta_ne (by omega)).trans z3⟩
          · have : ¬ c = r := fun e => by rw [e, hi] at hc; cases hc
            exact (seta_ne (by omega)).trans (h0 c hc)
        · refine b88_40 (fun z => absurd rfl z) (fun _ => b88_45 (Or.inl rfl) (K0 S' hF (bneg (fun z => ?_)) h0))
          obtain ⟨o, o1, o2⟩ := fitB_iff.1 z r hrm hi
          rw [h o o1] at o2; cases o2
  exact b88_0 (loop m 0 S (by omega) Fz.refl (fun o ho => by omega) (fun _ _ => rfl))
theorem c87 {d p : Nat} {S : St} {L : List Nat} {Q : Out → St → Prop} (hD : D = 3 ∨ D = 4) (hm : m ≤ 20) (hins : Low m ins) (hR : RWd D m nu) (h20 : S.1 2 0 = Int32.ofNat D) (h21 : S.1 2 1 = Int32.ofNat m) (h51 : S.1 5 1 = ins) (hp : p < 256) (hok : okP D p = true) (hI : TI m ins nu L S) (K : ∀ S1, Fz [(10, 9)] [37, 38, 39] S S1 → TI m ins nu (L ++ E2p D p) S1 → Q (.inl none) S1) : Wp (d + 3) b 87 0 [.ref 10, .int (Int32.ofNat p)] [] S Q := by
  have hok4 : okP 4 p = true := by
    rcases hD with rfl | rfl
    · rw [ok3] at hok
      exact (Bool.and_eq_true _ _ ▸ hok : _ ∧ _).1
    · exact hok
  have hgk : ∀ u, u < 2 ^ (D - 1) → GK (key2 p (2 * u)) := by
    intro u hu
    refine e_good hD ?_
    unfold E2
    rw [List.mem_flatMap]
    refine ⟨p, List.mem_range.2 hp, ?_⟩
    rw [if_pos hok]
    exact List.mem_map.2 ⟨u, List.mem_range.2 hu, rfl⟩
  have pw8 : 2 ^ (D - 1) ≤ 8 := by rcases hD with rfl | rfl <;> decide
  have eD : ((1 : Int32) <<< (Int32.ofNat D &&& 31)) = Int32.ofNat (2 * 2 ^ (D - 1)) := by rcases hD with rfl | rfl <;> decide
  refine b87_0 ?_
  have outer : ∀ n u S', u + n = 2 ^ (D - 1) → Fz [(10, 9)] [37, 38, 39] S S' → TI m ins nu (L ++ (List.range u).map (fun u => key2 p (2 * u))) S' → Wp (d + 3) b 87 2 [.ref 10, .int (Int32.ofNat p), .int (Int32.ofNat (2 * u))] [] S' Q := by
    intro n
    induction n with
    | zero =>
      intro u S' hu hF hI'
      have hu : u = 2 ^ (D - 1) := hu
      refine b87_2 (fun _ => b87_114 (K S' hF ?_)) (fun z => absurd ?_ z)
      · unfold E2p; rw [← hu]; exact hI'
      · rw [hF.f (by decide), h20, eD, ← hu]
        exact (i_le (by omega) (by omega)).2 (Nat.le_refl _)
    | succ n ih =>
      intro u S' hu hF hI'
      have u8 : u < 8 := by omega
      have hq := hgk u (by omega)
      generalize hL' : L ++ (List.range u).map (fun u => key2 p (2 * u)) = L' at *
      refine b87_2 (fun z => ?_) (fun _ => b87_15 ?_)
      · rw [hF.f (by decide), h20, eD] at z
        have := (i_le (by omega) (by omega)).1 z
        omega
      have next : ∀ S2 x3, Fz [(10, 9)] [37, 38, 39] S S2 → TI m ins nu (L' ++ [key2 p (2 * u)]) S2 → Wp (d + 3) b 87 108 [.ref 10, .int (Int32.ofNat p), .int (Int32.ofNat (2 * u)), .int x3] [] S2 Q := by
        intro S2 x3 f2 g2
        refine b87_108 ?_
        rw [show (2 : Int32) = Int32.ofNat 2 from rfl, i_add, show 2 * u + 2 = 2 * (u + 1) by omega]
        refine ih (u + 1) S2 (by omega) f2 ?_
        rw [List.range_succ, List.map_append, ← List.append_assoc, hL']
        exact g2
      have wl : ∀ n k S2, k + n = 4 → Fz [] [39] S' S2 → (∀ j, j < k → S2.2.1 39 j = wv p (2 * u) j) → Wp (d + 3) b 87 17 [.ref 10, .int (Int32.ofNat p), .int (Int32.ofNat (2 * u)), .int (Int32.ofNat k)] [] S2 Q := by
        intro n
        induction n with
        | zero =>
          intro k S2 hk f2 g2
          have hk : k = 4 := hk
          subst hk
          have hw : WQ (key2 p (2 * u)) S2 := fun k hk => by
            rw [g2 k hk]; exact wv_coef ⟨p, hp⟩ hok4 ⟨u, u8⟩ ⟨k, hk⟩
          have fS2 : Fz [(10, 9)] [37, 38, 39] S S2 := hF.trans (f2.mono (by simp) (by decide))
          have hI2 : TI m ins nu L' S2 := by
            obtain ⟨i1, i2, i3, ⟨i4, i5⟩, i6⟩ := hI'
            refine ⟨(f2.f (by simp)).trans i1, fun r hr => (f2.a (by decide) r).trans (i2 r hr), fun r hr hn => (f2.a (by decide) r).trans (i3 r hr hn), ⟨fun p hp => ?_, fun r hr hi => ?_⟩, fun r k hr hi hk => by rw [f2.a (by decide)]; exact i6 r k hr hi hk⟩
            · rw [f2.a (by decide), f2.a (by decide)]; exact i4 p hp
            · obtain ⟨j, j1, j2, j3⟩ := i5 r hr hi
              unfold sl at j2 j3 ⊢
              exact ⟨j, j1, by rw [f2.a (by decide)]; exact j2, fun i hi => by rw [f2.a (by decide)]; exact j3 i hi⟩
          refine b87_17 (fun _ => b87_62 (P := fun x S3 => Fz [] [38] S2 S3 ∧ (∀ r, tb ins r = false → S3.2.1 38 r = S2.2.1 38 r) ∧ ((x = 1 ∧ fitB m ins nu (key2 p (2 * u)) = true ∧ ∀ r, r < m → tb ins r = true → ∃ o, o < m ∧ imB ins nu (key2 p (2 * u)) r o = true ∧ S3.2.1 38 r = bit o) ∨ (x = 0 ∧ fitB m ins nu (key2 p (2 * u)) = false))) (c88 hm hins hR hq ((fS2.f (by decide)).trans h21) ((fS2.f (by decide)).trans h51) hI2 hw (fun S3 a1 a2 a3 a4 => ⟨_, rfl, a1, a4, Or.inl ⟨rfl, a2, a3⟩⟩) (fun S3 a1 a2 a3 => ⟨_, rfl, a1, a3, Or.inr ⟨rfl, a2⟩⟩)) ?_) (fun z => absurd ((i_le (a := 4) (by omega) (by omega)).2 (by omega)) z)
          rintro x S3 ⟨a1, a4, hx⟩
          have fS3 : Fz [(10, 9)] [37, 38, 39] S S3 := fS2.trans (a1.mono (by simp) (by decide))
          obtain ⟨i1, i2, i3, ⟨i4, i5⟩, i6⟩ := hI2
          have keep : ∀ S4, Fz [(10, 9)] [37] S3 S4 → SLo m nu (tb ins) S4 ∧ (∀ r k, r < m → tb ins r = true → k < 4 → (S4.2.1 40 (4 * r + k)).toInt = rd (nu r) k) ∧ (∀ r, r < 20 → tb ins r = false → S4.2.1 38 r = 0) := by
            intro S4 f4
            refine ⟨⟨fun p hp => ?_, fun r hr hi => ?_⟩, fun r k hr hi hk => by rw [f4.a (by decide), a1.a (by decide)]; exact i6 r k hr hi hk, fun r hr hn => by rw [f4.a (by decide), a4 r hn]; exact i3 r hr hn⟩
            · rw [f4.a (by decide), f4.a (by decide), a1.a (by decide), a1.a (by decide)]; exact i4 p hp
            · obtain ⟨j, j1, j2, j3⟩ := i5 r hr hi
              unfold sl at j2 j3 ⊢
              exact ⟨j, j1, by rw [f4.a (by decide), a1.a (by decide)]; exact j2, fun i hi => by rw [f4.a (by decide), a1.a (by decide)]; exact j3 i hi⟩
          rcases hx with ⟨rfl, a2, a3⟩ | ⟨rfl, a2⟩
          · refine b87_66 (fun z => absurd z (by decide)) (fun _ => b87_69 ?_)
            have upd : ∀ n r S4, r + n = 20 → Fz [(10, 9)] [37] S3 S4 → S4.1 10 9 = Int32.ofNat (2 * wayN m ins nu (L' ++ [key2 p (2 * u)])) → (∀ o, o < r → S4.2.1 37 o = if tb ins o = true then symI m ins nu (L' ++ [key2 p (2 * u)]) o else 0) → (∀ o, r ≤ o → S4.2.1 37 o = S3.2.1 37 o) → Wp (d + 3) b 87 81 [.ref 10, .int (Int32.ofNat p), .int (Int32.ofNat (2 * u)), .int (Int32.ofNat r)] [] S4 Q := by
              intro n
              induction n with
              | zero =>
                intro r S4 hr f4 e9 e37 _
                have hr : r = 20 := hr
                subst hr
                obtain ⟨k1, k2, k3⟩ := keep S4 f4
                exact b87_81 (fun _ => next S4 _ (fS3.trans (f4.mono (by decide) (by decide))) ⟨e9, e37, k3, k1, k2⟩) (fun z => absurd ((i_le (a := 20) (by omega) (by omega)).2 (by omega)) z)
              | succ n ihr =>
                intro r S4 hr f4 e9 e37 e37'
                have vp := i_vp (k := r) (n := 20) (by omega) (by omega)
                refine b87_81 (fun z => ?_) (fun _ => b87_87 vp vp vp ?_)
                · have := (i_le (a := 20) (by omega) (by omega)).1 z
                  omega
                · rw [i_cl (by omega), i_suc]
                  refine ihr (r + 1) _ (by omega) (f4.seta (by decide)) e9 (fun o ho => ?_) (fun o ho => (seta_ne (by omega)).trans (e37' o (by omega)))
                  by_cases e : o = r
                  · subst e
                    rw [seta_same, e37' o (Nat.le_refl _), f4.a (by decide), a1.a (by decide), i2 o (by omega)]
                    by_cases hi : tb ins o = true
                    · rw [if_pos hi, if_pos hi]
                      obtain ⟨c, c1, c2, c3⟩ := a3 o (hins o hi) hi
                      rw [c3]
                      exact (symI_one hm hR (hins o hi) hq c1 a2 c2).symm
                    · rw [if_neg hi, if_neg hi, a4 o (bneg hi), i3 o (by omega) (bneg hi)]
                      rfl
                  · rw [seta_ne (by omega)]; exact e37 o (by omega)
            refine upd 20 0 _ (by omega) (Fz.refl.seti (by decide)) ?_ (fun o ho => by omega) (fun _ _ => rfl)
            rw [seti_same, a1.f (by simp), i1, show (2 : Int32) = Int32.ofNat 2 from rfl, i_add, wayN_one, if_pos a2, Nat.mul_add]
          · refine b87_66 (fun _ => next S3 _ fS3 ?_) (fun z => absurd rfl z)
            obtain ⟨k1, k2, k3⟩ := keep S3 Fz.refl
            refine ⟨?_, fun r hr => ?_, k3, k1, k2⟩
            · rw [a1.f (by simp), i1, wayN_one, if_neg (by rw [a2]; decide), Nat.add_zero]
            · rw [a1.a (by decide), i2 r hr, symI_no a2]
        | succ n ihn =>
          intro k S2 hk f2 g2
          refine b87_17 (fun z => ?_) (fun _ => b87_22 (P := Vx (pw32 (plc p k)) S2) ?_ ?_)
          · have := (i_le (a := 4) (by omega) (by omega)).1 z
            omega
          · rw [plc_eq ⟨p, hp⟩ ⟨k, by omega⟩]
            exact s76 (Nat.mod_lt _ (by omega))
          rintro _ _ ⟨rfl, rfl⟩
          refine b87_32 (s146 _ (by omega)) ?_
          rintro _ _ ⟨rfl, rfl⟩
          have go : ∀ v, v = wv p (2 * u) k → Wp (d + 3) b 87 55 [.ref 10, .int (Int32.ofNat p), .int (Int32.ofNat (2 * u)), .int (Int32.ofNat k), .int (pw32 (plc p k))] [.int v, .int (Int32.ofNat k), .ref 39] S2 Q := by
            intro v hv
            refine b87_55 (i_vp (by omega) (by omega)) ?_
            rw [i_cl (by omega), i_suc]
            refine ihn (k + 1) _ (by omega) (f2.seta (by decide)) (fun j hj => ?_)
            by_cases e : j = k
            · rw [e, seta_same]; exact hv
            · rw [seta_ne (by omega)]; exact g2 j (by omega)
          refine b87_44 (fun h0 => b87_53 (go _ ?_)) (fun h1 => b87_47 (go _ ?_))
          · unfold wv; rw [if_neg (by rw [bi0.1 h0]; decide)]
          · unfold wv; rw [if_pos (bi1.1 h1)]
      exact wl 4 0 S' (by omega) Fz.refl (fun j hj => by omega)
  exact outer (2 ^ (D - 1)) 0 S (by omega) Fz.refl (by rw [List.range_zero, List.map_nil, List.append_nil]; exact hI)
/-- what is known of symmetries -/
def CSy (D m : Nat) (ins : Int32) (nu : Nat → Nat → Int) (S : St) : Prop := S.1 10 8 = 0 ∨ (S.1 10 8 = 1 ∧ S.1 10 9 = Int32.ofNat (2 * wayN m ins nu (E2 D)) ∧ ∀ r, r < 20 → S.2.1 37 r = if tb ins r = true then symI m ins nu (E2 D) r else 0)
theorem c83 {d : Nat} {S : St} {Q : Out → St → Prop} (hD : D = 3 ∨ D = 4) (hm : m ≤ 20) (hins : Low m ins) (hR : RWd D m nu) (hT : Tld D m nu S) (h51 : S.1 5 1 = ins) (hC : CSy D m ins nu S) (K : ∀ S1, Fz [(10, 8), (10, 9)] [37, 38, 39, 40, 41, 42] S S1 → S1.1 10 8 = 1 → S1.1 10 9 = Int32.ofNat (2 * wayN m ins nu (E2 D)) → (∀ r, r < 20 → S1.2.1 37 r = if tb ins r = true then symI m ins nu (E2 D) r else 0) → Q (.inl none) S1) : Wp (d + 4) b 83 0 [.ref 10] [] S Q := by
  refine b83_0 (fun h0 => ?_) (fun hn => b83_7 ?_)
  rotate_left
  · rcases hC with e | ⟨e, h1, h2⟩
    · exact absurd e hn
    · exact K S Fz.refl e h1 h2
  let S0 := setI (setI S 10 8 (1 : Int32)) 10 9 (0 : Int32)
  have f0 : Fz [(10, 8), (10, 9)] [37, 38, 39, 40, 41, 42] S S0 := (Fz.refl.seti (by decide)).seti (by decide)
  refine b83_8 (P := fun S1 => Fz [] [37, 38, 40, 41, 42] S0 S1 ∧ TI m ins nu [] S1) (Or.inr rfl) (c84 hm hins hR (hT.of f0 (by decide)) ((f0.f (by decide)).trans h51) (fun S1 g1 g2 g3 g4 => ⟨rfl, g1, ?_, fun r hr => ?_, fun r hr _ => (g2 r hr).2, g4, g3⟩)) ?_
  · rw [g1.f (by simp)]; exact seti_same
  · rw [(g2 r hr).1]
    have : symI m ins nu [] r = 0 := by
      apply tb_ext
      intro k _
      unfold symI
      rw [tb_mk _ (by omega), tb_zero, List.any_nil, Bool.and_false]
    rw [this, ite_self]
  rintro S1 ⟨g1, g2⟩
  have f1 : Fz [(10, 8), (10, 9)] [37, 38, 39, 40, 41, 42] S S1 := f0.trans (g1.mono (by simp) (by decide))
  have k8 : S1.1 10 8 = 1 := by rw [g1.f (by simp)]; exact (seti_ne (by decide)).trans seti_same
  refine b83_22 ?_
  have loop : ∀ n p S', p + n = 256 → Fz [(10, 8), (10, 9)] [37, 38, 39, 40, 41, 42] S S' → S'.1 10 8 = 1 → TI m ins nu ((List.range p).flatMap (fun p => if okP D p = true then E2p D p else [])) S' → Wp (d + 4) b 83 24 [.ref 10, .int (Int32.ofNat p)] [] S' Q := by
    intro n
    induction n with
    | zero =>
      intro p S' hp hF h8 hI
      have hp : p = 256 := hp
      subst hp
      exact b83_24 (fun _ => b83_96 (K S' hF h8 hI.1 hI.2.1)) (fun z => absurd ((i_le (a := 256) (by omega) (by omega)).2 (by omega)) z)
    | succ n ih =>
      intro p S' hp hF h8 hI
      have p256 : p < 256 := by omega
      refine b83_24 (fun z => ?_) (fun _ => b83_31 (b83_51 (fun z => ?_) (fun z => ?_)))
      · have := (i_le (a := 256) (by omega) (by omega)).1 z
        omega
      · refine b83_90 ?_
        rw [i_suc]
        refine ih (p + 1) S' (by omega) hF h8 ?_
        rw [List.range_succ, List.flatMap_append, List.flatMap_singleton, if_neg, List.append_nil]
        · exact hI
        · intro h
          apply z
          refine (ok_eq ⟨p, p256⟩).2 ?_
          rcases hD with rfl | rfl
          · rw [ok3] at h
            exact (Bool.and_eq_true _ _ ▸ h : _ ∧ _).1
          · exact h
      · have hok4 := (ok_eq ⟨p, p256⟩).1 (Classical.byContradiction z)
        have fT := hT.of hF (by decide)
        have turn : okP D p = true → ∀ x2, Wp (d + 4) b 83 85 [.ref 10, .int (Int32.ofNat p), .int x2] [] S' Q := by
          intro hok x2
          refine b83_85 (P := fun S2 => Fz [(10, 9)] [37, 38, 39] S' S2 ∧ TI m ins nu ((List.range p).flatMap (fun p => if okP D p = true then E2p D p else []) ++ E2p D p) S2) (c87 hD hm hins hR fT.1 fT.2.1 ((hF.f (by decide)).trans h51) p256 hok hI (fun S2 a1 a2 => ⟨rfl, a1, a2⟩)) ?_
          rintro S2 ⟨a1, a2⟩
          refine b83_90 ?_
          rw [i_suc]
          refine ih (p + 1) S2 (by omega) (hF.trans (a1.mono (by decide) (by decide))) ((a1.f (by decide)).trans h8) ?_
          rw [List.range_succ, List.flatMap_append, List.flatMap_singleton, if_pos hok]
          exact a2
        refine b83_66 (fun h4 => turn ?_ _) (fun h4 => b83_77 (fun h3 => b83_90 ?_) (fun h3 => turn ?_ _))
        · rw [fT.1] at h4
          have : D = 4 := (i_inj (b := 4) (by omega) (by omega)).1 h4
          rw [this]; exact hok4
        · have e3 : D = 3 := by
            rw [fT.1] at h4
            rcases hD with e | e
            · exact e
            · rw [e] at h4; exact absurd rfl h4
          rw [i_suc]
          refine ih (p + 1) S' (by omega) hF h8 ?_
          rw [List.range_succ, List.flatMap_append, List.flatMap_singleton, if_neg, List.append_nil]
          · exact hI
          · intro h
            rw [e3, ok3] at h
            exact h3 ((last_eq ⟨p, p256⟩).2 (of_decide_eq_true (Bool.and_eq_true _ _ ▸ h : _ ∧ _).2))
        · have e3 : D = 3 := by
            rw [fT.1] at h4
            rcases hD with e | e
            · exact e
            · rw [e] at h4; exact absurd rfl h4
          rw [e3, ok3, hok4, decide_eq_true ((last_eq ⟨p, p256⟩).1 (Classical.byContradiction h3))]
          rfl
  exact loop 256 0 S1 (by omega) f1 k8 g2
theorem id_mem (hD : D = 3 ∨ D = 4) : 3344 ∈ E2 D := by
  rcases hD with rfl | rfl <;> decide +kernel
theorem id_act (a : Nat → Int) {j : Nat} (hj : j < 4) : act 3344 a j = a j := by
  have : j = 0 ∨ j = 1 ∨ j = 2 ∨ j = 3 := by omega
  rcases this with rfl | rfl | rfl | rfl <;> rfl
theorem id_im {r : Nat} (hi : tb ins r = true) : imB ins nu 3344 r r = true := by
  refine imB_iff.2 ⟨hi, fun i k hi hk => ?_⟩
  rw [id_act _ hi, id_act _ hk, Int.mul_comm]
theorem sym_self (hD : D = 3 ∨ D = 4) (hm : m ≤ 20) {r : Nat} (hr : r < m) (hi : tb ins r = true) : tb (symI m ins nu (E2 D) r) r = true := by
  unfold symI
  rw [tb_mk _ (by omega), decide_eq_true hr, Bool.true_and, List.any_eq_true]
  refine ⟨3344, id_mem hD, ?_⟩
  rw [id_im hi, Bool.and_true, fitB_iff]
  exact fun r hr hi => ⟨r, hr, id_im hi⟩
/-- a ray that comes to none before it -/
def kindB (D m : Nat) (ins : Int32) (nu : Nat → Nat → Int) (r : Nat) : Bool := tb ins r && decide (pcn ((symI m ins nu (E2 D) r &&& - symI m ins nu (E2 D) r) - 1) = r)
theorem c90 {d : Nat} {S : St} (h51 : S.1 5 1 = ins) (h37 : ∀ r, r < 20 → S.2.1 37 r = if tb ins r = true then symI m ins nu (E2 D) r else 0) : Wp (d + 2) b 90 0 [.ref 10] [] S (Ri (Vx (Int32.ofNat (cnt (kindB D m ins nu) 20)) S)) := by
  have loop : ∀ n r, r + n = 20 → Wp (d + 2) b 90 4 [.ref 10, .int (Int32.ofNat (cnt (kindB D m ins nu) r)), .int (Int32.ofNat r)] [] S (Ri (Vx (Int32.ofNat (cnt (kindB D m ins nu) 20)) S)) := by
    intro n
    induction n with
    | zero =>
      intro r hr
      have hr : r = 20 := hr
      subst hr
      exact b90_4 (fun _ => b90_46 ⟨_, rfl, rfl, rfl⟩) (fun z => absurd ((i_le (a := 20) (by omega) (by omega)).2 (by omega)) z)
    | succ n ih =>
      intro r hr
      have ec : cnt (kindB D m ins nu) (r + 1) = cnt (kindB D m ins nu) r + (if kindB D m ins nu r = true then 1 else 0) := rfl
      have no : kindB D m ins nu r = false → Wp (d + 2) b 90 40 [.ref 10, .int (Int32.ofNat (cnt (kindB D m ins nu) r)), .int (Int32.ofNat r)] [] S (Ri (Vx (Int32.ofNat (cnt (kindB D m ins nu) 20)) S)) := by
        intro h
        refine b90_40 ?_
        rw [i_suc]
        have := ih (r + 1) (by omega)
        rw [ec, h] at this
        exact this
      refine b90_4 (fun z => ?_) (fun _ => b90_10 (by rw [h51]; exact s146 ins (by omega)) ?_)
      · have := (i_le (a := 20) (by omega) (by omega)).1 z
        omega
      rintro _ _ ⟨rfl, rfl⟩
      refine b90_21 (fun h0 => no ?_) (fun h1 => b90_24 (i_vp (by omega) (by omega)) (s148 _) ?_)
      · unfold kindB; rw [bi0.1 h0]; rfl
      rintro _ _ ⟨rfl, rfl⟩
      have h1 := bi1.1 h1
      rw [i_cl (by omega), h37 r (by omega), if_pos h1]
      have pl := pcn_le ((symI m ins nu (E2 D) r &&& - symI m ins nu (E2 D) r) - 1)
      refine b90_33 (fun z => no ?_) (fun z => b90_37 (b90_40 ?_))
      · unfold kindB
        rw [h1, decide_eq_false]
        · rfl
        · intro e; apply z; rw [e]
      · have z := (i_inj (by omega) (by omega)).1 (Classical.byContradiction z)
        rw [i_suc, i_suc]
        have := ih (r + 1) (by omega)
        have hk : kindB D m ins nu r = true := by
          unfold kindB
          rw [h1, decide_eq_true z]; rfl
        rw [ec, hk] at this
        exact this
  exact b90_0 (loop 20 0 (by omega))
end TURN3
