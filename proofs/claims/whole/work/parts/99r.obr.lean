/-! THE CALLS: feed, say, said, the acts -/
section OBR
variable {L : Nat}
theorem nm_of {D m rl : Nat} {ins : Int32} {nu : Nat → Nat → Int} {S : St} (hN : WN D m rl ins nu) (h1 : Tld D m nu S) (h2 : MTl D m nu S) : NM D m S := by
  intro r hr
  obtain ⟨r9, _, rz⟩ := hN.2.2.2.2.1 r hr
  have hD := hN.1
  refine ⟨fun k hk => ⟨ti_ext ?_, ?_, ?_⟩, fun e => ti_0.2 ?_⟩
  · rw [h1.2.2.1 r k hr (by omega), h2 r k hr hk]
  · rw [h2 r k hr hk]; exact (r9 k (by omega)).1
  · rw [h2 r k hr hk]; exact (r9 k (by omega)).2
  · rw [h1.2.2.1 r 3 hr (by omega)]; exact rz 3 (by omega)
theorem rng_iff {n : Nat} {x : Int32} (hn : n ≤ 5000) : ((0 : Int32) ≤ x ∧ x ≤ Int32.ofNat n - 1) ↔ (¬ x < 0 ∧ x.toNatClampNeg < n) := by
  have e0 : (0 : Int32).toInt = 0 := by decide
  have e1 : (1 : Int32).toInt = 1 := by decide
  have en : (Int32.ofNat n - 1).toInt = (n : Int) - 1 := by
    rw [ti_sub (by rw [i_toInt (by omega), e1]; omega) (by rw [i_toInt (by omega), e1]; omega), i_toInt (by omega), e1]
  rw [Int32.le_iff_toInt_le, Int32.le_iff_toInt_le, Int32.lt_iff_toInt_lt, e0, en]
  unfold Int32.toNatClampNeg
  omega
theorem bit_pow : ∀ m : Fin 21, bit m.val = Int32.ofNat (2 ^ m.val) := by decide +kernel
theorem low_tn {m : Nat} {x : Int32} : Low m x ↔ tn x < 2 ^ m := by
  constructor
  · intro h
    refine Nat.lt_pow_two_of_testBit _ (fun i hi => ?_)
    have : tb x i = false := Bool.eq_false_iff.2 (fun z => by have := h i z; omega)
    exact this
  · intro h k hk
    refine Nat.lt_of_not_le (fun q => ?_)
    have h2 : tn x < 2 ^ k := Nat.lt_of_lt_of_le h (Nat.pow_le_pow_right (by omega) q)
    have : tb x k = false := Nat.testBit_lt_two_pow h2
    rw [this] at hk
    cases hk
theorem low_rng {m : Nat} {x : Int32} (hm : m ≤ 20) : ((0 : Int32) ≤ x ∧ x ≤ bit m - 1) ↔ Low m x := by
  have hp : (2 : Nat) ^ m ≤ 1048576 := by
    have : (2 : Nat) ^ m ≤ 2 ^ 20 := Nat.pow_le_pow_right (by omega) hm
    exact this
  have h1 : 1 ≤ (2 : Nat) ^ m := Nat.one_le_two_pow
  rw [bit_pow ⟨m, by omega⟩]
  show ((0 : Int32) ≤ x ∧ x ≤ Int32.ofNat (2 ^ m) - 1) ↔ _
  rw [show Int32.ofNat (2 ^ m) - 1 = Int32.ofNat (2 ^ m - 1) from i_sub (b := 1) h1, low_tn]
  constructor
  · rintro ⟨a1, a2⟩
    have e0 : (0 : Int32).toInt = 0 := by decide
    have ex := i_of (x := x) (fun z => by rw [Int32.lt_iff_toInt_lt] at z; rw [Int32.le_iff_toInt_le] at a1; omega)
    have hc := i_clt x
    rw [ex] at a2 ⊢
    have := (i_le (by omega) (by omega)).1 a2
    rw [tn_of (by omega)]
    omega
  · intro h
    have ex : x = Int32.ofNat (tn x) := tn_inj (tn_of (by omega)).symm
    rw [ex]
    exact ⟨(i_le (a := 0) (by omega) (by omega)).2 (Nat.zero_le _), (i_le (by omega) (by omega)).2 (by omega)⟩
theorem b233_14k {d b k : Nat} {S : St} {Q : Out → St → Prop} (h40 : S.1 46 40 = Int32.ofNat (k + 1)) (hk : k < 20) (K : ∀ S1, Fz [(46, 2), (46, 3), (46, 40)] [] S S1 → S1.1 46 40 = Int32.ofNat k → S1.1 46 2 = S.2.1 62 k → S1.1 46 3 = S.2.1 63 k → Wp d b 233 50 [.ref 46] [] S1 Q) : Wp d b 233 14 [.ref 46] [] S Q := by
  have e40 : (setI S 46 40 ((S.1 46 40) - (1 : Int32))).1 46 40 = Int32.ofNat k := by rw [seti_same, h40, i_pre]
  have e40' : ∀ v, (setI (setI S 46 40 ((S.1 46 40) - (1 : Int32))) 46 2 v).1 46 40 = Int32.ofNat k := fun v => (seti_ne (by decide)).trans e40
  refine b233_14 (by rw [e40]; exact i_vp hk (by omega)) (by rw [seti_ne (by decide), e40]; exact i_vp hk (by omega)) (K _ (((Fz.refl.seti (by decide)).seti (by decide)).seti (by decide)) ?_ ?_ ?_)
  · rw [seti_ne (by decide), seti_ne (by decide), e40]
  · rw [seti_ne (by decide), seti_same, e40, i_cl (by omega)]
    rfl
  · rw [seti_same, e40', i_cl (by omega)]
    rfl
theorem o100 : ∀ a1 a2 a3 a4 a5, ObA (J L) 100 234 [.int a1, .int a2, .int a3, .int a4, .int a5] := by
  intro b1 b2 b3 b4 b5 S hS
  obtain ⟨hL, D, m, rl, ins, nu, tn0, ty, an, aa, T, hN, hJT, hJF, hJP, hJA, hJY, hC, hM⟩ := hS
  have hJ : JS L D m rl ins nu tn0 ty an aa T S := ⟨hL, hN, hJT, hJF, hJP, hJA, hJY⟩
  have hU := wn_uw hN
  refine c100 hJP.1 (fun h => ⟨_, rfl, ⟨rfl, rfl⟩, w234 hJP.2 (fun _ S2 e1 => ⟨_, rfl, rfl, j_of (hJ.of e1 (by decide) (by decide)) (hC.of e1 (by decide) (by decide)) (hM.of e1 (by decide))⟩) (fun h2 => by omega)⟩) (fun h S1 c1 c2 => ⟨_, rfl, ⟨c1.f (by decide), c1.ar (by decide)⟩, w234 (hJP.2.of c1 (by decide)) (fun h2 => by omega) (fun _ S2 e1 e2 => ⟨_, rfl, rfl, ?_⟩)⟩)
  have G : Fz [(1, 1), (46, 4), (46, 43)] [14, 64] S S2 := (c1.mono (by decide) (by decide)).trans (e1.mono (by decide) (by decide))
  exact j_of ⟨(G.f (by decide)).trans hL, hN, hJT.of G (by decide) (by decide), hJF.of G (by decide), ⟨c2.of e1 (by decide), e2⟩, hJA.of G (by decide), hJY.of G (by decide)⟩ (hC.of G (by decide) (by decide)) (hM.of G (by decide))
theorem o128 : ObA (J L) 128 227 [] := by
  intro S hS
  obtain ⟨hL, D, m, rl, ins, nu, tn0, ty, an, aa, T, hN, hJT, hJF, hJP, hJA, hJY, hC, hM⟩ := hS
  have hJ : JS L D m rl ins nu tn0 ty an aa T S := ⟨hL, hN, hJT, hJF, hJP, hJA, hJY⟩
  have hU := wn_uw hN
  obtain ⟨t1, t2, t3, t4, t5, t6, t7, t8⟩ := id hJT
  refine c128 t1.1 hN.1 t1.2.1 hN.2.1 t3 (nm_of hN t1 t7) (fun S1 c1 c2 => ⟨_, rfl, ⟨c1.f (by decide), c1.ar (by decide)⟩, w227 (t5.of c1 (by decide) (by decide) (by decide)) (fun S2 e1 e2 e3 => ?_)⟩)
  rw [c1.ar (by decide)] at e3 ⊢
  have G : Fz [(0, 13), (46, 4), (46, 37)] [45, 61] S S2 := (c1.mono (by decide) (by decide)).trans (e1.mono (by decide) (by decide))
  exact ⟨_, rfl, rfl, j_of ⟨(G.f (by decide)).trans hL, hN, hJT.of G (by decide) (by decide), hJF.of G (by decide), hJP.of G (by decide), hJA.of G (by decide), ⟨c2.of e1 (by decide), e3⟩⟩ (hC.of G (by decide) (by decide)) (hM.of G (by decide))⟩
theorem o129 : ∀ a1, ObA (J L) 129 228 [.int a1] := by
  intro x S hS
  obtain ⟨hL, D, m, rl, ins, nu, tn0, ty, an, aa, T, hN, hJT, hJF, hJP, hJA, hJY, hC, hM⟩ := hS
  have hJ : JS L D m rl ins nu tn0 ty an aa T S := ⟨hL, hN, hJT, hJF, hJP, hJA, hJY⟩
  have hU := wn_uw hN
  obtain ⟨y1, y2, y3⟩ := hJY.1
  obtain ⟨z1, _, z3⟩ := hJY.2
  have e1 : Fz [(46, 4)] [] S (setI S 46 4 0) := Fz.refl.seti (by decide)
  have hJ2 : J L (setI S 46 4 0) := j_of (hJ.of e1 (by decide) (by decide)) (hC.of e1 (by decide) (by decide)) (hM.of e1 (by decide))
  have hcl := i_clt x
  have mod : ∀ v, ((¬ x < 0 ∧ x.toNatClampNeg < T.length) → v = T.getD x.toNatClampNeg 0) → (¬ (¬ x < 0 ∧ x.toNatClampNeg < T.length) → v = -1) → Wp 1999 0 228 0 [.ref 46, .int x] [] S (Ri fun w S2 => w = v ∧ J L S2) := by
    intro v h1 h2
    refine b228_0 s153 ?_
    rintro _ _ ⟨rfl, rfl⟩
    rw [e1.f (by decide), z1]
    refine b228_16 (fun q => b228_28 (b228_29 ⟨_, rfl, (h2 (fun w => ?_)).symm, hJ2⟩)) (fun q => ?_)
    · exact of_decide_eq_false (bi0.1 q) ((rng_iff (by omega)).2 w)
    · have w := (rng_iff (by omega)).1 (of_decide_eq_true (bi1.1 q))
      have ex := i_of w.1
      refine b228_19 (by rw [ex]; exact i_vp (by omega) (by omega)) (b228_29 ⟨_, rfl, ?_, hJ2⟩)
      rw [h1 w]
      exact z3 _ w.2
  have no : ¬ (¬ x < 0 ∧ x.toNatClampNeg < T.length) → Wp 1999 0 129 30 [.ref 0, .int x] [] S (Ri fun v S1 => Sc S S1 ∧ Wp 1999 0 228 0 [.ref 46, .int x] [] S1 (Ri fun w S2 => w = v ∧ J L S2)) := fun h => b129_30 (b129_31 ⟨_, rfl, ⟨rfl, rfl⟩, mod _ (fun w => absurd w h) (fun _ => rfl)⟩)
  refine b129_0 (fun q => no (fun w => w.1 q)) (fun q => ?_)
  have ex := i_of q
  refine b129_4 (fun q2 => no (fun w => ?_)) (fun q2 => ?_)
  · rw [y1, ex] at q2
    have := (i_le (by omega) (by omega)).1 q2
    omega
  have xl : x.toNatClampNeg < T.length := by
    rw [y1, ex] at q2
    exact Nat.lt_of_not_le (fun z => q2 ((i_le (by omega) (by omega)).2 z))
  refine b129_12 (fun q3 => ?_) (fun q3 => b129_21 (by rw [ex]; exact i_vp (by omega) (by omega)) (b129_31 ⟨_, rfl, ⟨rfl, rfl⟩, mod _ (fun w => y3 _ w.2) (fun w => absurd ⟨q, xl⟩ w)⟩))
  rw [ex] at q3
  have := (i_le (a := 400) (by omega) (by omega)).1 q3
  omega
theorem o133 : ObA (J L) 133 233 [] := by
  intro S hS
  obtain ⟨hL, D, m, rl, ins, nu, tn0, ty, an, aa, T, hN, hJT, hJF, hJP, hJA, hJY, hC, hM⟩ := hS
  have hJ : JS L D m rl ins nu tn0 ty an aa T S := ⟨hL, hN, hJT, hJF, hJP, hJA, hJY⟩
  have hU := wn_uw hN
  obtain ⟨t1, t2, t3, t4, t5, t6, t7, t8⟩ := id hJT
  obtain ⟨cA, mA, vA⟩ := id hJA
  have han := cA.2.1
  refine b133_0 (fun q => ?_) (fun q => b133_10 ⟨_, rfl, ⟨rfl, rfl⟩, ?_⟩)
  rotate_left
  · have q := Classical.byContradiction q
    rw [cA.1] at q
    have a0 := (i_inj (b := 0) (by omega) (by omega)).1 q
    have e1 : Fz [(46, 4)] [] S (setI S 46 4 0) := Fz.refl.seti (by decide)
    refine b233_0 (fun w => absurd (by rw [e1.f (by decide), mA.1, a0]; rfl) w) (fun _ => b233_12 ⟨_, rfl, rfl, j_of (hJ.of e1 (by decide) (by decide)) (hC.of e1 (by decide) (by decide)) (hM.of e1 (by decide))⟩)
  have a0 : ¬ an = 0 := fun e => q (by rw [cA.1, e]; rfl)
  obtain ⟨k, rfl⟩ : ∃ k, an = k + 1 := ⟨an - 1, by omega⟩
  obtain ⟨lk, rk⟩ := vA k (by omega)
  obtain ⟨rl', hrl', er⟩ : ∃ rl', rl' ≤ 1 ∧ (aa k).2 = Int32.ofNat rl' := by
    rcases rk with h | h
    · exact ⟨0, by omega, h⟩
    · exact ⟨1, by omega, h⟩
  have hN' : WN D m rl' (aa k).1 nu := ⟨hN.1, hN.2.1, hrl', lk, hN.2.2.2.2⟩
  refine b133_12 (P := fun S1 => Fz [(12, 3), (12, 4), (12, 5)] [] S S1 ∧ CA k aa S1 ∧ S1.1 12 4 = (aa k).1 ∧ S1.1 12 5 = (aa k).2) (c3 cA (fun S1 c1 c2 c3 c4 => ⟨rfl, c1, c2, c3, c4⟩)) ?_
  rintro S1 ⟨c1, c2, c3, c4⟩
  refine b133_19 (P := fun S2 => Fz [(0, 14), (0, 15), (0, 17)] [] S1 S2 ∧ S2.1 0 14 = (aa k).1 ∧ S2.1 0 15 = Int32.ofNat rl' ∧ (S2.1 0 17 = 1 ∨ (S2.1 0 17 = S1.1 0 17 ∧ (aa k).1 = ins ∧ rl' = rl))) (by
    rw [c3, c4, er]
    exact c140 ((c1.f (by decide)).trans t3) ((c1.f (by decide)).trans t4) hN.2.2.1 hrl' (by rw [c1.f (by decide)]; exact jc_st hC) (fun S2 d1 d2 d3 d4 => ⟨rfl, d1, d2, d3, d4⟩)) ?_
  rintro S2 ⟨d1, d2, d3, d4⟩
  rw [c1.f (j := 0) (k := 17) (by decide)] at d4
  have F12 : Fz [(0, 14), (0, 15), (0, 17), (12, 2), (12, 3), (12, 4), (12, 5)] [43, 44] S S2 := (c1.mono (by decide) (by decide)).trans (d1.mono (by decide) (by decide))
  have e123 : S2.1 12 3 = Int32.ofNat k := (d1.f (by decide)).trans c2.1
  refine b133_37 ?_
  rw [e123]
  refine ⟨_, rfl, ⟨F12.f (by decide), F12.ar (by decide)⟩, ?_⟩
  have e1 : Fz [(46, 4)] [] S2 (setI S2 46 4 0) := Fz.refl.seti (by decide)
  have g40 : (setI S2 46 4 0).1 46 40 = Int32.ofNat (k + 1) := (e1.f (by decide)).trans ((F12.f (by decide)).trans mA.1)
  refine b233_0 (fun _ => b233_14k g40 (by omega) (fun S3 h1 h2 h3 h4 => ?_)) (fun w => absurd (fun z => by
    rw [g40] at z
    have := (i_inj (b := 0) (by omega) (by omega)).1 z
    omega) w)
  have F23 : Fz [(46, 2), (46, 3), (46, 4), (46, 9), (46, 10), (46, 11), (46, 40)] [48, 49, 50, 62, 63] S2 S3 := (e1.mono (by decide) (by decide)).trans (h1.mono (by decide) (by decide))
  have r62 : ∀ i, S3.2.1 62 i = S.2.1 62 i ∧ S3.2.1 63 i = S.2.1 63 i := fun i => ⟨(h1.a (by decide) i).trans ((e1.a (by decide) i).trans (F12.a (by decide) i)), (h1.a (by decide) i).trans ((e1.a (by decide) i).trans (F12.a (by decide) i))⟩
  have mk' := mA.2.2 k (by omega)
  refine b233_50 (P := fun S4 => J L S4 ∧ S4.1 46 40 = Int32.ofNat k) (chg (rl := rl') (ins := (aa k).1) hN' ((h1.f (by decide)).trans ((e1.f (by decide)).trans ((F12.f (by decide)).trans t5.1))) ((h1.f (by decide)).trans ((e1.f (by decide)).trans ((F12.f (by decide)).trans t5.2.2.1))) ?_ ?_ (fun r i hr hi => ?_) (fun S4 j1 j2 j3 j4 j5 j6 => ⟨rfl, ?_, (j1.f (by decide)).trans h2⟩)) ?_
  · rw [h3]; exact ((e1.a (by decide) k).trans (F12.a (by decide) k)).trans mk'.1
  · rw [h4, ← er]; exact ((e1.a (by decide) k).trans (F12.a (by decide) k)).trans mk'.2
  · rw [h1.a (by decide), e1.a (by decide), F12.a (by decide)]; exact t7 r i hr hi
  · refine act_J hJ hC hN' F12 (F23.trans (j1.mono (by decide) (by decide))) d2 d3 d4 (bn := k) (ba := aa) ⟨?_, ⟨(j1.f (by decide)).trans h2, by omega, fun i hi => ?_⟩, fun i hi => vA i (by omega)⟩ j2 j3 j4 j5 j6
    · exact ((((c2.of d1 (by decide)).of e1 (by decide)).of h1 (by decide)).of j1 (by decide))
    · rw [j1.a (by decide), j1.a (by decide), (r62 i).1, (r62 i).2]
      exact mA.2.2 i (by omega)
  · rintro S4 ⟨j1, j2⟩
    refine b233_54 ?_
    rw [j2]
    exact ⟨_, rfl, rfl, j1⟩
end OBR
