/-! QUESTIONS: the reference's answer -/
section MASK
variable {D m rl : Nat} {ins : Int32} {y : Nat → Int32} {n : Nat} {ev : Nat → Nat → Int32} {up : Nat → Int32} {F : List Int32} {fc : Int32}
def fstC (m rl : Nat) (up : Nat → Int32) (F : List Int32) (ins : Int32) : Int32 := if (chs m rl up F ins).isEmpty = true then -1 else (chs m rl up F ins).getD 0 0
theorem and_self1 (s : Int32) : s &&& s = s := tb_ext (fun k _ => by rw [tb_and, Bool.and_self])
theorem w172 {d b : Nat} {S : St} {Q : Out → St → Prop} (hW : MW m rl ins up F S) (hL : S.1 46 10 = 0 ∨ (S.1 46 10 = 1 ∧ S.1 46 16 = fstC m rl up F ins)) (K : ∀ S1, Fz [(46, 10), (46, 13), (46, 14), (46, 16)] [] S S1 → S1.1 46 10 = 1 → S1.1 46 16 = fstC m rl up F ins → Q (.inl none) S1) : Wp (d + 24) b 172 0 [.ref 46] [] S Q := by
  refine b172_0 (fun q => ?_) (fun q => b172_7 ?_)
  rotate_left
  · rcases hL with h | h
    · exact absurd h q
    · exact K S Fz.refl h.1 h.2
  have f0 : Fz [(46, 10), (46, 13), (46, 14), (46, 16)] [] S (setI S 46 10 1) := Fz.refl.seti (by decide)
  have hW0 : MW m rl ins up F (setI S 46 10 1) := by
    obtain ⟨h1, h2, h3, h4, h5, h6, h7, ⟨h8, h8'⟩, h9, h10⟩ := hW
    exact ⟨(seti_ne (by decide)).trans h1, h2, (seti_ne (by decide)).trans h3, h4, (seti_ne (by decide)).trans h5, h6, h7, ⟨(seti_ne (by decide)).trans h8, h8'⟩, h9, h10⟩
  have ei : (setI S 46 10 1).1 46 2 = ins := (seti_ne (by decide)).trans hW.2.2.1
  have fin : ∀ S1 v, Fz [(46, 10), (46, 13), (46, 14), (46, 16)] [] S S1 → S1.1 46 10 = 1 → v = fstC m rl up F ins → Wp (d + 24) b 172 33 [.ref 46] [.int v, .ref 46] S1 Q := by
    intro S1 v hF h10 hv
    exact b172_33 (K _ (hF.seti (by decide)) ((seti_ne (by decide)).trans h10) (seti_same.trans hv))
  refine b172_8 (Or.inr rfl) (P := fun v S1 => v = bi (!(chs m rl up F ins).isEmpty) ∧ Fz [(46, 13), (46, 14)] [] (setI S 46 10 1) S1 ∧ (¬ chs m rl up F ins = [] → S1.1 46 13 = (chs m rl up F ins).getD 0 0)) (by
    rw [ei]
    refine w169 ins hW0 (fun S1 a1 a2 => ⟨_, rfl, ?_, a1, ?_⟩)
    · rw [and_self1]
    · rw [and_self1] at a2; exact a2) ?_
  rintro _ S1 ⟨rfl, a1, a2⟩
  have f1 : Fz [(46, 10), (46, 13), (46, 14), (46, 16)] [] S S1 := f0.trans (a1.mono (by decide) (by decide))
  have e10 : S1.1 46 10 = 1 := (a1.f (by decide)).trans seti_same
  unfold fstC at fin
  refine b172_22 (fun z => b172_32 (fin S1 _ f1 e10 ?_)) (fun z => b172_25 (fin S1 _ f1 e10 ?_))
  · have z := bi0.1 z
    rw [Bool.not_eq_false'] at z
    rw [if_pos z]
  · have z := bi1.1 z
    rw [Bool.not_eq_true'] at z
    rw [z, if_neg Bool.false_ne_true]
    exact a2 (fun e => by rw [e] at z; cases z)
def LeastR (p : Nat → Bool) (m : Nat) (v : Int32) : Prop := (v = -1 ∧ ∀ r, r < m → p r = false) ∨ ∃ r, r < m ∧ p r = true ∧ (∀ r', r' < r → p r' = false) ∧ v = Int32.ofNat r
theorem LeastR.uniq {p : Nat → Bool} {m' : Nat} {v w : Int32} (h : LeastR p m v) (h2 : LeastR p m' w) (hm : ∀ r, p r = true → r < m ∧ r < m') : v = w := by
  rcases h with ⟨rfl, h⟩ | ⟨r, hr, h1, hl, rfl⟩
  · rcases h2 with ⟨rfl, _⟩ | ⟨r', hr', h1', _, rfl⟩
    · rfl
    · rw [h r' (hm r' h1').1] at h1'; cases h1'
  · rcases h2 with ⟨rfl, h2⟩ | ⟨r', hr', h1', hl', rfl⟩
    · rw [h2 r (hm r h1).2] at h1; cases h1
    · rcases Nat.lt_trichotomy r r' with q | q | q
      · rw [hl' r q] at h1; cases h1
      · rw [q]
      · rw [hl r' q] at h1'; cases h1'
theorem me_swap {r : Nat} {fs : List (Nat × Nat)} {as : List Nat} {S S' : St} (h : ME D m up F ev fc none (setI S 46 55 (-1))) (hr : r < m) (hF : Fz fs as S S') (q : (46, 0) ∉ fs ∧ (46, 9) ∉ fs ∧ (46, 16) ∉ fs ∧ 47 ∉ as ∧ 48 ∉ as ∧ 50 ∉ as) : ME D m up F ev fc (some r) (setI S' 46 55 (Int32.ofNat r)) := by
  obtain ⟨h1, h2, h3, h4, h5, h6, h7, h8, h9, h10, h11, h12, _, _⟩ := h
  have g : ∀ k, ¬ k = 55 → (46, k) ∉ fs → (setI S' 46 55 (Int32.ofNat r)).1 46 k = (setI S 46 55 (-1)).1 46 k := fun k hk hn => by
    rw [seti_ne (by omega), seti_ne (by omega)]
    exact hF.f hn
  have ga : ∀ j i, j ∉ as → (setI S' 46 55 (Int32.ofNat r)).2.1 j i = (setI S 46 55 (-1)).2.1 j i := fun j i hj => hF.a hj i
  refine ⟨(g 0 (by omega) q.1).trans h1, h2, h3, fun r k hr hk => (ga _ _ q.2.2.2.1).trans (h4 r k hr hk), fun r hr => ?_, fun r hr => ?_, fun r hr => ⟨(ga _ _ q.2.2.2.2.1).trans (h7 r hr).1, (h7 r hr).2⟩, ⟨(g 9 (by omega) q.2.1).trans h8.1, fun i hi => (ga _ _ q.2.2.2.2.2).trans (h8.2 i hi)⟩, h9, h10, h11, (g 16 (by omega) q.2.2.1).trans h12, fun e => absurd e (by simp), fun r' e => ?_⟩
  · rw [ga _ _ q.2.2.2.1]; exact h5 r hr
  · have : (setI S' 46 55 (Int32.ofNat r)).2.1 47 = (setI S 46 55 (-1)).2.1 47 := funext (fun i => ga 47 i q.2.2.2.1)
    have e : ∀ x, (setI S' 46 55 x).2.1 47 = (setI S 46 55 (-1)).2.1 47 := fun x => funext (fun i => hF.a q.2.2.2.1 i)
    rw [e]; exact h6 r hr
  · cases e
    exact ⟨seti_same, hr⟩
abbrev AF : List (Nat × Nat) := [(46, 4), (46, 10), (46, 13), (46, 14), (46, 16), (46, 43), (46, 44), (46, 45), (46, 46), (46, 47), (46, 48), (46, 49), (46, 50), (46, 51), (46, 52), (46, 55)]
theorem w263 {d b m0 : Nat} {x : Int32} {S : St} {Q : Out → St → Prop} (hm0 : S.1 46 43 = Int32.ofNat m0) (hm4 : m0 ≤ 400) (hy : ∀ i, i < m0 → S.2.1 64 i = y i ∧ ¬ y i = -1) (hW : MW m rl ins up F S) (hL : S.1 46 10 = 0 ∨ (S.1 46 10 = 1 ∧ S.1 46 16 = fstC m rl up F ins)) (hE : ∀ S', Fz AF [] S S' → S'.1 46 16 = fstC m rl up F ins → ME D m up F ev (fstC m rl up F ins) none (setI S' 46 55 (-1)))
    (K1 : ¬ (¬ x < 0 ∧ x.toNatClampNeg ≤ m0 ∧ x.toNatClampNeg ≤ 200) → ∀ v S1, Fz [(46, 4)] [] S S1 → S1.1 46 4 = 1 → Q (.inl (some (.int v))) S1)
    (K2 : ∀ n S1, x = Int32.ofNat n → n ≤ m0 → n ≤ 200 → ¬ (qEnd ev y n).1 = 0 → Fz AF [] S S1 → S1.1 46 4 = 0 → S1.1 46 10 = 1 → S1.1 46 16 = fstC m rl up F ins → S1.1 46 43 = 0 → S1.1 46 51 = Int32.ofNat (bg y n (qEnd ev y n).2) → Q (.inl (some (.int ((-1000000000 : Int32) - Int32.ofNat (qEnd ev y n).1)))) S1)
    (K0 : ∀ n v S1, x = Int32.ofNat n → n ≤ m0 → n ≤ 200 → (qEnd ev y n).1 = 0 → Fz AF [] S S1 → S1.1 46 4 = 0 → S1.1 46 10 = 1 → S1.1 46 16 = fstC m rl up F ins → S1.1 46 43 = 0 → S1.1 46 51 = -1 → (isWl y n 0 wFirst = true → LeastR (fun r => tb ins r && (qst ev y n).2.2 (eY (fstC m rl up F ins)) r) m v) → (isWl y n 0 wFirst = false → v = Int32.ofNat (cnt (fun r => tb ins r && (qst ev y n).2.2 (eY (fstC m rl up F ins)) r) m)) → Q (.inl (some (.int v))) S1) : Wp (d + 50) b 263 0 [.ref 46, .int x] [] S Q := by
  have f0 : Fz [(46, 4)] [] S (setI S 46 4 0) := Fz.refl.seti (by decide)
  have fail : ¬ (¬ x < 0 ∧ x.toNatClampNeg ≤ m0 ∧ x.toNatClampNeg ≤ 200) → Wp (d + 50) b 263 24 [.ref 46, .int x] [] (setI S 46 4 0) Q := by
    intro h
    refine b263_24 (s152 1) ?_
    rintro _ _ ⟨rfl, rfl⟩
    exact b263_29 (K1 h _ _ (f0.seti (by decide)) seti_same)
  refine b263_0 (fun z => fail (fun w => w.1 z)) (fun z => ?_)
  have ex := i_of z
  have e43 : (setI S 46 4 0).1 46 43 = Int32.ofNat m0 := (seti_ne (by decide)).trans hm0
  have hcl := i_clt x
  refine b263_9 (fun w => fail (fun v => ?_)) (fun w => b263_17 (fun u => ?_) (fun u => fail (fun v => u ?_)))
  · rw [e43, ex] at w
    have := (i_lt (by omega) (by omega)).1 w
    omega
  rotate_left
  · rw [ex]
    exact (i_le (b := 200) (by omega) (by omega)).2 v.2.2
  rw [e43, ex] at w
  rw [ex] at u
  have hn0 : ¬ m0 < x.toNatClampNeg := fun v => w ((i_lt (by omega) (by omega)).2 v)
  have hn2 := (i_le (b := 200) (by omega) (by omega)).1 u
  obtain ⟨n, en'⟩ : ∃ n, n = x.toNatClampNeg := ⟨_, rfl⟩
  rw [← en'] at ex hn0 hn2
  subst ex
  have K2 := fun S1 => K2 n S1 rfl (by omega) hn2
  have K0 := fun v S1 => K0 n v S1 rfl (by omega) hn2
  clear K1 fail en' hcl z w u
  have hm : m ≤ 20 := hW.2.1
  have hW0 : MW m rl ins up F (setI S 46 4 0) := by
    obtain ⟨h1, h2, h3, h4, h5, h6, h7, ⟨h8, h8'⟩, h9, h10⟩ := hW
    exact ⟨(seti_ne (by decide)).trans h1, h2, (seti_ne (by decide)).trans h3, h4, (seti_ne (by decide)).trans h5, h6, h7, ⟨(seti_ne (by decide)).trans h8, h8'⟩, h9, h10⟩
  have hL0 : (setI S 46 4 0).1 46 10 = 0 ∨ ((setI S 46 4 0).1 46 10 = 1 ∧ (setI S 46 4 0).1 46 16 = fstC m rl up F ins) := by
    rcases hL with h | ⟨h, h'⟩
    · exact Or.inl ((seti_ne (by decide)).trans h)
    · exact Or.inr ⟨(seti_ne (by decide)).trans h, (seti_ne (by decide)).trans h'⟩
  refine b263_30 (P := fun S1 => Fz AF [] S S1 ∧ S1.1 46 4 = 0 ∧ S1.1 46 10 = 1 ∧ S1.1 46 16 = fstC m rl up F ins) (w172 hW0 hL0 (fun S1 a1 a2 a3 => ⟨rfl, (f0.mono (by decide) (by decide)).trans (a1.mono (by decide) (by decide)), (a1.f (by decide)).trans seti_same, a2, a3⟩)) ?_
  rintro S1 ⟨a1, a2, a3, a4⟩
  have by1 : ∀ S', Fz AF [] S S' → ∀ i, i < n → S'.2.1 64 i = y i ∧ ¬ y i = -1 := fun S' hF i hi => ⟨(hF.a (by decide) i).trans (hy i (by omega)).1, (hy i (by omega)).2⟩
  refine b263_34 (P := fun S2 => Fz AF [] S S2 ∧ S2.1 46 4 = 0 ∧ S2.1 46 10 = 1 ∧ S2.1 46 16 = fstC m rl up F ins ∧ MS y n (0, 0) S2) (w240 (y := y) (by omega) (by1 S1 a1) (fun S2 c1 _ c3 => ⟨rfl, a1.trans (c1.mono (by decide) (by decide)), (c1.f (by decide)).trans a2, (c1.f (by decide)).trans a3, (c1.f (by decide)).trans a4, c3⟩)) ?_
  rintro S2 ⟨c1, c2, c3, c4, c5⟩
  refine b263_39 (P := Vx (bi (isWl y n 0 wFirst)) S2) (by
    have := w244 (b := 0) (d := d + 49) (w := wFirst) (q := 2040) c5 (by decide) (by decide +kernel) (by decide)
    rw [isWR_good] at this
    exact this) ?_
  rintro _ _ ⟨rfl, rfl⟩
  refine b263_46 (P := fun _ S3 => Fz AF [] S S3 ∧ S3.1 46 4 = 0 ∧ S3.1 46 10 = 1 ∧ S3.1 46 16 = fstC m rl up F ins ∧ MS y n (qEnd ev y n) S3) (w262 (D := D) (m := m) (up := up) (F := F) (fc := fstC m rl up F ins) (ra := none) (by omega) hn2 (by1 S2 c1) (hE S2 c1 c4) (fun v S3 e1 e2 _ _ => ⟨_, rfl, c1.trans (e1.mono (by decide) (by decide)), (e1.f (by decide)).trans c2, (e1.f (by decide)).trans c3, (e1.f (by decide)).trans c4, e2⟩)) ?_
  rintro x3 S3 ⟨e1, e2, e3, e4, e5⟩
  refine b263_53 (P := fun v S4 => v = Int32.ofNat (qEnd ev y n).1 ∧ Fz [(46, 43), (46, 51)] [] S3 S4 ∧ S4.1 46 43 = 0 ∧ S4.1 46 51 = (if (qEnd ev y n).1 = 0 then -1 else Int32.ofNat (bg y n (qEnd ev y n).2))) (w248 e5 (fun S4 g1 g2 g3 => ⟨_, rfl, rfl, g1, g2, g3⟩)) ?_
  rintro _ S4 ⟨rfl, g1, g2, g3⟩
  have hlt := e5.bad.2
  have h1 : Fz AF [] S S4 := e1.trans (g1.mono (by decide) (by decide))
  have h2 : S4.1 46 4 = 0 := (g1.f (by decide)).trans e2
  have h3 : S4.1 46 10 = 1 := (g1.f (by decide)).trans e3
  have h4 : S4.1 46 16 = fstC m rl up F ins := (g1.f (by decide)).trans e4
  refine b263_58 (fun q => b263_72 ?_) (fun q => b263_65 ?_)
  rotate_left
  · have q0 : ¬ (qEnd ev y n).1 = 0 := fun w => q (by rw [w]; rfl)
    rw [if_neg q0] at g3
    exact K2 S4 q0 h1 h2 h3 h4 g2 g3
  have q0 := (i_inj (b := 0) (by omega) (by omega)).1 q
  rw [if_pos q0] at g3
  have K0 := fun v S1 => K0 v S1 q0
  have loop : ∀ k r S', r + k = m → Fz AF [] S S' → S'.1 46 4 = 0 → S'.1 46 10 = 1 → S'.1 46 16 = fstC m rl up F ins → S'.1 46 43 = 0 → S'.1 46 51 = -1 → (isWl y n 0 wFirst = true → ∀ r', r' < r → (tb ins r' && (qst ev y n).2.2 (eY (fstC m rl up F ins)) r') = false) → Wp (d + 50) b 263 78 [.ref 46, .int (Int32.ofNat n), .int (bi (isWl y n 0 wFirst)), .int x3, .int (Int32.ofNat (qEnd ev y n).1), .int (Int32.ofNat (cnt (fun r => tb ins r && (qst ev y n).2.2 (eY (fstC m rl up F ins)) r) r)), .int (Int32.ofNat r)] [] S' Q := by
    intro k
    induction k with
    | zero =>
      intro r S' hr hF j4 j10 j16 j43 j51 hbef
      have hr : r = m := hr
      subst hr
      have e1' : S'.1 46 1 = Int32.ofNat r := (hF.f (by decide)).trans hW.1
      refine b263_78 (fun _ => b263_125 (fun q => b263_133 (b263_135 (K0 _ S' hF j4 j10 j16 j43 j51 (fun w => ?_) (fun _ => rfl)))) (fun q => b263_129 (b263_135 (K0 _ S' hF j4 j10 j16 j43 j51 (fun w => Or.inl ⟨rfl, hbef w⟩) (fun w => ?_))))) (fun q => absurd (by rw [e1']; exact (i_le (by omega) (by omega)).2 (Nat.le_refl _)) q)
      · rw [bi0.1 q] at w; cases w
      · rw [bi1.1 q] at w; cases w
    | succ k ih =>
      intro r S' hr hF j4 j10 j16 j43 j51 hbef
      have hrm : r < m := by omega
      have e1' : S'.1 46 1 = Int32.ofNat m := (hF.f (by decide)).trans hW.1
      have e2' : S'.1 46 2 = ins := (hF.f (by decide)).trans hW.2.2.1
      have cs : ∀ c : Bool, (tb ins r && (qst ev y n).2.2 (eY (fstC m rl up F ins)) r) = c → cnt (fun r => tb ins r && (qst ev y n).2.2 (eY (fstC m rl up F ins)) r) (r + 1) = cnt (fun r => tb ins r && (qst ev y n).2.2 (eY (fstC m rl up F ins)) r) r + if c = true then 1 else 0 := fun c hc => by
        show _ + (if (tb ins r && (qst ev y n).2.2 (eY (fstC m rl up F ins)) r) = true then 1 else 0) = _
        rw [hc]
      have skip : ∀ S5, Fz AF [] S S5 → S5.1 46 4 = 0 → S5.1 46 10 = 1 → S5.1 46 16 = fstC m rl up F ins → S5.1 46 43 = 0 → S5.1 46 51 = -1 → (tb ins r && (qst ev y n).2.2 (eY (fstC m rl up F ins)) r) = false → Wp (d + 50) b 263 119 [.ref 46, .int (Int32.ofNat n), .int (bi (isWl y n 0 wFirst)), .int x3, .int (Int32.ofNat (qEnd ev y n).1), .int (Int32.ofNat (cnt (fun r => tb ins r && (qst ev y n).2.2 (eY (fstC m rl up F ins)) r) r)), .int (Int32.ofNat r)] [] S5 Q := by
        intro S5 k1 k2 k3 k4 k5 k6 hv
        refine b263_119 ?_
        have := ih (r + 1) S5 (by omega) k1 k2 k3 k4 k5 k6 (fun w r' hr' => by
          by_cases e : r' = r
          · rw [e]; exact hv
          · exact hbef w r' (by omega))
        rw [cs false hv, if_neg Bool.false_ne_true, Nat.add_zero] at this
        rw [i_suc]
        exact this
      refine b263_78 (fun q => ?_) (fun _ => b263_87 (s159n hrm e1' hm e2') ?_)
      · rw [e1'] at q
        have := (i_le (by omega) (by omega)).1 q
        omega
      rintro _ _ ⟨rfl, rfl⟩
      refine b263_93 (fun q => skip S' hF j4 j10 j16 j43 j51 (by rw [bi0.1 q]; rfl)) (fun q => ?_)
      have hin := bi1.1 q
      refine b263_96 (P := fun v S5 => v = bi ((qst ev y n).2.2 (eY (fstC m rl up F ins)) r) ∧ Fz AF [] S S5 ∧ S5.1 46 4 = 0 ∧ S5.1 46 10 = 1 ∧ S5.1 46 16 = fstC m rl up F ins ∧ S5.1 46 43 = 0 ∧ S5.1 46 51 = -1) (w262 (D := D) (m := m) (up := up) (F := F) (fc := fstC m rl up F ins) (ra := some r) (by omega) hn2 (by1 S' hF) (me_swap (hE S' hF j16) hrm Fz.refl (fs := []) (as := []) (by decide)) (fun v S5 k1 _ _ k4 => ⟨_, rfl, k4 q0 r rfl, hF.trans (k1.mono (by decide) (by decide)), (k1.f (by decide)).trans j4, (k1.f (by decide)).trans j10, (k1.f (by decide)).trans j16, (k1.f (by decide)).trans j43, (k1.f (by decide)).trans j51⟩)) ?_
      rintro _ S5 ⟨rfl, k1, k2, k3, k4, k5, k6⟩
      refine b263_103 (fun w => b263_109 (fun u => b263_116 ?_) (fun u => b263_113 (K0 _ S5 k1 k2 k3 k4 k5 k6 (fun _ => Or.inr ⟨r, hrm, ?_, hbef (bi1.1 u), rfl⟩) (fun v => ?_)))) (fun w => b263_106 (skip S5 k1 k2 k3 k4 k5 k6 (by rw [hin, Bool.true_and]; exact bi0.1 (Classical.byContradiction w))))
      · have hv : (tb ins r && (qst ev y n).2.2 (eY (fstC m rl up F ins)) r) = true := by rw [hin, Bool.true_and]; exact bi1.1 w
        refine b263_119 ?_
        have := ih (r + 1) S5 (by omega) k1 k2 k3 k4 k5 k6 (fun w' => by rw [bi0.1 u] at w'; cases w')
        rw [cs true hv, if_pos rfl] at this
        rw [i_suc, i_suc]
        exact this
      · show (tb ins r && (qst ev y n).2.2 (eY (fstC m rl up F ins)) r) = true
        rw [hin, Bool.true_and]; exact bi1.1 w
      · rw [bi1.1 u] at v; cases v
  have := loop m 0 S4 (by omega) h1 h2 h3 h4 g2 g3 (fun _ r' hr' => absurd hr' (Nat.not_lt_zero _))
  exact this
end MASK
