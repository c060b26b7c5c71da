/-! QUESTIONS: the reference, tests -/
section MQUEST2
variable {D m : Nat} {y : Nat → Int32} {n : Nat} {ev : Nat → Nat → Int32} {up : Nat → Int32} {F : List Int32} {fc : Int32} {ra : Option Nat}
theorem bi_of {p : Prop} {hd : Decidable p} {v : Bool} (h : v = true ↔ p) : bi (@decide p hd) = bi v := by
  congr 1
  rw [Bool.eq_iff_iff, decide_eq_true_eq]
  exact h.symm
/-- a comparison -/
theorem w259c {d b : Nat} {z : Nat × Nat} {S : St} {Q : Out → St → Prop} (hS : MS y n z S) (hE : ME D m up F ev fc ra S) (K : ∀ v S1, Fz RF [] S S1 → MS y n (cmpR y n z) S1 → (v = 0 ∨ v = 1) → ((cmpR y n z).1 = 0 → ∀ r, ra = some r → v = bi (cmpV ev y n z (eY fc) r)) → Q (.inl (some (.int v))) S1) : Wp (d + 6) b 259 75 [.ref 46] [] S Q := by
  refine b259_75 (P := fun v S1 => Fz RF [] S S1 ∧ MS y n (vlR y n z) S1 ∧ ((vlR y n z).1 = 0 → ∀ r, ra = some r → v = vlV ev y n z (eY fc) r)) (w257 hS hE (fun v S1 a1 a2 a3 => ⟨_, rfl, a1, a2, a3⟩)) ?_
  rintro v1 S1 ⟨a1, a2, a3⟩
  have hE1 := hE.of a1 (by decide)
  have eC : cmpR y n z = vlR y n (opR y n (vlR y n z)) := rfl
  -- the rest, the sign being known
  have rest : ∀ (sg : Int32) S2, Fz RF [] S S2 → MS y n (opR y n (vlR y n z)) S2 → (isSR y n (vlR y n z) 60 = true → sg = -1) → (isSR y n (vlR y n z) 60 = false → isSR y n (vlR y n z) 62 = true → sg = 1) → (isSR y n (vlR y n z) 60 = false → isSR y n (vlR y n z) 62 = false → isSR y n (vlR y n z) 61 = true → sg = 0) → Wp (d + 6) b 259 135 [.ref 46, .int v1, .int sg] [] S2 Q := by
    intro sg S2 f2 h2 s60 s62 s61
    have hE2 := hE.of f2 (by decide)
    refine b259_135 (P := fun v S3 => Fz RF [] S2 S3 ∧ MS y n (cmpR y n z) S3 ∧ ((cmpR y n z).1 = 0 → ∀ r, ra = some r → v = vlV ev y n (opR y n (vlR y n z)) (eY fc) r)) (w257 h2 hE2 (fun v S3 c1 c2 c3 => ⟨_, rfl, c1, c2, c3⟩)) ?_
    rintro v2 S3 ⟨c1, c2, c3⟩
    have f3 := f2.trans c1
    -- what holds when nothing was wrong
    have good : (cmpR y n z).1 = 0 → (vlR y n z).1 = 0 ∧ (isSR y n (vlR y n z) 60 = true ∨ isSR y n (vlR y n z) 61 = true ∨ isSR y n (vlR y n z) 62 = true) := by
      intro h
      have o0 : (opR y n (vlR y n z)).1 = 0 := Classical.byContradiction (fun q => by
        rw [eC, vlR_bad q] at h
        exact q h)
      have v0 : (vlR y n z).1 = 0 := Classical.byContradiction (fun q => by
        rw [opR_bad q] at o0
        exact q o0)
      refine ⟨v0, Classical.byContradiction (fun q => ?_)⟩
      unfold opR at o0
      rw [if_neg q] at o0
      unfold wrgR at o0
      rw [if_pos v0] at o0
      cases o0
    have key : ∀ v, (v = 0 ∨ v = 1) → ((cmpR y n z).1 = 0 → isSR y n (vlR y n z) 60 = true → v = bi (decide (v1 < v2))) → ((cmpR y n z).1 = 0 → isSR y n (vlR y n z) 60 = false → isSR y n (vlR y n z) 62 = true → v = bi (decide (v2 < v1))) → ((cmpR y n z).1 = 0 → isSR y n (vlR y n z) 60 = false → isSR y n (vlR y n z) 62 = false → v = bi (decide (v1 = v2))) → Q (.inl (some (.int v))) S3 := by
      intro v hv k1 k2 k3
      refine K v S3 f3 c2 hv (fun h r hr => ?_)
      obtain ⟨v0, _⟩ := good h
      have e1 := a3 v0 r hr
      have e2 := c3 h r hr
      unfold cmpV
      rw [← e1, ← e2]
      cases h60 : isSR y n (vlR y n z) 60
      · rw [if_neg Bool.false_ne_true]
        cases h62 : isSR y n (vlR y n z) 62
        · rw [if_neg Bool.false_ne_true]
          exact k3 h h60 h62
        · rw [if_pos rfl]
          exact k2 h h60 h62
      · rw [if_pos rfl]
        exact k1 h h60
    have m1 : (-1 : Int32) < 0 := by decide
    refine b259_139 (fun q => b259_157 (fun q2 => b259_174 (fun q3 => b259_183 (b259_184 (Or.inl rfl) (key 0 (Or.inl rfl) ?_ ?_ ?_))) (fun q3 => b259_179 (b259_184 (Or.inr rfl) (key 1 (Or.inr rfl) ?_ ?_ ?_)))) (fun q2 => b259_161 (fun q3 => b259_170 (b259_184 (Or.inl rfl) (key 0 (Or.inl rfl) ?_ ?_ ?_))) (fun q3 => b259_166 (b259_184 (Or.inr rfl) (key 1 (Or.inr rfl) ?_ ?_ ?_))))) (fun q => b259_144 (fun q3 => b259_153 (b259_184 (Or.inl rfl) (key 0 (Or.inl rfl) ?_ ?_ ?_))) (fun q3 => b259_149 (b259_184 (Or.inr rfl) (key 1 (Or.inr rfl) ?_ ?_ ?_))))
    · intro _ h60; rw [s60 h60] at q; exact absurd q (by decide)
    · intro _ _ _
      rw [decide_eq_false (fun w => by rw [Int32.lt_iff_toInt_lt] at w; rw [Int32.le_iff_toInt_le] at q3; omega)]; rfl
    · intro h h60 h62
      rcases (good h).2 with w | w | w
      · rw [h60] at w; cases w
      · exact absurd (s61 h60 h62 w) q2
      · rw [h62] at w; cases w
    · intro _ h60; rw [s60 h60] at q; exact absurd q (by decide)
    · intro _ _ _
      rw [decide_eq_true (by rw [Int32.lt_iff_toInt_lt]; rw [Int32.le_iff_toInt_le] at q3; omega)]; rfl
    · intro h h60 h62
      rcases (good h).2 with w | w | w
      · rw [h60] at w; cases w
      · exact absurd (s61 h60 h62 w) q2
      · rw [h62] at w; cases w
    · intro _ h60; rw [s60 h60] at q; exact absurd q (by decide)
    · intro _ h60 h62; rw [s62 h60 h62] at q2; exact absurd (Classical.byContradiction q2) (by decide)
    · intro _ _ _; rw [decide_eq_false q3]; rfl
    · intro _ h60; rw [s60 h60] at q; exact absurd q (by decide)
    · intro _ h60 h62; rw [s62 h60 h62] at q2; exact absurd (Classical.byContradiction q2) (by decide)
    · intro _ _ _; rw [decide_eq_true (Classical.byContradiction q3)]; rfl
    · intro _ _
      rw [decide_eq_false (fun w => by rw [Int32.lt_iff_toInt_lt] at w; rw [Int32.le_iff_toInt_le] at q3; omega)]; rfl
    · intro _ h60 h62; rw [s62 h60 h62] at q; exact absurd (by decide) q
    · intro h h60 h62
      rcases (good h).2 with w | w | w
      · rw [h60] at w; cases w
      · rw [s61 h60 h62 w] at q; exact absurd (by decide) q
      · rw [h62] at w; cases w
    · intro _ _
      rw [decide_eq_true (by rw [Int32.lt_iff_toInt_lt]; rw [Int32.le_iff_toInt_le] at q3; omega)]; rfl
    · intro _ h60 h62; rw [s62 h60 h62] at q; exact absurd (by decide) q
    · intro h h60 h62
      rcases (good h).2 with w | w | w
      · rw [h60] at w; cases w
      · rw [s61 h60 h62 w] at q; exact absurd (by decide) q
      · rw [h62] at w; cases w
  have pass : ∀ sg, ¬ sg = 2 → (isSR y n (vlR y n z) 60 = true ∨ isSR y n (vlR y n z) 61 = true ∨ isSR y n (vlR y n z) 62 = true) → (isSR y n (vlR y n z) 60 = true → sg = -1) → (isSR y n (vlR y n z) 60 = false → isSR y n (vlR y n z) 62 = true → sg = 1) → (isSR y n (vlR y n z) 60 = false → isSR y n (vlR y n z) 62 = false → isSR y n (vlR y n z) 61 = true → sg = 0) → Wp (d + 6) b 259 120 [.ref 46, .int v1] [.int sg] S1 Q := by
    intro sg n2 any s60 s62 s61
    refine b259_120 (fun _ => ?_) (fun q => absurd n2 q)
    refine b259_131 (P := fun S2 => Fz RF [] S S2 ∧ MS y n (opR y n (vlR y n z)) S2) (w242 a2 (fun S2 c1 c2 => ⟨rfl, a1.trans c1, ?_⟩)) ?_
    · have v0 : (vlR y n z).1 = 0 := by
        rcases any with w | w | w <;> exact (isSR_0 w).1
      have : opR y n (vlR y n z) = pasR y n (vlR y n z) := by
        unfold opR pasR
        rw [if_pos any, if_pos v0]
      rw [this]
      exact c2
    · rintro S2 ⟨c1, c2⟩
      exact rest sg S2 c1 c2 s60 s62 s61
  refine b259_79 (w243 a2) ?_
  rintro _ _ ⟨rfl, rfl⟩
  refine b259_86 (fun q60 => b259_93 (w243 a2) ?_) (fun q60 => b259_89 (pass (-1) (by decide) (Or.inl (bi1.1 q60)) (fun _ => rfl) (fun w => by rw [bi1.1 q60] at w; cases w) (fun w => by rw [bi1.1 q60] at w; cases w)))
  rintro _ _ ⟨rfl, rfl⟩
  have q60 := bi0.1 q60
  refine b259_99 (fun q61 => b259_106 (w243 a2) ?_) (fun q61 => b259_102 (pass 0 (by decide) (Or.inr (Or.inl (bi1.1 q61))) (fun w => by rw [q60] at w; cases w) (fun _ w => ?_) (fun _ _ _ => rfl)))
  rotate_left
  · have h1 := (isSR_0 (bi1.1 q61)).2
    have h2 := (isSR_0 w).2
    unfold isS at h1 h2
    rw [Bool.and_eq_true, decide_eq_true_eq, decide_eq_true_eq] at h1 h2
    rw [h1.2] at h2
    exact absurd h2.2 (by decide)
  rintro _ _ ⟨rfl, rfl⟩
  have q61 := bi0.1 q61
  refine b259_112 (fun q62 => b259_119 ?_) (fun q62 => b259_115 (pass 1 (by decide) (Or.inr (Or.inr (bi1.1 q62))) (fun w => by rw [q60] at w; cases w) (fun _ _ => rfl) (fun _ w => by rw [bi1.1 q62] at w; cases w)))
  have q62 := bi0.1 q62
  refine b259_120 (fun q => absurd rfl q) (fun _ => b259_126 (P := fun S2 => Fz RF [] S S2 ∧ MS y n (wrgR 1 (vlR y n z)) S2) (w241 (k := 1) a2 (by omega) (fun S2 c1 c2 => ⟨rfl, a1.trans c1, c2⟩)) ?_)
  rintro S2 ⟨c1, c2⟩
  have eO : opR y n (vlR y n z) = wrgR 1 (vlR y n z) := by
    unfold opR
    rw [q60, q61, q62, if_neg (by decide)]
  have nb : ¬ (wrgR 1 (vlR y n z)).1 = 0 := by
    unfold wrgR
    split
    · exact (show ¬ 1 = 0 by omega)
    · assumption
  refine b259_131 (P := fun S3 => Fz RF [] S S3 ∧ MS y n (opR y n (vlR y n z)) S3) (w242 c2 (fun S3 e1 e2 => ⟨rfl, c1.trans e1, ?_⟩)) ?_
  · rw [eO]
    unfold pasR at e2
    rw [if_neg nb] at e2
    exact e2
  · rintro S3 ⟨e1, e2⟩
    exact rest 2 S3 e1 e2 (fun w => by rw [q60] at w; cases w) (fun _ w => by rw [q62] at w; cases w) (fun _ _ w => by rw [q61] at w; cases w)
/-- what a reading method does -/
def Rdg (D m : Nat) (y : Nat → Int32) (n : Nat) (ev : Nat → Nat → Int32) (up : Nat → Int32) (F : List Int32) (fc : Int32) (ra : Option Nat) (M c o : Nat) (g : Nat × Nat → Qr) : Prop := ∀ (dd b : Nat) (z : Nat × Nat) (S : St) (Q : Out → St → Prop), c ≤ dd → MS y n z S → ME D m up F ev fc ra S → S.1 46 52 = Int32.ofNat o → (∀ v S1, Fz QF [] S S1 → MS y n (g z).1 S1 → S1.1 46 52 = Int32.ofNat o → (v = 0 ∨ v = 1) → ((g z).1.1 = 0 → ∀ r, ra = some r → v = bi ((g z).2.2 (eY fc) r)) → Q (.inl (some (.int v))) S1) → Wp dd b M 0 [.ref 46] [] S Q
theorem w258 {d b o : Nat} {z : Nat × Nat} {S : St} {Q : Out → St → Prop} (hS : MS y n z S) (h52 : S.1 46 52 = Int32.ofNat o) (ho : o ≤ 7) (K : ∀ S1, Fz QF [] S S1 → MS y n (if o = 6 then wrgR 3 z else pasR y n z) S1 → S1.1 46 52 = Int32.ofNat (o + 1) → Q (.inl none) S1) : Wp (d + 3) b 258 0 [.ref 46] [] S Q := by
  have fin : ∀ S1 z1, Fz RF [] S S1 → MS y n z1 S1 → pasR y n z1 = (if o = 6 then wrgR 3 z else pasR y n z) → Wp (d + 3) b 258 21 [.ref 46] [] S1 Q := by
    intro S1 z1 f1 h1 e
    have f2 : Fz [(46, 52)] [] S1 (setI S1 46 52 (S1.1 46 52 + 1)) := Fz.refl.seti (by decide)
    refine b258_21 (P := fun S2 => Fz RF [] (setI S1 46 52 (S1.1 46 52 + 1)) S2 ∧ MS y n (pasR y n z1) S2) (w242 (h1.of f2 (by decide)) (fun S2 c1 c2 => ⟨rfl, c1, c2⟩)) ?_
    rintro S2 ⟨c1, c2⟩
    rw [e] at c2
    refine b258_35 (K S2 ((f1.mono (by decide) (by decide)).trans ((f2.mono (by decide) (by decide)).trans (c1.mono (by decide) (by decide)))) c2 ?_)
    rw [c1.f (by decide), seti_same, f1.f (by decide), h52, i_suc]
  by_cases h0 : z.1 = 0
  · have e49 : S.1 46 49 = 0 := hS.bad0.2 h0
    refine b258_0 (fun q => absurd e49 q) (fun _ => b258_7 (fun q => fin S z Fz.refl hS ?_) (fun q => b258_16 (P := fun S1 => Fz RF [] S S1 ∧ MS y n (wrgR 3 z) S1) (w241 (k := 3) hS (by omega) (fun S1 a1 a2 => ⟨rfl, a1, a2⟩)) ?_))
    · rw [if_neg (fun e => q (by rw [h52, e]; rfl))]
    · rintro S1 ⟨a1, a2⟩
      rw [h52] at q
      have o6 := (i_inj (b := 6) (by omega) (by omega)).1 (Classical.byContradiction q)
      refine fin S1 _ a1 a2 ?_
      rw [if_pos o6]
      have : wrgR 3 z = (3, z.2) := by unfold wrgR; rw [if_pos h0]
      rw [this]
      exact if_neg (show ¬ 3 = 0 by omega)
  · refine b258_0 (fun _ => fin S z Fz.refl hS ?_) (fun q => absurd (fun w => h0 (hS.bad0.1 w)) q)
    have e1 : pasR y n z = z := by unfold pasR; rw [if_neg h0]
    have e2 : wrgR 3 z = z := by unfold wrgR; rw [if_neg h0]
    rw [e1, e2]
    split <;> rfl
theorem wrd_end {q : Nat × Nat} {w : List Int32} (hn : n ≤ 200) (hq : q.2 ≤ n) (h : isWR y n q w = true) : q.2 < 200 ∧ q.2 < (pasR y n q).2 ∧ q.1 = 0 := by
  obtain ⟨h0, h1⟩ := isWR_0 h
  have hk := isWl_k h1
  have hb := kd_bg (y := y) (n := n) (p := q.2) (by omega)
  have b1 := bg_le (y := y) hq
  have e1 := en_le (y := y) hq
  have e2 := e1.2.2 (by omega)
  refine ⟨by omega, ?_, h0⟩
  unfold pasR
  rw [if_pos h0]
  exact (show q.2 < en y n q.2 by omega)
theorem w260 {c o : Nat} {g : Nat × Nat → Qr} (hn : n ≤ 200) (hg : Okg n g) (h : Rdg D m y n ev up F fc ra 259 c o g) (hc : 3 ≤ c) : Rdg D m y n ev up F fc ra 260 (c + 1) o (bthR y n g) := by
  intro dd b z S Q hdd hS hE h52 K
  obtain ⟨d, rfl⟩ := Nat.exists_eq_add_of_le' (show 1 ≤ dd by omega)
  refine b260_0 (P := fun v S1 => Fz QF [] S S1 ∧ MS y n (g z).1 S1 ∧ S1.1 46 52 = Int32.ofNat o ∧ (v = 0 ∨ v = 1) ∧ ((g z).1.1 = 0 → ∀ r, ra = some r → v = bi ((g z).2.2 (eY fc) r))) (h d 0 z S _ (by omega) hS hE h52 (fun v S1 a1 a2 a3 a4 a5 => ⟨_, rfl, a1, a2, a3, a4, a5⟩)) ?_
  rintro v S1 ⟨a1, a2, a3, a4, a5⟩
  refine b260_4 ?_
  have gz := hg z hS.1
  have loop : ∀ k i (q : Qr) S' (v : Int32), i + k = 200 → (q.1.1 = 0 → i ≤ q.1.2) → Fz QF [] S S' → MS y n q.1 S' → S'.1 46 52 = Int32.ofNat o → (v = 0 ∨ v = 1) → (q.1.1 = 0 → ∀ r, ra = some r → v = bi (q.2.2 (eY fc) r)) → lopR y n g wAnd (fun a c => a && c) k q = bthR y n g z → Wp (d + 1) b 260 5 [.ref 46, .int v] [] S' Q := by
    intro k
    induction k with
    | zero =>
      intro i q S' v hi hp hF hq e52 hv hval he
      have he : q = bthR y n g z := he
      refine b260_5 (w244 (w := wAnd) hq (by decide) (by decide +kernel) (by decide)) ?_
      rintro _ _ ⟨rfl, rfl⟩
      refine b260_12 (fun _ => b260_41 hv (K v S' hF (by rw [← he]; exact hq) e52 hv (by rw [← he]; exact hval))) (fun w => ?_)
      have := wrd_end hn hq.1 (bi1.1 w)
      have := hp this.2.2
      omega
    | succ k ih =>
      intro i q S' v hi hp hF hq e52 hv hval he
      refine b260_5 (w244 (w := wAnd) hq (by decide) (by decide +kernel) (by decide)) ?_
      rintro _ _ ⟨rfl, rfl⟩
      unfold lopR at he
      refine b260_12 (fun w => b260_41 hv ?_) (fun w => ?_)
      · rw [bi0.1 w, if_neg Bool.false_ne_true] at he
        exact K v S' hF (by rw [← he]; exact hq) e52 hv (by rw [← he]; exact hval)
      · rw [bi1.1 w, if_pos rfl] at he
        have we := wrd_end hn hq.1 (bi1.1 w)
        obtain ⟨d', rfl⟩ := Nat.exists_eq_add_of_le' (show 2 ≤ d by omega)
        refine b260_15 (P := fun S2 => Fz RF [] S' S2 ∧ MS y n (pasR y n q.1) S2) (w242 hq (fun S2 c1 c2 => ⟨rfl, c1, c2⟩)) ?_
        rintro S2 ⟨c1, c2⟩
        have f2 : Fz QF [] S S2 := hF.trans (c1.mono (by decide) (by decide))
        have g52 : S2.1 46 52 = Int32.ofNat o := (c1.f (by decide)).trans e52
        have gq := hg (pasR y n q.1) c2.1
        refine b260_19 (P := fun v' S3 => Fz QF [] S2 S3 ∧ MS y n (g (pasR y n q.1)).1 S3 ∧ S3.1 46 52 = Int32.ofNat o ∧ (v' = 0 ∨ v' = 1) ∧ ((g (pasR y n q.1)).1.1 = 0 → ∀ r, ra = some r → v' = bi ((g (pasR y n q.1)).2.2 (eY fc) r))) (h (d' + 2) 0 _ S2 _ (by omega) c2 (hE.of f2 (by decide)) g52 (fun v S3 e1 e2 e3 e4 e5 => ⟨_, rfl, e1, e2, e3, e4, e5⟩)) ?_
        rintro v' S3 ⟨e1, e2, e3, e4, e5⟩
        have next : ∀ u, (u = 0 ∨ u = 1) → (u = 1 ↔ (v = 1 ∧ v' = 1)) → Wp (d' + 2 + 1) b 260 37 [.ref 46, .int v, .int v'] [.int u] S3 Q := by
          intro u hu hiff
          refine b260_37 (ih (i + 1) ((g (pasR y n q.1)).1, q.2.1 || (g (pasR y n q.1)).2.1, fun e r => q.2.2 e r && (g (pasR y n q.1)).2.2 e r) S3 u (by omega) (fun w0 => ?_) (f2.trans e1) e2 e3 hu (fun w0 r hr => ?_) he)
          · have w0 : (g (pasR y n q.1)).1.1 = 0 := w0
            have := gq.2.2.1 w0
            have := hp we.2.2
            show i + 1 ≤ (g (pasR y n q.1)).1.2
            omega
          · have h1 := hval we.2.2 r hr
            have h2 := e5 w0 r hr
            show u = bi (q.2.2 (eY fc) r && (g (pasR y n q.1)).2.2 (eY fc) r)
            generalize q.2.2 (eY fc) r = A at *
            generalize (g (pasR y n q.1)).2.2 (eY fc) r = B at *
            rw [h1, h2] at hiff
            cases A <;> cases B <;> rcases hu with rfl | rfl <;> first | rfl | (exfalso; revert hiff; decide)
        have z01 : ¬ (0 : Int32) = 1 := by decide
        refine b260_23 (fun x => b260_36 (next 0 (Or.inl rfl) ⟨fun w => absurd w z01, fun w => absurd (x.symm.trans w.1) z01⟩)) (fun x => b260_28 (fun x' => b260_36 (next 0 (Or.inl rfl) ⟨fun w => absurd w z01, fun w => absurd (x'.symm.trans w.2) z01⟩)) (fun x' => b260_32 (next 1 (Or.inr rfl) ⟨fun _ => ⟨?_, ?_⟩, fun _ => rfl⟩)))
        · rcases hv with e | e
          · exact absurd e x
          · exact e
        · rcases e4 with e | e
          · exact absurd e x'
          · exact e
  exact loop 200 0 (g z) S1 v (by omega) (fun _ => Nat.zero_le _) a1 a2 a3 a4 a5 rfl
theorem w261 {c o : Nat} {g : Nat × Nat → Qr} (hn : n ≤ 200) (hg : Okg n g) (h : Rdg D m y n ev up F fc ra 260 c o (bthR y n g)) (hc : 3 ≤ c) : Rdg D m y n ev up F fc ra 261 (c + 1) o (tstR y n g) := by
  have hg := bth_okg (y := y) hg
  have eT : ∀ z, tstR y n g z = lopR y n (bthR y n g) wOr (fun a c => a || c) 200 (bthR y n g z) := fun _ => rfl
  generalize bthR y n g = g' at *
  intro dd b z S Q hdd hS hE h52 K
  obtain ⟨d, rfl⟩ := Nat.exists_eq_add_of_le' (show 1 ≤ dd by omega)
  refine b261_0 (P := fun v S1 => Fz QF [] S S1 ∧ MS y n (g' z).1 S1 ∧ S1.1 46 52 = Int32.ofNat o ∧ (v = 0 ∨ v = 1) ∧ ((g' z).1.1 = 0 → ∀ r, ra = some r → v = bi ((g' z).2.2 (eY fc) r))) (h d 0 z S _ (by omega) hS hE h52 (fun v S1 a1 a2 a3 a4 a5 => ⟨_, rfl, a1, a2, a3, a4, a5⟩)) ?_
  rintro v S1 ⟨a1, a2, a3, a4, a5⟩
  refine b261_4 ?_
  have loop : ∀ k i (q : Qr) S' (v : Int32), i + k = 200 → (q.1.1 = 0 → i ≤ q.1.2) → Fz QF [] S S' → MS y n q.1 S' → S'.1 46 52 = Int32.ofNat o → (v = 0 ∨ v = 1) → (q.1.1 = 0 → ∀ r, ra = some r → v = bi (q.2.2 (eY fc) r)) → lopR y n g' wOr (fun a c => a || c) k q = tstR y n g z → Wp (d + 1) b 261 5 [.ref 46, .int v] [] S' Q := by
    intro k
    induction k with
    | zero =>
      intro i q S' v hi hp hF hq e52 hv hval he
      have he : q = tstR y n g z := he
      refine b261_5 (w244 (w := wOr) hq (by decide) (by decide +kernel) (by decide)) ?_
      rintro _ _ ⟨rfl, rfl⟩
      refine b261_12 (fun _ => b261_41 hv (K v S' hF (by rw [← he]; exact hq) e52 hv (by rw [← he]; exact hval))) (fun w => ?_)
      have := wrd_end hn hq.1 (bi1.1 w)
      have := hp this.2.2
      omega
    | succ k ih =>
      intro i q S' v hi hp hF hq e52 hv hval he
      refine b261_5 (w244 (w := wOr) hq (by decide) (by decide +kernel) (by decide)) ?_
      rintro _ _ ⟨rfl, rfl⟩
      unfold lopR at he
      refine b261_12 (fun w => b261_41 hv ?_) (fun w => ?_)
      · rw [bi0.1 w, if_neg Bool.false_ne_true] at he
        exact K v S' hF (by rw [← he]; exact hq) e52 hv (by rw [← he]; exact hval)
      · rw [bi1.1 w, if_pos rfl] at he
        have we := wrd_end hn hq.1 (bi1.1 w)
        obtain ⟨d', rfl⟩ := Nat.exists_eq_add_of_le' (show 2 ≤ d by omega)
        refine b261_15 (P := fun S2 => Fz RF [] S' S2 ∧ MS y n (pasR y n q.1) S2) (w242 hq (fun S2 c1 c2 => ⟨rfl, c1, c2⟩)) ?_
        rintro S2 ⟨c1, c2⟩
        have f2 : Fz QF [] S S2 := hF.trans (c1.mono (by decide) (by decide))
        have g52 : S2.1 46 52 = Int32.ofNat o := (c1.f (by decide)).trans e52
        have gq := hg (pasR y n q.1) c2.1
        refine b261_19 (P := fun v' S3 => Fz QF [] S2 S3 ∧ MS y n (g' (pasR y n q.1)).1 S3 ∧ S3.1 46 52 = Int32.ofNat o ∧ (v' = 0 ∨ v' = 1) ∧ ((g' (pasR y n q.1)).1.1 = 0 → ∀ r, ra = some r → v' = bi ((g' (pasR y n q.1)).2.2 (eY fc) r))) (h (d' + 2) 0 _ S2 _ (by omega) c2 (hE.of f2 (by decide)) g52 (fun v S3 e1 e2 e3 e4 e5 => ⟨_, rfl, e1, e2, e3, e4, e5⟩)) ?_
        rintro v' S3 ⟨e1, e2, e3, e4, e5⟩
        have next : ∀ u, (u = 0 ∨ u = 1) → (u = 0 ↔ (v = 0 ∧ v' = 0)) → Wp (d' + 2 + 1) b 261 37 [.ref 46, .int v, .int v'] [.int u] S3 Q := by
          intro u hu hiff
          refine b261_37 (ih (i + 1) ((g' (pasR y n q.1)).1, q.2.1 || (g' (pasR y n q.1)).2.1, fun e r => q.2.2 e r || (g' (pasR y n q.1)).2.2 e r) S3 u (by omega) (fun w0 => ?_) (f2.trans e1) e2 e3 hu (fun w0 r hr => ?_) he)
          · have w0 : (g' (pasR y n q.1)).1.1 = 0 := w0
            have := gq.2.2.1 w0
            have := hp we.2.2
            show i + 1 ≤ (g' (pasR y n q.1)).1.2
            omega
          · have h1 := hval we.2.2 r hr
            have h2 := e5 w0 r hr
            show u = bi (q.2.2 (eY fc) r || (g' (pasR y n q.1)).2.2 (eY fc) r)
            generalize q.2.2 (eY fc) r = A at *
            generalize (g' (pasR y n q.1)).2.2 (eY fc) r = B at *
            rw [h1, h2] at hiff
            cases A <;> cases B <;> rcases hu with rfl | rfl <;> first | rfl | (exfalso; revert hiff; decide)
        have z10 : ¬ (1 : Int32) = 0 := by decide
        exact b261_23 (fun x => b261_32 (next 1 (Or.inr rfl) ⟨fun w => absurd w z10, fun w => absurd w.1 x⟩)) (fun x => b261_28 (fun x' => b261_36 (next 0 (Or.inl rfl) ⟨fun _ => ⟨Classical.byContradiction x, x'⟩, fun _ => rfl⟩)) (fun x' => b261_32 (next 1 (Or.inr rfl) ⟨fun w => absurd w z10, fun w => absurd w.2 x'⟩)))
  exact loop 200 0 (g' z) S1 v (by omega) (fun _ => Nat.zero_le _) a1 a2 a3 a4 a5 (eT z).symm
end MQUEST2
