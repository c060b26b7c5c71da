/-! QUESTIONS: the reference, all -/
section MQUEST3
variable {D m : Nat} {y : Nat → Int32} {n : Nat} {ev : Nat → Nat → Int32} {up : Nat → Int32} {F : List Int32} {fc : Int32} {ra : Option Nat}
/-- in a fault nothing is read -/
theorem w259bad {dd b o : Nat} {z : Nat × Nat} {S : St} {Q : Out → St → Prop} (hd : 6 ≤ dd) (h0 : ¬ z.1 = 0) (hS : MS y n z S) (hE : ME D m up F ev fc ra S) (h52 : S.1 46 52 = Int32.ofNat o) (K : ∀ v S1, Fz QF [] S S1 → MS y n z S1 → S1.1 46 52 = Int32.ofNat o → (v = 0 ∨ v = 1) → Q (.inl (some (.int v))) S1) : Wp dd b 259 0 [.ref 46] [] S Q := by
  obtain ⟨d, rfl⟩ := Nat.exists_eq_add_of_le' hd
  refine b259_0 (w244 (w := wNot) hS (by decide) (by decide +kernel) (by decide)) ?_
  rintro _ _ ⟨rfl, rfl⟩
  rw [isWR_bad h0]
  refine b259_7 (fun _ => b259_39 (w243 hS) ?_) (fun q => absurd rfl q)
  rintro _ _ ⟨rfl, rfl⟩
  rw [isSR_bad h0]
  refine b259_45 (fun _ => w259c hS hE (fun v S1 a1 a2 a3 _ => K v S1 (a1.mono (by decide) (by decide)) ?_ ((a1.f (by decide)).trans h52) a3)) (fun q => absurd rfl q)
  rw [(cmp_ok (y := y) hS.1).2.1 h0] at a2
  exact a2
theorem w261bad {dd b o : Nat} {z : Nat × Nat} {S : St} {Q : Out → St → Prop} (hd : 8 ≤ dd) (h0 : ¬ z.1 = 0) (hS : MS y n z S) (hE : ME D m up F ev fc ra S) (h52 : S.1 46 52 = Int32.ofNat o) (K : ∀ v S1, Fz QF [] S S1 → MS y n z S1 → S1.1 46 52 = Int32.ofNat o → (v = 0 ∨ v = 1) → Q (.inl (some (.int v))) S1) : Wp dd b 261 0 [.ref 46] [] S Q := by
  obtain ⟨d, rfl⟩ := Nat.exists_eq_add_of_le' (show 2 ≤ dd by omega)
  refine b261_0 (P := fun v S1 => Fz QF [] S S1 ∧ MS y n z S1 ∧ S1.1 46 52 = Int32.ofNat o ∧ (v = 0 ∨ v = 1)) ?_ ?_
  · refine b260_0 (P := fun v S1 => Fz QF [] S S1 ∧ MS y n z S1 ∧ S1.1 46 52 = Int32.ofNat o ∧ (v = 0 ∨ v = 1)) (w259bad (by omega) h0 hS hE h52 (fun v S1 a1 a2 a3 a4 => ⟨_, rfl, a1, a2, a3, a4⟩)) ?_
    rintro v S1 ⟨a1, a2, a3, a4⟩
    refine b260_4 (b260_5 (w244 (w := wAnd) a2 (by decide) (by decide +kernel) (by decide)) ?_)
    rintro _ _ ⟨rfl, rfl⟩
    rw [isWR_bad h0]
    exact b260_12 (fun _ => b260_41 a4 ⟨_, rfl, a1, a2, a3, a4⟩) (fun q => absurd rfl q)
  · rintro v S1 ⟨a1, a2, a3, a4⟩
    refine b261_4 (b261_5 (w244 (w := wOr) a2 (by decide) (by decide +kernel) (by decide)) ?_)
    rintro _ _ ⟨rfl, rfl⟩
    rw [isWR_bad h0]
    exact b261_12 (fun _ => b261_41 a4 (K v S1 a1 a2 a3 a4)) (fun q => absurd rfl q)
/-- a fact that is no comparison: what stands behind it -/
theorem w259 (hn : n ≤ 200) : ∀ j, j ≤ 6 → Rdg D m y n ev up F fc ra 259 (3 * j + 10) (6 - j) (fct ev y n j) := by
  intro j
  induction j with
  | zero =>
    intro _ dd b z S Q hdd hS hE h52 K
    obtain ⟨d, rfl⟩ := Nat.exists_eq_add_of_le' (show 6 ≤ dd by omega)
    have e0 : fct ev y n 0 z = if isWR y n z wNot = true ∨ isSR y n z 40 = true then ((3, z.2), false, fun _ _ => false) else (cmpR y n z, cmpY y n z, cmpV ev y n z) := rfl
    have E7 : ∀ S1 : St, S1.1 46 52 = Int32.ofNat 7 → (S1.1 46 52 - 1) = Int32.ofNat 6 := fun S1 h => by rw [h]; exact i_pre 6
    refine b259_0 (w244 (w := wNot) hS (by decide) (by decide +kernel) (by decide)) ?_
    rintro _ _ ⟨rfl, rfl⟩
    refine b259_7 (fun q => b259_39 (w243 hS) ?_) (fun q => ?_)
    · rintro _ _ ⟨rfl, rfl⟩
      have q1 := bi0.1 q
      refine b259_45 (fun q2 => ?_) (fun q2 => ?_)
      · have q2 := bi0.1 q2
        rw [e0, if_neg (by rw [q1, q2]; decide)] at K
        exact w259c hS hE (fun v S1 a1 a2 a3 a4 => K v S1 (a1.mono (by decide) (by decide)) a2 ((a1.f (by decide)).trans h52) a3 a4)
      · have q2 := bi1.1 q2
        rw [e0, if_pos (Or.inr q2)] at K
        have z0 := (isSR_0 q2).1
        have eW : wrgR 3 z = (3, z.2) := by unfold wrgR; rw [if_pos z0]
        refine b259_48 (P := fun S1 => Fz QF [] S S1 ∧ MS y n (3, z.2) S1 ∧ S1.1 46 52 = Int32.ofNat 7) (w258 (o := 6) hS h52 (by omega) (fun S1 a1 a2 a3 => ⟨rfl, a1, by rw [if_pos rfl, eW] at a2; exact a2, a3⟩)) ?_
        rintro S1 ⟨a1, a2, a3⟩
        refine b259_52 (P := fun v S2 => Fz QF [] S S2 ∧ MS y n (3, z.2) S2 ∧ S2.1 46 52 = Int32.ofNat 7 ∧ (v = 0 ∨ v = 1)) (w261bad (by omega) (show ¬ 3 = 0 by omega) a2 (hE.of a1 (by decide)) a3 (fun v S2 c1 c2 c3 c4 => ⟨_, rfl, a1.trans c1, c2, c3, c4⟩)) ?_
        rintro v S2 ⟨c1, c2, c3, c4⟩
        refine b259_56 (P := fun S3 => Fz QF [] S S3 ∧ MS y n (3, z.2) S3 ∧ S3.1 46 52 = Int32.ofNat 7) (w245 c2 (fun S3 e1 e2 => ⟨rfl, c1.trans (e1.mono (by decide) (by decide)), ?_, (e1.f (by decide)).trans c3⟩)) ?_
        · rw [mustR_bad (show ¬ 3 = 0 by omega)] at e2
          exact e2
        · rintro S3 ⟨e1, e2, e3⟩
          have f3 : Fz [(46, 52)] [] S3 (setI S3 46 52 (S3.1 46 52 - 1)) := Fz.refl.seti (by decide)
          exact b259_63 c4 (K v _ (e1.seti (by decide)) (e2.of f3 (by decide)) (by rw [seti_same]; exact E7 S3 e3) c4 (fun w => absurd w (show ¬ 3 = 0 by omega)))
    · have q1 := bi1.1 q
      rw [e0, if_pos (Or.inl q1)] at K
      have z0 := (isWR_0 q1).1
      have eW : wrgR 3 z = (3, z.2) := by unfold wrgR; rw [if_pos z0]
      refine b259_10 (P := fun S1 => Fz QF [] S S1 ∧ MS y n (3, z.2) S1 ∧ S1.1 46 52 = Int32.ofNat 7) (w258 (o := 6) hS h52 (by omega) (fun S1 a1 a2 a3 => ⟨rfl, a1, by rw [if_pos rfl, eW] at a2; exact a2, a3⟩)) ?_
      rintro S1 ⟨a1, a2, a3⟩
      refine b259_14 (P := fun v S2 => Fz QF [] S S2 ∧ MS y n (3, z.2) S2 ∧ S2.1 46 52 = Int32.ofNat 7 ∧ (v = 0 ∨ v = 1)) (w259bad (by omega) (show ¬ 3 = 0 by omega) a2 (hE.of a1 (by decide)) a3 (fun v S2 c1 c2 c3 c4 => ⟨_, rfl, a1.trans c1, c2, c3, c4⟩)) ?_
      rintro v S2 ⟨c1, c2, c3, c4⟩
      have f3 : Fz [(46, 52)] [] S2 (setI S2 46 52 (S2.1 46 52 - 1)) := Fz.refl.seti (by decide)
      have fin : ∀ u, (u = 0 ∨ u = 1) → Q (.inl (some (.int u))) (setI S2 46 52 (S2.1 46 52 - 1)) := fun u hu => K u _ (c1.seti (by decide)) (c2.of f3 (by decide)) (by rw [seti_same]; exact E7 S2 c3) hu (fun w => absurd w (show ¬ 3 = 0 by omega))
      exact b259_18 (fun _ => b259_37 (b259_38 (Or.inl rfl) (fin 0 (Or.inl rfl)))) (fun _ => b259_33 (b259_38 (Or.inr rfl) (fin 1 (Or.inr rfl))))
  | succ j ih =>
    intro hj
    have ih := ih (by omega)
    have og := fct_okg (ev := ev) (y := y) (n := n) j
    have i0 := w260 hn og ih (by omega)
    have i1 := w261 hn og i0 (by omega)
    intro dd b z S Q hdd hS hE h52 K
    obtain ⟨d, rfl⟩ := Nat.exists_eq_add_of_le' (show 6 ≤ dd by omega)
    have eo : 6 - j = (6 - (j + 1)) + 1 := by omega
    have E7 : ∀ S1 : St, S1.1 46 52 = Int32.ofNat (6 - j) → (S1.1 46 52 - 1) = Int32.ofNat (6 - (j + 1)) := fun S1 h => by rw [h, eo]; exact i_pre _
    refine b259_0 (w244 (w := wNot) hS (by decide) (by decide +kernel) (by decide)) ?_
    rintro _ _ ⟨rfl, rfl⟩
    refine b259_7 (fun q => b259_39 (w243 hS) ?_) (fun q => ?_)
    · rintro _ _ ⟨rfl, rfl⟩
      have q1 := bi0.1 q
      refine b259_45 (fun q2 => ?_) (fun q2 => ?_)
      · have q2 := bi0.1 q2
        have e : fct ev y n (j + 1) z = (cmpR y n z, cmpY y n z, cmpV ev y n z) := by
          show (if isWR y n z wNot = true then _ else if isSR y n z 40 = true then _ else _) = _
          rw [q1, q2, if_neg Bool.false_ne_true, if_neg Bool.false_ne_true]
        rw [e] at K
        exact w259c hS hE (fun v S1 a1 a2 a3 a4 => K v S1 (a1.mono (by decide) (by decide)) a2 ((a1.f (by decide)).trans h52) a3 a4)
      · have q2 := bi1.1 q2
        have e : fct ev y n (j + 1) z = (mustR y n (tstR y n (fct ev y n j) (pasR y n z)).1 41, (tstR y n (fct ev y n j) (pasR y n z)).2.1, (tstR y n (fct ev y n j) (pasR y n z)).2.2) := by
          show (if isWR y n z wNot = true then _ else if isSR y n z 40 = true then _ else _) = _
          rw [q1, q2, if_neg Bool.false_ne_true, if_pos rfl]
        rw [e] at K
        refine b259_48 (P := fun S1 => Fz QF [] S S1 ∧ MS y n (pasR y n z) S1 ∧ S1.1 46 52 = Int32.ofNat (6 - j)) (w258 hS h52 (by omega) (fun S1 a1 a2 a3 => ⟨rfl, a1, by rw [if_neg (by omega)] at a2; exact a2, by rw [eo]; exact a3⟩)) ?_
        rintro S1 ⟨a1, a2, a3⟩
        refine b259_52 (P := fun v S2 => Fz QF [] S S2 ∧ MS y n (tstR y n (fct ev y n j) (pasR y n z)).1 S2 ∧ S2.1 46 52 = Int32.ofNat (6 - j) ∧ (v = 0 ∨ v = 1) ∧ ((tstR y n (fct ev y n j) (pasR y n z)).1.1 = 0 → ∀ r, ra = some r → v = bi ((tstR y n (fct ev y n j) (pasR y n z)).2.2 (eY fc) r))) (i1 _ 0 _ S1 _ (by omega) a2 (hE.of a1 (by decide)) a3 (fun v S2 c1 c2 c3 c4 c5 => ⟨_, rfl, a1.trans c1, c2, c3, c4, c5⟩)) ?_
        rintro v S2 ⟨c1, c2, c3, c4, c5⟩
        refine b259_56 (P := fun S3 => Fz QF [] S S3 ∧ MS y n (mustR y n (tstR y n (fct ev y n j) (pasR y n z)).1 41) S3 ∧ S3.1 46 52 = Int32.ofNat (6 - j)) (w245 c2 (fun S3 e1 e2 => ⟨rfl, c1.trans (e1.mono (by decide) (by decide)), e2, (e1.f (by decide)).trans c3⟩)) ?_
        rintro S3 ⟨e1, e2, e3⟩
        have f3 : Fz [(46, 52)] [] S3 (setI S3 46 52 (S3.1 46 52 - 1)) := Fz.refl.seti (by decide)
        exact b259_63 c4 (K v _ (e1.seti (by decide)) (e2.of f3 (by decide)) (by rw [seti_same]; exact E7 S3 e3) c4 (fun w => c5 (must_good w).1))
    · have q1 := bi1.1 q
      have e : fct ev y n (j + 1) z = ((fct ev y n j (pasR y n z)).1, (fct ev y n j (pasR y n z)).2.1, fun e r => !(fct ev y n j (pasR y n z)).2.2 e r) := by
        show (if isWR y n z wNot = true then _ else if isSR y n z 40 = true then _ else _) = _
        rw [q1, if_pos rfl]
      rw [e] at K
      refine b259_10 (P := fun S1 => Fz QF [] S S1 ∧ MS y n (pasR y n z) S1 ∧ S1.1 46 52 = Int32.ofNat (6 - j)) (w258 hS h52 (by omega) (fun S1 a1 a2 a3 => ⟨rfl, a1, by rw [if_neg (by omega)] at a2; exact a2, by rw [eo]; exact a3⟩)) ?_
      rintro S1 ⟨a1, a2, a3⟩
      refine b259_14 (P := fun v S2 => Fz QF [] S S2 ∧ MS y n (fct ev y n j (pasR y n z)).1 S2 ∧ S2.1 46 52 = Int32.ofNat (6 - j) ∧ (v = 0 ∨ v = 1) ∧ ((fct ev y n j (pasR y n z)).1.1 = 0 → ∀ r, ra = some r → v = bi ((fct ev y n j (pasR y n z)).2.2 (eY fc) r))) (ih _ 0 _ S1 _ (by omega) a2 (hE.of a1 (by decide)) a3 (fun v S2 c1 c2 c3 c4 c5 => ⟨_, rfl, a1.trans c1, c2, c3, c4, c5⟩)) ?_
      rintro v S2 ⟨c1, c2, c3, c4, c5⟩
      have f3 : Fz [(46, 52)] [] S2 (setI S2 46 52 (S2.1 46 52 - 1)) := Fz.refl.seti (by decide)
      have fin : ∀ u, (u = 0 ∨ u = 1) → (u = 0 ↔ ¬ v = 0) → Q (.inl (some (.int u))) (setI S2 46 52 (S2.1 46 52 - 1)) := fun u hu hiff => K u _ (c1.seti (by decide)) (c2.of f3 (by decide)) (by rw [seti_same]; exact E7 S2 c3) hu (fun w r hr => by
        have h1 := c5 w r hr
        show u = bi (!(fct ev y n j (pasR y n z)).2.2 (eY fc) r)
        generalize (fct ev y n j (pasR y n z)).2.2 (eY fc) r = A at *
        rw [h1] at hiff
        cases A <;> rcases hu with rfl | rfl <;> first | rfl | (exfalso; revert hiff; decide))
      exact b259_18 (fun w => b259_37 (b259_38 (Or.inl rfl) (fin 0 (Or.inl rfl) ⟨fun _ => w, fun _ => rfl⟩))) (fun w => b259_33 (b259_38 (Or.inr rfl) (fin 1 (Or.inr rfl) ⟨fun x => absurd x (by decide), fun x => absurd x w⟩)))
/-- the question -/
def qHd (y : Nat → Int32) (n : Nat) : Nat × Nat := pasR y n (if isWl y n 0 wMany = true ∨ isWl y n 0 wFirst = true then (0, 0) else (1, 0))
def qst (ev : Nat → Nat → Int32) (y : Nat → Int32) (n : Nat) : Qr := tstR y n (fct ev y n 6) (qHd y n)
def qEnd (ev : Nat → Nat → Int32) (y : Nat → Int32) (n : Nat) : Nat × Nat := if (qst ev y n).1.1 = 0 ∧ ¬ kd y n (qst ev y n).1.2 = 0 then (1, (qst ev y n).1.2) else (qst ev y n).1
theorem qHd_le : (qHd y n).2 ≤ n := by
  unfold qHd
  refine pasR_le ?_
  split <;> exact Nat.zero_le _
theorem qHd_lt : (qHd y n).1 < 1000 := by
  unfold qHd
  refine pasR_lt ?_
  split
  · exact (show 0 < 1000 by omega)
  · exact (show 1 < 1000 by omega)
abbrev QF2 : List (Nat × Nat) := [(46, 44), (46, 45), (46, 46), (46, 47), (46, 48), (46, 49), (46, 50), (46, 52), (46, 55)]
theorem w262 {dd b : Nat} {x2 : Int32} {S : St} {Q : Out → St → Prop} (hd : 40 ≤ dd) (hn : n ≤ 200) (hy : ∀ i, i < n → S.2.1 64 i = y i ∧ ¬ y i = -1) (hE : ME D m up F ev fc ra (setI S 46 55 x2)) (K : ∀ v S1, Fz QF2 [] S S1 → MS y n (qEnd ev y n) S1 → (v = 0 ∨ v = 1) → ((qEnd ev y n).1 = 0 → ∀ r, ra = some r → v = bi ((qst ev y n).2.2 (eY fc) r)) → Q (.inl (some (.int v))) S1) : Wp dd b 262 0 [.ref 46, .int (Int32.ofNat n), .int x2] [] S Q := by
  obtain ⟨d, rfl⟩ := Nat.exists_eq_add_of_le' (show 3 ≤ dd by omega)
  have f0 : Fz QF2 [] S (setI S 46 55 x2) := Fz.refl.seti (by decide)
  refine b262_0 (P := fun S1 => Fz [(46, 44), (46, 45), (46, 46), (46, 47), (46, 48), (46, 49), (46, 50), (46, 52)] [] (setI S 46 55 x2) S1 ∧ S1.1 46 52 = 0 ∧ MS y n (0, 0) S1) (w240 (y := y) (by omega) (fun i hi => hy i hi) (fun S1 a1 a2 a3 => ⟨rfl, a1, a2, a3⟩)) ?_
  rintro S1 ⟨a1, a2, a3⟩
  have hE1 := hE.of a1 (by decide)
  have f1 : Fz QF2 [] S S1 := f0.trans (a1.mono (by decide) (by decide))
  have body : ∀ S2 z, Fz RF [] S1 S2 → MS y n z S2 → pasR y n z = qHd y n → Wp (d + 3) b 262 35 [.ref 46, .int (Int32.ofNat n), .int x2] [] S2 Q := by
    intro S2 z f2 h2 e
    refine b262_35 (P := fun S3 => Fz RF [] S1 S3 ∧ MS y n (qHd y n) S3) (w242 h2 (fun S3 c1 c2 => ⟨rfl, f2.trans c1, by rw [← e]; exact c2⟩)) ?_
    rintro S3 ⟨c1, c2⟩
    have i0 := w260 hn (fct_okg 6) (w259 (D := D) (m := m) (up := up) (F := F) (fc := fc) (ra := ra) (ev := ev) (y := y) hn 6 (by omega)) (by omega)
    have i1 := w261 hn (fct_okg 6) i0 (by omega)
    refine b262_39 (P := fun v S4 => Fz QF [] S3 S4 ∧ MS y n (qst ev y n).1 S4 ∧ (v = 0 ∨ v = 1) ∧ ((qst ev y n).1.1 = 0 → ∀ r, ra = some r → v = bi ((qst ev y n).2.2 (eY fc) r))) (i1 _ 0 _ S3 _ (by omega) c2 (hE1.of c1 (by decide)) ((c1.f (by decide)).trans a2) (fun v S4 e1 e2 _ e4 e5 => ⟨_, rfl, e1, e2, e4, e5⟩)) ?_
    rintro v S4 ⟨e1, e2, e4, e5⟩
    have f4 : Fz QF2 [] S S4 := f1.trans ((c1.mono (by decide) (by decide)).trans (e1.mono (by decide) (by decide)))
    by_cases g0 : (qst ev y n).1.1 = 0
    · have e49 : S4.1 46 49 = 0 := e2.bad0.2 g0
      have hA := e2.good g0
      have hk := kd_lt (y := y) (n := n) (qst ev y n).1.2
      refine b262_43 (fun q => absurd e49 q) (fun _ => b262_51 (fun q => b262_63 e4 ?_) (fun q => b262_58 (P := fun S5 => Fz RF [] S4 S5 ∧ MS y n (wrgR 1 (qst ev y n).1) S5) (w241 (k := 1) e2 (by omega) (fun S5 g1 g2 => ⟨rfl, g1, g2⟩)) ?_))
      · rw [hA.2.2.1] at q
        have k0 := (i_inj (b := 0) (by omega) (by omega)).1 q
        have eE : qEnd ev y n = (qst ev y n).1 := by unfold qEnd; rw [if_neg (fun w => w.2 k0)]
        rw [eE] at K
        exact K v S4 f4 e2 e4 e5
      · rintro S5 ⟨g1, g2⟩
        have k0 : ¬ kd y n (qst ev y n).1.2 = 0 := fun w => q (by rw [hA.2.2.1, w]; rfl)
        have eE : qEnd ev y n = (1, (qst ev y n).1.2) := by unfold qEnd; rw [if_pos ⟨g0, k0⟩]
        have eW : wrgR 1 (qst ev y n).1 = (1, (qst ev y n).1.2) := by unfold wrgR; rw [if_pos g0]
        rw [eE] at K
        rw [eW] at g2
        exact b262_63 e4 (K v S5 (f4.trans (g1.mono (by decide) (by decide))) g2 e4 (fun w => absurd w (show ¬ 1 = 0 by omega)))
    · have eE : qEnd ev y n = (qst ev y n).1 := by unfold qEnd; rw [if_neg (fun w => g0 w.1)]
      rw [eE] at K
      exact b262_43 (fun _ => b262_63 e4 (K v S4 f4 e2 e4 e5)) (fun q => absurd (fun w => g0 (e2.bad0.1 w)) q)
  have iw : ∀ (dd q : Nat) (w : List Int32), (2000 ≤ q ∧ q < 2053) → sByt.getD (q - 2000) [] = w → w.length ≤ 400 → Wp dd 0 244 0 [.ref 46, .ref q] [] S1 (Ri (Vx (bi (isWl y n 0 w)) S1)) := fun dd q w h1 h2 h3 => by
    have := w244 (b := 0) (d := dd) (w := w) a3 h1 h2 h3
    rw [isWR_good] at this
    exact this
  refine b262_10 (iw _ 2041 wMany (by decide) (by decide +kernel) (by decide)) ?_
  rintro _ _ ⟨rfl, rfl⟩
  refine b262_17 (fun q => body S1 (0, 0) Fz.refl a3 ?_) (fun q => b262_20 (iw _ 2040 wFirst (by decide) (by decide +kernel) (by decide)) ?_)
  · unfold qHd
    rw [if_pos (Or.inl (bi1.1 q))]
  rintro _ _ ⟨rfl, rfl⟩
  have q1 := bi0.1 (Classical.byContradiction q)
  refine b262_27 (fun q => body S1 (0, 0) Fz.refl a3 ?_) (fun q => b262_30 (P := fun S2 => Fz RF [] S1 S2 ∧ MS y n (1, 0) S2) (w241 (k := 1) a3 (by omega) (fun S2 c1 c2 => ⟨rfl, c1, c2⟩)) ?_)
  · unfold qHd
    rw [if_pos (Or.inr (bi1.1 q))]
  · rintro S2 ⟨c1, c2⟩
    refine body S2 (1, 0) c1 c2 ?_
    unfold qHd
    rw [q1, bi0.1 (Classical.byContradiction q), if_neg (by decide)]
end MQUEST3
