/-! WHAT STANDS BETWEEN THE CALLS -/
section INV
variable {b D m rl : Nat} {ins : Int32} {nu : Nat → Nat → Int} {tn0 an : Nat} {ty : Nat → Int32} {aa : Nat → Int32 × Int32} {T : List Int32} {L : Nat}
/-- the class's row of who stands upright, in or out -/
def T18 (m : Nat) (nu : Nat → Nat → Int) (S : St) : Prop := ∀ r, r < m → ∀ k, tb (S.2.1 18 r) k = true ↔ (k < m ∧ ¬ r = k ∧ dt (nu r) (nu k) = 0)
/-- told, in, the rule: both -/
def JT (D m rl : Nat) (ins : Int32) (nu : Nat → Nat → Int) (S : St) : Prop := Tld D m nu S ∧ T18 m nu S ∧ S.1 0 14 = ins ∧ S.1 0 15 = Int32.ofNat rl ∧ MB D m ins S ∧ MW m rl ins (upN m ins nu) (frN D m ins nu) S ∧ MTl D m nu S ∧ ∀ c, c < 20 → S.2.1 60 c = 0
/-- the fault, the tape, the acts, what was said -/
def JF (S : St) : Prop := S.1 0 16 = S.1 46 51
def JP (tn0 : Nat) (ty : Nat → Int32) (S : St) : Prop := CTp tn0 ty S ∧ MTp tn0 ty S
def JA (m an : Nat) (aa : Nat → Int32 × Int32) (S : St) : Prop := CA an aa S ∧ MA an aa S ∧ ∀ i, i < an → Low m (aa i).1 ∧ ((aa i).2 = 0 ∨ (aa i).2 = 1)
def JY (T : List Int32) (S : St) : Prop := SY T S ∧ SM T S
/-- what the class has found out -/
def KC (D m rl : Nat) (ins : Int32) (nu : Nat → Nat → Int) (S : St) : Prop := WB ins (upN m ins nu) (frN D m ins nu) S ∧ CHa 20 (bes rl (upN m ins nu) (frN D m ins nu)) (frN D m ins nu) S ∧ S.1 6 4 = ins ∧ CC (chs m rl (upN m ins nu) (frN D m ins nu) ins) S ∧ CT (bes rl (upN m ins nu) (frN D m ins nu)) (frN D m ins nu) m ins S ∧ S.1 7 3 = Int32.ofNat rl ∧ CR m rl ins (upN m ins nu) (frN D m ins nu) S ∧ CF m rl ins (upN m ins nu) (frN D m ins nu) S ∧ (S.1 8 4 = -1 ∨ IsSc ins (bes rl (upN m ins nu) (frN D m ins nu)) (fcn (frN D m ins nu)) (S.1 8 4)) ∧ (S.1 8 5 = -1 ∨ IsSc ins (upN m ins nu) (oneW ins) (S.1 8 5)) ∧ (S.1 8 6 = -1 ∨ ∃ k, HueIs (upN m ins nu) ins k ∧ k ≤ 20 ∧ S.1 8 6 = Int32.ofNat k) ∧ CPy (frN D m ins nu) S ∧ CSy D m ins nu S
def JC (D m rl : Nat) (ins : Int32) (nu : Nat → Nat → Int) (S : St) : Prop := S.1 0 17 = 1 ∨ (S.1 0 17 = 0 ∧ KC D m rl ins nu S)
/-- what the reference has laid -/
def JM (D m rl : Nat) (ins : Int32) (nu : Nat → Nat → Int) (S : St) : Prop := (S.1 46 10 = 0 ∨ (S.1 46 10 = 1 ∧ S.1 46 16 = fstC m rl (upN m ins nu) (frN D m ins nu) ins)) ∧ MPy (frN D m ins nu) S
def J (L : Nat) (S : St) : Prop := S.1 3000 0 = Int32.ofNat L ∧ ∃ (D m rl : Nat) (ins : Int32) (nu : Nat → Nat → Int) (tn0 : Nat) (ty : Nat → Int32) (an : Nat) (aa : Nat → Int32 × Int32) (T : List Int32), WN D m rl ins nu ∧ JT D m rl ins nu S ∧ JF S ∧ JP tn0 ty S ∧ JA m an aa S ∧ JY T S ∧ JC D m rl ins nu S ∧ JM D m rl ins nu S
theorem CC.of {C : List Int32} {fs : List (Nat × Nat)} {as : List Nat} {S S1 : St} (h : CC C S) (hF : Fz fs as S S1) (q : (6, 7) ∉ fs ∧ (6, 8) ∉ fs) : CC C S1 := by
  unfold CC
  rw [hF.f q.1, hF.f q.2]
  exact h
theorem CT.of {bs : Nat → Int32} {F : List Int32} {fs : List (Nat × Nat)} {as : List Nat} {S S1 : St} (h : CT bs F m ins S) (hF : Fz fs as S S1) (q : (6, 9) ∉ fs ∧ (6, 10) ∉ fs ∧ (6, 11) ∉ fs) : CT bs F m ins S1 := by
  unfold CT TD
  rw [hF.f q.1, hF.f q.2.1, hF.f q.2.2]
  exact h
theorem CR.of {up : Nat → Int32} {F : List Int32} {fs : List (Nat × Nat)} {as : List Nat} {S S1 : St} (h : CR m rl ins up F S) (hF : Fz fs as S S1) (q : (7, 4) ∉ fs) : CR m rl ins up F S1 := by
  unfold CR
  rw [hF.f q]
  exact h
theorem CF.of {up : Nat → Int32} {F : List Int32} {fs : List (Nat × Nat)} {as : List Nat} {S S1 : St} (h : CF m rl ins up F S) (hF : Fz fs as S S1) (q : (7, 5) ∉ fs ∧ (7, 6) ∉ fs) : CF m rl ins up F S1 := by
  unfold CF
  rw [hF.f q.1, hF.f q.2]
  exact h
theorem CPy.of {F : List Int32} {fs : List (Nat × Nat)} {as : List Nat} {S S1 : St} (h : CPy F S) (hF : Fz fs as S S1) (q : (9, 4) ∉ fs ∧ (9, 5) ∉ fs ∧ (9, 6) ∉ fs ∧ (9, 7) ∉ fs ∧ 34 ∉ as ∧ 35 ∉ as ∧ 36 ∉ as) : CPy F S1 := by
  obtain ⟨h1, h2⟩ := h
  refine ⟨?_, ?_⟩
  · rcases h1 with h | ⟨h, h'⟩
    · exact Or.inl ((hF.f q.2.1).trans h)
    · exact Or.inr ⟨(hF.f q.2.1).trans h, h'.of hF q.1 q.2.2.2.2.1 q.2.2.2.2.2.1⟩
  · rcases h2 with h | ⟨h, h'⟩
    · exact Or.inl ((hF.f q.2.2.1).trans h)
    · exact Or.inr ⟨(hF.f q.2.2.1).trans h, h'.of hF q.2.2.2.1 q.2.2.2.2.2.2⟩
theorem CSy.of {fs : List (Nat × Nat)} {as : List Nat} {S S1 : St} (h : CSy D m ins nu S) (hF : Fz fs as S S1) (q : (10, 8) ∉ fs ∧ (10, 9) ∉ fs ∧ 37 ∉ as) : CSy D m ins nu S1 := by
  rcases h with h | ⟨h1, h2, h3⟩
  · exact Or.inl ((hF.f q.1).trans h)
  · exact Or.inr ⟨(hF.f q.1).trans h1, (hF.f q.2.1).trans h2, fun r hr => (hF.a q.2.2 r).trans (h3 r hr)⟩
abbrev KF : List (Nat × Nat) := [(5, 1), (5, 2), (5, 3), (6, 2), (6, 4), (6, 7), (6, 8), (6, 9), (6, 10), (6, 11), (7, 3), (7, 4), (7, 5), (7, 6), (8, 4), (8, 5), (8, 6), (9, 4), (9, 5), (9, 6), (9, 7), (10, 8), (10, 9)]
abbrev KR : List Nat := [23, 24, 25, 26, 27, 28, 34, 35, 36, 37]
abbrev dis (fs gs : List (Nat × Nat)) : Prop := ∀ x ∈ gs, x ∉ fs
abbrev disr (as bs : List Nat) : Prop := ∀ x ∈ bs, x ∉ as
theorem KC.of {fs : List (Nat × Nat)} {as : List Nat} {S S1 : St} (h : KC D m rl ins nu S) (hF : Fz fs as S S1) (q : dis fs KF) (qr : disr as KR) : KC D m rl ins nu S1 := by
  obtain ⟨h1, h2, h3, h4, h5, h6, h7, h8, h9, h10, h11, h12, h13⟩ := h
  have q' : ∀ j k, (j, k) ∈ KF → (j, k) ∉ fs := fun j k => q (j, k)
  refine ⟨h1.of hF ⟨q' 5 1 (by decide), q' 5 2 (by decide), q' 5 3 (by decide), qr 23 (by decide), qr 24 (by decide), qr 25 (by decide), qr 26 (by decide)⟩, h2.of hF ⟨q' 6 2 (by decide), qr 27 (by decide), qr 28 (by decide)⟩, (hF.f (q' 6 4 (by decide))).trans h3, h4.of hF ⟨q' 6 7 (by decide), q' 6 8 (by decide)⟩, h5.of hF ⟨q' 6 9 (by decide), q' 6 10 (by decide), q' 6 11 (by decide)⟩, (hF.f (q' 7 3 (by decide))).trans h6, h7.of hF (q' 7 4 (by decide)), h8.of hF ⟨q' 7 5 (by decide), q' 7 6 (by decide)⟩, ?_, ?_, ?_, h12.of hF ⟨q' 9 4 (by decide), q' 9 5 (by decide), q' 9 6 (by decide), q' 9 7 (by decide), qr 34 (by decide), qr 35 (by decide), qr 36 (by decide)⟩, h13.of hF ⟨q' 10 8 (by decide), q' 10 9 (by decide), qr 37 (by decide)⟩⟩
  · rw [hF.f (q' 8 4 (by decide))]; exact h9
  · rw [hF.f (q' 8 5 (by decide))]; exact h10
  · rw [hF.f (q' 8 6 (by decide))]; exact h11
theorem JC.of {fs : List (Nat × Nat)} {as : List Nat} {S S1 : St} (h : JC D m rl ins nu S) (hF : Fz fs as S S1) (q : dis fs ((0, 17) :: KF)) (qr : disr as KR) : JC D m rl ins nu S1 := by
  have e : S1.1 0 17 = S.1 0 17 := hF.f (q (0, 17) List.mem_cons_self)
  rcases h with h | ⟨h, h'⟩
  · exact Or.inl (e.trans h)
  · exact Or.inr ⟨e.trans h, h'.of hF (fun x hx => q x (List.mem_cons_of_mem _ hx)) qr⟩
theorem JM.of {fs : List (Nat × Nat)} {as : List Nat} {S S1 : St} (h : JM D m rl ins nu S) (hF : Fz fs as S S1) (q : (46, 10) ∉ fs ∧ (46, 11) ∉ fs ∧ (46, 16) ∉ fs ∧ 54 ∉ as) : JM D m rl ins nu S1 := by
  unfold JM MPy
  rw [hF.f q.1, hF.f q.2.1, hF.f q.2.2.1]
  refine ⟨h.1, ?_⟩
  rcases h.2 with h | ⟨h, h'⟩
  · exact Or.inl h
  · exact Or.inr ⟨h, h'.of hF q.2.2.2⟩
abbrev TF0 : List (Nat × Nat) := [(2, 0), (2, 1), (0, 14), (0, 15), (46, 0), (46, 1), (46, 2), (46, 3), (46, 9)]
abbrev TR0 : List Nat := [15, 16, 17, 18, 47, 48, 49, 50, 60]
theorem JT.of {fs : List (Nat × Nat)} {as : List Nat} {S S1 : St} (h : JT D m rl ins nu S) (hF : Fz fs as S S1) (q : dis fs TF0) (qr : disr as TR0) : JT D m rl ins nu S1 := by
  obtain ⟨h1, h2, h3, h4, h5, h6, h7, h8⟩ := h
  have q' : ∀ j k, (j, k) ∈ TF0 → (j, k) ∉ fs := fun j k => q (j, k)
  refine ⟨h1.of hF ⟨q' 2 0 (by decide), q' 2 1 (by decide), qr 15 (by decide), qr 16 (by decide), qr 17 (by decide)⟩, fun r hr k => ?_, (hF.f (q' 0 14 (by decide))).trans h3, (hF.f (q' 0 15 (by decide))).trans h4, h5.of hF (q' 46 0 (by decide)) (q' 46 1 (by decide)) (q' 46 2 (by decide)), h6.of hF ⟨q' 46 1 (by decide), q' 46 2 (by decide), q' 46 3 (by decide), q' 46 9 (by decide), qr 48 (by decide), qr 49 (by decide), qr 50 (by decide)⟩, fun r k hr hk => ?_, fun c hc => (hF.a (qr 60 (by decide)) c).trans (h8 c hc)⟩
  · rw [hF.a (qr 18 (by decide))]; exact h2 r hr k
  · rw [hF.a (qr 47 (by decide))]; exact h7 r k hr hk
theorem JF.of {fs : List (Nat × Nat)} {as : List Nat} {S S1 : St} (h : JF S) (hF : Fz fs as S S1) (q : (0, 16) ∉ fs ∧ (46, 51) ∉ fs) : JF S1 := by
  unfold JF
  rw [hF.f q.1, hF.f q.2]
  exact h
theorem JP.of {fs : List (Nat × Nat)} {as : List Nat} {S S1 : St} (h : JP tn0 ty S) (hF : Fz fs as S S1) (q : (1, 1) ∉ fs ∧ 14 ∉ as ∧ (46, 43) ∉ fs ∧ 64 ∉ as) : JP tn0 ty S1 := ⟨h.1.of hF ⟨q.1, q.2.1⟩, h.2.of hF ⟨q.2.2.1, q.2.2.2⟩⟩
theorem JA.of {fs : List (Nat × Nat)} {as : List Nat} {S S1 : St} (h : JA m an aa S) (hF : Fz fs as S S1) (q : (12, 2) ∉ fs ∧ (12, 3) ∉ fs ∧ 43 ∉ as ∧ 44 ∉ as ∧ (46, 40) ∉ fs ∧ 62 ∉ as ∧ 63 ∉ as) : JA m an aa S1 := ⟨h.1.of hF ⟨q.1, q.2.1, q.2.2.1, q.2.2.2.1⟩, h.2.1.of hF ⟨q.2.2.2.2.1, q.2.2.2.2.2.1, q.2.2.2.2.2.2⟩, h.2.2⟩
theorem JY.of {fs : List (Nat × Nat)} {as : List Nat} {S S1 : St} (h : JY T S) (hF : Fz fs as S S1) (q : (0, 13) ∉ fs ∧ 45 ∉ as ∧ (46, 37) ∉ fs ∧ 61 ∉ as) : JY T S1 := ⟨h.1.of hF ⟨q.1, q.2.1⟩, h.2.of hF ⟨q.2.2.1, q.2.2.2⟩⟩
/-- all but the class's caches and the reference's -/
def JS (L : Nat) (D m rl : Nat) (ins : Int32) (nu : Nat → Nat → Int) (tn0 : Nat) (ty : Nat → Int32) (an : Nat) (aa : Nat → Int32 × Int32) (T : List Int32) (S : St) : Prop := S.1 3000 0 = Int32.ofNat L ∧ WN D m rl ins nu ∧ JT D m rl ins nu S ∧ JF S ∧ JP tn0 ty S ∧ JA m an aa S ∧ JY T S
abbrev SF0 : List (Nat × Nat) := [(3000, 0), (2, 0), (2, 1), (0, 14), (0, 15), (46, 0), (46, 1), (46, 2), (46, 3), (46, 9), (0, 16), (46, 51), (1, 1), (46, 43), (12, 2), (12, 3), (46, 40), (0, 13), (46, 37)]
abbrev SR0 : List Nat := [15, 16, 17, 18, 47, 48, 49, 50, 60, 14, 64, 43, 44, 62, 63, 45, 61]
theorem JS.of {fs : List (Nat × Nat)} {as : List Nat} {S S1 : St} (h : JS L D m rl ins nu tn0 ty an aa T S) (hF : Fz fs as S S1) (q : dis fs SF0) (qr : disr as SR0) : JS L D m rl ins nu tn0 ty an aa T S1 := by
  obtain ⟨h1, h2, h3, h4, h5, h6, h7⟩ := h
  have q' : ∀ j k, (j, k) ∈ SF0 → (j, k) ∉ fs := fun j k => q (j, k)
  exact ⟨(hF.f (q' 3000 0 (by decide))).trans h1, h2, h3.of hF (fun x hx => q x (by revert x; decide)) (fun x hx => qr x (by revert x; decide)), h4.of hF ⟨q' 0 16 (by decide), q' 46 51 (by decide)⟩, h5.of hF ⟨q' 1 1 (by decide), qr 14 (by decide), q' 46 43 (by decide), qr 64 (by decide)⟩, h6.of hF ⟨q' 12 2 (by decide), q' 12 3 (by decide), qr 43 (by decide), qr 44 (by decide), q' 46 40 (by decide), qr 62 (by decide), qr 63 (by decide)⟩, h7.of hF ⟨q' 0 13 (by decide), qr 45 (by decide), q' 46 37 (by decide), qr 61 (by decide)⟩⟩
theorem j_of {S : St} (h : JS L D m rl ins nu tn0 ty an aa T S) (hC : JC D m rl ins nu S) (hM : JM D m rl ins nu S) : J L S := ⟨h.1, D, m, rl, ins, nu, tn0, ty, an, aa, T, h.2.1, h.2.2.1, h.2.2.2.1, h.2.2.2.2.1, h.2.2.2.2.2.1, h.2.2.2.2.2.2, hC, hM⟩
abbrev RfF : List (Nat × Nat) := [(0, 17), (5, 1), (5, 2), (5, 3), (6, 2), (6, 4), (6, 7), (6, 8), (6, 9), (7, 3), (7, 4), (7, 6), (8, 4), (8, 5), (8, 6), (9, 5), (9, 6), (10, 8)]
abbrev RfR : List Nat := [23, 24, 25, 26, 27, 28]
theorem up_18 (h : WN D m rl ins nu) {S : St} (hT : T18 m nu S) (r : Nat) : upN m ins nu r = if tb ins r = true then S.2.1 18 r &&& ins else 0 := by
  refine tb_ext (fun o _ => ?_)
  rw [Bool.eq_iff_iff, wn_ud h]
  by_cases hr : tb ins r = true
  · rw [if_pos hr, and_t, hT r (h.2.2.2.1 r hr)]
    constructor
    · rintro ⟨a1, a2, a3, a4, a5, a6⟩
      exact ⟨⟨a2, a3, a6⟩, a5⟩
    · rintro ⟨⟨a2, a3, a6⟩, a5⟩
      exact ⟨h.2.2.2.1 r hr, a2, a3, hr, a5, a6⟩
  · rw [if_neg hr, tb_zero]
    constructor
    · rintro ⟨_, _, _, a4, _⟩
      exact absurd a4 hr
    · intro z; cases z
theorem fr_20 (h : WN D m rl ins nu) : ff (upN m ins nu) ins 20 20 D 0 = frN D m ins nu := by
  have := ff_more (up := upN m ins nu) h.2.1 h.2.2.2.1 m D 0 (Nat.le_refl _)
  rw [show m + (20 - m) = 20 by have := h.2.1; omega] at this
  exact this
theorem c141 {d : Nat} {S : St} {Q : Out → St → Prop} (hJ : JS L D m rl ins nu tn0 ty an aa T S) (hC : JC D m rl ins nu S) (K : ∀ S1, Fz RfF RfR S S1 → S1.1 0 17 = 0 → KC D m rl ins nu S1 → Q (.inl none) S1) : Wp (d + 6) b 141 0 [.ref 0] [] S Q := by
  have hN := hJ.2.1
  obtain ⟨hD, hm, hrl, hlow, hR⟩ := id hN
  obtain ⟨t1, t2, t3, t4, _⟩ := hJ.2.2.1
  have hU := wn_uw hN
  refine b141_0 (fun q => ?_) (fun q => b141_7 ?_)
  rotate_left
  · rcases hC with h | ⟨h, h'⟩
    · exact absurd (by rw [h]; decide) q
    · exact K S Fz.refl h h'
  clear hC q
  have f0 : Fz RfF RfR S (setI S 0 17 0) := Fz.refl.seti (by decide)
  have ei : (setI S 0 17 0).1 0 14 = ins := (seti_ne (by decide)).trans t3
  refine b141_8 (Or.inl rfl) (P := fun S1 => Fz RfF RfR S S1 ∧ S1.1 0 17 = 0 ∧ WB ins (upN m ins nu) (frN D m ins nu) S1) (by
    rw [ei]
    refine w91 (up := upN m ins nu) hD ((seti_ne (by decide)).trans t1.1) (fun r _ => up_18 hN t2 r) hU.2.2.2.1 hU.2.2.2.2.2.1 (by rw [fr_20 hN]; exact hU.2.2.2.2.2.2.2.2.2) (fun S1 a1 a2 => ⟨rfl, f0.trans (a1.mono (by decide) (by decide)), (a1.f (by decide)).trans seti_same, ?_⟩)
    rw [fr_20 hN] at a2
    exact a2) ?_
  rintro S1 ⟨a1, a2, a3⟩
  have eb : ∀ r, r < 20 → bes rl (fun r => upN m ins nu r &&& ins) (inF ins (frN D m ins nu)) r = bes rl (upN m ins nu) (frN D m ins nu) r := by
    intro r hr
    have eF : inF ins (frN D m ins nu) = frN D m ins nu := List.filter_eq_self.2 (fun f hf => decide_eq_true (sub0.2 (hU.2.2.2.2.2.2.1 f hf)))
    rw [eF]
    unfold bes
    have eu : upN m ins nu r &&& ins = upN m ins nu r := tb_ext (fun k _ => by
      rw [Bool.eq_iff_iff, and_t]
      exact ⟨fun w => w.1, fun w => ⟨w, hU.2.2.2.2.2.1 r k w⟩⟩)
    show (if rl = 0 then upN m ins nu r &&& ins else matesL (frN D m ins nu) r) = _
    rw [eu]
  have eF : inF ins (frN D m ins nu) = frN D m ins nu := List.filter_eq_self.2 (fun f hf => decide_eq_true (sub0.2 (hU.2.2.2.2.2.2.1 f hf)))
  refine b141_24 (P := fun S2 => Fz RfF RfR S S2 ∧ S2.1 0 17 = 0 ∧ WB ins (upN m ins nu) (frN D m ins nu) S2 ∧ CHa 20 (bes rl (upN m ins nu) (frN D m ins nu)) (frN D m ins nu) S2 ∧ S2.1 6 4 = ins ∧ S2.1 6 7 = -1 ∧ S2.1 6 8 = -1 ∧ S2.1 6 9 = 0) (by
    rw [a1.f (by decide), a1.f (by decide), t3, t4]
    refine c4a (ins := ins) (up := upN m ins nu) (F := frN D m ins nu) hrl a3 hU.2.2.2.2.2.2.2.2.2 hU.2.2.2.2.2.2.1 (fun S2 c1 c2 c3 c4 c5 c6 => ⟨rfl, a1.trans (c1.mono (by decide) (by decide)), (c1.f (by decide)).trans a2, a3.of c1 (by decide), ?_, c3, c4, c5, c6⟩)
    rw [eF] at c2
    exact ⟨c2.1, c2.2.1, c2.2.2.1, fun r hr => (c2.2.2.2 r hr).trans (by have := eb r hr; rw [eF] at this; exact this)⟩) ?_
  rintro S2 ⟨c1, c2, c3, c4, c5, c6, c7, c8⟩
  refine b141_39 (P := fun S3 => S3 = setI (setI (setI S2 7 3 (Int32.ofNat rl)) 7 4 (-1)) 7 6 0) (by
    rw [c1.f (by decide), t4]
    exact b62_0 (Or.inl rfl) ⟨rfl, rfl⟩) ?_
  rintro _ rfl
  refine b141_50 (P := fun S4 => S4 = setI (setI (setI (setI (setI (setI S2 7 3 (Int32.ofNat rl)) 7 4 (-1)) 7 6 0) 8 4 (-1)) 8 5 (-1)) 8 6 (-1)) (b37_0 ⟨rfl, rfl⟩) ?_
  rintro _ rfl
  refine b141_57 (P := fun S5 => S5 = setI (setI (setI (setI (setI (setI (setI (setI S2 7 3 (Int32.ofNat rl)) 7 4 (-1)) 7 6 0) 8 4 (-1)) 8 5 (-1)) 8 6 (-1)) 9 5 0) 9 6 0) (b19_0 (Or.inl rfl) (Or.inl rfl) ⟨rfl, rfl⟩) ?_
  rintro _ rfl
  refine b141_64 (P := fun S6 => S6 = setI (setI (setI (setI (setI (setI (setI (setI (setI S2 7 3 (Int32.ofNat rl)) 7 4 (-1)) 7 6 0) 8 4 (-1)) 8 5 (-1)) 8 6 (-1)) 9 5 0) 9 6 0) 10 8 0) (b82_0 (Or.inl rfl) ⟨rfl, rfl⟩) ?_
  rintro _ rfl
  have fz : Fz [(7, 3), (7, 4), (7, 6), (8, 4), (8, 5), (8, 6), (9, 5), (9, 6), (10, 8)] [] S2 (setI (setI (setI (setI (setI (setI (setI (setI (setI S2 7 3 (Int32.ofNat rl)) 7 4 (-1)) 7 6 0) 8 4 (-1)) 8 5 (-1)) 8 6 (-1)) 9 5 0) 9 6 0) 10 8 0) := ((((((((Fz.refl.seti (by decide)).seti (by decide)).seti (by decide)).seti (by decide)).seti (by decide)).seti (by decide)).seti (by decide)).seti (by decide)).seti (by decide)
  have g73 : (setI (setI (setI (setI (setI (setI (setI (setI (setI S2 7 3 (Int32.ofNat rl)) 7 4 (-1)) 7 6 0) 8 4 (-1)) 8 5 (-1)) 8 6 (-1)) 9 5 0) 9 6 0) 10 8 0).1 7 3 = Int32.ofNat rl := rfl
  have g74 : (setI (setI (setI (setI (setI (setI (setI (setI (setI S2 7 3 (Int32.ofNat rl)) 7 4 (-1)) 7 6 0) 8 4 (-1)) 8 5 (-1)) 8 6 (-1)) 9 5 0) 9 6 0) 10 8 0).1 7 4 = -1 := rfl
  have g76 : (setI (setI (setI (setI (setI (setI (setI (setI (setI S2 7 3 (Int32.ofNat rl)) 7 4 (-1)) 7 6 0) 8 4 (-1)) 8 5 (-1)) 8 6 (-1)) 9 5 0) 9 6 0) 10 8 0).1 7 6 = 0 := rfl
  have g84 : (setI (setI (setI (setI (setI (setI (setI (setI (setI S2 7 3 (Int32.ofNat rl)) 7 4 (-1)) 7 6 0) 8 4 (-1)) 8 5 (-1)) 8 6 (-1)) 9 5 0) 9 6 0) 10 8 0).1 8 4 = -1 := rfl
  have g85 : (setI (setI (setI (setI (setI (setI (setI (setI (setI S2 7 3 (Int32.ofNat rl)) 7 4 (-1)) 7 6 0) 8 4 (-1)) 8 5 (-1)) 8 6 (-1)) 9 5 0) 9 6 0) 10 8 0).1 8 5 = -1 := rfl
  have g86 : (setI (setI (setI (setI (setI (setI (setI (setI (setI S2 7 3 (Int32.ofNat rl)) 7 4 (-1)) 7 6 0) 8 4 (-1)) 8 5 (-1)) 8 6 (-1)) 9 5 0) 9 6 0) 10 8 0).1 8 6 = -1 := rfl
  have g95 : (setI (setI (setI (setI (setI (setI (setI (setI (setI S2 7 3 (Int32.ofNat rl)) 7 4 (-1)) 7 6 0) 8 4 (-1)) 8 5 (-1)) 8 6 (-1)) 9 5 0) 9 6 0) 10 8 0).1 9 5 = 0 := rfl
  have g96 : (setI (setI (setI (setI (setI (setI (setI (setI (setI S2 7 3 (Int32.ofNat rl)) 7 4 (-1)) 7 6 0) 8 4 (-1)) 8 5 (-1)) 8 6 (-1)) 9 5 0) 9 6 0) 10 8 0).1 9 6 = 0 := rfl
  have g108 : (setI (setI (setI (setI (setI (setI (setI (setI (setI S2 7 3 (Int32.ofNat rl)) 7 4 (-1)) 7 6 0) 8 4 (-1)) 8 5 (-1)) 8 6 (-1)) 9 5 0) 9 6 0) 10 8 0).1 10 8 = 0 := rfl
  generalize setI (setI (setI (setI (setI (setI (setI (setI (setI S2 7 3 (Int32.ofNat rl)) 7 4 (-1)) 7 6 0) 8 4 (-1)) 8 5 (-1)) 8 6 (-1)) 9 5 0) 9 6 0) 10 8 0 = S6 at *
  refine b141_71 (K S6 (c1.trans (fz.mono (by decide) (by decide))) ((fz.f (by decide)).trans c2) ⟨c3.of fz (by decide), c4.of fz (by decide), (fz.f (by decide)).trans c5, ⟨Or.inl ((fz.f (by decide)).trans c6), Or.inl ((fz.f (by decide)).trans c7)⟩, Or.inl ((fz.f (by decide)).trans c8), g73, Or.inl g74, Or.inl g76, Or.inl g84, Or.inl g85, Or.inl g86, ⟨Or.inl g95, Or.inl g96⟩, Or.inl g108⟩)
end INV
