/-! THE FEWEST RAYS of a refused set -/
/-- a refused set's parts are no better: what has a refused part is refused -/
theorem rf_mono {m rl : Nat} {ins : Int32} {up : Nat → Int32} {F : List Int32} (hU : UW m rl ins up F) {s t : Int32} (hst : sb s t) (ht : sb t ins) (h : rfB m rl up F s = true) : rfB m rl up F t = true := by
  obtain ⟨u1, u2, u3, u4, u5, u6, u7, u8, u9, u10⟩ := id hU
  have h1 := (ref_iff (F := F) u1 u2 (sb_low (hst.trans ht) u3) u4 u5).1 h
  refine (ref_iff (F := F) u1 u2 (sb_low ht u3) u4 u5).2 (fun hx => h1 ?_)
  obtain ⟨Y, hV⟩ := hx
  refine ⟨Y &&& s, low_and hV.1, fun r hr hq j hj => hV.2.1 r hr (and_t.1 hq).1 j ⟨?_, (and_t.1 hj.2).1⟩, fun f hf q => ?_⟩
  · have hj1 := hj.1
    unfold bsS bes at *
    split
    · next h0 =>
      rw [if_pos h0] at hj1
      obtain ⟨a, b⟩ := and_t.1 hj1
      exact and_t.2 ⟨a, hst j b⟩
    · next h0 =>
      rw [if_neg h0] at hj1
      obtain ⟨a, f, hf, f1, f2⟩ := (tb_mates _ (by omega) j).1 hj1
      obtain ⟨f3, f4⟩ := mem_inF.1 hf
      exact (tb_mates _ (by omega) j).2 ⟨a, f, mem_inF.2 ⟨f3, f4.trans hst⟩, f1, f2⟩
  · obtain ⟨f1, f2⟩ := mem_inF.1 hf
    obtain ⟨k, k1, k2⟩ := and_e (hV.2.2 f (mem_inF.2 ⟨f1, f2.trans hst⟩))
    exact and0.1 q k (tb_lt k1) ⟨k1, and_t.2 ⟨k2, f2 k k1⟩⟩
/-- fewer rays, or as many and less as a number -/
def le2 (A B : Int32) : Prop := pcn A < pcn B ∨ (pcn A = pcn B ∧ A ≤ B)
theorem i_le_refl (A : Int32) : A ≤ A := by rw [Int32.le_iff_toInt_le]; omega
theorem le2.refl (A : Int32) : le2 A A := Or.inr ⟨rfl, i_le_refl A⟩
theorem le2.trans {A B C : Int32} (h : le2 A B) (h2 : le2 B C) : le2 A C := by
  rcases h with h | ⟨h, h'⟩ <;> rcases h2 with h2 | ⟨h2, h2'⟩
  · exact Or.inl (by omega)
  · exact Or.inl (by omega)
  · exact Or.inl (by omega)
  · refine Or.inr ⟨by omega, ?_⟩
    rw [Int32.le_iff_toInt_le] at *
    omega
theorem le2.anti {A B : Int32} (h : le2 A B) (h2 : le2 B A) : A = B := by
  rcases h with h | ⟨h, h'⟩ <;> rcases h2 with h2 | ⟨h2, h2'⟩
  · omega
  · omega
  · omega
  · rw [Int32.le_iff_toInt_le] at *
    exact Int32.toInt.inj (by omega)
/-- the one -/
def IsFew (rf : Int32 → Bool) (ins X : Int32) : Prop := rf X = true ∧ sb X ins ∧ ∀ R, rf R = true → sb R ins → le2 X R
theorem IsFew.uniq {rf : Int32 → Bool} {ins X Y : Int32} (h : IsFew rf ins X) (h2 : IsFew rf ins Y) : X = Y := le2.anti (h.2.2 Y h2.1 h2.2.1) (h2.2.2 X h.1 h.2.1)
section FEW
variable {b m rl : Nat} {ins : Int32} {up : Nat → Int32} {F : List Int32}
theorem c68 {d : Nat} {S : St} {x : Int32} {Q : Out → St → Prop} (K : ∀ S1, Fz [(7, 5)] [] S S1 → (S1.1 7 5 = S.1 7 5 ∨ S1.1 7 5 = x) → le2 (S1.1 7 5) (S.1 7 5) → le2 (S1.1 7 5) x → Q (.inl none) S1) : Wp (d + 1) b 68 0 [.ref 7, .int x] [] S Q := by
  have p1 := pcn_le x
  have p2 := pcn_le (S.1 7 5)
  refine b68_0 (s0 _) ?_
  rintro _ _ ⟨rfl, rfl⟩
  refine b68_4 (s0 _) ?_
  rintro _ _ ⟨rfl, rfl⟩
  have take : le2 x (S.1 7 5) → ∀ x2 x3, Wp (d + 1) b 68 31 [.ref 7, .int x, .int x2, .int x3] [] S Q := by
    intro h x2 x3
    refine b68_31 (b68_36 (K _ (Fz.refl.seti (by decide)) (Or.inr seti_same) ?_ ?_))
    · rw [seti_same]; exact h
    · rw [seti_same]; exact le2.refl _
  refine b68_12 (fun h => take (Or.inl ((i_lt (by omega) (by omega)).1 h)) _ _) (fun h => b68_18 (fun h2 => b68_36 (K S Fz.refl (Or.inl rfl) (le2.refl _) ?_)) (fun h2 => b68_23 (fun h3 => b68_36 (K S Fz.refl (Or.inl rfl) (le2.refl _) ?_)) (fun h3 => take ?_ _ _)))
  · have h' := mt (i_lt (by omega) (by omega)).2 h
    have h2' := mt (fun q => (i_inj (a := pcn x) (b := pcn (S.1 7 5)) (by omega) (by omega)).2 q) h2
    exact Or.inl (by omega)
  · have h2' := (i_inj (by omega) (by omega)).1 (Classical.not_not.1 h2)
    exact Or.inr ⟨h2'.symm, h3⟩
  · have h2' := (i_inj (by omega) (by omega)).1 (Classical.not_not.1 h2)
    refine Or.inr ⟨h2', ?_⟩
    rw [Int32.le_iff_toInt_le] at *
    omega
theorem c67 (hU : UW m rl ins up F) : ∀ (k dd deep : Nat) (set may : Int32) (S : St) (Q : Out → St → Prop), k + 28 ≤ dd → WB ins up F S → S.1 7 3 = Int32.ofNat rl → sb set ins → rfB m rl up F set = true → sb may set → pcn may < k → deep + k ≤ 40 →
    (∀ S1, Fz [(7, 5), (13, 2), (13, 4), (13, 5), (13, 6), (13, 7), (13, 8), (13, 9)] [29, 30] S S1 → le2 (S1.1 7 5) (S.1 7 5) → (S1.1 7 5 = S.1 7 5 ∨ (rfB m rl up F (S1.1 7 5) = true ∧ sb (S1.1 7 5) ins)) → (∀ R, rfB m rl up F R = true → sb R set → (∀ z, tb set z = true → tb R z = false → tb may z = true) → le2 (S1.1 7 5) R) → Q (.inl none) S1) →
    Wp dd 0 67 0 [.ref 7, .int set, .int may, .int (Int32.ofNat deep)] [] S Q := by
  intro k
  induction k with
  | zero => intro dd deep set may S Q hdd hW h7 hs hr hm hp; omega
  | succ k ih =>
    intro dd deep set may S Q hdd hW h7 hs hr hm hp hde K
    obtain ⟨e, rfl⟩ : ∃ e, dd = e + 28 := ⟨dd - 28, by omega⟩
    have set20 : Low 20 set := low_le (sb_low hs hU.2.2.1) hU.1
    refine b67_0 (P := fun S1 => Fz [(7, 5)] [] S S1 ∧ (S1.1 7 5 = S.1 7 5 ∨ S1.1 7 5 = set) ∧ le2 (S1.1 7 5) (S.1 7 5) ∧ le2 (S1.1 7 5) set) (c68 (d := e + 26) (fun S1 h1 h2 h3 h4 => ⟨rfl, h1, h2, h3, h4⟩)) ?_
    rintro S1 ⟨hF1, hc1, hl1, hl2⟩
    have hF1' := hF1.mono (fs' := [(7, 5), (13, 2), (13, 4), (13, 5), (13, 6), (13, 7), (13, 8), (13, 9)]) (as' := [29, 30]) (by decide) (by decide)
    -- the second loop: rays that can be left out, in rising order
    have second : ∀ j i (c : Int32) (S' : St), i + j = 20 → sb c may → pcn c ≤ k → (∀ z, tb c z = true → i ≤ z) → (∀ z, tb c z = true → rfB m rl up F (set &&& (bit z ^^^ -1)) = true) → Fz [(7, 5), (13, 2), (13, 4), (13, 5), (13, 6), (13, 7), (13, 8), (13, 9)] [29, 30] S S' → le2 (S'.1 7 5) (S.1 7 5) → (S'.1 7 5 = S.1 7 5 ∨ (rfB m rl up F (S'.1 7 5) = true ∧ sb (S'.1 7 5) ins)) →
        (∀ S2, Fz [(7, 5), (13, 2), (13, 4), (13, 5), (13, 6), (13, 7), (13, 8), (13, 9)] [29, 30] S S2 → le2 (S2.1 7 5) (S'.1 7 5) → (S2.1 7 5 = S.1 7 5 ∨ (rfB m rl up F (S2.1 7 5) = true ∧ sb (S2.1 7 5) ins)) → (∀ R, rfB m rl up F R = true → sb R set → ¬ R = set → (∀ z, tb set z = true → tb R z = false → tb c z = true) → le2 (S2.1 7 5) R) → Q (.inl none) S2) →
        Wp (e + 28) 0 67 81 [.ref 7, .int set, .int may, .int (Int32.ofNat deep), .int c, .int (Int32.ofNat i)] [] S' Q := by
      intro j
      induction j with
      | zero =>
        intro i c S' hi hcm hck hci hcr hF hle hcs K'
        refine b67_81 (fun _ => b67_138 (K' S' hF (le2.refl _) hcs (fun R hR hRs hne hx => ?_))) (fun h => absurd ((i_le (a := 20) (by omega) (by omega)).2 (by omega)) h)
        exfalso
        apply hne
        refine sb_anti hRs (fun z hz => bpos (fun ez => ?_))
        have h1 := hci z (hx z hz ez)
        have h2 := set20 z hz
        omega
      | succ j ihj =>
        intro i c S' hi hcm hck hci hcr hF hle hcs K'
        refine b67_81 (fun h => ?_) (fun _ => b67_88 (fun h => ?_) (fun _ => b67_94 (s146 _ (by omega)) ?_))
        · have := (i_le (a := 20) (by omega) (by omega)).1 h
          omega
        · have := (i_le (a := 45) (by omega) (by omega)).1 h
          omega
        · rintro _ _ ⟨rfl, rfl⟩
          refine b67_101 (fun h => b67_132 ?_) (fun h => ?_)
          · rw [i_suc]
            refine ihj (i + 1) c S' (by omega) hcm hck (fun z hz => ?_) hcr hF hle hcs K'
            have := hci z hz
            by_cases ez : z = i
            · subst ez; rw [bi0.1 h] at hz; cases hz
            · omega
          · have hti := bi1.1 h
            have only : ∀ z, tb (bit i) z = true → z = i := fun z hz => by
              rw [tb_bit (by omega)] at hz
              simpa using hz
            have tl : tb (bit i) i = true := by rw [tb_bit (by omega)]; simp
            have hc' : ∀ z, tb (c &&& (bit i ^^^ -1)) z = true ↔ (tb c z = true ∧ z ≠ i) := fun z => by
              rw [dif_t]
              constructor
              · rintro ⟨a, a2⟩
                exact ⟨a, fun q => by subst q; rw [tl] at a2; cases a2⟩
              · rintro ⟨a, a2⟩
                exact ⟨a, bneg (fun q => a2 (only z q))⟩
            have hlt : pcn (c &&& (bit i ^^^ -1)) < pcn c := pcn_lt (sb_andl _ _) (fun q => by
              have := ((hc' i).1 (by rw [q]; exact hti)).2
              exact this rfl)
            have csub : sb (c &&& (bit i ^^^ -1)) (set &&& (bit i ^^^ -1)) := fun z hz => dif_t.2 ⟨hm z (hcm z (dif_t.1 hz).1), (dif_t.1 hz).2⟩
            refine b67_104 (P := fun S2 => Fz [(7, 5), (13, 2), (13, 4), (13, 5), (13, 6), (13, 7), (13, 8), (13, 9)] [29, 30] S' S2 ∧ le2 (S2.1 7 5) (S'.1 7 5) ∧ (S2.1 7 5 = S'.1 7 5 ∨ (rfB m rl up F (S2.1 7 5) = true ∧ sb (S2.1 7 5) ins)) ∧ (∀ R, rfB m rl up F R = true → sb R (set &&& (bit i ^^^ -1)) → (∀ z, tb (set &&& (bit i ^^^ -1)) z = true → tb R z = false → tb (c &&& (bit i ^^^ -1)) z = true) → le2 (S2.1 7 5) R)) ?_ ?_
            · rw [i_suc]
              exact ih (e + 27) (deep + 1) (set &&& (bit i ^^^ -1)) (c &&& (bit i ^^^ -1)) S' _ (by omega) (hW.of hF (by decide)) ((hF.f (by decide)).trans h7) ((sb_andl _ _).trans hs) (hcr i hti) csub (by omega) (by omega) (fun S2 h1 h2 h3 h4 => ⟨rfl, h1, h2, h3, h4⟩)
            · rintro S2 ⟨hF2, hl3, hc3, hall⟩
              refine b67_132 ?_
              rw [i_suc]
              refine ihj (i + 1) (c &&& (bit i ^^^ -1)) S2 (by omega) ((sb_andl _ _).trans hcm) (by omega) (fun z hz => ?_) (fun z hz => hcr z ((hc' z).1 hz).1) (hF.trans hF2) (hl3.trans hle) ?_ (fun S3 k1 k2 k3 k4 => K' S3 k1 (k2.trans hl3) k3 (fun R hR hRs hne hx => ?_))
              · obtain ⟨z1, z2⟩ := (hc' z).1 hz
                have := hci z z1
                omega
              · rcases hc3 with q | q
                · rw [q]; exact hcs
                · exact Or.inr q
              · cases eR : tb R i
                · refine k2.trans (hall R hR (fun z hz => dif_t.2 ⟨hRs z hz, bneg (fun q => ?_)⟩) (fun z hz hz2 => ?_))
                  · rw [only z q, eR] at hz; cases hz
                  · obtain ⟨a1, a2⟩ := dif_t.1 hz
                    refine (hc' z).2 ⟨hx z a1 hz2, fun q => ?_⟩
                    subst q
                    rw [tl] at a2; cases a2
                · refine k4 R hR hRs hne (fun z hz hz2 => (hc' z).2 ⟨hx z hz hz2, fun q => ?_⟩)
                  subst q
                  rw [eR] at hz2; cases hz2
    -- the first loop: which can be left out
    have first : ∀ j i (c : Int32) (S' : St), i + j = 20 → (∀ z, tb c z = true ↔ (z < i ∧ tb may z = true ∧ rfB m rl up F (set &&& (bit z ^^^ -1)) = true)) → Fz [(7, 5), (13, 2), (13, 4), (13, 5), (13, 6), (13, 7), (13, 8), (13, 9)] [29, 30] S S' → S'.1 7 5 = S1.1 7 5 → Wp (e + 28) 0 67 11 [.ref 7, .int set, .int may, .int (Int32.ofNat deep), .int c, .int (Int32.ofNat i)] [] S' Q := by
      intro j
      induction j with
      | zero =>
        intro i c S' hi hc hF e5
        have hci : ∀ z, tb c z = true ↔ (tb may z = true ∧ rfB m rl up F (set &&& (bit z ^^^ -1)) = true) := fun z => by
          rw [hc]
          constructor
          · rintro ⟨_, q⟩; exact q
          · rintro ⟨q1, q2⟩
            have := set20 z (hm z q1)
            exact ⟨by omega, q1, q2⟩
        have hcm : sb c may := fun z hz => ((hci z).1 hz).1
        have p1 := pcn_lown set20 (by omega)
        have p2 := pcn_le (S'.1 7 5)
        have p3 : pcn c ≤ pcn set := pcn_mono (hcm.trans hm)
        have p4 : pcn c ≤ k := by
          have := pcn_mono hcm
          omega
        have hle : le2 (S'.1 7 5) (S.1 7 5) := by rw [e5]; exact hl1
        have hcs : S'.1 7 5 = S.1 7 5 ∨ (rfB m rl up F (S'.1 7 5) = true ∧ sb (S'.1 7 5) ins) := by
          rw [e5]
          rcases hc1 with q | q
          · exact Or.inl q
          · rw [q]; exact Or.inr ⟨hr, hs⟩
        -- what is left out of a refused part could be left out
        have can : ∀ R, rfB m rl up F R = true → sb R set → (∀ z, tb set z = true → tb R z = false → tb may z = true) → ∀ z, tb set z = true → tb R z = false → tb c z = true := by
          intro R hR hRs hx z hz hz2
          refine (hci z).2 ⟨hx z hz hz2, rf_mono hU (fun q hq => dif_t.2 ⟨hRs q hq, bneg (fun w => ?_)⟩) ((sb_andl _ _).trans hs) hR⟩
          rw [tb_bit (tb_lt hz)] at w
          have : q = z := by simpa using w
          subst this
          rw [hq] at hz2; cases hz2
        refine b67_11 (fun _ => b67_57 (s0 _) ?_) (fun h => absurd ((i_le (a := 20) (by omega) (by omega)).2 (by omega)) h)
        rintro _ _ ⟨rfl, rfl⟩
        refine b67_61 (s0 _) ?_
        rintro _ _ ⟨rfl, rfl⟩
        refine b67_66 (s0 _) ?_
        rintro _ _ ⟨rfl, rfl⟩
        rw [i_sub p3]
        refine b67_74 (fun _ => b67_78 (second 20 0 c S' (by omega) hcm p4 (fun z _ => Nat.zero_le _) (fun z hz => ((hci z).1 hz).2) hF hle hcs (fun S2 k1 k2 k3 k4 => K S2 k1 (k2.trans hle) k3 (fun R hR hRs hx => ?_)))) (fun h => b67_77 (K S' hF hle hcs (fun R hR hRs hx => ?_)))
        · by_cases eR : R = set
          · subst eR
            refine k2.trans ?_
            rw [e5]; exact hl2
          · exact k4 R hR hRs eR (can R hR hRs hx)
        · have h' := mt (i_le (by omega) (by omega)).2 h
          refine Or.inl ?_
          -- R has all that can't be left out
          have hsub : sb (set &&& (c ^^^ -1)) R := fun z hz => by
            obtain ⟨a1, a2⟩ := dif_t.1 hz
            refine bpos (fun q => ?_)
            rw [can R hR hRs hx z a1 q] at a2
            cases a2
          have hcnt : pcn (set &&& (c ^^^ -1)) = pcn set - pcn c := by
            have e1 : (set &&& (c ^^^ -1)) &&& c = 0 := and0.2 (fun z _ q => by
              have := (dif_t.1 q.1).2
              rw [q.2] at this; cases this)
            have e2 : (set &&& (c ^^^ -1)) ||| c = set := by
              refine sb_anti (sb_or (sb_andl _ _) (hcm.trans hm)) (fun z hz => ?_)
              cases ez : tb c z
              · exact or_t.2 (Or.inl (dif_t.2 ⟨hz, ez⟩))
              · exact or_t.2 (Or.inr ez)
            have := pcn_or e1
            rw [e2] at this
            omega
          have := pcn_mono hsub
          omega
      | succ j ihj =>
        intro i c S' hi hc hF e5
        have tl : tb (bit i) i = true := by rw [tb_bit (by omega)]; simp
        have only : ∀ z, tb (bit i) z = true → z = i := fun z hz => by
          rw [tb_bit (by omega)] at hz
          simpa using hz
        have skip : ¬ (tb may i = true ∧ rfB m rl up F (set &&& (bit i ^^^ -1)) = true) → ∀ S2, Fz [(7, 5), (13, 2), (13, 4), (13, 5), (13, 6), (13, 7), (13, 8), (13, 9)] [29, 30] S S2 → S2.1 7 5 = S1.1 7 5 → Wp (e + 28) 0 67 51 [.ref 7, .int set, .int may, .int (Int32.ofNat deep), .int c, .int (Int32.ofNat i)] [] S2 Q := by
          intro hn S2 hF2 e52
          refine b67_51 ?_
          rw [i_suc]
          refine ihj (i + 1) c S2 (by omega) (fun z => ?_) hF2 e52
          rw [hc]
          constructor
          · rintro ⟨q1, q2⟩; exact ⟨by omega, q2⟩
          · rintro ⟨q1, q2⟩
            by_cases ez : z = i
            · subst ez; exact absurd q2 hn
            · exact ⟨by omega, q2⟩
        refine b67_11 (fun h => ?_) (fun _ => b67_18 (s146 _ (by omega)) ?_)
        · have := (i_le (a := 20) (by omega) (by omega)).1 h
          omega
        · rintro _ _ ⟨rfl, rfl⟩
          refine b67_24 (fun h => skip (fun q => by rw [bi0.1 h] at q; cases q.1) S' hF e5) (fun h => b67_27 (P := fun v S2 => v = bi (rfB m rl up F (set &&& (bit i ^^^ -1))) ∧ Fz [(13, 2), (13, 4), (13, 5), (13, 6), (13, 7), (13, 8), (13, 9)] [29, 30] S' S2) (c64 (d := e + 1) hU (hW.of hF (by decide)) ((hF.f (by decide)).trans h7) ((sb_andl _ _).trans hs) (fun S2 h => ⟨_, rfl, rfl, h⟩)) ?_)
          rintro _ S2 ⟨rfl, hF2⟩
          have hF2' := hF.trans (hF2.mono (fs' := [(7, 5), (13, 2), (13, 4), (13, 5), (13, 6), (13, 7), (13, 8), (13, 9)]) (as' := [29, 30]) (by decide) (by decide))
          have e52 : S2.1 7 5 = S1.1 7 5 := (hF2.f (by decide)).trans e5
          refine b67_39 (fun q => skip (fun w => by rw [bi0.1 q] at w; cases w.2) S2 hF2' e52) (fun q => b67_42 (b67_51 ?_))
          rw [i_suc]
          refine ihj (i + 1) (c ||| bit i) S2 (by omega) (fun z => ?_) hF2' e52
          rw [or_t, hc]
          constructor
          · rintro (⟨q1, q2⟩ | q1)
            · exact ⟨by omega, q2⟩
            · rw [only z q1]; exact ⟨by omega, bi1.1 h, bi1.1 q⟩
          · rintro ⟨q1, q2⟩
            by_cases ez : z = i
            · subst ez; exact Or.inr tl
            · exact Or.inl ⟨by omega, q2⟩
    exact b67_5 (first 20 0 0 S1 (by omega) (fun z => ⟨(fun q => by rw [tb_zero] at q; cases q), fun q => absurd q.1 (by omega)⟩) hF1' rfl)
/-- the fewest, as they are kept -/
def CF (m rl : Nat) (ins : Int32) (up : Nat → Int32) (F : List Int32) (S : St) : Prop := S.1 7 6 = 0 ∨ ((rfB m rl up F ins = true → IsFew (rfB m rl up F) ins (S.1 7 5)) ∧ (rfB m rl up F ins = false → S.1 7 5 = 0))
theorem c66 {d : Nat} {S : St} {Q : Out → St → Prop} (hU : UW m rl ins up F) (hW : WB ins up F S) (h7 : S.1 7 3 = Int32.ofNat rl) (hC : CHa 20 (bes rl up F) F S) (hR : CR m rl ins up F S) (hCF : CF m rl ins up F S) (K : ∀ S1 v, Fz [(6, 5), (6, 6), (7, 4), (7, 5), (7, 6), (13, 2), (13, 4), (13, 5), (13, 6), (13, 7), (13, 8), (13, 9)] [29, 30] S S1 → CR m rl ins up F S1 → CF m rl ins up F S1 → (rfB m rl up F ins = true → IsFew (rfB m rl up F) ins v) → (rfB m rl up F ins = false → v = 0) → Q (.inl (some (.int v))) S1) : Wp (d + 50) b 66 0 [.ref 7] [] S Q := by
  refine b66_0 (fun h => b66_54 ?_) (fun h => b66_7 (Or.inr rfl) (P := fun v S1 => v = bi (rfB m rl up F ins) ∧ Fz [(6, 5), (6, 6), (7, 4), (7, 5), (7, 6), (13, 2), (13, 4), (13, 5), (13, 6), (13, 7), (13, 8), (13, 9)] [29, 30] S S1 ∧ S1.1 7 4 = bi (rfB m rl up F ins) ∧ S1.1 7 5 = 0) ?_ ?_)
  · rcases hCF with q | q
    · exact absurd q h
    · exact K S _ Fz.refl hR (Or.inr q) q.1 q.2
  · have hF0 : Fz [(6, 5), (6, 6), (7, 4), (7, 5), (7, 6), (13, 2), (13, 4), (13, 5), (13, 6), (13, 7), (13, 8), (13, 9)] [29, 30] S (setI (setI S 7 6 1) 7 5 0) := (Fz.refl.seti (by decide)).seti (by decide)
    refine c63 (d := d + 23) hU (hC.of hF0 (by decide)) ?_ (fun S1 h1 h2 => ⟨_, rfl, rfl, hF0.trans (h1.mono (by decide) (by decide)), h2, ?_⟩)
    · unfold CR
      rw [seti_ne (by decide), seti_ne (by decide)]
      exact hR
    · rw [h1.f (by decide), seti_same]
  · rintro _ S1 ⟨rfl, hF1, h4, h5⟩
    refine b66_21 (fun h => b66_54 ?_) (fun h => b66_24 (P := fun S2 => Fz [(6, 5), (6, 6), (7, 4), (7, 5), (7, 6), (13, 2), (13, 4), (13, 5), (13, 6), (13, 7), (13, 8), (13, 9)] [29, 30] S S2 ∧ S2.1 7 4 = bi (rfB m rl up F ins) ∧ IsFew (rfB m rl up F) ins (S2.1 7 5)) ?_ ?_)
    · have hr := bi0.1 h
      exact K S1 _ hF1 (Or.inr h4) (Or.inr ⟨(fun q => by rw [hr] at q; cases q), fun _ => h5⟩) (fun q => by rw [hr] at q; cases q) (fun _ => h5)
    · have hr := bi1.1 h
      have e1 : S1.1 5 1 = ins := (hF1.f (by decide)).trans hW.1
      have e2 : (setI S1 7 5 (S1.1 5 1)).1 5 1 = ins := e1
      rw [e2, e1]
      have hF2 := hF1.seti (j := 7) (k := 5) (v := ins) (by decide)
      refine c67 hU 21 (d + 49) 0 ins ins _ _ (by omega) (hW.of hF2 (by decide)) ((hF2.f (by decide)).trans h7) (sb.refl _) hr (sb.refl _) ?_ (by omega) (fun S2 k1 k2 k3 k4 => ⟨rfl, hF2.trans (k1.mono (by decide) (by decide)), ?_, ?_⟩)
      · have := pcn_lown hU.2.2.1 (by have := hU.1; omega)
        have := hU.1
        omega
      · rw [k1.f (by decide), seti_ne (by decide)]; exact h4
      · rw [seti_same] at k3
        refine ⟨?_, ?_, fun R hR hRi => k4 R hR hRi (fun z hz _ => hz)⟩
        · rcases k3 with q | q
          · rw [q]; exact hr
          · exact q.1
        · rcases k3 with q | q
          · rw [q]; exact sb.refl _
          · exact q.2
    · rintro S2 ⟨hF2, h42, hfew⟩
      have hr := bi1.1 h
      exact b66_54 (K S2 _ hF2 (Or.inr h42) (Or.inr ⟨fun _ => hfew, (fun q => by rw [hr] at q; cases q)⟩) (fun _ => hfew) (fun q => by rw [hr] at q; cases q))
end FEW
