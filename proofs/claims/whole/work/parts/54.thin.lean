/-! SETS THAT ARE REFUSED, and what can be left out -/
/-- the world of the rays that are in, as it is told -/
def UW (m rl : Nat) (ins : Int32) (up : Nat → Int32) (F : List Int32) : Prop := m ≤ 20 ∧ rl ≤ 1 ∧ Low m ins ∧ (∀ r o, tb (up r) o = tb (up o) r) ∧ (∀ r, tb (up r) r = false) ∧ (∀ r o, tb (up r) o = true → tb ins o = true) ∧ (∀ f, f ∈ F → sb f ins) ∧ (∀ f, f ∈ F → ∀ r o, tb f r = true → tb f o = true → r ≠ o → tb (up r) o = true) ∧ (∀ f, f ∈ F → 2 ≤ pcn f ∧ pcn f < 20) ∧ F.length ≤ 300
def rfB (m rl : Nat) (up : Nat → Int32) (F : List Int32) (set : Int32) : Bool := (chs m rl up F set).isEmpty
section THIN
variable {b m rl : Nat} {ins : Int32} {up : Nat → Int32} {F : List Int32}
theorem uw_wd (h : UW m rl ins up F) : Wd (bes rl up F) F m ins := by
  obtain ⟨u1, u2, u3, u4, u5, u6, u7, u8, u9, u10⟩ := h
  refine ⟨u1, u3, fun r hr o ho => ?_, fun r o hr h => ?_, u7, fun f hf r o h1 h2 h3 => ?_, fun f hf => (u9 f hf).1, fun r hr => bneg (fun e => ?_)⟩
  · unfold bes at ho
    split at ho
    · exact u6 r o ho
    · obtain ⟨_, f, hf, _, q⟩ := (tb_mates F (by omega) o).1 ho
      exact u7 f hf o q
  · unfold bes at *
    split
    · next h0 => rw [if_pos h0] at h; rw [u4]; exact h
    · next h0 =>
      rw [if_neg h0] at h
      obtain ⟨q, f, hf, f1, f2⟩ := (tb_mates F (by omega) o).1 h
      have : o < m := u3 o (u7 f hf o f2)
      exact (tb_mates F (by omega) r).2 ⟨fun e => q e.symm, f, hf, f2, f1⟩
  · unfold bes
    split
    · exact u8 f hf r o h1 h2 h3
    · have : r < m := u3 r (u7 f hf r h1)
      exact (tb_mates F (by omega) o).2 ⟨fun e => h3 e.symm, f, hf, h1, h2⟩
  · unfold bes at e
    split at e
    · rw [u5] at e; cases e
    · exact ((tb_mates F (by omega) r).1 e).1 rfl
theorem uw_low (h : UW m rl ins up F) : (∀ f, f ∈ F → Low m f) ∧ (∀ r, r < m → Low m (bes rl up F r)) := ⟨fun f hf => sb_low (h.2.2.2.2.2.2.1 f hf) h.2.2.1, fun r hr => sb_low ((uw_wd h).2.2.1 r hr) h.2.2.1⟩
theorem uw_sub (h : UW m rl ins up F) (set : Int32) : (∀ f, f ∈ inF set F → Low m f) ∧ (∀ r, r < m → Low m (bsS rl up F set r)) ∧ (∀ f, f ∈ inF set F → pcn f < 20) ∧ Start (bsS rl up F set) (inF set F) m 0 0 := by
  obtain ⟨u1, u2, u3, u4, u5, u6, u7, u8, u9, u10⟩ := h
  refine ⟨fun f hf => sb_low (u7 f (mem_inF.1 hf).1) u3, fun r hr o ho => ?_, fun f hf => (u9 f (mem_inF.1 hf).1).2, fun k hk => ?_, fun r hr hq => ?_, fun f hf hs => ?_⟩
  · unfold bsS bes at ho
    split at ho
    · exact u3 o (u6 r o (sb_andl _ _ o ho))
    · obtain ⟨_, f, hf, _, q⟩ := (tb_mates _ (by omega) o).1 ho
      exact u3 o (u7 f (mem_inF.1 hf).1 o q)
  · rw [tb_zero] at hk; exact absurd hk.1 (by decide)
  · rw [tb_zero] at hq; cases hq
  · have := (u9 f (mem_inF.1 hf).1).1
    have e : f = 0 := sb_anti hs (sb_zero _)
    rw [e, pcn_zero] at this
    omega
theorem CHb.le {bs : Nat → Int32} {S : St} (h : CHb 20 bs F S) (hm : m ≤ 20) : CHb m bs F S := ⟨h.1, h.2.1, h.2.2.1, fun r hr => h.2.2.2 r (by omega)⟩
theorem rf_valid (h : UW m rl ins up F) {set : Int32} (hs : sb set ins) {c : Bool} (hc : c = true ↔ ∃ Y, Valid (bsS rl up F set) (inF set F) m Y ∧ sb 0 Y ∧ ∀ q, ¬ (tb Y q = true ∧ tb 0 q = true)) : (!c) = rfB m rl up F set := by
  obtain ⟨u1, u2, u3, u4, u5, u6, u7, u8, u9, u10⟩ := h
  have hr := ref_iff (F := F) u1 u2 (sb_low hs u3) u4 u5
  have hc2 : c = true ↔ ∃ Y, Valid (bsS rl up F set) (inF set F) m Y := by
    rw [hc]
    constructor
    · rintro ⟨Y, q, _⟩; exact ⟨Y, q⟩
    · rintro ⟨Y, q⟩
      exact ⟨Y, q, sb_zero _, fun z hz => by rw [tb_zero] at hz; exact absurd hz.2 (by decide)⟩
  unfold rfB
  cases e : (chs m rl up F set).isEmpty
  · cases c
    · have := hr.2 (fun q => by have := hc2.2 q; cases this)
      rw [e] at this; cases this
    · rfl
  · cases c
    · rfl
    · exact absurd (hc2.1 rfl) (hr.1 e)
theorem c64 {d : Nat} {S : St} {set : Int32} {Q : Out → St → Prop} (hU : UW m rl ins up F) (hW : WB ins up F S) (h7 : S.1 7 3 = Int32.ofNat rl) (hs : sb set ins) (K : ∀ S1, Fz [(13, 2), (13, 4), (13, 5), (13, 6), (13, 7), (13, 8), (13, 9)] [29, 30] S S1 → Q (.inl (some (.int (bi (rfB m rl up F set))))) S1) : Wp (d + 26) b 64 0 [.ref 7, .int set] [] S Q := by
  obtain ⟨s1, s2, s3, s4⟩ := uw_sub hU set
  refine b64_0 (P := fun S1 => Fz [(13, 2), (13, 4), (13, 5), (13, 6), (13, 7), (13, 8), (13, 9)] [29, 30] S S1 ∧ CHb 20 (bsS rl up F set) (inF set F) S1) ?_ ?_
  · rw [h7]
    exact c4b (d := d + 23) (up := up) (ins := ins) hU.2.1 hW hU.2.2.2.2.2.2.2.2.2 hU.2.2.2.2.2.2.1 (fun S1 h1 h2 _ _ _ _ => ⟨rfl, h1.mono (by decide) (by decide), h2⟩)
  · rintro S1 ⟨hF1, hC1⟩
    refine b64_12 (P := fun v S2 => ∃ c : Bool, v = bi c ∧ Fz [(13, 5), (13, 6)] [] S1 S2 ∧ (c = true ↔ ∃ Y, Valid (bsS rl up F set) (inF set F) m Y ∧ sb 0 Y ∧ ∀ q, ¬ (tb Y q = true ∧ tb 0 q = true))) ?_ ?_
    · exact c8b hU.1 s1 s2 s3 21 (d + 25) 0 0 0 S1 _ (by omega) (hC1.le hU.1) (low_zero _) (low_zero _) (by omega) (by omega) s4 (fun S2 c h1 h2 => ⟨_, rfl, c, rfl, h1, h2⟩)
    · rintro _ S2 ⟨c, rfl, hF2, hc⟩
      have k := K S2 (hF1.trans (hF2.mono (by decide) (by decide)))
      rw [← rf_valid hU hs hc] at k
      cases c with
      | true => exact b64_22 (fun _ => b64_29 (b64_30 (Or.inl rfl) k)) (fun q => absurd q (by decide))
      | false => exact b64_22 (fun q => absurd rfl q) (fun _ => b64_25 (b64_30 (Or.inr rfl) k))
theorem bsS_ins (h : UW m rl ins up F) (r : Nat) (hr : r < m) : bsS rl up F ins r = bes rl up F r ∧ inF ins F = F := by
  obtain ⟨u1, u2, u3, u4, u5, u6, u7, u8, u9, u10⟩ := h
  have e := inF_all u7
  refine ⟨?_, e⟩
  unfold bsS
  rw [e]
  unfold bes
  split
  · exact sb_anti (sb_andl _ _) (fun k hk => and_t.2 ⟨hk, u6 r k hk⟩)
  · rfl
theorem valid_congr {bs bs' : Nat → Int32} {Y : Int32} (h : ∀ r, r < m → bs r = bs' r) : Valid bs F m Y ↔ Valid bs' F m Y := by
  unfold Valid
  constructor
  · rintro ⟨a, b, c⟩
    exact ⟨a, fun r hr => by rw [← h r hr]; exact b r hr, c⟩
  · rintro ⟨a, b, c⟩
    exact ⟨a, fun r hr => by rw [h r hr]; exact b r hr, c⟩
/-- whether all is refused, as it is kept -/
def CR (m rl : Nat) (ins : Int32) (up : Nat → Int32) (F : List Int32) (S : St) : Prop := S.1 7 4 = -1 ∨ S.1 7 4 = bi (rfB m rl up F ins)
theorem c63 {d : Nat} {S : St} {Q : Out → St → Prop} (hU : UW m rl ins up F) (hC : CHa 20 (bes rl up F) F S) (hR : CR m rl ins up F S) (K : ∀ S1, Fz [(6, 5), (6, 6), (7, 4)] [] S S1 → S1.1 7 4 = bi (rfB m rl up F ins) → Q (.inl (some (.int (bi (rfB m rl up F ins))))) S1) : Wp (d + 26) b 63 0 [.ref 7] [] S Q := by
  have fin : ∀ S1, Fz [(6, 5), (6, 6), (7, 4)] [] S S1 → S1.1 7 4 = bi (rfB m rl up F ins) → Wp (d + 26) b 63 30 [.ref 7] [] S1 Q := by
    intro S1 hF h
    have k := K S1 hF h
    refine b63_30 (fun q => b63_42 (b63_43 (Or.inl rfl) ?_)) (fun q => b63_38 (b63_43 (Or.inr rfl) ?_))
    · rw [h] at q
      cases e : rfB m rl up F ins
      · rw [e] at k; exact k
      · rw [e] at q; exact absurd rfl q
    · rw [h] at q
      have q := Classical.not_not.1 q
      cases e : rfB m rl up F ins
      · rw [e] at q; exact absurd q (by decide)
      · rw [e] at k; exact k
  refine b63_0 (fun h => fin S Fz.refl ?_) (fun h => b63_8 (P := fun v S1 => v = bi (!rfB m rl up F ins) ∧ Fz [(6, 5), (6, 6)] [] S S1) ?_ ?_)
  · rcases hR with q | q
    · exact absurd q h
    · exact q
  · obtain ⟨s1, s2, s3, s4⟩ := uw_sub hU ins
    have eb := fun r hr => (bsS_ins hU r hr).1
    have ei := inF_all hU.2.2.2.2.2.2.1
    obtain ⟨l1, l2⟩ := uw_low hU
    refine c8a hU.1 l1 l2 (fun f hf => (hU.2.2.2.2.2.2.2.2.1 f hf).2) 21 (d + 25) 0 0 0 S _ (by omega) (hC.le hU.1) (low_zero _) (low_zero _) (by omega) (by omega) (good_begin (goo0 (uw_wd hU))) (fun S1 c h1 h2 => ⟨_, rfl, ?_, h1⟩)
    rw [← rf_valid hU (sb.refl _) (c := c), Bool.not_not]
    rw [h2, ei]
    constructor
    · rintro ⟨Y, q, q2⟩; exact ⟨Y, (valid_congr (fun r hr => (eb r hr).symm)).1 q, q2⟩
    · rintro ⟨Y, q, q2⟩; exact ⟨Y, (valid_congr eb).1 q, q2⟩
  · rintro _ S1 ⟨rfl, hF⟩
    have hF' := hF.mono (fs' := [(6, 5), (6, 6), (7, 4)]) (as' := []) (by decide) (by decide)
    cases e : rfB m rl up F ins
    · refine b63_19 (fun q => absurd q (by decide)) (fun _ => b63_22 (b63_27 (fin _ (hF'.seti (by decide)) ?_)))
      rw [seti_same, e]; rfl
    · refine b63_19 (fun _ => b63_26 (b63_27 (fin _ (hF'.seti (by decide)) ?_))) (fun q => absurd rfl q)
      rw [seti_same, e]; rfl
/-- one ray left out, if it can be -/
def spS (rf : Int32 → Bool) (s : Int32) (r : Nat) : Int32 := if tb s r = true ∧ rf (s &&& (bit r ^^^ -1)) = true then s &&& (bit r ^^^ -1) else s
def spU (rf : Int32 → Bool) (ray : Nat → Nat) : Nat → Int32 → Int32
  | 0, s => s
  | n + 1, s => spS rf (spU rf ray n s) (ray n)
theorem spS_sb (rf : Int32 → Bool) (s : Int32) (r : Nat) : sb (spS rf s r) s := by
  unfold spS
  split
  · exact sb_andl _ _
  · exact sb.refl _
theorem spU_sb (rf : Int32 → Bool) (ray : Nat → Nat) (n : Nat) (s : Int32) : sb (spU rf ray n s) s := by
  induction n with
  | zero => exact sb.refl _
  | succ n ih => exact (spS_sb _ _ _).trans ih
theorem spS_out {rf : Int32 → Bool} {s : Int32} {r : Nat} (h : tb s r = false) : spS rf s r = s := by
  unfold spS
  rw [if_neg (fun q => by rw [h] at q; cases q.1)]
def rayC (back : Bool) (i : Nat) : Nat := if back = true then 19 - i else i
def rayM (m : Nat) (back : Bool) (i : Nat) : Nat := if back = true then m - 1 - i else i
/-- both leave out the same -/
theorem sp_same (rf : Int32 → Bool) (hm : m ≤ 20) {s : Int32} (hs : Low m s) (back : Bool) : spU rf (rayC back) 20 s = spU rf (rayM m back) m s := by
  cases back with
  | false =>
    have h : ∀ k, k ≤ m → spU rf (rayC false) k s = spU rf (rayM m false) k s := by
      intro k
      induction k with
      | zero => intro _; rfl
      | succ k ih =>
        intro hk
        show spS rf _ _ = spS rf _ _
        rw [ih (by omega)]; rfl
    have h2 : ∀ k, spU rf (rayC false) (m + k) s = spU rf (rayC false) m s := by
      intro k
      induction k with
      | zero => rfl
      | succ k ih =>
        show spS rf (spU rf (rayC false) (m + k) s) (m + k) = _
        rw [spS_out (bneg (fun e => ?_)), ih]
        have := hs _ (spU_sb _ _ _ _ _ e)
        omega
    have := h2 (20 - m)
    rw [show m + (20 - m) = 20 by omega] at this
    rw [this, h m (Nat.le_refl _)]
  | true =>
    have h1 : ∀ k, k ≤ 20 - m → spU rf (rayC true) k s = s := by
      intro k
      induction k with
      | zero => intro _; rfl
      | succ k ih =>
        intro hk
        show spS rf (spU rf (rayC true) k s) (19 - k) = s
        rw [ih (by omega), spS_out (bneg (fun e => ?_))]
        have := hs _ e
        omega
    have h2 : ∀ k, k ≤ m → spU rf (rayC true) (20 - m + k) s = spU rf (rayM m true) k s := by
      intro k
      induction k with
      | zero => intro _; exact h1 _ (Nat.le_refl _)
      | succ k ih =>
        intro hk
        show spS rf (spU rf (rayC true) (20 - m + k) s) (19 - (20 - m + k)) = spS rf _ (m - 1 - k)
        rw [ih (by omega), show 19 - (20 - m + k) = m - 1 - k by omega]
    have := h2 m (Nat.le_refl _)
    rw [show 20 - m + m = 20 by omega] at this
    exact this
theorem c65 {d : Nat} {S : St} {back : Bool} {Q : Out → St → Prop} (hU : UW m rl ins up F) (hW : WB ins up F S) (h7 : S.1 7 3 = Int32.ofNat rl) (hC : CHa 20 (bes rl up F) F S) (hR : CR m rl ins up F S) (K : ∀ S1, Fz [(6, 5), (6, 6), (7, 4), (13, 2), (13, 4), (13, 5), (13, 6), (13, 7), (13, 8), (13, 9)] [29, 30] S S1 → CR m rl ins up F S1 → Q (.inl (some (.int (if rfB m rl up F ins = true then spU (rfB m rl up F) (rayC back) 20 ins else 0)))) S1) : Wp (d + 27) b 65 0 [.ref 7, .int (bi back)] [] S Q := by
  refine b65_0 (P := fun v S1 => v = bi (rfB m rl up F ins) ∧ Fz [(6, 5), (6, 6), (7, 4)] [] S S1 ∧ S1.1 7 4 = bi (rfB m rl up F ins)) (c63 hU hC hR (fun S1 h1 h2 => ⟨_, rfl, rfl, h1, h2⟩)) ?_
  rintro _ S1 ⟨rfl, hF1, h4⟩
  have hF1' := hF1.mono (fs' := [(6, 5), (6, 6), (7, 4), (13, 2), (13, 4), (13, 5), (13, 6), (13, 7), (13, 8), (13, 9)]) (as' := [29, 30]) (by decide) (by decide)
  refine b65_4 (fun h => b65_9 ?_) (fun h => b65_7 ?_)
  · have hr := bi1.1 h
    rw [(hF1.f (by decide)).trans hW.1]
    have loop : ∀ k i S', i + k = 20 → Fz [(6, 5), (6, 6), (7, 4), (13, 2), (13, 4), (13, 5), (13, 6), (13, 7), (13, 8), (13, 9)] [29, 30] S S' → S'.1 7 4 = bi (rfB m rl up F ins) → Wp (d + 27) b 65 19 [.ref 7, .int (bi back), .int (spU (rfB m rl up F) (rayC back) i ins), .int (Int32.ofNat i)] [] S' Q := by
      intro k
      induction k with
      | zero =>
        intro i S' hi hF h4'
        have e : i = 20 := by omega
        subst e
        refine b65_19 (fun _ => b65_73 ?_) (fun h => absurd ((i_le (a := 20) (by omega) (by omega)).2 (by omega)) h)
        have k0 := K S' hF (Or.inr h4')
        rw [if_pos hr] at k0
        exact k0
      | succ k ih =>
        intro i S' hi hF h4'
        have hsb := spU_sb (rfB m rl up F) (rayC back) i ins
        have r20 : rayC back i < 20 := by unfold rayC; split <;> omega
        have step : Wp (d + 27) b 65 37 [.ref 7, .int (bi back), .int (spU (rfB m rl up F) (rayC back) i ins), .int (Int32.ofNat i)] [.int (Int32.ofNat (rayC back i))] S' Q := by
          have next : ∀ (s : Int32) (S2 : St) (x4 x5 : Int32), s = spU (rfB m rl up F) (rayC back) (i + 1) ins → Fz [(6, 5), (6, 6), (7, 4), (13, 2), (13, 4), (13, 5), (13, 6), (13, 7), (13, 8), (13, 9)] [29, 30] S S2 → S2.1 7 4 = bi (rfB m rl up F ins) → Wp (d + 27) b 65 67 [.ref 7, .int (bi back), .int s, .int (Int32.ofNat i), .int x4, .int x5] [] S2 Q := by
            rintro s S2 x4 x5 rfl hF2 h42
            refine b65_67 ?_
            rw [i_suc]
            exact ih (i + 1) S2 (by omega) hF2 h42
          refine b65_37 (fun h => next _ S' _ _ ?_ hF h4') (fun h => b65_55 (P := fun v S2 => v = bi (rfB m rl up F (spU (rfB m rl up F) (rayC back) i ins &&& (bit (rayC back i) ^^^ -1))) ∧ Fz [(13, 2), (13, 4), (13, 5), (13, 6), (13, 7), (13, 8), (13, 9)] [29, 30] S' S2) ?_ ?_)
          · show _ = spS _ _ _
            rw [spS_out]
            have h' : spU (rfB m rl up F) (rayC back) i ins &&& (bit (rayC back i) ^^^ -1) = spU (rfB m rl up F) (rayC back) i ins := h
            refine bneg (fun e => ?_)
            rw [← h'] at e
            have := (dif_t.1 e).2
            rw [tb_bit (by omega)] at this
            simp at this
          · exact c64 (d := d) hU (hW.of hF (by decide)) ((hF.f (by decide)).trans h7) ((sb_andl _ _).trans hsb) (fun S2 h => ⟨_, rfl, rfl, h⟩)
          · rintro _ S2 ⟨rfl, hF2⟩
            have ht : tb (spU (rfB m rl up F) (rayC back) i ins) (rayC back i) = true := by
              refine bpos (fun e => h ?_)
              show _ &&& (bit (rayC back i) ^^^ -1) = _
              refine sb_anti (sb_andl _ _) (fun z hz => dif_t.2 ⟨hz, ?_⟩)
              rw [tb_bit (by omega)]
              refine decide_eq_false (fun q => ?_)
              subst q
              rw [hz] at e; cases e
            have hF2' := hF.trans (hF2.mono (fs' := [(6, 5), (6, 6), (7, 4), (13, 2), (13, 4), (13, 5), (13, 6), (13, 7), (13, 8), (13, 9)]) (as' := [29, 30]) (by decide) (by decide))
            have h42 : S2.1 7 4 = bi (rfB m rl up F ins) := (hF2.f (by decide)).trans h4'
            refine b65_61 (fun q => next _ S2 _ _ ?_ hF2' h42) (fun q => b65_64 (next _ S2 _ _ ?_ hF2' h42))
            · show _ = spS _ _ _
              unfold spS
              rw [if_neg (fun w => by rw [bi0.1 q] at w; cases w.2)]
            · show _ = spS _ _ _
              unfold spS
              rw [if_pos ⟨ht, bi1.1 q⟩]
              rfl
        refine b65_19 (fun h => ?_) (fun _ => b65_25 (fun h => b65_36 ?_) (fun h => b65_29 ?_))
        · have := (i_le (a := 20) (by omega) (by omega)).1 h
          omega
        · have hb := bi0.1 h
          subst hb
          exact step
        · have hb := bi1.1 h
          subst hb
          rw [show (19 : Int32) = Int32.ofNat 19 from rfl, i_sub (by omega)]
          exact step
    exact loop 20 0 S1 (by omega) hF1' h4
  · have hr := bi0.1 (Classical.not_not.1 h)
    have k0 := K S1 hF1' (Or.inr h4)
    rw [if_neg (by rw [hr]; decide)] at k0
    exact k0
end THIN
