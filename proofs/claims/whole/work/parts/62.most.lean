/-! MOST, APART: both -/
theorem mates_big {F : List Int32} {r : Nat} (hr : 32 ≤ r) : matesL F r = 0 := by
  refine app_ind (P := fun F => matesL F r = 0) rfl (fun L x ih => ?_) F
  rw [matesL_app]
  unfold mateStep
  rw [if_neg (by rw [tb_ge hr]; decide)]
  exact ih
theorem sumN_add (f g : Nat → Nat) (n : Nat) : sumN (fun r => f r + g r) n = sumN f n + sumN g n := by
  induction n with
  | zero => rfl
  | succ n ih => unfold sumN; rw [ih]; omega
theorem sumN_congr {f g : Nat → Nat} {n : Nat} (h : ∀ k, k < n → f k = g k) : sumN f n = sumN g n := by
  induction n with
  | zero => rfl
  | succ n ih =>
    unfold sumN
    rw [ih (fun k hk => h k (by omega)), h n (by omega)]
theorem sumN_cnt (p : Nat → Bool) (n : Nat) : sumN (fun r => if p r = true then 1 else 0) n = cnt p n := by
  induction n with
  | zero => rfl
  | succ n ih => unfold sumN cnt; rw [ih]
theorem pcn_two {s : Int32} {j k : Nat} (hj : tb s j = true) (hk : tb s k = true) (hne : j ≠ k) : 2 ≤ pcn s := by
  have l0 : ¬ s = 0 := fun q => by rw [q, tb_zero] at hj; cases hj
  have := pcn_drop l0
  refine Classical.byContradiction fun q => hne (pcn_one (by omega) hj hk)
section MOST
variable {b m rl : Nat} {ins : Int32} {up : Nat → Int32} {F : List Int32}
theorem bes_sym (hU : UW m rl ins up F) : (∀ r o, tb (bes rl up F r) o = tb (bes rl up F o) r) ∧ (∀ r, tb (bes rl up F r) r = false) := by
  obtain ⟨u1, u2, u3, u4, u5, u6, u7, u8, u9, u10⟩ := id hU
  have one : ∀ r o, tb (bes rl up F r) o = true → tb (bes rl up F o) r = true := by
    intro r o h
    unfold bes at *
    split
    · next h0 => rw [if_pos h0] at h; rw [u4]; exact h
    · next h0 =>
      rw [if_neg h0] at h
      have r32 : r < 32 := by
        refine Classical.byContradiction fun q => ?_
        rw [mates_big (by omega), tb_zero] at h; cases h
      obtain ⟨q, f, hf, f1, f2⟩ := (tb_mates F r32 o).1 h
      exact (tb_mates F (tb_lt f2) r).2 ⟨fun e => q e.symm, f, hf, f2, f1⟩
  constructor
  · intro r o
    rw [Bool.eq_iff_iff]
    exact ⟨one r o, one o r⟩
  · intro r
    refine bneg (fun e => ?_)
    unfold bes at e
    split at e
    · rw [u5] at e; cases e
    · have r32 : r < 32 := by
        refine Classical.byContradiction fun q => ?_
        rw [mates_big (by omega), tb_zero] at e; cases e
      exact ((tb_mates F r32 r).1 e).1 rfl
/-- each frame has one of them at most, so all frames that have one are counted -/
theorem hit_eq {Y : Int32} (hY : Low 20 Y) : ∀ (F : List Int32), (∀ f, f ∈ F → pcn (Y &&& f) ≤ 1) → hitN F Y = wS (fcn F) Y := by
  intro F
  induction F with
  | nil =>
    intro _
    show 0 = sumN (fun r => if tb Y r = true then 0 else 0) 20
    have : ∀ n, sumN (fun r => if tb Y r = true then 0 else 0) n = 0 := by
      intro n
      induction n with
      | zero => rfl
      | succ n ih => unfold sumN; rw [ih]; split <;> rfl
    rw [this]
  | cons f F ih =>
    intro h
    have ih := ih (fun g hg => h g (List.mem_cons_of_mem _ hg))
    have e1 : hitN (f :: F) Y = (if f &&& Y = 0 then 0 else 1) + hitN F Y := by
      unfold hitN
      rw [List.filter_cons]
      by_cases hq : f &&& Y = 0
      · rw [decide_eq_true hq, if_pos hq]; simp
      · rw [decide_eq_false hq, if_neg hq]; simp; omega
    have e2 : ∀ r, fcn (f :: F) r = (if tb f r = true then 1 else 0) + fcn F r := by
      intro r
      unfold fcn
      rw [List.filter_cons]
      cases e : tb f r
      · simp
      · simp; omega
    have e3 : wS (fcn (f :: F)) Y = sumN (fun r => (if tb (Y &&& f) r = true then 1 else 0) + (if tb Y r = true then fcn F r else 0)) 20 := by
      unfold wS
      apply sumN_congr
      intro r _
      rw [e2, tb_and]
      cases tb Y r <;> cases tb f r <;> simp
    rw [e1, e3, sumN_add, sumN_cnt, ← pcn_low (low_and hY) (by omega), ih]
    have hp := h f List.mem_cons_self
    show _ = pcn (Y &&& f) + wS (fcn F) Y
    congr 1
    by_cases hq : f &&& Y = 0
    · have : Y &&& f = 0 := and0.2 (fun k hk q => and0.1 hq k hk ⟨q.2, q.1⟩)
      rw [if_pos hq, this, pcn_zero]
    · have : ¬ Y &&& f = 0 := fun q => hq (and0.2 (fun k hk w => and0.1 q k hk ⟨w.2, w.1⟩))
      have := pcn_drop this
      rw [if_neg hq]
      omega
theorem ind_hit (hU : UW m rl ins up F) {Y : Int32} (hI : Ind (bes rl up F) Y) : ∀ f, f ∈ F → pcn (Y &&& f) ≤ 1 := by
  intro f hf
  refine Nat.le_of_not_lt (fun q => ?_)
  have l0 : ¬ Y &&& f = 0 := fun e => by rw [e, pcn_zero] at q; omega
  obtain ⟨l, l32, hl, hlm⟩ := least_ex l0
  have hd := pcn_drop l0
  have l1 : ¬ (Y &&& f) &&& ((Y &&& f) - 1) = 0 := fun e => by rw [e, pcn_zero] at hd; omega
  obtain ⟨k, hk⟩ := ne0 l1
  have hk32 := tb_lt hk
  rw [drop1 hl hlm hk32, Bool.and_eq_true] at hk
  have hne : k ≠ l := by simpa using hk.2
  exact hI l (and_t.1 hl).1 k ⟨(uw_wd hU).2.2.2.2.2.1 f hf l k (and_t.1 hl).2 (and_t.1 hk.1).2 (fun e => hne e.symm), (and_t.1 hk.1).1⟩
theorem hit_best (hU : UW m rl ins up F) {s : Int32} (h1 : sb s ins) (h2 : Ind (bes rl up F) s) (h3 : ∀ Y, sb Y ins → Ind (bes rl up F) Y → (hitN F Y < hitN F s ∨ (hitN F Y = hitN F s ∧ tn s ≤ tn Y))) : IsBest ins (bes rl up F) (fcn F) s ∧ hitN F s = wS (fcn F) s := by
  have lo : ∀ {Y}, sb Y ins → Low 20 Y := fun h => low_le (sb_low h hU.2.2.1) hU.1
  have es := hit_eq (lo h1) F (ind_hit hU h2)
  refine ⟨⟨h1, h2, fun Y a1 a2 => ?_⟩, es⟩
  have := h3 Y a1 a2
  rw [es, hit_eq (lo a1) F (ind_hit hU a2)] at this
  exact this
theorem w194 {d : Nat} {S : St} {x : Int32} {Q : Out → St → Prop} (hU : UW m rl ins up F) (hW : MW m rl ins up F S) (K1 : ¬ (x = 0 ∨ x = 1) → ∀ v S1, Fz [(46, 4), (46, 26), (46, 27)] [] S S1 → S1.1 46 4 = 1 → Q (.inl (some (.int v))) S1) (K0 : (x = 0 ∨ x = 1) → ∀ s S1, Fz [(46, 4), (46, 26), (46, 27)] [] S S1 → S1.1 46 4 = 0 → IsBest ins (bes rl up F) (fcn F) s → Q (.inl (some (.int (if x = 0 then Int32.ofNat (wS (fcn F) s) else s)))) S1) : Wp (d + 25) b 194 0 [.ref 46, .int x] [] S Q := by
  obtain ⟨hm, h20, hi, hlow, hrl, h1, hup, hL, hlen, hbs⟩ := id hW
  have hF0 : Fz [(46, 4), (46, 26), (46, 27)] [] S (setI S 46 4 0) := Fz.refl.seti (by decide)
  have hz : (0 ≤ x ∧ x ≤ 1) ↔ (x = 0 ∨ x = 1) := by
    rw [Int32.le_iff_toInt_le, Int32.le_iff_toInt_le, ← Int32.toInt_inj, ← Int32.toInt_inj]
    have e0 : (0 : Int32).toInt = 0 := by decide
    have e1 : (1 : Int32).toInt = 1 := by decide
    rw [e0, e1]
    omega
  refine b194_0 s153 ?_
  rintro _ _ ⟨rfl, rfl⟩
  refine b194_11 (fun h => ?_) (fun h => b194_14 (s152 1) ?_)
  · have hx := hz.1 (of_decide_eq_true (bi1.1 h))
    have hF1 : Fz [(46, 4), (46, 26), (46, 27)] [] S (setI (setI S 46 4 0) 46 26 (-1)) := hF0.seti (by decide)
    obtain ⟨s, es, s1, s2, s3⟩ := seen_best (W := hitN F) h20 hlow (bes_sym hU).1 (bes_sym hU).2
    refine b194_20 (P := fun S1 => Fz [(46, 4), (46, 26), (46, 27)] [] S S1 ∧ S1.1 46 4 = 0 ∧ BR (hitN F) S1 (some s)) ?_ ?_
    · have e1 : (setI (setI S 46 4 0) 46 26 (-1)).1 46 1 = Int32.ofNat m := hm
      rw [e1]
      refine w193 m (d + 24) 0 _ none _ (by omega) (Nat.le_refl _) (hW.of hF1 (by decide)) seti_same (fun S1 h2 h3 => ⟨rfl, hF1.trans (h2.mono (by decide) (by decide)), ?_, ?_⟩)
      · rw [h2.f (by decide)]; rfl
      · rw [es] at h3; exact h3
    · rintro S1 ⟨hF, h4, hB⟩
      obtain ⟨hbest, hw⟩ := hit_best hU s1 s2 s3
      have k := K0 hx s S1 hF h4 hbest
      refine b194_34 (fun h0 => b194_45 (b194_49 ?_)) (fun h0 => b194_38 (b194_49 ?_))
      · rw [if_neg h0] at k
        rw [hB.2]; exact k
      · rw [if_pos (Classical.not_not.1 h0)] at k
        rw [hB.1, hw]; exact k
  · rintro _ _ ⟨rfl, rfl⟩
    refine b194_19 (K1 (fun q => ?_) _ _ (hF0.seti (by decide)) seti_same)
    exact absurd (hz.2 q) (of_decide_eq_false (bi0.1 (Classical.not_not.1 h)))
/-- one of weight for each ray that is in -/
def oneW (ins : Int32) (r : Nat) : Nat := if tb ins r = true then 1 else 0
theorem one_eq {Y : Int32} (hins : Low 20 ins) (h : sb Y ins) : pcn Y = wS (oneW ins) Y := by
  rw [pcn_low (sb_low h hins) (by omega), ← sumN_cnt]
  unfold wS
  apply sumN_congr
  intro r _
  by_cases e : tb Y r = true
  · rw [if_pos e, if_pos e]
    unfold oneW
    rw [if_pos (h r e)]
  · rw [if_neg e, if_neg e]
theorem w221 {d : Nat} {S : St} {x : Int32} {Q : Out → St → Prop} (hU : UW m rl ins up F) (hW : MW m rl ins up F S) (K1 : ¬ (x = 0 ∨ x = 1) → ∀ v S1, Fz [(46, 4), (46, 26), (46, 27)] [] S S1 → S1.1 46 4 = 1 → Q (.inl (some (.int v))) S1) (K0 : (x = 0 ∨ x = 1) → ∀ s S1, Fz [(46, 4), (46, 26), (46, 27)] [] S S1 → S1.1 46 4 = 0 → IsBest ins up (oneW ins) s → Q (.inl (some (.int (if x = 0 then Int32.ofNat (wS (oneW ins) s) else s)))) S1) : Wp (d + 25) b 221 0 [.ref 46, .int x] [] S Q := by
  obtain ⟨hm, h20, hi, hlow, hrl, h1, hup, hL, hlen, hbs⟩ := id hW
  obtain ⟨u1, u2, u3, u4, u5, u6, u7, u8, u9, u10⟩ := id hU
  have hF0 : Fz [(46, 4), (46, 26), (46, 27)] [] S (setI S 46 4 0) := Fz.refl.seti (by decide)
  have hz : (0 ≤ x ∧ x ≤ 1) ↔ (x = 0 ∨ x = 1) := by
    rw [Int32.le_iff_toInt_le, Int32.le_iff_toInt_le, ← Int32.toInt_inj, ← Int32.toInt_inj]
    have e0 : (0 : Int32).toInt = 0 := by decide
    have e1 : (1 : Int32).toInt = 1 := by decide
    rw [e0, e1]
    omega
  refine b221_0 s153 ?_
  rintro _ _ ⟨rfl, rfl⟩
  refine b221_11 (fun h => ?_) (fun h => b221_14 (s152 1) ?_)
  · have hx := hz.1 (of_decide_eq_true (bi1.1 h))
    have hF1 : Fz [(46, 4), (46, 26), (46, 27)] [] S (setI (setI S 46 4 0) 46 26 (-1)) := hF0.seti (by decide)
    obtain ⟨s, es, s1, s2, s3⟩ := seen_best (W := pcn) h20 hlow u4 u5
    refine b221_20 (P := fun S1 => Fz [(46, 4), (46, 26), (46, 27)] [] S S1 ∧ S1.1 46 4 = 0 ∧ BR pcn S1 (some s)) ?_ ?_
    · have e1 : (setI (setI S 46 4 0) 46 26 (-1)).1 46 1 = Int32.ofNat m := hm
      rw [e1]
      refine w220 m (d + 24) 0 _ none _ (by omega) (Nat.le_refl _) (hW.of hF1 (by decide)) seti_same (fun S1 h2 h3 => ⟨rfl, hF1.trans (h2.mono (by decide) (by decide)), ?_, ?_⟩)
      · rw [h2.f (by decide)]; rfl
      · rw [es] at h3; exact h3
    · rintro S1 ⟨hF, h4, hB⟩
      have i20 : Low 20 ins := low_le hlow h20
      have hw := one_eq i20 s1
      have k := K0 hx s S1 hF h4 ⟨s1, s2, fun Y a1 a2 => by rw [← one_eq i20 a1, ← hw]; exact s3 Y a1 a2⟩
      refine b221_34 (fun h0 => b221_45 (b221_49 ?_)) (fun h0 => b221_38 (b221_49 ?_))
      · rw [if_neg h0] at k
        rw [hB.2]; exact k
      · rw [if_pos (Classical.not_not.1 h0)] at k
        rw [hB.1, hw]; exact k
  · rintro _ _ ⟨rfl, rfl⟩
    refine b221_19 (K1 (fun q => ?_) _ _ (hF0.seti (by decide)) seti_same)
    exact absurd (hz.2 q) (of_decide_eq_false (bi0.1 (Classical.not_not.1 h)))
theorem sc_nn {bs : Nat → Int32} {w : Nat → Nat} {s : Int32} (hins : Low 20 ins) (h : IsBest ins bs w s) : 0 ≤ (wS w s : Int) * 1048576 - tn s := by
  have t := tn_low (sb_low h.1 hins)
  have h0 := h.2.2 0 (sb_zero _) (fun r hr => by rw [tb_zero] at hr; cases hr)
  have e0 : tn 0 = 0 := by decide +kernel
  omega
/-- the heaviest of what is laid -/
theorem score {d : Nat} {bs : Nat → Int32} {w : Nat → Nat} {S : St} {Q : Out → St → Prop} (hins : Low 20 ins) (hsym : ∀ r o, tb (bs r) o = tb (bs o) r) (hirr : ∀ r, tb (bs r) r = false) (h31 : ∀ r, r < 20 → (S.2.1 31 r).toInt = wtI w r) (h32 : ∀ r, r < 20 → S.2.1 32 r = bs r) (hw0 : ∀ r, r < 20 → tb ins r = false → w r = 0) (hbd : ∀ T, sb T ins → Ind bs T → wS w T ≤ 900) (K : ∀ x, IsSc ins bs w x → Q (.inl (some (.int x))) S) : Wp (d + 24) 0 44 0 [.ref 8, .int (mk (fun r => decide (0 < wtI w r)) 20), .int 0] [] S Q := by
  have hWt : ∀ r, tb (mk (fun r => decide (0 < wtI w r)) 20) r = true ↔ (r < 20 ∧ 0 < wtI w r) := fun r => by
    rw [tb_mk _ (by omega)]
    simp
  have hWl : Low 20 (mk (fun r => decide (0 < wtI w r)) 20) := fun r hr => ((hWt r).1 hr).1
  have hWi : sb (mk (fun r => decide (0 < wtI w r)) 20) ins := fun r hr => by
    obtain ⟨a1, a2⟩ := (hWt r).1 hr
    refine bpos (fun e => ?_)
    unfold wtI at a2
    rw [hw0 r a1 e] at a2
    have : 0 < 2 ^ r := Nat.two_pow_pos r
    omega
  refine c44 (bs := bs) (wt := wtI w) (W := mk (fun r => decide (0 < wtI w r)) 20) (fun r o _ _ h => by rw [hsym]; exact h) (fun r _ => hirr r) hWl (fun r hr => ((hWt r).1 hr).2) (fun T h1 h2 => ?_) 21 (d + 24) 0 _ S Q (by omega) h31 h32 (sb.refl _) ?_ (by omega) (fun x hx => K x (hv_best hins hw0 hx))
  · rw [scw_eq w (sb_low h1 hWl)]
    have := hbd T (h1.trans hWi) h2
    omega
  · have := pcn_lown hWl (by omega)
    omega
theorem c38 {d : Nat} {S : St} {Q : Out → St → Prop} (hU : UW m rl ins up F) (hW : WB ins up F S) (hC : CHa 20 (bes rl up F) F S) (hk : S.1 8 4 = -1 ∨ IsSc ins (bes rl up F) (fcn F) (S.1 8 4)) (K : ∀ S1, Fz [(8, 4)] [31, 32] S S1 → IsSc ins (bes rl up F) (fcn F) (S1.1 8 4) → Q (.inl (some (.int (S1.1 8 4)))) S1) : Wp (d + 25) b 38 0 [.ref 8, .ref 28] [] S Q := by
  have i20 : Low 20 ins := low_le hU.2.2.1 hU.1
  have fle : ∀ r, fcn F r ≤ 300 := fun r => Nat.le_trans (List.length_filter_le _ _) hU.2.2.2.2.2.2.2.2.2
  refine b38_0 (fun h => b38_54 (K S Fz.refl ?_)) (fun h => b38_8 ?_)
  · rcases hk with q | q
    · exact absurd q h
    · exact q
  · have loop : ∀ k i S', i + k = 20 → Fz [(8, 4)] [31, 32] S S' → (∀ r, r < i → (S'.2.1 31 r).toInt = wtI (fcn F) r ∧ S'.2.1 32 r = bes rl up F r) → Wp (d + 25) b 38 10 [.ref 8, .ref 28, .int (Int32.ofNat i)] [] S' Q := by
      intro k
      induction k with
      | zero =>
        intro i S' hi hF hr
        have h31 : ∀ r, r < 20 → (S'.2.1 31 r).toInt = wtI (fcn F) r := fun r hr' => (hr r (by omega)).1
        refine b38_10 (fun _ => b38_41 (P := Vx (mk (fun r => decide (0 < wtI (fcn F) r)) 20) S') (c43 h31 ⟨_, rfl, rfl, rfl⟩) ?_) (fun h => absurd ((i_le (a := 20) (by omega) (by omega)).2 (by omega)) h)
        rintro _ _ ⟨rfl, rfl⟩
        refine b38_47 (P := fun x S1 => S' = S1 ∧ IsSc ins (bes rl up F) (fcn F) x) (score (d := d) i20 (bes_sym hU).1 (bes_sym hU).2 h31 (fun r hr' => (hr r (by omega)).2) (fun r hr' hn => ?_) (fun T a1 a2 => ?_) (fun x hx => ⟨_, rfl, rfl, hx⟩)) ?_
        · unfold fcn
          rw [List.length_eq_zero_iff, List.filter_eq_nil_iff]
          intro f hf q
          have := hU.2.2.2.2.2.2.1 f hf r q
          rw [hn] at this; cases this
        · rw [← hit_eq (low_le (sb_low a1 hU.2.2.1) hU.1) F (ind_hit hU a2)]
          have := hitN_le F T
          have := hU.2.2.2.2.2.2.2.2.2
          omega
        · rintro x _ ⟨rfl, hx⟩
          refine b38_51 (b38_54 (K _ (hF.seti (by decide)) ?_))
          rw [seti_same]; exact hx
      | succ k ih =>
        intro i S' hi hF hr
        have i20' : i < 20 := by omega
        refine b38_10 (fun h => ?_) (fun _ => b38_16 (i_vp (by omega) (by omega)) (s147h (by omega)) ?_)
        · have := (i_le (a := 20) (by omega) (by omega)).1 h
          omega
        · rintro _ _ ⟨rfl, rfl⟩
          have e25 : S'.2.1 25 (Int32.ofNat i).toNatClampNeg = Int32.ofNat (fcn F i) := by
            rw [i_cl (by omega)]
            exact (hF.a (by decide) i).trans (hW.2.2.2.2.2 i i20').2
          have e28 : S'.2.1 28 i = bes rl up F i := (hF.a (by decide) i).trans (hC.2.2.2 i i20')
          rw [if_pos i20', e25, e28]
          refine b38_32 (P := fun S1 => S1 = (setA (setA S' 31 i ((Int32.ofNat (fcn F i) <<< ((20 : Int32) &&& 31)) - ((1 : Int32) <<< (Int32.ofNat i &&& 31)))) 32 i (bes rl up F i))) (c40 i20' ⟨rfl, rfl⟩) ?_
          rintro _ rfl
          refine b38_35 ?_
          rw [i_suc]
          refine ih (i + 1) _ (by omega) ((hF.seta (by decide)).seta (by decide)) (fun r hr' => ?_)
          by_cases e : r = i
          · subst e
            refine ⟨?_, seta_same⟩
            rw [seta_ne (by omega), seta_same, worth_eq (by have := fle r; omega) i20']
            rfl
          · rw [seta_ne (by omega), seta_ne (by omega), seta_ne (by omega), seta_ne (by omega)]
            exact hr r (by omega)
    exact loop 20 0 S (by omega) Fz.refl (fun r h => absurd h (by omega))
theorem c39 {d : Nat} {S : St} {Q : Out → St → Prop} (hU : UW m rl ins up F) (hW : WB ins up F S) (hk : S.1 8 5 = -1 ∨ IsSc ins up (oneW ins) (S.1 8 5)) (K : ∀ S1, Fz [(8, 5)] [31, 32] S S1 → IsSc ins up (oneW ins) (S1.1 8 5) → Q (.inl (some (.int (S1.1 8 5)))) S1) : Wp (d + 25) b 39 0 [.ref 8] [] S Q := by
  have i20 : Low 20 ins := low_le hU.2.2.1 hU.1
  refine b39_0 (fun h => b39_68 (K S Fz.refl ?_)) (fun h => b39_8 ?_)
  · rcases hk with q | q
    · exact absurd q h
    · exact q
  · have loop : ∀ k i S', i + k = 20 → Fz [(8, 5)] [31, 32] S S' → (∀ r, r < i → (S'.2.1 31 r).toInt = wtI (oneW ins) r ∧ S'.2.1 32 r = up r) → Wp (d + 25) b 39 10 [.ref 8, .int (Int32.ofNat i)] [] S' Q := by
      intro k
      induction k with
      | zero =>
        intro i S' hi hF hr
        have h31 : ∀ r, r < 20 → (S'.2.1 31 r).toInt = wtI (oneW ins) r := fun r hr' => (hr r (by omega)).1
        refine b39_10 (fun _ => b39_55 (P := Vx (mk (fun r => decide (0 < wtI (oneW ins) r)) 20) S') (c43 h31 ⟨_, rfl, rfl, rfl⟩) ?_) (fun h => absurd ((i_le (a := 20) (by omega) (by omega)).2 (by omega)) h)
        rintro _ _ ⟨rfl, rfl⟩
        refine b39_61 (P := fun x S1 => S' = S1 ∧ IsSc ins up (oneW ins) x) (score (d := d) i20 hU.2.2.2.1 hU.2.2.2.2.1 h31 (fun r hr' => (hr r (by omega)).2) (fun r hr' hn => ?_) (fun T a1 a2 => ?_) (fun x hx => ⟨_, rfl, rfl, hx⟩)) ?_
        · unfold oneW
          rw [if_neg (by rw [hn]; decide)]
        · rw [← one_eq i20 a1]
          have := pcn_le T
          omega
        · rintro x _ ⟨rfl, hx⟩
          refine b39_65 (b39_68 (K _ (hF.seti (by decide)) ?_))
          rw [seti_same]; exact hx
      | succ k ih =>
        intro i S' hi hF hr
        have i20' : i < 20 := by omega
        have step : Wp (d + 25) b 39 37 [.ref 8, .int (Int32.ofNat i)] [.int (Int32.ofNat (oneW ins i)), .int (Int32.ofNat i), .ref 8] S' Q := by
          have e23 : S'.2.1 23 (Int32.ofNat i).toNatClampNeg = up i := by
            rw [i_cl (by omega)]
            exact (hF.a (by decide) i).trans (hW.2.2.1 i i20')
          refine b39_37 (i_vp (by omega) (by omega)) (P := fun S1 => S1 = (setA (setA S' 31 i ((Int32.ofNat (oneW ins i) <<< ((20 : Int32) &&& 31)) - ((1 : Int32) <<< (Int32.ofNat i &&& 31)))) 32 i (up i))) ?_ ?_
          · rw [e23]
            exact c40 i20' ⟨rfl, rfl⟩
          · rintro _ rfl
            refine b39_49 ?_
            rw [i_suc]
            refine ih (i + 1) _ (by omega) ((hF.seta (by decide)).seta (by decide)) (fun r hr' => ?_)
            by_cases e : r = i
            · subst e
              refine ⟨?_, seta_same⟩
              have hle : oneW ins r ≤ 1 := by unfold oneW; split <;> omega
              rw [seta_ne (by omega), seta_same, worth_eq (by omega) i20']
              rfl
            · rw [seta_ne (by omega), seta_ne (by omega), seta_ne (by omega), seta_ne (by omega)]
              exact hr r (by omega)
        refine b39_10 (fun h => ?_) (fun _ => b39_16 (P := Vx (bi (tb ins i)) S') ?_ ?_)
        · have := (i_le (a := 20) (by omega) (by omega)).1 h
          omega
        · rw [(hF.f (by decide)).trans hW.1]
          exact s146 _ (by omega)
        · rintro _ _ ⟨rfl, rfl⟩
          unfold oneW at step
          refine b39_29 (fun h => b39_36 ?_) (fun h => b39_32 ?_)
          · rw [if_neg (by rw [bi0.1 h]; decide)] at step
            exact step
          · rw [if_pos (bi1.1 h)] at step
            exact step
    exact loop 20 0 S (by omega) Fz.refl (fun r h => absurd h (by omega))
end MOST
