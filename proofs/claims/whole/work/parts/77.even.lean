/-! EVEN SETS OF FRAMES: the reference, and both -/
section EVEN
variable {b : Nat} {F : List Int32}
def topB (w : Int32) (c : Nat) : Bool := tb w c && decide (∀ k : Fin 32, c < k.val → tb w k.val = false)
theorem topB_iff {w : Int32} {c : Nat} : topB w c = true ↔ TopOf w c := by
  unfold topB TopOf
  rw [Bool.and_eq_true, decide_eq_true_iff]
  constructor
  · rintro ⟨h1, h2⟩
    refine ⟨h1, fun k hk => Nat.lt_of_not_le (fun q => ?_)⟩
    rw [h2 ⟨k, tb_lt hk⟩ (by show c < k; omega)] at hk
    cases hk
  · rintro ⟨h1, h2⟩
    exact ⟨h1, fun k hk => bneg (fun q => by have := h2 k.val q; omega)⟩
theorem top_ex {w : Int32} (h : ¬ w = 0) : ∃ t, TopOf w t := by
  have : ∀ n, Low n w → ∃ t, TopOf w t := by
    intro n
    induction n with
    | zero => intro hl; exact absurd (low0 hl) h
    | succ n ih =>
      intro hl
      cases e : tb w n with
      | true => exact ⟨n, e, hl⟩
      | false => exact ih (low_cut hl e)
  exact this 32 (fun k hk => tb_lt hk)
theorem top_uniq {w : Int32} {t u : Nat} (h1 : TopOf w t) (h2 : TopOf w u) : t = u := by
  have a := h1.2 u h2.1
  have c := h2.2 t h1.1
  omega
theorem top_mix {w v : Int32} {t u : Nat} (h1 : TopOf w t) (h2 : TopOf v u) (hlt : t < u) : TopOf (w ^^^ v) u := by
  refine ⟨?_, low_xor (low_le h1.2 (by omega)) h2.2⟩
  have : tb w u = false := bneg (fun q => by have := h1.2 u q; omega)
  rw [tb_xor, this, h2.1]; rfl
/-- rows with tops of their own -/
def EW (L W : List Int32) : Prop := (∀ s, Sl W s ↔ Sl L s) ∧ (∀ w, w ∈ W → Low 20 w ∧ ¬ w = 0) ∧ W.length = cnt (fun c => W.any (fun w => topB w c)) 20 ∧ W.Pairwise (fun w v => ∀ t, TopOf w t → tb v t = false)
theorem sl_tops : ∀ {W : List Int32} {u : Int32} {c : Nat}, (∀ w, w ∈ W → ¬ w = 0) → W.Pairwise (fun w v => ∀ t, TopOf w t → tb v t = false) → Sl W u → TopOf u c → ∃ w, w ∈ W ∧ TopOf w c := by
  intro W
  induction W with
  | nil =>
    intro u c _ _ h ht
    have h : u = 0 := h
    have := ht.1
    rw [h, tb_zero] at this
    cases this
  | cons w W ih =>
    intro u c hn hp h ht
    rw [List.pairwise_cons] at hp
    have hn' : ∀ w, w ∈ W → ¬ w = 0 := fun x hx => hn x (List.mem_cons_of_mem _ hx)
    rcases h with h | h
    · obtain ⟨x, hx, hx2⟩ := ih hn' hp.2 h ht
      exact ⟨x, List.mem_cons_of_mem _ hx, hx2⟩
    · by_cases h0 : u ^^^ w = 0
      · have : u = w := by
          have := congrArg (fun y => y ^^^ w) h0
          simp only [x_xx] at this
          rw [this, Int32.zero_xor]
        rw [this] at ht
        exact ⟨w, List.mem_cons_self, ht⟩
      · obtain ⟨t', ht'⟩ := top_ex h0
        obtain ⟨t, htw⟩ := top_ex (hn w List.mem_cons_self)
        obtain ⟨x, hx, hx2⟩ := ih hn' hp.2 h ht'
        have hne : ¬ t = t' := fun e => by
          have := hp.1 x hx t htw
          rw [e, hx2.1] at this
          cases this
        rcases Nat.lt_or_ge t t' with q | q
        · have := top_mix htw ht' q
          rw [← Int32.xor_comm, x_xx] at this
          rw [top_uniq ht this]
          exact ⟨x, List.mem_cons_of_mem _ hx, hx2⟩
        · have := top_mix ht' htw (by omega)
          rw [x_xx] at this
          rw [top_uniq ht this]
          exact ⟨w, List.mem_cons_self, htw⟩
theorem lt20 {x y : Int32} (hx : Low 20 x) (hy : Low 20 y) : x < y ↔ tn x < tn y := by
  have h1 := tn_low hx
  have h2 := tn_low hy
  conv => lhs; rw [← of_tn x, ← of_tn y]
  exact i_lt (by omega) (by omega)
theorem min_top {x v : Int32} {t : Nat} (hx : Low 20 x) (hv : Low 20 v) (ht : TopOf v t) : x ^^^ v < x ↔ tb x t = true := by
  rw [lt20 (low_xor hx hv) hx]
  have above : ∀ k, t < k → tb (x ^^^ v) k = tb x k := fun k hk => by
    have : tb v k = false := bneg (fun q => by have := ht.2 k q; omega)
    rw [tb_xor, this, Bool.xor_false]
  constructor
  · intro h
    refine Classical.byContradiction (fun q => ?_)
    have q : tb x t = false := bneg q
    have : tn x < tn (x ^^^ v) := lt_bits (r := t) q (by show tb (x ^^^ v) t = true; rw [tb_xor, q, ht.1]; rfl) (fun k hk => (above k hk).symm)
    omega
  · intro h
    exact lt_bits (r := t) (by show tb (x ^^^ v) t = false; rw [tb_xor, h, ht.1]; rfl) h above
theorem w200 {d : Nat} {S : St} {Q : Out → St → Prop} (hl : F.length ≤ 4845) (hF : ∀ f, f ∈ F → Low 20 f) (hL : FL S F) (K : ∀ W S1, Fz [(46, 4)] [55] S S1 → S1.1 46 4 = 0 → EW (F.take 40) W → Q (.inl (some (.int (Int32.ofNat (min 40 F.length) - Int32.ofNat W.length)))) S1) : Wp (d + 1) b 200 0 [.ref 46] [] S Q := by
  have g40 : (GM F).length ≤ 40 := by rw [gm_len]; exact Nat.min_le_left _ _
  have gF : (GM F).length ≤ F.length := by rw [gm_len]; exact Nat.min_le_right _ _
  have tkl : (F.take 40).length = (GM F).length := by rw [gm_len, List.length_take]
  refine b200_0 ?_
  have outer : ∀ n f W S', f + n = (GM F).length → Fz [(46, 4)] [55] S S' → S'.1 46 4 = 0 → EW (F.take f) W → (∀ j, j < W.length → S'.2.1 55 j = W.getD j 0) → Wp (d + 1) b 200 9 [.ref 46, .int (Int32.ofNat W.length), .int (Int32.ofNat f)] [] S' Q := by
    intro n
    induction n with
    | zero =>
      intro f W S' hf hFz h4 hE hW
      refine b200_9 (s195 hl ((hFz.f (by decide)).trans hL.1)) ?_
      rintro _ _ ⟨rfl, rfl⟩
      refine b200_14 (fun _ => b200_76 (s195 hl ((hFz.f (by decide)).trans hL.1)) ?_) (fun q => absurd ((i_le (by omega) (by omega)).2 (by omega)) q)
      rintro _ _ ⟨rfl, rfl⟩
      refine b200_80 ?_
      rw [gm_len]
      refine K W S' hFz h4 ?_
      have e : F.take f = F.take 40 := by
        rw [show f = (GM F).length by omega, gm_len]
        by_cases q : F.length ≤ 40
        · rw [Nat.min_eq_right q, List.take_length, List.take_of_length_le q]
        · rw [Nat.min_eq_left (by omega)]
      rw [← e]; exact hE
    | succ n ih =>
      intro f W S' hf hFz h4 hE hW
      obtain ⟨e1, e2, e3, e4⟩ := id hE
      have w20 : W.length ≤ 20 := by rw [e3]; exact cnt_le _ _
      have hfF : f < F.length := by omega
      have lowx := hF _ (getD_mem hfF)
      refine b200_9 (s195 hl ((hFz.f (by decide)).trans hL.1)) ?_
      rintro _ _ ⟨rfl, rfl⟩
      refine b200_14 (fun q => ?_) (fun _ => b200_17 (i_vp (by omega) (by omega)) ?_)
      · have := (i_le (by omega) (by omega)).1 q
        omega
      rw [i_cl (by omega), hFz.a (by decide), hL.2 f hfF]
      generalize hx : F.getD f 0 = x at lowx ⊢
      have tk : F.take (f + 1) = F.take f ++ [x] := by rw [take_suc hfF, hx]
      have inner : ∀ m k y, k + m = W.length → Low 20 y → Sl W (x ^^^ y) → (∀ j, j < k → ∀ t, TopOf (W.getD j 0) t → tb y t = false) → Wp (d + 1) b 200 27 [.ref 46, .int (Int32.ofNat W.length), .int (Int32.ofNat f), .int y, .int (Int32.ofNat k)] [] S' Q := by
        intro m
        induction m with
        | zero =>
          intro k y hk hy hs htop
          refine b200_27 (fun _ => b200_53 (fun hne => b200_60 (i_vp (by omega) (by omega)) (b200_70 ?_)) (fun h0 => b200_57 (b200_70 ?_))) (fun q => absurd ((i_le (by omega) (by omega)).2 (by omega)) q)
          · rw [i_suc, i_suc, i_cl (by omega)]
            have hmem : ∀ w, w ∈ W → ∀ t, TopOf w t → tb y t = false := by
              intro w hw t ht
              obtain ⟨j, hj, rfl⟩ := List.getElem_of_mem hw
              refine htop j (by omega) t ?_
              rw [List.getD_eq_getElem?_getD, List.getElem?_eq_getElem hj]
              exact ht
            have hspan : ∀ s, Sl (W ++ [y]) s ↔ Sl (F.take (f + 1)) s := by
              intro s
              rw [tk, sl_app, sl_app, e1 s, ← e1 (s ^^^ x)]
              constructor
              · rintro (q | q)
                · exact Or.inl q
                · refine Or.inr ?_
                  have := sl_add q hs
                  rw [← Int32.xor_assoc, x_ac (s ^^^ y) x y, x_xx] at this
                  exact this
              · rintro (q | q)
                · exact Or.inl q
                · refine Or.inr ?_
                  have := sl_add q hs
                  rw [← Int32.xor_assoc, x_xx] at this
                  exact this
            have := ih (f + 1) (W ++ [y]) (setA S' 55 W.length y) (by omega) (hFz.seta (by decide)) h4 ⟨hspan, fun w hw => ?_, ?_, ?_⟩ (fun j hj => ?_)
            · rw [List.length_append, List.length_singleton] at this
              exact this
            · rcases List.mem_append.1 hw with hw | hw
              · exact e2 w hw
              · rw [List.mem_singleton.1 hw]; exact ⟨hy, hne⟩
            · obtain ⟨t, ht⟩ := top_ex hne
              have t20 := hy t ht.1
              rw [List.length_append, List.length_singleton, e3]
              refine (cnt_flip (l := t) t20 ?_ ?_ (fun c hc hct => ?_)).symm
              · rw [List.any_append, Bool.or_eq_true]
                refine Or.inr ?_
                rw [List.any_cons, topB_iff.2 ht]; rfl
              · refine bneg (fun q => ?_)
                obtain ⟨w, hw, hq⟩ := List.any_eq_true.1 q
                have := hmem w hw t (topB_iff.1 hq)
                rw [ht.1] at this; cases this
              · rw [List.any_append]
                have : [y].any (fun w => topB w c) = false := by
                  rw [List.any_cons, List.any_nil, Bool.or_false]
                  exact bneg (fun q => hct (top_uniq (topB_iff.1 q) ht))
                rw [this, Bool.or_false]
            · rw [List.pairwise_append]
              refine ⟨e4, List.pairwise_singleton _ _, fun w hw v hv => ?_⟩
              rw [List.mem_singleton.1 hv]
              exact hmem w hw
            · rw [List.length_append, List.length_singleton] at hj
              by_cases q : j = W.length
              · rw [q, seta_same, getD_app2]
              · rw [seta_ne (by omega), getD_app (by omega)]
                exact hW j (by omega)
          · have h0 : y = 0 := Classical.byContradiction h0
            rw [h0, Int32.xor_zero] at hs
            rw [i_suc]
            refine ih (f + 1) W S' (by omega) hFz h4 ⟨fun s => ?_, e2, e3, e4⟩ hW
            rw [tk, sl_app, ← e1, ← e1]
            refine ⟨Or.inl, fun q => ?_⟩
            rcases q with q | q
            · exact q
            · have := sl_add q hs
              rw [x_xx] at this
              exact this
        | succ m ihm =>
          intro k y hk hy hs htop
          have hkW : k < W.length := by omega
          have hmem := getD_mem hkW
          have he2 := e2 _ hmem
          refine b200_27 (fun q => ?_) (fun _ => b200_33 (i_vp (by omega) (by omega)) ?_)
          · have := (i_le (by omega) (by omega)).1 q
            omega
          · rw [i_cl (by omega), hW k hkW, i_suc]
            obtain ⟨t, ht⟩ := top_ex he2.2
            have hprev : ∀ j, j < k → ∀ u, TopOf (W.getD j 0) u → tb (W.getD k 0) u = false := by
              intro j hj u hu
              have := List.pairwise_iff_getElem.1 e4 j k (by omega) hkW hj u
              have ej : W.getD j 0 = W[j] := by rw [List.getD_eq_getElem?_getD, List.getElem?_eq_getElem (by omega)]; rfl
              have ek : W.getD k 0 = W[k] := by rw [List.getD_eq_getElem?_getD, List.getElem?_eq_getElem hkW]; rfl
              rw [ek]
              rw [ej] at hu
              exact this hu
            by_cases q : y ^^^ W.getD k 0 < y
            · rw [if_pos q]
              have q1 := (min_top hy he2.1 ht).1 q
              refine ihm (k + 1) _ (by omega) (low_xor hy he2.1) ?_ (fun j hj u hu => ?_)
              · have := sl_add hs (sl_mem hmem)
                rw [Int32.xor_assoc] at this
                exact this
              · by_cases ej : j = k
                · rw [ej] at hu
                  rw [top_uniq hu ht, tb_xor, q1, ht.1]; rfl
                · rw [tb_xor, htop j (by omega) u hu, hprev j (by omega) u hu]; rfl
            · rw [if_neg q]
              have q1 : tb y t = false := bneg (fun z => q ((min_top hy he2.1 ht).2 z))
              refine ihm (k + 1) _ (by omega) hy hs (fun j hj u hu => ?_)
              by_cases ej : j = k
              · rw [ej] at hu
                rw [top_uniq hu ht]; exact q1
              · exact htop j (by omega) u hu
      exact inner W.length 0 x (by omega) lowx (by rw [Int32.xor_self]; exact sl_zero _) (fun j hj => by omega)
  refine outer (GM F).length 0 [] _ (by omega) (Fz.refl.seti (by decide)) seti_same ⟨fun s => Iff.rfl, (fun w hw => by cases hw), ?_, List.Pairwise.nil⟩ (fun j hj => by cases hj)
  exact (cnt_zero (fun k _ => rfl)).symm
theorem ev_eq {B : Nat → Int32} {W : List Int32} (hF : ∀ f, f ∈ F → Low 20 f) (hB : BS B ((F.take 40).map rwF)) (hE : EW (F.take 40) W) : cnt (fun c => !decide (B (c + 1) = 0)) 20 = W.length := by
  rw [hE.2.2.1]
  refine cnt_congr (fun c hc => ?_)
  have key : ¬ B (c + 1) = 0 ↔ W.any (fun w => topB w c) = true := by
    rw [bs_top hB (by omega), top_rw (fun f hf => hF f (List.mem_of_mem_take hf)) hc, List.any_eq_true]
    constructor
    · rintro ⟨u, h1, h2⟩
      obtain ⟨w, hw, ht⟩ := sl_tops (fun w hw => (hE.2.1 w hw).2) hE.2.2.2 ((hE.1 u).2 h1) h2
      exact ⟨w, hw, topB_iff.2 ht⟩
    · rintro ⟨w, hw, ht⟩
      exact ⟨w, (hE.1 w).1 (sl_mem hw), topB_iff.1 ht⟩
  by_cases q : B (c + 1) = 0
  · rw [decide_eq_true q]
    symm
    refine bneg (fun z => key.2 z q)
  · rw [decide_eq_false q]
    exact (key.1 q).symm
end EVEN
