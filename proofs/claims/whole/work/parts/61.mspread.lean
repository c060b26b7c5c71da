/-! THE WORTHIEST SETS: class and reference -/
theorem lt_bits {A B r : Nat} (h1 : A.testBit r = false) (h2 : B.testBit r = true) (h3 : ∀ k, r < k → A.testBit k = B.testBit k) : A < B := by
  have e : A / 2 ^ r / 2 = B / 2 ^ r / 2 := by
    apply Nat.eq_of_testBit_eq
    intro j
    have tw : ∀ X : Nat, (X / 2 ^ r / 2).testBit j = X.testBit (j + 1 + r) := fun X => by
      have := Nat.testBit_div_two_pow (x := X / 2 ^ r) (n := 1) j
      rw [show (2 : Nat) ^ 1 = 2 from rfl, Nat.testBit_div_two_pow] at this
      exact this
    rw [tw, tw]
    exact h3 _ (by omega)
  rw [Nat.testBit_eq_decide_div_mod_eq] at h1 h2
  have a := of_decide_eq_false h1
  have c := of_decide_eq_true h2
  refine Nat.lt_of_not_le (fun q => ?_)
  have := Nat.div_le_div_right (c := 2 ^ r) q
  generalize A / 2 ^ r = x at *
  generalize B / 2 ^ r = y at *
  omega
theorem Lt_tn {A B : Int32} (h : Lt A B) : tn A < tn B := by
  obtain ⟨r, h1, h2, h3⟩ := h
  exact lt_bits h1 h2 h3
/-- one set more is seen -/
def bstep (w : Int32 → Nat) (p : Option Int32) (Y : Int32) : Option Int32 := match p with
  | none => some Y
  | some s => if w s < w Y then some Y else some s
theorem best_fold (w : Int32 → Nat) : ∀ (L : List Int32) (s0 : Int32), (s0 :: L).Pairwise (fun A B => tn A < tn B) → ∃ s, L.foldl (bstep w) (some s0) = some s ∧ s ∈ s0 :: L ∧ ∀ Y, Y ∈ s0 :: L → (w Y < w s ∨ (w Y = w s ∧ tn s ≤ tn Y)) := by
  intro L
  induction L with
  | nil =>
    intro s0 _
    refine ⟨s0, rfl, List.mem_cons_self, fun Y hY => ?_⟩
    rw [List.mem_singleton.1 hY]
    exact Or.inr ⟨rfl, Nat.le_refl _⟩
  | cons a t ih =>
    intro s0 hp
    rw [List.pairwise_cons, List.pairwise_cons] at hp
    obtain ⟨h1, h2, h3⟩ := hp
    have ha := h1 a List.mem_cons_self
    by_cases hw : w s0 < w a
    · obtain ⟨s, e, m, hall⟩ := ih a (List.pairwise_cons.2 ⟨h2, h3⟩)
      refine ⟨s, ?_, List.mem_cons_of_mem _ m, fun Y hY => ?_⟩
      · show t.foldl (bstep w) (if w s0 < w a then some a else some s0) = _
        rw [if_pos hw]; exact e
      · rcases List.mem_cons.1 hY with rfl | hY
        · have := hall a List.mem_cons_self
          exact Or.inl (by omega)
        · exact hall Y hY
    · obtain ⟨s, e, m, hall⟩ := ih s0 (List.pairwise_cons.2 ⟨fun x hx => h1 x (List.mem_cons_of_mem _ hx), h3⟩)
      refine ⟨s, ?_, ?_, fun Y hY => ?_⟩
      · show t.foldl (bstep w) (if w s0 < w a then some a else some s0) = _
        rw [if_neg hw]; exact e
      · rcases List.mem_cons.1 m with rfl | m
        · exact List.mem_cons_self
        · exact List.mem_cons_of_mem _ (List.mem_cons_of_mem _ m)
      · have h0 := hall s0 List.mem_cons_self
        rcases List.mem_cons.1 hY with rfl | hY
        · exact h0
        · rcases List.mem_cons.1 hY with rfl | hY
          · omega
          · exact hall Y (List.mem_cons_of_mem _ hY)
/-- how the best stands -/
def BR (w : Int32 → Nat) (S : St) (p : Option Int32) : Prop := match p with
  | none => S.1 46 26 = -1
  | some s => S.1 46 26 = Int32.ofNat (w s) ∧ S.1 46 27 = s
def hitN (F : List Int32) (Y : Int32) : Nat := (F.filter (fun f => !decide (f &&& Y = 0))).length
section MSPREAD
variable {b m rl : Nat} {ins : Int32} {up : Nat → Int32} {F : List Int32}
theorem s192 {d : Nat} {S : St} {Y : Int32} (hL : FL S F) (hlen : F.length ≤ 4845) : Wp d b 192 0 [.ref 46, .int Y] [] S (Ri (Vx (Int32.ofNat (hitN F Y)) S)) := by
  have loop : ∀ k i, i + k = F.length → Wp d b 192 4 [.ref 46, .int Y, .int (Int32.ofNat (hitN (F.take i) Y)), .int (Int32.ofNat i)] [] S (Ri (Vx (Int32.ofNat (hitN F Y)) S)) := by
    intro k
    induction k with
    | zero =>
      intro i hi
      have e : F.take i = F := List.take_of_length_le (by omega)
      rw [e]
      refine b192_4 (fun _ => b192_37 ⟨_, rfl, rfl, rfl⟩) (fun h => ?_)
      rw [hL.1] at h
      exact absurd ((i_le (by omega) (by omega)).2 (by omega)) h
    | succ k ih =>
      intro i hi
      have e50 : S.2.1 50 (Int32.ofNat i).toNatClampNeg = F.getD i 0 := by rw [i_cl (by omega)]; exact hL.2 i (by omega)
      have app : hitN (F.take (i + 1)) Y = hitN (F.take i) Y + if F.getD i 0 &&& Y = 0 then 0 else 1 := by
        unfold hitN
        rw [take_suc (by omega), List.filter_append, List.length_append, List.filter_cons]
        by_cases h : F.getD i 0 &&& Y = 0
        · rw [decide_eq_true h, if_pos h]; rfl
        · rw [decide_eq_false h, if_neg h]; rfl
      have ih' := ih (i + 1) (by omega)
      rw [app, ← i_add] at ih'
      refine b192_4 (fun h => ?_) (fun _ => b192_12 (i_vp (by omega) (by omega)) (fun h => b192_28 (b192_29 ?_)) (fun h => b192_24 (b192_29 ?_)))
      · rw [hL.1] at h
        have := (i_le (by omega) (by omega)).1 h
        omega
      · rw [e50] at h
        rw [if_pos h] at ih'
        rw [i_suc i]
        exact ih'
      · rw [e50] at h
        rw [if_neg h] at ih'
        rw [i_suc i]
        exact ih'
  exact b192_0 (loop F.length 0 (by omega))
theorem hitN_le (F : List Int32) (Y : Int32) : hitN F Y ≤ F.length := List.length_filter_le _ _
theorem chl_nil (bs : Nat → Int32) (r : Nat) (y : Int32) : chl 0 bs [] ins (r + 1) y = chl 0 bs [] ins r y ++ (if tb ins r = true ∧ bs r &&& y = 0 then chl 0 bs [] ins r (y ||| bit r) else []) := by
  show (if _ then _ else _ ++ (if _ then _ else _)) = _
  rw [if_neg (show ¬ lostB [] ins y (r + 1) = true from fun q => by cases q)]
  congr 1
  have : barB 0 bs [] ins r y = !decide (bs r &&& y = 0) := by unfold barB; rw [if_pos rfl]
  rw [this]
  by_cases h : bs r &&& y = 0
  · rw [decide_eq_true h]; simp [h]
  · rw [decide_eq_false h]; simp [h]
theorem w193 : ∀ (r dd : Nat) (y : Int32) (S : St) (p : Option Int32) (Q : Out → St → Prop), r + 4 ≤ dd → r ≤ m → MW m rl ins up F S → BR (hitN F) S p → (∀ S1, Fz [(46, 26), (46, 27)] [] S S1 → BR (hitN F) S1 ((chl 0 (bes rl up F) [] ins r y).foldl (bstep (hitN F)) p) → Q (.inl none) S1) → Wp dd 0 193 0 [.ref 46, .int y, .int (Int32.ofNat r)] [] S Q := by
  intro r
  induction r with
  | zero =>
    intro dd y S p Q hdd hr hW hB K
    obtain ⟨e, rfl⟩ : ∃ e, dd = e + 4 := ⟨dd - 4, by omega⟩
    obtain ⟨hm, h20, hi, hlow, hrl, h1, hup, hL, hlen, hbs⟩ := id hW
    have hy := hitN_le F y
    have e0 : chl 0 (bes rl up F) [] ins 0 y = [y] := rfl
    rw [e0] at K
    refine b193_0 (fun q => absurd rfl q) (fun _ => b193_4 (s192 hL hlen) ?_)
    rintro _ _ ⟨rfl, rfl⟩
    refine b193_9 (fun h => b193_19 (K _ ((Fz.refl.seti (by decide)).seti (by decide)) ?_)) (fun h => b193_18 (K S Fz.refl ?_))
    · cases p with
      | none => exact ⟨by rw [seti_ne (by decide), seti_same], seti_same⟩
      | some s =>
        have hs := hitN_le F s
        rw [hB.1] at h
        have := (i_lt (by omega) (by omega)).1 h
        show BR _ _ (if hitN F s < hitN F y then some y else some s)
        rw [if_pos this]
        exact ⟨by rw [seti_ne (by decide), seti_same], seti_same⟩
    · cases p with
      | none =>
        have hB' : S.1 46 26 = -1 := hB
        rw [hB', Int32.lt_iff_toInt_lt, i_toInt (by omega)] at h
        have : (-1 : Int32).toInt = -1 := by decide
        omega
      | some s =>
        have hs := hitN_le F s
        rw [hB.1] at h
        have := mt (i_lt (by omega) (by omega)).2 h
        show BR _ _ (if hitN F s < hitN F y then some y else some s)
        rw [if_neg this]
        exact hB
  | succ r ih =>
    intro dd y S p Q hdd hr hW hB K
    obtain ⟨e, rfl⟩ : ∃ e, dd = e + 4 := ⟨dd - 4, by omega⟩
    obtain ⟨hm, h20, hi, hlow, hrl, h1, hup, hL, hlen, hbs⟩ := id hW
    refine b193_0 (fun _ => b193_30 (P := fun S1 => Fz [(46, 26), (46, 27)] [] S S1 ∧ BR (hitN F) S1 ((chl 0 (bes rl up F) [] ins r y).foldl (bstep (hitN F)) p)) ?_ ?_) (fun q => ?_)
    · rw [i_pre]
      exact ih (e + 3) y S p _ (by omega) (by omega) hW hB (fun S1 h1 h2 => ⟨rfl, h1, h2⟩)
    · rintro S1 ⟨hF1, hB1⟩
      have hW1 := hW.of hF1 (by decide)
      obtain ⟨hm1, _, hi1, _, _, _, _, _, _, hbs1⟩ := id hW1
      rw [i_pre]
      have last : ¬ (tb ins r = true ∧ bes rl up F r &&& y = 0) → Wp (e + 4) 0 193 69 [.ref 46, .int y, .int (Int32.ofNat (r + 1)), .int (Int32.ofNat r)] [] S1 Q := by
        intro hn
        refine b193_69 (K S1 hF1 ?_)
        rw [chl_nil, if_neg hn, List.append_nil]
        exact hB1
      refine b193_40 (s159n (d := e + 1) (by omega) hm1 h20 hi1) ?_
      rintro _ _ ⟨rfl, rfl⟩
      refine b193_45 (fun h => last (fun q => by rw [bi0.1 h] at q; cases q.1)) (fun h => b193_48 (i_vp (by omega) (by omega)) ?_ ?_)
      all_goals rw [i_cl (by omega), hbs1 r (by omega)]
      · exact fun h2 => last (fun q => h2 q.2)
      · intro h2
        have hy : tb ins r = true ∧ bes rl up F r &&& y = 0 := ⟨bi1.1 h, Classical.not_not.1 h2⟩
        refine b193_59 (P := fun S2 => Fz [(46, 26), (46, 27)] [] S1 S2 ∧ BR (hitN F) S2 ((chl 0 (bes rl up F) [] ins r (y ||| bit r)).foldl (bstep (hitN F)) ((chl 0 (bes rl up F) [] ins r y).foldl (bstep (hitN F)) p))) ?_ ?_
        · exact ih (e + 3) (y ||| bit r) S1 _ _ (by omega) (by omega) hW1 hB1 (fun S2 h1 h2 => ⟨rfl, h1, h2⟩)
        · rintro S2 ⟨hF2, hB2⟩
          refine b193_69 (K S2 (hF1.trans hF2) ?_)
          rw [chl_nil, if_pos hy, List.foldl_append]
          exact hB2
    · have := (i_inj (b := 0) (by omega) (by omega)).1 (Classical.not_not.1 q)
      omega
theorem w220 : ∀ (r dd : Nat) (y : Int32) (S : St) (p : Option Int32) (Q : Out → St → Prop), r + 4 ≤ dd → r ≤ m → MW m rl ins up F S → BR pcn S p → (∀ S1, Fz [(46, 26), (46, 27)] [] S S1 → BR pcn S1 ((chl 0 up [] ins r y).foldl (bstep pcn) p) → Q (.inl none) S1) → Wp dd 0 220 0 [.ref 46, .int y, .int (Int32.ofNat r)] [] S Q := by
  intro r
  induction r with
  | zero =>
    intro dd y S p Q hdd hr hW hB K
    obtain ⟨e, rfl⟩ : ∃ e, dd = e + 4 := ⟨dd - 4, by omega⟩
    have hy := pcn_le y
    have e0 : chl 0 up [] ins 0 y = [y] := rfl
    rw [e0] at K
    refine b220_0 (fun q => absurd rfl q) (fun _ => b220_4 (s155 y) ?_)
    rintro _ _ ⟨rfl, rfl⟩
    refine b220_8 (fun h => b220_18 (K _ ((Fz.refl.seti (by decide)).seti (by decide)) ?_)) (fun h => b220_17 (K S Fz.refl ?_))
    · cases p with
      | none => exact ⟨by rw [seti_ne (by decide), seti_same], seti_same⟩
      | some s =>
        have hs := pcn_le s
        rw [hB.1] at h
        have := (i_lt (by omega) (by omega)).1 h
        show BR _ _ (if pcn s < pcn y then some y else some s)
        rw [if_pos this]
        exact ⟨by rw [seti_ne (by decide), seti_same], seti_same⟩
    · cases p with
      | none =>
        have hB' : S.1 46 26 = -1 := hB
        rw [hB', Int32.lt_iff_toInt_lt, i_toInt (by omega)] at h
        have : (-1 : Int32).toInt = -1 := by decide
        omega
      | some s =>
        have hs := pcn_le s
        rw [hB.1] at h
        have := mt (i_lt (by omega) (by omega)).2 h
        show BR _ _ (if pcn s < pcn y then some y else some s)
        rw [if_neg this]
        exact hB
  | succ r ih =>
    intro dd y S p Q hdd hr hW hB K
    obtain ⟨e, rfl⟩ : ∃ e, dd = e + 4 := ⟨dd - 4, by omega⟩
    obtain ⟨hm, h20, hi, hlow, hrl, h1, hup, hL, hlen, hbs⟩ := id hW
    refine b220_0 (fun _ => b220_29 (P := fun S1 => Fz [(46, 26), (46, 27)] [] S S1 ∧ BR pcn S1 ((chl 0 up [] ins r y).foldl (bstep pcn) p)) ?_ ?_) (fun q => ?_)
    · rw [i_pre]
      exact ih (e + 3) y S p _ (by omega) (by omega) hW hB (fun S1 h1 h2 => ⟨rfl, h1, h2⟩)
    · rintro S1 ⟨hF1, hB1⟩
      have hW1 := hW.of hF1 (by decide)
      obtain ⟨hm1, _, hi1, _, _, _, hup1, _, _, _⟩ := id hW1
      rw [i_pre]
      have last : ¬ (tb ins r = true ∧ up r &&& y = 0) → Wp (e + 4) 0 220 68 [.ref 46, .int y, .int (Int32.ofNat (r + 1)), .int (Int32.ofNat r)] [] S1 Q := by
        intro hn
        refine b220_68 (K S1 hF1 ?_)
        rw [chl_nil, if_neg hn, List.append_nil]
        exact hB1
      refine b220_39 (s159n (d := e + 1) (by omega) hm1 h20 hi1) ?_
      rintro _ _ ⟨rfl, rfl⟩
      refine b220_44 (fun h => last (fun q => by rw [bi0.1 h] at q; cases q.1)) (fun h => b220_47 (i_vp (by omega) (by omega)) ?_ ?_)
      all_goals rw [i_cl (by omega), hup1 r (by omega)]
      · exact fun h2 => last (fun q => h2 q.2)
      · intro h2
        have hy : tb ins r = true ∧ up r &&& y = 0 := ⟨bi1.1 h, Classical.not_not.1 h2⟩
        refine b220_58 (P := fun S2 => Fz [(46, 26), (46, 27)] [] S1 S2 ∧ BR pcn S2 ((chl 0 up [] ins r (y ||| bit r)).foldl (bstep pcn) ((chl 0 up [] ins r y).foldl (bstep pcn) p))) ?_ ?_
        · exact ih (e + 3) (y ||| bit r) S1 _ _ (by omega) (by omega) hW1 hB1 (fun S2 h1 h2 => ⟨rfl, h1, h2⟩)
        · rintro S2 ⟨hF2, hB2⟩
          refine b220_68 (K S2 (hF1.trans hF2) ?_)
          rw [chl_nil, if_pos hy, List.foldl_append]
          exact hB2
    · have := (i_inj (b := 0) (by omega) (by omega)).1 (Classical.not_not.1 q)
      omega
/-- what all that were seen come to -/
theorem seen_best {bs : Nat → Int32} {W : Int32 → Nat} (hm : m ≤ 20) (hlow : Low m ins) (hsym : ∀ r o, tb (bs r) o = tb (bs o) r) (hirr : ∀ r, tb (bs r) r = false) : ∃ s, (chl 0 bs [] ins m 0).foldl (bstep W) none = some s ∧ sb s ins ∧ Ind bs s ∧ ∀ Y, sb Y ins → Ind bs Y → (W Y < W s ∨ (W Y = W s ∧ tn s ≤ tn Y)) := by
  have hmem : ∀ Y, Y ∈ chl 0 bs [] ins m 0 ↔ (sb Y ins ∧ Ind bs Y) := by
    intro Y
    have := chs_mem (rl := 0) (up := bs) (F := []) (set := ins) hm (by omega) hlow hsym hirr Y
    unfold chs at this
    rw [this]
    constructor
    · rintro ⟨h1, h2, h3, _⟩
      refine ⟨h1, fun r hr j hj => h3 r (h2 r hr) hr j ⟨?_, hj.2⟩⟩
      unfold bsS bes
      rw [if_pos rfl]
      exact and_t.2 ⟨hj.1, h1 j hj.2⟩
    · rintro ⟨h1, h2⟩
      refine ⟨h1, sb_low h1 hlow, fun r _ hr j hj => h2 r hr j ⟨?_, hj.2⟩, fun f hf => ?_⟩
      · have hj1 := hj.1
        unfold bsS bes at hj1
        rw [if_pos rfl] at hj1
        exact (and_t.1 hj1).1
      · exact absurd (mem_inF.1 hf).1 List.not_mem_nil
  have hne : chl 0 bs [] ins m 0 ≠ [] := fun q => by
    have := (hmem 0).2 ⟨sb_zero _, (fun r hr => by rw [tb_zero] at hr; cases hr)⟩
    rw [q] at this
    exact absurd this List.not_mem_nil
  have hso := chl_sorted (rl := 0) (up := bs) (F := []) (set := ins) m 0 hm (fun k _ => tb_zero k)
  cases hL : chl 0 bs [] ins m 0 with
  | nil => exact absurd hL hne
  | cons a t =>
    rw [hL] at hso
    obtain ⟨s, e, hs, hall⟩ := best_fold W t a (hso.imp Lt_tn)
    rw [← hL] at hs hall
    obtain ⟨s1, s2⟩ := (hmem s).1 hs
    exact ⟨s, e, s1, s2, fun Y h1 h2 => hall Y ((hmem Y).2 ⟨h1, h2⟩)⟩
end MSPREAD
