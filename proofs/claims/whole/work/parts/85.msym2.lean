/-! SYMMETRIES: the reference, all -/
section MSYM2
variable {b D m : Nat} {ins : Int32} {nu : Nat → Nat → Int}
theorem bits_set : ∀ u : Fin 16, ∀ k : Fin 4, u.val.testBit k.val = false → (Int32.ofNat u.val ||| ((1 : Int32) <<< (Int32.ofNat k.val &&& 31))) = Int32.ofNat (u.val + 2 ^ k.val) ∧ u.val + 2 ^ k.val < 16 := by decide +kernel
theorem bits_tb : ∀ u : Fin 16, ∀ k : Fin 4, tb (Int32.ofNat u.val) k.val = u.val.testBit k.val := by decide +kernel
theorem w205 : ∀ (n dd used : Nat) (ord : Nat → Nat) (S : St) (L : List Nat) (Q : Out → St → Prop), n + 5 ≤ dd → n ≤ D → used < 2 ^ D → MB D m ins S → RWd D m nu → MTl D m nu S → (∀ k, k < D - n → ord k < D ∧ S.2.1 56 k = Int32.ofNat (ord k)) → (∀ q, q ∈ ol D n used ord → GK q) → MI m ins nu L S → (∀ S1, Fz [(46, 33)] [56, 57, 58] S S1 → (∀ k, k < D - n → S1.2.1 56 k = S.2.1 56 k) → MI m ins nu (L ++ ol D n used ord) S1 → Q (.inl none) S1) → Wp dd 0 205 0 [.ref 46, .int (Int32.ofNat (D - n)), .int (Int32.ofNat used)] [] S Q := by
  intro n
  induction n with
  | zero =>
    intro dd used ord S L Q hdd hn hu hB hR hM hord hgk hI K
    obtain ⟨e, rfl⟩ : ∃ e, dd = e + 5 := ⟨dd - 5, by omega⟩
    refine w205e hB hR hM hord (fun t ht => hgk _ (List.mem_map.2 ⟨t, List.mem_range.2 ht, rfl⟩)) hI (fun S1 f1 g1 => K S1 (f1.mono (by decide) (by decide)) (fun k hk => f1.a (by decide) k) g1)
  | succ n ih =>
    intro dd used ord S L Q hdd hn hu hB hR hM hord hgk hI K
    obtain ⟨e, rfl⟩ : ∃ e, dd = e + 1 := ⟨dd - 1, by omega⟩
    obtain ⟨h0, hD, h1, hm, h2, hl⟩ := id hB
    have u16 : used < 16 := Nat.lt_of_lt_of_le hu (by rcases hD with rfl | rfl <;> decide)
    have hat : D - (n + 1) < D := by omega
    refine b205_0 (fun z => ?_) (fun _ => b205_8 ?_)
    · rw [h0] at z
      have := (i_le (by omega) (by omega)).1 z
      omega
    let g := fun k => if used.testBit k = true then [] else ol D n (used + 2 ^ k) (setO1 ord (D - (n + 1)) k)
    have eol : ol D (n + 1) used ord = (List.range D).flatMap g := rfl
    have loop : ∀ c k S', k + c = D → Fz [(46, 33)] [56, 57, 58] S S' → (∀ j, j < D - (n + 1) → S'.2.1 56 j = S.2.1 56 j) → MI m ins nu (L ++ (List.range k).flatMap g) S' → Wp (e + 1) 0 205 10 [.ref 46, .int (Int32.ofNat (D - (n + 1))), .int (Int32.ofNat used), .int (Int32.ofNat k)] [] S' Q := by
      intro c
      induction c with
      | zero =>
        intro k S' hk hF h56 hI'
        have hk : k = D := hk
        subst hk
        refine b205_10 (fun _ => b205_54 (K S' hF h56 hI')) (fun z => absurd ?_ z)
        rw [hF.f (by decide), h0]; exact (i_le (by omega) (by omega)).2 (Nat.le_refl _)
      | succ c ihc =>
        intro k S' hk hF h56 hI'
        have hkD : k < D := by omega
        refine b205_10 (fun z => ?_) (fun _ => ?_)
        · rw [hF.f (by decide), h0] at z
          have := (i_le (by omega) (by omega)).1 z
          omega
        obtain ⟨e', rfl⟩ : ∃ e', e = e' + 1 := ⟨e - 1, by omega⟩
        refine b205_18 (s154 _ (by omega)) ?_
        rintro _ _ ⟨rfl, rfl⟩
        have ebt := bits_tb ⟨used, u16⟩ ⟨k, by omega⟩
        have eb : tb (Int32.ofNat used) k = used.testBit k := ebt
        rw [eb]
        refine b205_23 (fun hn0 => ?_) (fun hi => b205_26 (b205_48 ?_))
        · have hn0 := bi0.1 hn0
          have hset := bits_set ⟨used, u16⟩ ⟨k, by omega⟩ hn0
          have hgk' : g k = ol D n (used + 2 ^ k) (setO1 ord (D - (n + 1)) k) := if_neg (by rw [hn0]; decide)
          let S2 := setA S' 56 (D - (n + 1)) (Int32.ofNat k)
          have f2 : Fz [(46, 33)] [56, 57, 58] S S2 := hF.seta (by decide)
          refine b205_29 (P := fun S3 => Fz [(46, 33)] [56, 57, 58] S2 S3 ∧ (∀ j, j < D - n → S3.2.1 56 j = S2.2.1 56 j) ∧ MI m ins nu (L ++ (List.range k).flatMap g ++ g k) S3) (i_vp (by omega) (by omega)) ?_ ?_
          · rw [i_cl (by omega), i_suc, hset.1, show D - (n + 1) + 1 = D - n by omega]
            have hu2 : used + 2 ^ k < 2 ^ D := by
              have : ∀ D : Fin 5, ∀ u : Fin 16, ∀ k : Fin 4, k.val < D.val → u.val < 2 ^ D.val → u.val.testBit k.val = false → u.val + 2 ^ k.val < 2 ^ D.val := by decide +kernel
              exact this ⟨D, by omega⟩ ⟨used, u16⟩ ⟨k, by omega⟩ hkD hu hn0
            refine ih (e' + 1) (used + 2 ^ k) (setO1 ord (D - (n + 1)) k) S2 _ _ (by omega) (by omega) hu2 (hB.of f2 (by decide) (by decide) (by decide)) hR (fun r k hr hk => by rw [f2.a (by decide)]; exact hM r k hr hk) (fun j hj => ?_) (fun q hq => hgk q ?_) hI' (fun S3 a1 a2 a3 => ⟨rfl, a1, a2, by rw [hgk']; exact a3⟩)
            · unfold setO1
              by_cases ej : j = D - (n + 1)
              · rw [if_pos ej, ej]; exact ⟨hkD, seta_same⟩
              · rw [if_neg ej]
                exact ⟨(hord j (by omega)).1, ((seta_ne (by omega)).trans (h56 j (by omega))).trans (hord j (by omega)).2⟩
            · rw [eol, List.mem_flatMap]
              exact ⟨k, List.mem_range.2 hkD, by rw [hgk']; exact hq⟩
          · rintro S3 ⟨a1, a2, a3⟩
            refine b205_48 ?_
            rw [i_suc]
            refine ihc (k + 1) S3 (by omega) (f2.trans a1) (fun j hj => ?_) ?_
            · rw [a2 j (by omega)]
              exact (seta_ne (by omega)).trans (h56 j hj)
            · rw [List.range_succ, List.flatMap_append, List.flatMap_singleton, ← List.append_assoc]
              exact a3
        · rw [i_suc]
          refine ihc (k + 1) S' (by omega) hF h56 ?_
          have : g k = [] := if_pos (bi1.1 hi)
          rw [List.range_succ, List.flatMap_append, List.flatMap_singleton, this, List.append_nil]
          exact hI'
    exact loop D 0 S (by omega) Fz.refl (fun _ _ => rfl) (by rw [List.range_zero, List.flatMap_nil, List.append_nil]; exact hI)
theorem w206 {d : Nat} {S : St} {Q : Out → St → Prop} (hB : MB D m ins S) (hR : RWd D m nu) (hM : MTl D m nu S) (K : ∀ S1, Fz [(46, 33)] [56, 57, 58] S S1 → MI m ins nu (E1 D) S1 → Q (.inl none) S1) : Wp (d + 10) b 206 0 [.ref 46] [] S Q := by
  obtain ⟨h0, hD, h1, hm, h2, hl⟩ := id hB
  refine b206_0 ?_
  have loop : ∀ n r S', r + n = m → Fz [(46, 33)] [56, 57, 58] S S' → S'.1 46 33 = 0 → (∀ o, o < r → S'.2.1 58 o = 0) → Wp (d + 10) b 206 7 [.ref 46, .int (Int32.ofNat r)] [] S' Q := by
    intro n
    induction n with
    | zero =>
      intro r S' hr hF e33 h58
      have hr : r = m := hr
      subst hr
      have hB' := hB.of hF (by decide) (by decide) (by decide)
      refine b206_7 (fun _ => b206_28 (P := fun S2 => Fz [(46, 33)] [56, 57, 58] S' S2 ∧ MI r ins nu (E1 D) S2) ?_ ?_) (fun z => absurd ?_ z)
      · have := w205 D (d + 9) 0 (fun _ => 0) S' [] (Rv (fun S2 => Fz [(46, 33)] [56, 57, 58] S' S2 ∧ MI r ins nu (E1 D) S2)) (by omega) (Nat.le_refl _) (Nat.two_pow_pos D) hB' hR (fun r k hr hk => by rw [hF.a (by decide)]; exact hM r k hr hk) (fun k hk => by omega) (fun q hq => e_good1 hD hq) ⟨e33, fun o ho _ => ?_⟩ (fun S2 a1 _ a3 => ⟨rfl, a1, a3⟩)
        · rw [Nat.sub_self] at this; exact this
        · rw [h58 o ho]
          symm
          apply tb_ext
          intro k _
          unfold symI
          rw [tb_mk _ (by omega), tb_zero, List.any_nil, Bool.and_false]
      · rintro S2 ⟨a1, a2⟩
        exact b206_34 (K S2 (hF.trans a1) a2)
      · rw [hF.f (by decide), h1]; exact (i_le (by omega) (by omega)).2 (Nat.le_refl _)
    | succ n ih =>
      intro r S' hr hF e33 h58
      refine b206_7 (fun z => ?_) (fun _ => b206_15 (i_vp (by omega) (by omega)) ?_)
      · rw [hF.f (by decide), h1] at z
        have := (i_le (by omega) (by omega)).1 z
        omega
      · rw [i_cl (by omega), i_suc]
        refine ih (r + 1) _ (by omega) (hF.seta (by decide)) e33 (fun o ho => ?_)
        by_cases e : o = r
        · rw [e, seta_same]
        · exact (seta_ne (by omega)).trans (h58 o (by omega))
  exact loop m 0 _ (by omega) (Fz.refl.seti (by decide)) seti_same (fun o ho => by omega)
theorem kind_iff (hD : D = 3 ∨ D = 4) (hm : m ≤ 20) {r l : Nat} (hr : r < m) (hi : tb ins r = true) (h1 : tb (symI m ins nu (E2 D) r) l = true) (h2 : ∀ j, j < l → tb (symI m ins nu (E2 D) r) j = false) : kindB D m ins nu r = decide (l = r) := by
  unfold kindB
  rw [hi, Bool.true_and, least_eq h1 h2]
theorem w207 {d : Nat} {S : St} {x : Int32} {Q : Out → St → Prop} (hB : MB D m ins S) (hR : RWd D m nu) (hM : MTl D m nu S) (K1 : ¬ (x = 0 ∨ x = 1) → ∀ v S1, Fz [(46, 4)] [] S S1 → S1.1 46 4 = 1 → Q (.inl (some (.int v))) S1) (K0 : (x = 0 ∨ x = 1) → ∀ S1, Fz [(46, 4), (46, 33)] [56, 57, 58] S S1 → S1.1 46 4 = 0 → Q (.inl (some (.int (if x = 0 then Int32.ofNat (2 * wayN m ins nu (E2 D)) else Int32.ofNat (cnt (kindB D m ins nu) 20))))) S1) : Wp (d + 11) b 207 0 [.ref 46, .int x] [] S Q := by
  obtain ⟨h0, hD, h1, hm, h2, hl⟩ := id hB
  have f0 : Fz [(46, 4)] [] S (setI S 46 4 0) := Fz.refl.seti (by decide)
  have in01 : ((0 : Int32) ≤ x ∧ x ≤ 1) ↔ (x = 0 ∨ x = 1) := by
    constructor
    · rintro ⟨a, c⟩
      have a := Int32.le_iff_toInt_le.1 a
      have c := Int32.le_iff_toInt_le.1 c
      rw [show ((0 : Int32)).toInt = 0 by decide] at a
      rw [show ((1 : Int32)).toInt = 1 by decide] at c
      rcases (show x.toInt = 0 ∨ x.toInt = 1 by omega) with q | q
      · exact Or.inl (ti_ext (q.trans (by decide)))
      · exact Or.inr (ti_ext (q.trans (by decide)))
    · rintro (rfl | rfl) <;> decide
  refine b207_0 s153 ?_
  rintro _ _ ⟨rfl, rfl⟩
  refine b207_11 (fun hin => ?_) (fun hn => b207_14 (s152 1) ?_)
  rotate_left
  · rintro _ _ ⟨rfl, rfl⟩
    have hn := of_decide_eq_false (bi0.1 (Classical.byContradiction hn))
    exact b207_19 (K1 (fun z => hn (in01.2 z)) _ _ (f0.seti (by decide)) seti_same)
  have hx := in01.1 (of_decide_eq_true (bi1.1 hin))
  refine b207_20 (P := fun S1 => Fz [(46, 33)] [56, 57, 58] (setI S 46 4 0) S1 ∧ MI m ins nu (E1 D) S1) (w206 (hB.of f0 (by decide) (by decide) (by decide)) hR (fun r k hr hk => by rw [f0.a (by decide)]; exact hM r k hr hk) (fun S1 a1 a2 => ⟨rfl, a1, a2⟩)) ?_
  rintro S1 ⟨a1, a2, a3⟩
  have f1 : Fz [(46, 4), (46, 33)] [56, 57, 58] S S1 := (f0.mono (by decide) (by decide)).trans (a1.mono (by decide) (by decide))
  have e4 : S1.1 46 4 = 0 := (a1.f (by decide)).trans seti_same
  have hB1 := hB.of f1 (by decide) (by decide) (by decide)
  have fin := K0 hx S1 f1 e4
  refine b207_24 (fun hne => b207_33 ?_) (fun hz => b207_28 ?_)
  rotate_left
  · have hz : x = 0 := Classical.byContradiction hz
    rw [if_pos hz] at fin
    rw [a2, way_eq hD hR]
    exact fin
  rw [if_neg hne] at fin
  have c20 : cnt (kindB D m ins nu) 20 = cnt (kindB D m ins nu) m := cnt_ext hm (fun k h1 h2 => by
    unfold kindB
    rw [bneg (fun z => by have := hl k z; omega : ¬ tb ins k = true)]; rfl)
  rw [c20] at fin
  have loop : ∀ n r, r + n = m → Wp (d + 11) b 207 37 [.ref 46, .int x, .int (Int32.ofNat (cnt (kindB D m ins nu) r)), .int (Int32.ofNat r)] [] S1 Q := by
    intro n
    induction n with
    | zero =>
      intro r hr
      have hr : r = m := hr
      subst hr
      refine b207_37 (fun _ => b207_80 fin) (fun z => absurd ?_ z)
      rw [hB1.2.2.1]; exact (i_le (by omega) (by omega)).2 (Nat.le_refl _)
    | succ n ih =>
      intro r hr
      have hrm : r < m := by omega
      have ec : cnt (kindB D m ins nu) (r + 1) = cnt (kindB D m ins nu) r + (if kindB D m ins nu r = true then 1 else 0) := rfl
      refine b207_37 (fun z => ?_) (fun _ => b207_45 (s159n hrm hB1.2.2.1 hm hB1.2.2.2.2.1) ?_)
      · rw [hB1.2.2.1] at z
        have := (i_le (by omega) (by omega)).1 z
        omega
      rintro _ _ ⟨rfl, rfl⟩
      have no : kindB D m ins nu r = false → Wp (d + 11) b 207 71 [.ref 46, .int x, .int (Int32.ofNat (cnt (kindB D m ins nu) r)), .int (Int32.ofNat r)] [.int (Int32.ofNat (cnt (kindB D m ins nu) r))] S1 Q := by
        intro h
        refine b207_71 (b207_72 ?_)
        rw [i_suc, Int32.add_zero]
        have := ih (r + 1) (by omega)
        rw [ec, h] at this
        exact this
      refine b207_51 (fun hn => no ?_) (fun hi => ?_)
      · unfold kindB; rw [bi0.1 hn]; rfl
      have hi := bi1.1 hi
      have hs : tb (symI m ins nu (E2 D) r) r = true := sym_self hD hm hrm hi
      obtain ⟨l, _, l1, l2⟩ := least_ex (s := symI m ins nu (E2 D) r) (fun z => by rw [z, tb_zero] at hs; cases hs)
      have l32 := tb_lt l1
      have e58 : S1.2.1 58 r = symI m ins nu (E2 D) r := by rw [a3 r hrm hi, sym_eq hD hR hm hrm]
      refine b207_54 (i_vp (by omega) (by omega)) (by rw [i_cl (by omega), e58]; exact s156 l1 l2) ?_
      rintro _ _ ⟨rfl, rfl⟩
      have hk := kind_iff hD hm hrm hi l1 l2
      refine b207_63 (fun z => no ?_) (fun z => b207_67 (b207_72 ?_))
      · rw [hk]
        exact decide_eq_false (fun e => z (by rw [e]))
      · have z := (i_inj (by omega) (by omega)).1 (Classical.byContradiction z)
        rw [i_suc, i_suc]
        have := ih (r + 1) (by omega)
        rw [ec, hk, decide_eq_true z] at this
        exact this
  exact loop m 0 (by omega)
theorem w208 {d : Nat} {S : St} {x : Int32} {Q : Out → St → Prop} (hB : MB D m ins S) (hR : RWd D m nu) (hM : MTl D m nu S) (K1 : ¬ (rayB m x && tb ins x.toNatClampNeg) = true → ∀ v S1, Fz [(46, 4)] [] S S1 → S1.1 46 4 = 1 → Q (.inl (some (.int v))) S1) (K0 : (rayB m x && tb ins x.toNatClampNeg) = true → ∀ S1, Fz [(46, 4), (46, 33)] [56, 57, 58] S S1 → S1.1 46 4 = 0 → Q (.inl (some (.int (symI m ins nu (E2 D) x.toNatClampNeg)))) S1) : Wp (d + 11) b 208 0 [.ref 46, .int x] [] S Q := by
  obtain ⟨h0, hD, h1, hm, h2, hl⟩ := id hB
  have f0 : Fz [(46, 4)] [] S (setI S 46 4 0) := Fz.refl.seti (by decide)
  have hB0 := hB.of f0 (by decide) (by decide) (by decide)
  refine b208_0 (s159 x hB0.2.2.1 hm hB0.2.2.2.2.1) ?_
  rintro _ _ ⟨rfl, rfl⟩
  refine b208_10 (fun hin => ?_) (fun hn => b208_13 (s152 1) ?_)
  rotate_left
  · rintro _ _ ⟨rfl, rfl⟩
    exact b208_18 (K1 (fun z => hn (bi1.2 z)) _ _ (f0.seti (by decide)) seti_same)
  have hin := bi1.1 hin
  have fin := K0 hin
  obtain ⟨hr, hi⟩ := (Bool.and_eq_true _ _ ▸ hin : _ ∧ _)
  obtain ⟨x0, xm⟩ := of_decide_eq_true hr
  have ex := i_of x0
  generalize x.toNatClampNeg = r at *
  subst ex
  refine b208_19 (P := fun S1 => Fz [(46, 33)] [56, 57, 58] (setI S 46 4 0) S1 ∧ MI m ins nu (E1 D) S1) (w206 hB0 hR (fun r k hr hk => by rw [f0.a (by decide)]; exact hM r k hr hk) (fun S1 a1 a2 => ⟨rfl, a1, a2⟩)) ?_
  rintro S1 ⟨a1, a2, a3⟩
  refine b208_23 (i_vp (by omega) (by omega)) ?_
  rw [i_cl (by omega), a3 r xm hi, sym_eq hD hR hm xm]
  exact fin S1 ((f0.mono (by decide) (by decide)).trans (a1.mono (by decide) (by decide))) ((a1.f (by decide)).trans seti_same)
end MSYM2
