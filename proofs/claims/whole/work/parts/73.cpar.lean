/-! PARITIES: the class -/
section CPAR
variable {b : Nat}
theorem setc_same {S : St} {j0 j1 sp dp n c : Nat} : (setC S j0 j1 sp dp n).2.1 j1 c = if dp ≤ c ∧ c < dp + n then S.2.1 j0 (sp + (c - dp)) else S.2.1 j1 c := by
  unfold setC va_cpy
  exact if_pos rfl
theorem setc_ne {S : St} {a j0 j1 sp dp n c : Nat} (h : a ≠ j1) : (setC S j0 j1 sp dp n).2.1 a c = S.2.1 a c := by
  unfold setC
  exact if_neg h
abbrev bas (S : St) (i : Nat) : Nat → Int32 := fun c => S.2.1 35 (i * 21 + c)
theorem i_21 (i c : Nat) : Int32.ofNat i * 21 + Int32.ofNat c = Int32.ofNat (i * 21 + c) := by
  rw [show (21 : Int32) = Int32.ofNat 21 from rfl, i_mul, i_add]
theorem low0 {s : Int32} (h : Low 0 s) : s = 0 := by
  apply tb_ext
  intro k _
  rw [tb_zero]
  exact bneg (fun c => by have := h k c; omega)
theorem low_cut {n : Nat} {s : Int32} (h : Low (n + 1) s) (h0 : tb s n = false) : Low n s := by
  intro k hk
  have h1 := h k hk
  by_cases e : k = n
  · rw [e, h0] at hk; cases hk
  · omega
theorem low_cutx {n : Nat} {s t : Int32} (h : Low (n + 1) s) (h1 : tb s n = true) (g : Low (n + 1) t) (g1 : tb t n = true) : Low n (s ^^^ t) :=
  low_cut (low_xor h g) (by rw [tb_xor, h1, g1]; rfl)
theorem c23 {d i : Nat} {S : St} {g : Int32} {L : List Int32} {Q : Out → St → Prop} (hi : i < 40) (hg : Low 21 g) (hB : BS (bas S i) L) (K : ∀ S1, Fz [] [35] S S1 → (∀ q, (q < i * 21 ∨ i * 21 + 21 ≤ q) → S1.2.1 35 q = S.2.1 35 q) → BS (bas S1 i) (g :: L) → Q (.inl none) S1) : Wp (d + 1) b 23 0 [.ref 9, .int (Int32.ofNat i), .int g] [] S Q := by
  have stop : ∀ x x4, Sp (bas S i) 21 (g ^^^ x) → x = 0 → Wp (d + 1) b 23 87 [.ref 9, .int (Int32.ofNat i), .int g, .int x, .int x4] [] S Q := by
    intro x x4 h1 h2
    refine b23_87 (K S Fz.refl (fun _ _ => rfl) ⟨hB.1, fun s => ?_⟩)
    rw [h2, Int32.xor_zero] at h1
    have h1 := (hB.2 g).1 h1
    rw [hB.2 s]
    constructor
    · exact Or.inl
    · rintro (q | q)
      · exact q
      · have := sl_add q h1
        rw [x_xx] at this
        exact this
  have loop : ∀ n x, n ≤ 21 → Low n x → Sp (bas S i) 21 (g ^^^ x) → Wp (d + 1) b 23 6 [.ref 9, .int (Int32.ofNat i), .int g, .int x, .int (Int32.ofNat n + -1)] [] S Q := by
    intro n
    induction n with
    | zero =>
      intro x _ hx hsp
      exact b23_6 (fun _ => stop x _ hsp (low0 hx)) (fun q => absurd (by decide) q)
    | succ n ih =>
      intro x hn hx hsp
      rw [i_dec]
      refine b23_6 (fun q => absurd q (i_nneg (by omega))) (fun _ => b23_11 (fun h0 => stop x _ hsp h0) (fun hne => b23_15 (s146 x (by omega)) ?_))
      rintro _ _ ⟨rfl, rfl⟩
      rw [i_21]
      refine b23_30 (fun h0 => b23_81 (ih x (by omega) (low_cut hx (bi0.1 h0)) hsp)) (fun h1 => b23_33 (fun q => absurd q (i_nneg (by omega))) (fun _ => b23_38 (fun q => ?_) (fun _ => b23_48 (i_vp (by omega) (by omega)) (fun hb => b23_71 (i_vp (by omega) (by omega)) (b23_81 ?_)) (fun hb => b23_58 (i_vp (by omega) (by omega)) (b23_81 ?_)))))
      · have := (i_le (a := 861) (by omega) (by omega)).1 q
        omega
      · rw [i_cl (by omega)] at hb ⊢
        have h1 := bi1.1 h1
        rcases hB.1 n (by omega) with e | ⟨e1, e2⟩
        · exact absurd e hb
        · refine ih _ (by omega) (low_cutx hx h1 e2 e1) ?_
          have : Sp (bas S i) 21 (bas S i n) := (hB.2 _).2 ((hB.2 _).1 (sp_mono (n := n + 1) (by omega) (Or.inr (by rw [Int32.xor_self]; exact sp_zero _ _))))
          have := sp_add hsp this
          rw [Int32.xor_assoc] at this
          exact this
      · rw [i_cl (by omega)] at hb ⊢
        have hb : bas S i n = 0 := Classical.byContradiction hb
        have h1 := bi1.1 h1
        have hS : ∀ c, c < 21 → bas (setA S 35 (i * 21 + n) x) i c = updB (bas S i) n x c := by
          intro c hc
          unfold updB
          by_cases e : c = n
          · rw [if_pos e, e]; exact seta_same
          · rw [if_neg e]; exact seta_ne (by omega)
        have fin : Wp (d + 1) b 23 87 [.ref 9, .int (Int32.ofNat i), .int g, .int 0, .int (Int32.ofNat n + -1)] [] (setA S 35 (i * 21 + n) x) Q := by
          refine b23_87 (K _ (Fz.refl.seta (by decide)) (fun q hq => seta_ne (by omega)) ⟨fun c hc => ?_, fun s => ?_⟩)
          · rw [hS c hc]; exact tb_upd hB.1 h1 hx c hc
          · rw [sp_congr (B' := updB (bas S i) n x) (fun c hc => hS c hc), sp_upd hb (by omega)]
            show _ ↔ (Sl L s ∨ Sl L (s ^^^ g))
            rw [← hB.2, ← hB.2]
            constructor
            · rintro (q | q)
              · exact Or.inl q
              · refine Or.inr ?_
                have := sp_add q hsp
                rw [← Int32.xor_assoc, x_ac (s ^^^ x) g x, x_xx] at this
                exact this
            · rintro (q | q)
              · exact Or.inl q
              · refine Or.inr ?_
                have := sp_add q hsp
                rw [← Int32.xor_assoc, x_xx] at this
                exact this
        cases n with
        | zero => exact b23_6 (fun _ => fin) (fun q => absurd (by decide) q)
        | succ n =>
          rw [i_dec] at fin ⊢
          exact b23_6 (fun q => absurd q (i_nneg (by omega))) (fun _ => b23_11 (fun _ => fin) (fun q => absurd rfl q))
  exact b23_0 (loop 21 g (by omega) hg (by rw [Int32.xor_self]; exact sp_zero _ _))
theorem c24 {d i : Nat} {S : St} {g : Int32} {L : List Int32} {Q : Out → St → Prop} (hi : i ≤ 40) (hg : Low 21 g) (hB : BS (bas S i) L) (K1 : Sl L g → Q (.inl (some (.int 1))) S) (K0 : ¬ Sl L g → Q (.inl (some (.int 0))) S) : Wp (d + 1) b 24 0 [.ref 9, .int (Int32.ofNat i), .int g] [] S Q := by
  have stop : ∀ n x x4, n ≤ 21 → Low n x → (Sl L g ↔ Sp (bas S i) n x) → x = 0 → Wp (d + 1) b 24 58 [.ref 9, .int (Int32.ofNat i), .int g, .int x, .int x4] [] S Q := by
    intro n x x4 hn hx h1 h2
    refine b24_58 (fun q => absurd h2 q) (fun _ => b24_62 (b24_67 (Or.inr rfl) (K1 (h1.2 ?_))))
    rw [h2]; exact sp_zero _ _
  have loop : ∀ n x, n ≤ 21 → Low n x → (Sl L g ↔ Sp (bas S i) n x) → Wp (d + 1) b 24 6 [.ref 9, .int (Int32.ofNat i), .int g, .int x, .int (Int32.ofNat n + -1)] [] S Q := by
    intro n
    induction n with
    | zero =>
      intro x _ hx hsp
      exact b24_6 (fun _ => stop 0 x _ (by omega) hx hsp (low0 hx)) (fun q => absurd (by decide) q)
    | succ n ih =>
      intro x hn hx hsp
      rw [i_dec]
      refine b24_6 (fun q => absurd q (i_nneg (by omega))) (fun _ => b24_11 (fun h0 => stop (n + 1) x _ hn hx hsp h0) (fun hne => b24_15 (s146 x (by omega)) ?_))
      rintro _ _ ⟨rfl, rfl⟩
      refine b24_21 (fun h0 => b24_52 (ih x (by omega) (low_cut hx (bi0.1 h0)) (hsp.trans (sp_0 hB.1 (by omega) (bi0.1 h0))))) (fun h1 => b24_24 (by rw [i_21]; exact s147k (by omega)) ?_)
      rintro _ _ ⟨rfl, rfl⟩
      have h1 := bi1.1 h1
      rw [if_pos (by omega)]
      refine b24_38 (fun hb => b24_47 (b24_52 ?_)) (fun hb => b24_45 (Or.inl rfl) (K0 (fun q => ?_)))
      · rcases hB.1 n (by omega) with e | ⟨e1, e2⟩
        · exact absurd e hb
        · refine ih _ (by omega) (low_cutx hx h1 e2 e1) (hsp.trans ((sp_1 hB.1 (by omega) h1).trans ⟨fun q => q.2, fun q => ⟨hb, q⟩⟩))
      · exact hb ((sp_1 hB.1 (by omega) h1).1 (hsp.1 q)).1
  exact b24_0 (loop 21 g (by omega) hg (hB.2 g).symm)
/-- bases of all ends of the rows -/
def PB (R : List Int32) (S : St) : Prop := S.1 9 4 = Int32.ofNat R.length ∧ R.length ≤ 40 ∧ (∀ i, i < R.length → S.2.1 34 i = R.getD i 0) ∧ ∀ i, i ≤ R.length → BS (bas S i) (R.drop i)
theorem PB.of {R : List Int32} {fs : List (Nat × Nat)} {as : List Nat} {S S1 : St} (h : PB R S) (hF : Fz fs as S S1) (n1 : (9, 4) ∉ fs) (n2 : 34 ∉ as) (n3 : 35 ∉ as) : PB R S1 := by
  obtain ⟨h1, h2, h3, h4⟩ := h
  refine ⟨(hF.f n1).trans h1, h2, fun i hi => (hF.a n2 i).trans (h3 i hi), fun i hi => ?_⟩
  have : bas S1 i = bas S i := funext (fun c => hF.a n3 _)
  rw [this]; exact h4 i hi
theorem low_rwF {f : Int32} (hf : Low 20 f) : Low 21 (rwF f) := by
  rw [← phi_od hf]
  exact low_mk _ (by omega)
theorem c22 {d : Nat} {S : St} {F : List Int32} {Q : Out → St → Prop} (hW : WF S F) (hl : F.length ≤ 300) (hF20 : ∀ f, f ∈ F → Low 20 f) (h5 : S.1 9 5 = 0 ∨ (S.1 9 5 = 1 ∧ PB ((F.take 40).map rwF) S)) (K : ∀ S1, Fz [(9, 4), (9, 5)] [34, 35] S S1 → S1.1 9 5 = 1 → PB ((F.take 40).map rwF) S1 → Q (.inl none) S1) : Wp (d + 2) b 22 0 [.ref 9] [] S Q := by
  refine b22_0 (fun h0 => b22_8 (Or.inr rfl) ?_) (fun hn => b22_7 ?_)
  rotate_left
  · rcases h5 with e | ⟨e, hP⟩
    · exact absurd e hn
    · exact K S Fz.refl e hP
  obtain ⟨w1, w2, _⟩ := hW
  have hR : ((F.take 40).map rwF).length = min 40 F.length := by rw [List.length_map, List.length_take]
  generalize hRR : (F.take 40).map rwF = R at *
  have hm : (if (40 : Int32) < (setI S 9 5 (1 : Int32)).1 5 3 then (40 : Int32) else (setI S 9 5 (1 : Int32)).1 5 3) = Int32.ofNat R.length := by
    rw [seti_ne (by decide), w1, hR]
    by_cases q : 40 < F.length
    · have z : (40 : Int32) < Int32.ofNat F.length := (i_lt (a := 40) (by omega) (by omega)).2 q
      rw [if_pos z, Nat.min_eq_left (by omega)]; rfl
    · have z : ¬ (40 : Int32) < Int32.ofNat F.length := fun z => q ((i_lt (a := 40) (by omega) (by omega)).1 z)
      rw [if_neg z, Nat.min_eq_right (by omega)]
  rw [hm]
  have r40 : R.length ≤ 40 := by rw [hR]; exact Nat.min_le_left _ _
  have rF : R.length ≤ F.length := by rw [hR]; exact Nat.min_le_right _ _
  have low21 : ∀ i, i < R.length → Low 21 (R.getD i 0) := by
    intro i hi
    rw [← hRR] at hi ⊢
    rw [List.length_map] at hi
    rw [getD_map _ hi]
    exact low_rwF (hF20 _ (List.mem_of_mem_take (getD_mem hi)))
  have rowi : ∀ i, i < R.length → R.getD i 0 = rwF (F.getD i 0) := by
    intro i hi
    have hi' := hi
    rw [← hRR] at hi ⊢
    rw [List.length_map] at hi
    rw [getD_map _ hi]
    congr 1
    rw [List.getD_eq_getElem?_getD, List.getD_eq_getElem?_getD, List.getElem?_take, if_pos (by omega)]
  let S0 := setI (setI S 9 5 (1 : Int32)) 9 4 (Int32.ofNat R.length)
  have hF0 : Fz [(9, 4), (9, 5)] [34, 35] S S0 := (Fz.refl.seti (by decide)).seti (by decide)
  have k4 : S0.1 9 4 = Int32.ofNat R.length := seti_same
  have k5 : S0.1 9 5 = 1 := (seti_ne (by decide)).trans seti_same
  -- the rows from i on stand
  have two : ∀ i S', i ≤ R.length → Fz [(9, 4), (9, 5)] [34, 35] S S' → S'.1 9 4 = Int32.ofNat R.length → S'.1 9 5 = 1 → (∀ j, i ≤ j → j < R.length → S'.2.1 34 j = R.getD j 0) → (∀ j, i ≤ j → j ≤ R.length → BS (bas S' j) (R.drop j)) → Wp (d + 2) b 22 76 [.ref 9, .int (Int32.ofNat i + -1)] [] S' Q := by
    intro i
    induction i with
    | zero =>
      intro S' _ hF h4 h5' h34 h35
      exact b22_76 (fun _ => b22_141 (K S' hF h5' ⟨h4, r40, fun j hj => h34 j (by omega) hj, fun j hj => h35 j (by omega) hj⟩)) (fun q => absurd (by decide) q)
    | succ i ih =>
      intro S' hi hF h4 h5' h34 h35
      rw [i_dec]
      refine b22_76 (fun q => absurd q (i_nneg (by omega))) (fun _ => b22_80 (s147g (by omega)) ?_)
      rintro _ _ ⟨rfl, rfl⟩
      rw [if_pos (by omega), hF.a (by decide), w2 i (by omega)]
      have e1 : (Int32.ofNat i + 1) * 21 = Int32.ofNat ((i + 1) * 21) := by
        rw [i_suc, show (21 : Int32) = Int32.ofNat 21 from rfl, i_mul]
      have e2 : Int32.ofNat i * 21 = Int32.ofNat (i * 21) := by
        rw [show (21 : Int32) = Int32.ofNat 21 from rfl, i_mul]
      have e3 : ((21 : Int32)).toNatClampNeg = 21 := by decide
      refine b22_96 (i_vp (by omega) (by omega)) ?_ ?_
      · rw [e1, e2, e3, i_cl (by omega), i_cl (by omega)]
        exact ⟨i_nneg (by omega), i_nneg (by omega), by decide, by omega, by omega⟩
      rw [e1, e2, e3, i_cl (by omega), i_cl (by omega), i_cl (by omega)]
      have er : (F.getD i 0 <<< ((1 : Int32) &&& 31)) ||| 1 = R.getD i 0 := (rowi i (by omega)).symm
      rw [er]
      let S2 := setC (setA S' 34 i (R.getD i 0)) 35 35 ((i + 1) * 21) (i * 21) 21
      have hF2 : Fz [(9, 4), (9, 5)] [34, 35] S S2 := by
        have := hF.seta (j := 34) (i := i) (v := R.getD i 0) (by decide)
        refine ⟨this.1, fun j hj c => ?_, this.2.2⟩
        have h35n : j ≠ 35 := fun e => hj (by rw [e]; decide)
        exact (if_neg h35n).trans (this.2.1 j hj c)
      have a35 : ∀ c, S2.2.1 35 c = if i * 21 ≤ c ∧ c < i * 21 + 21 then S'.2.1 35 ((i + 1) * 21 + (c - i * 21)) else S'.2.1 35 c := by
        intro c
        rw [show S2.2.1 35 c = _ from setc_same]
        by_cases q : i * 21 ≤ c ∧ c < i * 21 + 21
        · rw [if_pos q, if_pos q]; exact seta_ne (by omega)
        · rw [if_neg q, if_neg q]; exact seta_ne (by omega)
      have a34 : ∀ c, S2.2.1 34 c = if c = i then R.getD i 0 else S'.2.1 34 c := by
        intro c
        rw [show S2.2.1 34 c = _ from setc_ne (by decide)]
        by_cases q : c = i
        · rw [if_pos q, q]; exact seta_same
        · rw [if_neg q]; exact seta_ne (by omega)
      have hb2 : BS (bas S2 i) (R.drop (i + 1)) := by
        have : bas S2 i = fun c => if c < 21 then bas S' (i + 1) c else S2.2.1 35 (i * 21 + c) := by
          funext c
          show S2.2.1 35 (i * 21 + c) = _
          by_cases q : c < 21
          · rw [if_pos q, a35, if_pos (by omega), show i * 21 + c - i * 21 = c by omega]
          · rw [if_neg q]
        have h := h35 (i + 1) (by omega) (by omega)
        have cg : ∀ c, c < 21 → bas S2 i c = bas S' (i + 1) c := fun c hc => by rw [this]; exact if_pos hc
        refine ⟨fun c hc => by rw [cg c hc]; exact h.1 c hc, fun s => ?_⟩
        rw [sp_congr cg]
        exact h.2 s
      show Wp (d + 2) b 22 125 [.ref 9, .int (Int32.ofNat i)] [.ref 9] S2 Q
      refine b22_125 (P := fun S3 => Fz [] [35] S2 S3 ∧ (∀ q, (q < i * 21 ∨ i * 21 + 21 ≤ q) → S3.2.1 35 q = S2.2.1 35 q) ∧ BS (bas S3 i) (R.getD i 0 :: R.drop (i + 1))) (i_vp (by omega) (by omega)) ?_ ?_
      · rw [i_cl (by omega), a34, if_pos rfl]
        exact c23 (by omega) (low21 i (by omega)) hb2 (fun S3 f1 f2 f3 => ⟨rfl, f1, f2, f3⟩)
      · rintro S3 ⟨f1, f2, f3⟩
        refine b22_135 (ih S3 (by omega) (hF2.trans (f1.mono (by simp) (by simp))) ((f1.f (by decide)).trans h4) ((f1.f (by decide)).trans h5') (fun j hj hjl => ?_) (fun j hj hjl => ?_))
        · rw [f1.a (by decide), a34]
          by_cases q : j = i
          · rw [if_pos q, q]
          · rw [if_neg q]; exact h34 j (by omega) hjl
        · by_cases q : j = i
          · rw [q, drop_eq (by omega)]; exact f3
          · have : ∀ c, c < 21 → bas S3 j c = bas S' j c := fun c hc => by
              have hj2 : (i + 1) * 21 ≤ j * 21 := Nat.mul_le_mul_right 21 (by omega)
              show S3.2.1 35 (j * 21 + c) = _
              rw [f2 _ (Or.inr (by omega)), a35, if_neg (by omega)]
            have h := h35 j (by omega) hjl
            refine ⟨fun c hc => by rw [this c hc]; exact h.1 c hc, fun s => ?_⟩
            rw [sp_congr this]
            exact h.2 s
  have one : ∀ k c S', c + k = 21 → Fz [(9, 4), (9, 5)] [34, 35] S S' → S'.1 9 4 = Int32.ofNat R.length → S'.1 9 5 = 1 → (∀ j, j < c → bas S' R.length j = 0) → Wp (d + 2) b 22 31 [.ref 9, .int (Int32.ofNat c)] [] S' Q := by
    intro k
    induction k with
    | zero =>
      intro c S' hc hF h4 h5' hz
      refine b22_31 (fun _ => b22_69 ?_) (fun q => absurd ((i_le (a := 21) (by omega) (by omega)).2 (by omega)) q)
      have e : S'.1 9 4 - 1 = Int32.ofNat R.length + -1 := by rw [h4, Int32.sub_eq_add_neg]
      rw [e]
      refine two R.length S' (Nat.le_refl _) hF h4 h5' (fun j hj hjl => by omega) (fun j hj hjl => ?_)
      rw [show j = R.length by omega, List.drop_length]
      exact bs_nil (fun c' hc' => hz c' (by omega))
    | succ k ih =>
      intro c S' hc hF h4 h5' hz
      have e : S'.1 9 4 * 21 + Int32.ofNat c = Int32.ofNat (R.length * 21 + c) := by rw [h4, i_21]
      refine b22_31 (fun q => ?_) (fun _ => b22_37 (fun q => ?_) (fun _ => b22_56 ?_ (b22_63 ?_)))
      · have := (i_le (a := 21) (by omega) (by omega)).1 q
        omega
      · rw [e] at q
        have := (i_le (a := 861) (by omega) (by omega)).1 q
        omega
      · rw [e]; exact i_vp (by omega) (by omega)
      · rw [e, i_cl (by omega), i_suc]
        refine ih (c + 1) _ (by omega) (hF.seta (by decide)) h4 h5' (fun j hj => ?_)
        by_cases q : j = c
        · rw [q]; exact seta_same
        · exact (seta_ne (by omega)).trans (hz j (by omega))
  exact one 21 0 S0 (by omega) hF0 k4 k5 (fun j hj => by omega)
end CPAR
