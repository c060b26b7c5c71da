/-! THE CLASS: the tree -/
theorem Tr.pos {bs : Nat → Int32} {F : List Int32} {m : Nat} {ins : Int32} : ∀ (k : Nat) (y n : Int32) (fd : Bool) (lf dp cl : Nat), Tr bs F m ins k y n fd lf dp cl → 1 ≤ lf ∧ lf ≤ 2 ^ k ∧ dp ≤ k ∧ cl ≤ lf := by
  intro k
  induction k with
  | zero => intro y n fd lf dp cl h; exact h.elim
  | succ k ih =>
    intro y n fd lf dp cl h
    have h2 : 1 ≤ 2 ^ k := Nat.one_le_two_pow
    rw [Nat.pow_succ]
    obtain ⟨Y, N, c, _, h⟩ := h
    rcases h with ⟨_, _, rfl, rfl, rfl⟩ | ⟨_, _, _, rfl, rfl, rfl⟩ | ⟨_, l, _, _, f1, l1, p1, c1, a3, a4⟩
    · omega
    · omega
    · have i1 := ih _ _ _ _ _ _ a3
      rcases a4 with ⟨_, _, rfl, rfl, rfl⟩ | ⟨_, l2, p2, c2, a5, rfl, rfl, rfl⟩
      · omega
      · have i2 := ih _ _ _ _ _ _ a5
        omega
section CTREE
variable {b : Nat} {bs : Nat → Int32} {F : List Int32} {m : Nat} {ins : Int32}
def TD (S : St) (lf dp cl : Nat) : Prop := S.1 6 9 = Int32.ofNat lf ∧ S.1 6 11 = Int32.ofNat dp ∧ S.1 6 10 = Int32.ofNat cl
theorem open_eq (ins Y N : Int32) : ins &&& ((Y ||| N) ^^^ -1) = (ins &&& (Y ^^^ -1)) &&& (N ^^^ -1) := by
  apply tb_ext
  intro z _
  rw [tb_diff, tb_diff, tb_diff, tb_or]
  cases tb ins z <;> cases tb Y z <;> cases tb N z <;> rfl
theorem c18 (h20 : m ≤ 20) (hlow : Low m ins) (hFl : ∀ f, f ∈ F → Low m f) (hbl : ∀ r, r < m → Low m (bs r)) : ∀ (k dd deep lf0 dp0 cl0 : Nat) (y n sp : Int32) (S : St) (Q : Out → St → Prop), k + 3 ≤ dd → CHa m bs F S → S.1 6 4 = ins → Low m y → Low m n → (∀ r, r < m → tb y r = true → tb sp r = true → sb (bs r) n) → opn ins y n < k → deep + k ≤ 40 → dp0 ≤ 100 → TD S lf0 dp0 cl0 →
    (∀ fd lf dp cl S1, Tr bs F m ins k y n fd lf dp cl → Fz [(6, 5), (6, 6), (6, 9), (6, 10), (6, 11)] [] S S1 → TD S1 (lf0 + lf) (max dp0 (deep + dp)) (cl0 + cl) → Q (.inl (some (.int (bi fd)))) S1) →
    Wp dd 0 18 0 [.ref 6, .int y, .int n, .int sp, .int (Int32.ofNat deep)] [] S Q := by
  intro k
  induction k with
  | zero => intro dd deep lf0 dp0 cl0 y n sp S Q hdd hC ha hy hn hs ho; omega
  | succ k ih =>
    intro dd deep lf0 dp0 cl0 y n sp S Q hdd hC ha hy hn hs ho hde hdp hT K
    obtain ⟨e, rfl⟩ : ∃ e, dd = e + 3 := ⟨dd - 3, by omega⟩
    obtain ⟨t1, t2, t3⟩ := id hT
    have em : (if S.1 6 11 < Int32.ofNat deep then Int32.ofNat deep else S.1 6 11) = Int32.ofNat (max dp0 deep) := by
      rw [t2]
      by_cases h : dp0 < deep
      · rw [if_pos ((i_lt (by omega) (by omega)).2 h), Nat.max_eq_right (by omega)]
      · rw [if_neg (fun q => h ((i_lt (by omega) (by omega)).1 q)), Nat.max_eq_left (by omega)]
    have hF0 : Fz [(6, 5), (6, 6), (6, 9), (6, 10), (6, 11)] [] S (setI S 6 11 (Int32.ofNat (max dp0 deep))) := Fz.refl.seti (by decide)
    refine b18_0 (P := fun v S1 => ∃ c, v = bi (!c) ∧ Fz [(6, 5), (6, 6), (6, 9), (6, 10), (6, 11)] [] S S1 ∧ TD S1 lf0 (max dp0 deep) cl0 ∧ Fc bs F m y n (S1.1 6 5) (S1.1 6 6) c) ?_ ?_
    · rw [em]
      refine c6a (d := e) (hC.of hF0 (by decide)) h20 hFl hbl hy hn hs (fun S1 c h1 h2 => ⟨_, rfl, c, rfl, hF0.trans (h1.mono (by decide) (by decide)), ⟨?_, ?_, ?_⟩, h2⟩)
      · rw [h1.f (by decide), seti_ne (by decide)]; exact t1
      · rw [h1.f (by decide), seti_same]
      · rw [h1.f (by decide), seti_ne (by decide)]; exact t3
    · rintro _ S1 ⟨c, rfl, hF1, ⟨u1, u2, u3⟩, hfc⟩
      obtain ⟨hlY, hlN, hcs⟩ := id hfc
      cases c with
      | true =>
        refine b18_20 (fun q => absurd rfl q) (fun _ => b18_23 (Or.inl rfl) ?_)
        refine K false 1 0 1 _ ⟨_, _, true, hfc, Or.inl ⟨rfl, rfl, rfl, rfl, rfl⟩⟩ ((hF1.seti (by decide)).seti (by decide)) ⟨?_, ?_, ?_⟩
        · rw [seti_ne (by decide), seti_same, u1, i_suc]
        · rw [seti_ne (by decide), seti_ne (by decide), u2]; rfl
        · rw [seti_same, seti_ne (by decide), u3, i_suc]
      | false =>
        obtain ⟨hG, sy, sn⟩ : Abo bs F m y n (S1.1 6 5) (S1.1 6 6) := by
          rcases hcs with ⟨_, q1, q2⟩ | ⟨q, _⟩
          · exact q1
          · cases q
        have ha1 : S1.1 6 4 = ins := (hF1.f (by decide)).trans ha
        refine b18_20 (fun _ => ?_) (fun q => absurd q (by decide))
        have leaf : (ins &&& (S1.1 6 5 ^^^ -1)) &&& (S1.1 6 6 ^^^ -1) = 0 → ∀ x7, Wp (e + 3) 0 18 83 [.ref 6, .int y, .int n, .int sp, .int (Int32.ofNat deep), .int (S1.1 6 5), .int (S1.1 6 6), .int x7] [] S1 Q := by
          intro h0 x7
          refine b18_83 (Or.inr rfl) (K true 1 0 0 _ ⟨_, _, false, hfc, Or.inr (Or.inl ⟨rfl, h0, rfl, rfl, rfl, rfl⟩)⟩ (hF1.seti (by decide)) ⟨?_, ?_, ?_⟩)
          · rw [seti_same, u1, i_suc]
          · rw [seti_ne (by decide), u2]; rfl
          · rw [seti_ne (by decide), u3]; rfl
        refine b18_45 ?_ ?_
        all_goals rw [ha1, open_eq]
        · exact fun h0 => leaf h0 _
        · intro hne
          obtain ⟨l, l32, hl, hlm⟩ := least_ex hne
          have hlins : tb ins l = true := by
            rw [tb_opn] at hl
            simp only [Bool.and_eq_true] at hl
            exact hl.1.1
          have hlm' : l < m := hlow l hlins
          have ho1 := opn_le (ins := ins) sy sn
          have lb : Low m (bit l) := low_bit hlm' l32
          have tbl : tb (bit l) l = true := by rw [tb_bit l32]; simp
          have o1 : opn ins (S1.1 6 5 ||| bit l) (S1.1 6 6) < opn ins (S1.1 6 5) (S1.1 6 6) := opn_lt hl (sb_orl _ _) (sb.refl _) (Or.inl (sb_orr _ _ l tbl))
          have o2 : opn ins (S1.1 6 5) (S1.1 6 6 ||| bit l) < opn ins (S1.1 6 5) (S1.1 6 6) := opn_lt hl (sb.refl _) (sb_orl _ _) (Or.inr (sb_orr _ _ l tbl))
          refine b18_76 (fun _ => ?_) (fun h => absurd ((i_lt (b := 45) (by omega) (by omega)).2 (by omega)) h)
          refine b18_95 (P := fun v S2 => ∃ fd lf dp cl, v = bi fd ∧ Tr bs F m ins k (S1.1 6 5 ||| bit l) (S1.1 6 6) fd lf dp cl ∧ Fz [(6, 5), (6, 6), (6, 9), (6, 10), (6, 11)] [] S1 S2 ∧ TD S2 (lf0 + lf) (max (max dp0 deep) (deep + 1 + dp)) (cl0 + cl)) ?_ ?_
          · rw [i_suc, low1 hl hlm]
            exact ih (e + 2) (deep + 1) lf0 (max dp0 deep) cl0 (S1.1 6 5 ||| bit l) (S1.1 6 6) (S1.1 6 5) S1 _ (by omega) (hC.of hF1 (by decide)) ha1 (low_or hlY lb) hlN (fun r hr _ h2 => hG.2.2.1 r hr h2) (by omega) (by omega) (by omega) ⟨u1, u2, u3⟩ (fun fd lf dp cl S2 h1 h2 h3 => ⟨_, rfl, fd, lf, dp, cl, rfl, h1, h2, h3⟩)
          · rintro _ S2 ⟨fd1, lf1, dp1, cl1, rfl, hT1, hF2, hC2⟩
            have hd1 := (Tr.pos _ _ _ _ _ _ _ hT1).2.2.1
            have hmax : max (max dp0 deep) (deep + 1 + dp1) = max dp0 (deep + (dp1 + 1)) := by omega
            cases fd1 with
            | true =>
              refine b18_120 (fun _ => b18_143 (b18_148 (Or.inr rfl) (K true lf1 (dp1 + 1) cl1 S2 ⟨_, _, false, hfc, Or.inr (Or.inr ⟨rfl, l, hl, hlm, true, lf1, dp1, cl1, hT1, Or.inl ⟨rfl, rfl, rfl, rfl, rfl⟩⟩)⟩ (hF1.trans hF2) ?_))) (fun h => absurd h (by decide))
              rw [← hmax]
              exact hC2
            | false =>
              refine b18_120 (fun h => absurd rfl h) (fun _ => b18_123 (P := fun v S3 => ∃ fd lf dp cl, v = bi fd ∧ Tr bs F m ins k (S1.1 6 5) (S1.1 6 6 ||| bit l) fd lf dp cl ∧ Fz [(6, 5), (6, 6), (6, 9), (6, 10), (6, 11)] [] S2 S3 ∧ TD S3 (lf0 + lf1 + lf) (max (max (max dp0 deep) (deep + 1 + dp1)) (deep + 1 + dp)) (cl0 + cl1 + cl)) ?_ ?_)
              · rw [i_suc, low1 hl hlm]
                exact ih (e + 2) (deep + 1) (lf0 + lf1) _ (cl0 + cl1) (S1.1 6 5) (S1.1 6 6 ||| bit l) (S1.1 6 5) S2 _ (by omega) (hC.of (hF1.trans hF2) (by decide)) ((hF2.f (by decide)).trans ha1) hlY (low_or hlN lb) (fun r hr _ h2 => (hG.2.2.1 r hr h2).trans (sb_orl _ _)) (by omega) (by omega) (by omega) hC2 (fun fd lf dp cl S3 h1 h2 h3 => ⟨_, rfl, fd, lf, dp, cl, rfl, h1, h2, h3⟩)
              · rintro _ S3 ⟨fd2, lf2, dp2, cl2, rfl, hT2, hF3, hC3⟩
                have hTT : Tr bs F m ins (k + 1) y n fd2 (lf1 + lf2) (max dp1 dp2 + 1) (cl1 + cl2) := ⟨_, _, false, hfc, Or.inr (Or.inr ⟨rfl, l, hl, hlm, false, lf1, dp1, cl1, hT1, Or.inr ⟨rfl, lf2, dp2, cl2, hT2, rfl, rfl, rfl⟩⟩)⟩
                have hC : TD S3 (lf0 + (lf1 + lf2)) (max dp0 (deep + (max dp1 dp2 + 1))) (cl0 + (cl1 + cl2)) := by
                  have e1 : max (max (max dp0 deep) (deep + 1 + dp1)) (deep + 1 + dp2) = max dp0 (deep + (max dp1 dp2 + 1)) := by omega
                  rw [e1, Nat.add_assoc, Nat.add_assoc] at hC3
                  exact hC3
                have kk := K fd2 _ _ _ S3 hTT ((hF1.trans hF2).trans hF3) hC
                cases fd2 with
                | true => exact b18_140 (fun h => absurd h (by decide)) (fun _ => b18_143 (b18_148 (Or.inr rfl) kk))
                | false => exact b18_140 (fun _ => b18_147 (b18_148 (Or.inl rfl) kk)) (fun h => absurd rfl h)
/-- the tree as it is kept -/
def CT (bs : Nat → Int32) (F : List Int32) (m : Nat) (ins : Int32) (S : St) : Prop := S.1 6 9 = 0 ∨ ∃ fd lf dp cl, Tr bs F m ins 21 0 0 fd lf dp cl ∧ TD S lf dp cl
theorem opn0 (hlow : Low m ins) (h20 : m ≤ 20) : opn ins 0 0 < 21 := by
  unfold opn
  have := pcn_mono ((sb_andl (ins &&& ((0 : Int32) ^^^ -1)) ((0 : Int32) ^^^ -1)).trans (sb_andl _ _))
  have := pcn_lown hlow (by omega)
  omega
theorem c17 {d : Nat} {S : St} {Q : Out → St → Prop} (h20 : m ≤ 20) (hlow : Low m ins) (hFl : ∀ f, f ∈ F → Low m f) (hbl : ∀ r, r < m → Low m (bs r)) (hC : CHa m bs F S) (ha : S.1 6 4 = ins) (hT : CT bs F m ins S) (K : ∀ S1 fd lf dp cl, Fz [(6, 5), (6, 6), (6, 9), (6, 10), (6, 11)] [] S S1 → Tr bs F m ins 21 0 0 fd lf dp cl → TD S1 lf dp cl → Q (.inl none) S1) : Wp (d + 25) b 17 0 [.ref 6] [] S Q := by
  refine b17_0 (fun h => ?_) (fun h => b17_7 ?_)
  · have h0 : S.1 6 9 = 0 := by
      rcases hT with q | ⟨fd, lf, dp, cl, q, q1, _⟩
      · exact q
      · obtain ⟨p1, p2, _⟩ := Tr.pos _ _ _ _ _ _ _ q
        rw [q1] at h
        have := (i_le (b := 0) (by omega) (by omega)).1 h
        omega
    have hF0 : Fz [(6, 5), (6, 6), (6, 9), (6, 10), (6, 11)] [] S (setI (setI S 6 10 0) 6 11 0) := (Fz.refl.seti (by decide)).seti (by decide)
    refine b17_8 (P := fun v S1 => ∃ fd lf dp cl, Tr bs F m ins 21 0 0 fd lf dp cl ∧ Fz [(6, 5), (6, 6), (6, 9), (6, 10), (6, 11)] [] S S1 ∧ TD S1 lf dp cl) ?_ ?_
    · refine c18 h20 hlow hFl hbl 21 (d + 24) 0 0 0 0 0 0 0 _ _ (by omega) (hC.of hF0 (by decide)) ((hF0.f (by decide)).trans ha) (low_zero _) (low_zero _) (fun r _ q => by rw [tb_zero] at q; cases q) (opn0 hlow h20) (by omega) (by omega) ⟨?_, seti_same, ?_⟩ (fun fd lf dp cl S1 h1 h2 h3 => ⟨_, rfl, fd, lf, dp, cl, h1, hF0.trans h2, ?_⟩)
      · rw [seti_ne (by decide), seti_ne (by decide)]; exact h0
      · rw [seti_ne (by decide), seti_same]; rfl
      · rw [Nat.zero_add, Nat.zero_add, Nat.zero_add, Nat.zero_max] at h3
        exact h3
    · rintro v S1 ⟨fd, lf, dp, cl, h1, h2, h3⟩
      exact b17_26 (K S1 fd lf dp cl h2 h1 h3)
  · rcases hT with q | ⟨fd, lf, dp, cl, q, q1⟩
    · rw [q] at h; exact absurd (by decide) h
    · exact K S fd lf dp cl Fz.refl q q1
end CTREE
