/-! THE TREE of trying -/
/-- what trying comes to from some yes and no: whether a choice is found, leafs, how deep, clashes -/
def Tr (bs : Nat → Int32) (F : List Int32) (m : Nat) (ins : Int32) : Nat → Int32 → Int32 → Bool → Nat → Nat → Nat → Prop
  | 0, _, _, _, _, _, _ => False
  | k + 1, y, n, fd, lf, dp, cl => ∃ Y N c, Fc bs F m y n Y N c ∧
    ((c = true ∧ fd = false ∧ lf = 1 ∧ dp = 0 ∧ cl = 1) ∨
     (c = false ∧ (ins &&& (Y ^^^ -1)) &&& (N ^^^ -1) = 0 ∧ fd = true ∧ lf = 1 ∧ dp = 0 ∧ cl = 0) ∨
     (c = false ∧ ∃ l, tb ((ins &&& (Y ^^^ -1)) &&& (N ^^^ -1)) l = true ∧ (∀ j, j < l → tb ((ins &&& (Y ^^^ -1)) &&& (N ^^^ -1)) j = false) ∧ ∃ fd1 lf1 dp1 cl1, Tr bs F m ins k (Y ||| bit l) N fd1 lf1 dp1 cl1 ∧
       ((fd1 = true ∧ fd = true ∧ lf = lf1 ∧ dp = dp1 + 1 ∧ cl = cl1) ∨
        (fd1 = false ∧ ∃ lf2 dp2 cl2, Tr bs F m ins k Y (N ||| bit l) fd lf2 dp2 cl2 ∧ lf = lf1 + lf2 ∧ dp = max dp1 dp2 + 1 ∧ cl = cl1 + cl2))))
theorem Tr.uniq {bs : Nat → Int32} {F : List Int32} {m : Nat} {ins : Int32} : ∀ (k k2 : Nat) (y n : Int32) (fd fd2 : Bool) (lf lf2 dp dp2 cl cl2 : Nat), Tr bs F m ins k y n fd lf dp cl → Tr bs F m ins k2 y n fd2 lf2 dp2 cl2 → fd = fd2 ∧ lf = lf2 ∧ dp = dp2 ∧ cl = cl2 := by
  intro k
  induction k with
  | zero => intro k2 y n fd fd2 lf lf2 dp dp2 cl cl2 h; exact h.elim
  | succ k ih =>
    intro k2 y n fd fd2 lf lf2 dp dp2 cl cl2 h h2
    cases k2 with
    | zero => exact h2.elim
    | succ k2 =>
      obtain ⟨Y, N, c, hf, h⟩ := h
      obtain ⟨Y2, N2, c2, hf2, h2⟩ := h2
      obtain ⟨rfl, e⟩ := hf.uniq hf2
      rcases h with ⟨rfl, rfl, rfl, rfl, rfl⟩ | ⟨rfl, a1, rfl, rfl, rfl, rfl⟩ | ⟨rfl, l, a1, a2, f1, l1, p1, c1, a3, a4⟩
      · rcases h2 with ⟨_, rfl, rfl, rfl, rfl⟩ | ⟨q, _⟩ | ⟨q, _⟩
        · exact ⟨rfl, rfl, rfl, rfl⟩
        · cases q
        · cases q
      · obtain ⟨rfl, rfl⟩ := e rfl
        rcases h2 with ⟨q, _⟩ | ⟨_, _, rfl, rfl, rfl, rfl⟩ | ⟨_, l, b1, _⟩
        · cases q
        · exact ⟨rfl, rfl, rfl, rfl⟩
        · rw [a1, tb_zero] at b1; cases b1
      · obtain ⟨rfl, rfl⟩ := e rfl
        rcases h2 with ⟨q, _⟩ | ⟨_, b1, _⟩ | ⟨_, l2, b1, b2, g1, m1, q1, d1, b3, b4⟩
        · cases q
        · rw [b1, tb_zero] at a1; cases a1
        · have el : l = l2 := by
            rcases Nat.lt_trichotomy l l2 with h | h | h
            · rw [b2 l h] at a1; cases a1
            · exact h
            · rw [a2 l2 h] at b1; cases b1
          subst el
          obtain ⟨rfl, rfl, rfl, rfl⟩ := ih k2 _ _ _ _ _ _ _ _ _ _ a3 b3
          rcases a4 with ⟨rfl, rfl, rfl, rfl, rfl⟩ | ⟨rfl, l3, p3, c3, a5, rfl, rfl, rfl⟩
          · rcases b4 with ⟨_, rfl, rfl, rfl, rfl⟩ | ⟨q, _⟩
            · exact ⟨rfl, rfl, rfl, rfl⟩
            · cases q
          · rcases b4 with ⟨q, _⟩ | ⟨_, l4, p4, c4, b5, rfl, rfl, rfl⟩
            · cases q
            · obtain ⟨rfl, rfl, rfl, rfl⟩ := ih k2 _ _ _ _ _ _ _ _ _ _ a5 b5
              exact ⟨rfl, rfl, rfl, rfl⟩
/-- how many rays are open still -/
def opn (ins y n : Int32) : Nat := pcn ((ins &&& (y ^^^ -1)) &&& (n ^^^ -1))
theorem tb_opn (ins y n : Int32) (k : Nat) : tb ((ins &&& (y ^^^ -1)) &&& (n ^^^ -1)) k = (tb ins k && !tb y k && !tb n k) := by
  rw [tb_diff, tb_diff]
theorem opn_lt {ins y n Y N : Int32} {l : Nat} (h : tb ((ins &&& (y ^^^ -1)) &&& (n ^^^ -1)) l = true) (h1 : sb y Y) (h2 : sb n N) (h3 : tb Y l = true ∨ tb N l = true) : opn ins Y N < opn ins y n := by
  refine cnt_lt (l := l) (fun k _ hk => ?_) (tb_lt h) ?_ h
  · rw [tb_opn] at hk ⊢
    simp only [Bool.and_eq_true, Bool.not_eq_true'] at hk ⊢
    obtain ⟨⟨q1, q2⟩, q3⟩ := hk
    refine ⟨⟨q1, ?_⟩, ?_⟩
    · cases e : tb y k
      · rfl
      · rw [h1 k e] at q2; cases q2
    · cases e : tb n k
      · rfl
      · rw [h2 k e] at q3; cases q3
  · rw [tb_opn]
    rcases h3 with h3 | h3 <;> rw [h3] <;> simp
theorem opn_le {ins y n Y N : Int32} (h1 : sb y Y) (h2 : sb n N) : opn ins Y N ≤ opn ins y n := by
  refine cnt_mono (fun k _ hk => ?_)
  rw [tb_opn] at hk ⊢
  simp only [Bool.and_eq_true, Bool.not_eq_true'] at hk ⊢
  obtain ⟨⟨q1, q2⟩, q3⟩ := hk
  refine ⟨⟨q1, ?_⟩, ?_⟩
  · cases e : tb y k
    · rfl
    · rw [h1 k e] at q2; cases q2
  · cases e : tb n k
    · rfl
    · rw [h2 k e] at q3; cases q3
section TREE
variable {b m rl : Nat} {ins : Int32} {up : Nat → Int32} {F : List Int32}
/-- how the counts of the tree stand -/
def TC (S : St) (lf dp cl : Nat) : Prop := S.1 46 20 = Int32.ofNat lf ∧ S.1 46 21 = Int32.ofNat dp ∧ S.1 46 22 = Int32.ofNat cl
theorem w174 (hFl : ∀ f, f ∈ F → Low m f) (hbl : ∀ r, r < m → Low m (bes rl up F r)) : ∀ (k dd deep lf0 dp0 cl0 : Nat) (y n : Int32) (S : St) (Q : Out → St → Prop), k + 3 ≤ dd → MW m rl ins up F S → Low m y → Low m n → opn ins y n < k → deep + k ≤ 100 → dp0 ≤ 100 → TC S lf0 dp0 cl0 →
    (∀ fd lf dp cl S1, Tr (bes rl up F) F m ins k y n fd lf dp cl → deep + dp ≤ 100 → Fz [(46, 17), (46, 18), (46, 19), (46, 20), (46, 21), (46, 22)] [] S S1 → TC S1 (lf0 + lf) (max dp0 (deep + dp)) (cl0 + cl) → Q (.inl (some (.int (bi fd)))) S1) →
    Wp dd 0 174 0 [.ref 46, .int y, .int n, .int (Int32.ofNat deep)] [] S Q := by
  intro k
  induction k with
  | zero => intro dd deep lf0 dp0 cl0 y n S Q hdd hW hy hn ho; omega
  | succ k ih =>
    intro dd deep lf0 dp0 cl0 y n S Q hdd hW hy hn ho hde hdp hT K
    obtain ⟨e, rfl⟩ : ∃ e, dd = e + 3 := ⟨dd - 3, by omega⟩
    obtain ⟨t1, t2, t3⟩ := id hT
    obtain ⟨hm, h20, hi, hlow, hrl, hr1, hup, hL, hlen, hbs⟩ := id hW
    have em : (if S.1 46 21 < Int32.ofNat deep then Int32.ofNat deep else S.1 46 21) = Int32.ofNat (max dp0 deep) := by
      rw [t2]
      by_cases h : dp0 < deep
      · rw [if_pos ((i_lt (by omega) (by omega)).2 h), Nat.max_eq_right (by omega)]
      · rw [if_neg (fun q => h ((i_lt (by omega) (by omega)).1 q)), Nat.max_eq_left (by omega)]
    have hF0 : Fz [(46, 17), (46, 18), (46, 19), (46, 20), (46, 21), (46, 22)] [] S (setI S 46 21 (Int32.ofNat (max dp0 deep))) := Fz.refl.seti (by decide)
    refine b174_0 (P := fun S1 => Fz [(46, 17), (46, 18), (46, 19), (46, 20), (46, 21), (46, 22)] [] S S1 ∧ TC S1 lf0 (max dp0 deep) cl0 ∧ ∃ c, S1.1 46 19 = bi c ∧ Fc (bes rl up F) F m y n (S1.1 46 17) (S1.1 46 18) c) ?_ ?_
    · rw [em]
      refine w173 (hW.of hF0 (by decide)) hFl hbl hy hn (fun S1 c h1 h2 h3 => ⟨rfl, hF0.trans (h1.mono (by decide) (by decide)), ⟨?_, ?_, ?_⟩, c, h2, h3⟩)
      · rw [h1.f (by decide), seti_ne (by decide)]; exact t1
      · rw [h1.f (by decide), seti_same]
      · rw [h1.f (by decide), seti_ne (by decide)]; exact t3
    · rintro S1 ⟨hF1, ⟨u1, u2, u3⟩, c, hc, hfc⟩
      have hW1 : MW m rl ins up F S1 := hW.of hF1 (by decide)
      obtain ⟨_, _, hi1, _⟩ := id hW1
      obtain ⟨hlY, hlN, hcs⟩ := id hfc
      have leaf : ∀ fd cl : _, cl = (if c = true then 1 else 0) → fd = !c → Tr (bes rl up F) F m ins (k + 1) y n fd 1 0 cl → ∀ x6, Wp (e + 3) 0 174 58 [.ref 46, .int y, .int n, .int (Int32.ofNat deep), .int (S1.1 46 17), .int (S1.1 46 18), .int x6] [] S1 Q := by
        intro fd cl hcl hfd hT x6
        have e19 : ∀ v, (setI S1 46 20 v).1 46 19 = bi c := fun v => (seti_ne (by decide)).trans hc
        have e22 : ∀ v, (setI S1 46 20 v).1 46 22 = Int32.ofNat cl0 := fun v => (seti_ne (by decide)).trans u3
        have done : ∀ v : Int32, v = Int32.ofNat cl → ∀ fl, fl = bi fd → Q (.inl (some (.int fl))) (setI (setI S1 46 20 (S1.1 46 20 + 1)) 46 22 ((setI S1 46 20 (S1.1 46 20 + 1)).1 46 22 + v)) := by
          intro v hv fl hfl
          subst hfl
          refine K fd 1 0 cl _ hT (by omega) ((hF1.seti (by decide)).seti (by decide)) ⟨?_, ?_, ?_⟩
          · rw [seti_ne (by decide), seti_same, u1, i_suc]
          · rw [seti_ne (by decide), seti_ne (by decide), u2]; rfl
          · rw [seti_same, e22, hv, i_add]
        cases c with
        | true =>
          refine b174_58 (fun h => ?_) (fun _ => b174_80 (b174_85 (fun _ => b174_100 (b174_101 (Or.inl rfl) (done 1 (by rw [hcl]; rfl) 0 (by rw [hfd]; rfl)))) (fun h => ?_)))
          · rw [e19] at h; exact absurd h (by decide)
          · refine absurd ?_ h
            rw [seti_ne (by decide), e19]; decide
        | false =>
          refine b174_58 (fun _ => b174_84 (b174_85 (fun h => ?_) (fun _ => b174_96 (b174_101 (Or.inr rfl) (done 0 (by rw [hcl]; rfl) 1 (by rw [hfd]; rfl)))))) (fun h => ?_)
          · refine absurd ?_ h
            rw [seti_ne (by decide), e19]; rfl
          · rw [e19] at h; exact absurd rfl h
      cases c with
      | true =>
        refine b174_18 (fun _ => leaf false 1 rfl rfl ⟨_, _, true, hfc, Or.inl ⟨rfl, rfl, rfl, rfl, rfl⟩⟩ _) (fun h => ?_)
        rw [hc] at h; exact absurd (Classical.not_not.1 h) (by decide)
      | false =>
        obtain ⟨⟨hG, sy, sn⟩, hleast⟩ : Abo (bes rl up F) F m y n (S1.1 46 17) (S1.1 46 18) ∧ ∀ Y' N', Abo (bes rl up F) F m y n Y' N' → sb (S1.1 46 17) Y' ∧ sb (S1.1 46 18) N' := by
          rcases hcs with ⟨_, q1, q2⟩ | ⟨q, _⟩
          · exact ⟨q1, q2⟩
          · cases q
        refine b174_18 (fun h => ?_) (fun _ => ?_)
        · rw [hc] at h; exact absurd rfl h
        · rw [hi1]
          refine b174_53 (fun hne => ?_) (fun h0 => leaf true 0 rfl rfl ⟨_, _, false, hfc, Or.inr (Or.inl ⟨rfl, Classical.not_not.1 h0, rfl, rfl, rfl, rfl⟩)⟩ _)
          obtain ⟨l, l32, hl, hlm⟩ := least_ex hne
          have hlins : tb ins l = true := by
            rw [tb_opn] at hl
            simp only [Bool.and_eq_true] at hl
            exact hl.1.1
          have hlm' : l < m := hlow l hlins
          refine b174_102 (s156 hl hlm) ?_
          rintro _ _ ⟨rfl, rfl⟩
          have ho1 := opn_le (ins := ins) sy sn
          have lb : Low m (bit l) := low_bit hlm' l32
          have tbl : tb (bit l) l = true := by rw [tb_bit l32]; simp
          have o1 : opn ins (S1.1 46 17 ||| bit l) (S1.1 46 18) < opn ins (S1.1 46 17) (S1.1 46 18) := opn_lt hl (sb_orl _ _) (sb.refl _) (Or.inl (sb_orr _ _ l tbl))
          have o2 : opn ins (S1.1 46 17) (S1.1 46 18 ||| bit l) < opn ins (S1.1 46 17) (S1.1 46 18) := opn_lt hl (sb.refl _) (sb_orl _ _) (Or.inr (sb_orr _ _ l tbl))
          refine b174_108 (P := fun v S2 => ∃ fd lf dp cl, v = bi fd ∧ Tr (bes rl up F) F m ins k (S1.1 46 17 ||| bit l) (S1.1 46 18) fd lf dp cl ∧ deep + 1 + dp ≤ 100 ∧ Fz [(46, 17), (46, 18), (46, 19), (46, 20), (46, 21), (46, 22)] [] S1 S2 ∧ TC S2 (lf0 + lf) (max (max dp0 deep) (deep + 1 + dp)) (cl0 + cl)) ?_ ?_
          · rw [i_suc]
            exact ih (e + 2) (deep + 1) lf0 (max dp0 deep) cl0 (S1.1 46 17 ||| bit l) (S1.1 46 18) S1 _ (by omega) hW1 (low_or hlY lb) hlN (by omega) (by omega) (by omega) ⟨u1, u2, u3⟩ (fun fd lf dp cl S2 h1 h2 h3 h4 => ⟨_, rfl, fd, lf, dp, cl, rfl, h1, h2, h3, h4⟩)
          · rintro _ S2 ⟨fd1, lf1, dp1, cl1, rfl, hT1, hd1, hF2, hC2⟩
            have hmax : max (max dp0 deep) (deep + 1 + dp1) = max dp0 (deep + (dp1 + 1)) := by omega
            cases fd1 with
            | true =>
              refine b174_125 (fun _ => b174_145 (b174_150 (Or.inr rfl) (K true lf1 (dp1 + 1) cl1 S2 ⟨_, _, false, hfc, Or.inr (Or.inr ⟨rfl, l, hl, hlm, true, lf1, dp1, cl1, hT1, Or.inl ⟨rfl, rfl, rfl, rfl, rfl⟩⟩)⟩ (by omega) (hF1.trans hF2) ?_))) (fun h => absurd h (by decide))
              rw [← hmax]
              exact hC2
            | false =>
              refine b174_125 (fun h => absurd rfl h) (fun _ => b174_128 (P := fun v S3 => ∃ fd lf dp cl, v = bi fd ∧ Tr (bes rl up F) F m ins k (S1.1 46 17) (S1.1 46 18 ||| bit l) fd lf dp cl ∧ deep + 1 + dp ≤ 100 ∧ Fz [(46, 17), (46, 18), (46, 19), (46, 20), (46, 21), (46, 22)] [] S2 S3 ∧ TC S3 (lf0 + lf1 + lf) (max (max (max dp0 deep) (deep + 1 + dp1)) (deep + 1 + dp)) (cl0 + cl1 + cl)) ?_ ?_)
              · rw [i_suc]
                exact ih (e + 2) (deep + 1) (lf0 + lf1) _ (cl0 + cl1) (S1.1 46 17) (S1.1 46 18 ||| bit l) S2 _ (by omega) (hW1.of hF2 (by decide)) hlY (low_or hlN lb) (by omega) (by omega) (by omega) hC2 (fun fd lf dp cl S3 h1 h2 h3 h4 => ⟨_, rfl, fd, lf, dp, cl, rfl, h1, h2, h3, h4⟩)
              · rintro _ S3 ⟨fd2, lf2, dp2, cl2, rfl, hT2, hd2, hF3, hC3⟩
                have hTT : Tr (bes rl up F) F m ins (k + 1) y n fd2 (lf1 + lf2) (max dp1 dp2 + 1) (cl1 + cl2) := ⟨_, _, false, hfc, Or.inr (Or.inr ⟨rfl, l, hl, hlm, false, lf1, dp1, cl1, hT1, Or.inr ⟨rfl, lf2, dp2, cl2, hT2, rfl, rfl, rfl⟩⟩)⟩
                have hC : TC S3 (lf0 + (lf1 + lf2)) (max dp0 (deep + (max dp1 dp2 + 1))) (cl0 + (cl1 + cl2)) := by
                  have e1 : max (max (max dp0 deep) (deep + 1 + dp1)) (deep + 1 + dp2) = max dp0 (deep + (max dp1 dp2 + 1)) := by omega
                  rw [e1, Nat.add_assoc, Nat.add_assoc] at hC3
                  exact hC3
                have kk := K fd2 _ _ _ S3 hTT (by omega) ((hF1.trans hF2).trans hF3) hC
                cases fd2 with
                | true => exact b174_142 (fun h => absurd h (by decide)) (fun _ => b174_145 (b174_150 (Or.inr rfl) kk))
                | false => exact b174_142 (fun _ => b174_149 (b174_150 (Or.inl rfl) kk)) (fun h => absurd rfl h)
end TREE
