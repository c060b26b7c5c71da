/-! PARITIES: the reference's answers, and the class's -/
section MPAR2
variable {b : Nat} {F : List Int32}
/-- what is known of sums -/
def MPy (F : List Int32) (S : St) : Prop := S.1 46 11 = 0 ∨ (S.1 46 11 = 1 ∧ Ly (GM F) S)
theorem odd21 : Low 21 1048576 := low_bit (r := 20) (by omega) (by omega)
theorem w198 {d : Nat} {S : St} {Q : Out → St → Prop} (hl : F.length ≤ 4845) (hF : ∀ f, f ∈ F → Low 20 f) (hL : FL S F) (h11 : MPy F S) (K : ∀ S1, Fz [(46, 4), (46, 11)] [54] S S1 → S1.1 46 4 = 0 → S1.1 46 11 = 1 → Ly (GM F) S1 → Q (.inl (some (.int (S1.2.1 54 1048576)))) S1) : Wp (d + 3) b 198 0 [.ref 46] [] S Q := by
  have f0 : Fz [(46, 4)] [] S (setI S 46 4 0) := Fz.refl.seti (by decide)
  have h11' : MPy F (setI S 46 4 0) := by
    rcases h11 with e | ⟨e, h⟩
    · exact Or.inl ((f0.f (by decide)).trans e)
    · exact Or.inr ⟨(f0.f (by decide)).trans e, h.of f0 (by decide)⟩
  refine b198_0 (P := fun S1 => Fz [(46, 11)] [54] (setI S 46 4 0) S1 ∧ S1.1 46 11 = 1 ∧ Ly (GM F) S1) (w196 hl hF (hL.of f0 (by decide) (by decide)) h11' (fun S1 g1 g2 g3 => ⟨rfl, g1, g2, g3⟩)) ?_
  rintro S1 ⟨g1, g2, g3⟩
  refine b198_9 (i_vp (k := 1048576) (n := 2097152) (by omega) (by omega)) ?_
  rw [show ((1048576 : Int32)).toNatClampNeg = 1048576 from i_cl (n := 1048576) (by omega)]
  exact K S1 ((f0.mono (by decide) (by decide)).trans (g1.mono (by decide) (by decide))) ((g1.f (by decide)).trans seti_same) g2 g3
theorem rc_ex {G : List Int32} : ∀ {k : Nat} {s : Int32}, Dk G k s → ∃ l, RC G k s l := by
  intro k
  induction k with
  | zero => intro s _; exact ⟨[], rfl⟩
  | succ k ih =>
    intro s h
    have : ∀ n a, a < n → a < G.length → Dk G k (s ^^^ G.getD a 0) → ∃ i, i < G.length ∧ (∀ j, j < i → ¬ Dk G k (s ^^^ G.getD j 0)) ∧ Dk G k (s ^^^ G.getD i 0) := by
      intro n
      induction n with
      | zero => intro a h; omega
      | succ n ihn =>
        intro a h1 h2 h3
        by_cases q : ∃ j, j < a ∧ Dk G k (s ^^^ G.getD j 0)
        · obtain ⟨j, q1, q2⟩ := q
          exact ihn j (by omega) (by omega) q2
        · exact ⟨a, h2, fun j hj hd => q ⟨j, hj, hd⟩, h3⟩
    obtain ⟨a, ha, hd⟩ := dk_down h
    obtain ⟨i, h1, h2, h3⟩ := this (a + 1) a (by omega) ha hd
    obtain ⟨l, hl⟩ := ih h3
    exact ⟨i :: l, i, l, rfl, h1, h2, h3, hl⟩
theorem w199 {d : Nat} {S : St} {x : Int32} {Q : Out → St → Prop} (hl : F.length ≤ 4845) (hF : ∀ f, f ∈ F → Low 20 f) (hL : FL S F) (h11 : MPy F S) (K1 : ∀ v S1, Fz [(46, 4), (46, 11)] [54] S S1 → S1.1 46 4 = 1 → S1.1 46 11 = 1 → Ly (GM F) S1 → ((∀ k, ¬ Dk (GM F) k 1048576) ∨ ∃ k, Dk (GM F) k 1048576 ∧ ¬ (¬ x < 0 ∧ x.toNatClampNeg < k)) → Q (.inl (some (.int v))) S1) (K0 : ∀ k l S1, Fz [(46, 4), (46, 11)] [54] S S1 → S1.1 46 4 = 0 → S1.1 46 11 = 1 → Ly (GM F) S1 → Dk (GM F) k 1048576 → RC (GM F) k 1048576 l → ¬ x < 0 → x.toNatClampNeg < k → Q (.inl (some (.int (Int32.ofNat (l.getD x.toNatClampNeg 0))))) S1) : Wp (d + 3) b 199 0 [.ref 46, .int x] [] S Q := by
  have g40 : (GM F).length ≤ 40 := by rw [gm_len]; exact Nat.min_le_left _ _
  have gF : (GM F).length ≤ F.length := by rw [gm_len]; exact Nat.min_le_right _ _
  have glow := gm_low hF
  have f0 : Fz [(46, 4)] [] S (setI S 46 4 0) := Fz.refl.seti (by decide)
  have h11' : MPy F (setI S 46 4 0) := by
    rcases h11 with e | ⟨e, h⟩
    · exact Or.inl ((f0.f (by decide)).trans e)
    · exact Or.inr ⟨(f0.f (by decide)).trans e, h.of f0 (by decide)⟩
  refine b199_0 (P := fun S1 => Fz [(46, 11)] [54] (setI S 46 4 0) S1 ∧ S1.1 46 11 = 1 ∧ Ly (GM F) S1) (w196 hl hF (hL.of f0 (by decide) (by decide)) h11' (fun S1 g1 g2 g3 => ⟨rfl, g1, g2, g3⟩)) ?_
  rintro S1 ⟨g1, g2, g3⟩
  have hFz : Fz [(46, 4), (46, 11)] [54] S S1 := (f0.mono (by decide) (by decide)).trans (g1.mono (by decide) (by decide))
  have h4 : S1.1 46 4 = 0 := (g1.f (by decide)).trans seti_same
  have eo : ((1048576 : Int32)).toNatClampNeg = 1048576 := i_cl (n := 1048576) (by omega)
  refine b199_9 (i_vp (k := 1048576) (n := 2097152) (by omega) (by omega)) s153 ?_
  rintro _ _ ⟨rfl, rfl⟩
  have bad : ((∀ k, ¬ Dk (GM F) k 1048576) ∨ ∃ k, Dk (GM F) k 1048576 ∧ ¬ (¬ x < 0 ∧ x.toNatClampNeg < k)) → Wp (d + 3) b 199 27 [.ref 46, .int x] [] S1 Q := by
    intro h
    refine b199_27 (s152 1) ?_
    rintro _ _ ⟨rfl, rfl⟩
    refine b199_32 (K1 _ _ (hFz.seti (by decide)) seti_same ((seti_ne (by decide)).trans g2) (g3.of (fs := [(46, 4)]) (as := []) (Fz.refl.seti (by decide)) (by decide)) h)
  rcases g3 _ odd21 with ⟨k, hd, hv⟩ | ⟨hno, hv⟩
  rotate_left
  · have hv : S1.2.1 54 ((1048576 : Int32)).toNatClampNeg = -1 := hv
    rw [hv]
    refine b199_24 (fun q => ?_) (fun _ => bad (Or.inl hno))
    have := of_decide_eq_true (bi1.1 q)
    exfalso
    have h1 := Int32.le_iff_toInt_le.1 this.1
    have h2 := Int32.le_iff_toInt_le.1 this.2
    rw [show ((-1 : Int32) - 1).toInt = -2 by decide] at h2
    rw [show ((0 : Int32)).toInt = 0 by decide] at h1
    omega
  have hk40 : k ≤ 40 := Nat.le_trans (pk_len hd.1) g40
  have hv : S1.2.1 54 ((1048576 : Int32)).toNatClampNeg = Int32.ofNat k := hv
  rw [hv]
  have hin : ((0 : Int32) ≤ x ∧ x ≤ Int32.ofNat k - 1) ↔ (¬ x < 0 ∧ x.toNatClampNeg < k) := by
    have hx : ¬ x < 0 ↔ 0 ≤ x := Int32.not_lt
    constructor
    · rintro ⟨h1, h2⟩
      have h0 := hx.2 h1
      refine ⟨h0, ?_⟩
      have e := i_of h0
      have hc := i_clt x
      generalize x.toNatClampNeg = n at *
      subst e
      cases k with
      | zero => exact absurd h2 (by
          intro z
          have z := Int32.le_iff_toInt_le.1 z
          rw [i_toInt hc, show (Int32.ofNat 0 - 1).toInt = -1 by decide] at z
          omega)
      | succ k =>
        rw [i_pre] at h2
        have := (i_le hc (by omega)).1 h2
        omega
    · rintro ⟨h0, h2⟩
      refine ⟨hx.1 h0, ?_⟩
      have e := i_of h0
      have hc := i_clt x
      generalize x.toNatClampNeg = n at *
      subst e
      cases k with
      | zero => omega
      | succ k => rw [i_pre]; exact (i_le hc (by omega)).2 (by omega)
  refine b199_24 (fun q => b199_33 ?_) (fun q => bad (Or.inr ⟨k, hd, fun z => ?_⟩))
  rotate_left
  · have := of_decide_eq_false (bi0.1 (Classical.byContradiction q))
    exact this (hin.2 z)
  obtain ⟨x0, xk⟩ := hin.1 (of_decide_eq_true (bi1.1 q))
  obtain ⟨l, hrc⟩ := rc_ex hd
  have fin := K0 k l S1 hFz h4 g2 g3 hd hrc x0 xk
  have ex := i_of x0
  generalize x.toNatClampNeg = n at *
  subst ex
  have hn : n ≤ 40 := by omega
  generalize hG : GM F = G at *
  have hL1 : FL S1 F := hL.of hFz (by decide) (by decide)
  -- one frame more is found
  have seek : ∀ (m i : Nat) (s : Int32) (v c : Int32), Low 21 s → Dk G (m + 1) s → i < G.length → (∀ j, j < i → ¬ Dk G m (s ^^^ G.getD j 0)) → Dk G m (s ^^^ G.getD i 0) → Wp (d + 3) b 199 42 [.ref 46, .int (Int32.ofNat n), .int (s ^^^ G.getD i 0), .int (Int32.ofNat i), .int (c + 1)] [] S1 Q → Wp (d + 3) b 199 48 [.ref 46, .int (Int32.ofNat n), .int s, .int v, .int c] [] S1 Q := by
    intro m i s v c hs hds hi hlt hdi hk
    have m40 : m + 1 ≤ 40 := Nat.le_trans (pk_len hds.1) g40
    have ss : S1.2.1 54 s.toNatClampNeg = Int32.ofNat (m + 1) := by
      rcases g3 s hs with ⟨k', h1, h2⟩ | ⟨h1, _⟩
      · rw [dk_uniq hds h1]; exact h2
      · exact absurd hds (h1 _)
    have cs := cl21 hs
    have vs : vp_in s 2097152 := by rw [← cs.2]; exact i_vp cs.1 (by omega)
    refine b199_48 ?_
    have loop : ∀ e j, j + e = i → Wp (d + 3) b 199 50 [.ref 46, .int (Int32.ofNat n), .int s, .int (Int32.ofNat j), .int c] [] S1 Q := by
      intro e
      induction e with
      | zero =>
        intro j hj
        have hj : j = i := by omega
        subst hj
        have ej : (s ^^^ S1.2.1 50 (Int32.ofNat j).toNatClampNeg) ^^^ 1048576 = s ^^^ G.getD j 0 := by
          have : j < (GM F).length := by rw [hG]; exact hi
          rw [i_cl (by omega), hL1.2 j (by omega), Int32.xor_assoc, ← gm_get this, hG]
        have lx : Low 21 (s ^^^ G.getD j 0) := low_xor hs (glow _ (getD_mem hi))
        have cx := cl21 lx
        refine b199_50 (i_vp (by omega) (by omega)) (by rw [ej, ← cx.2]; exact i_vp cx.1 (by omega)) vs (fun _ => b199_84 (i_vp (by omega) (by omega)) ?_) (fun q => absurd ?_ q)
        · rw [← Int32.xor_assoc, ej]; exact hk
        · rw [ej, ss, i_pre]
          rcases g3 _ lx with ⟨k', h1, h2⟩ | ⟨h1, _⟩
          · rw [dk_uniq hdi h1]; exact h2
          · exact absurd hdi (h1 _)
      | succ e ih =>
        intro j hj
        have hjl : j < G.length := by omega
        have ej : (s ^^^ S1.2.1 50 (Int32.ofNat j).toNatClampNeg) ^^^ 1048576 = s ^^^ G.getD j 0 := by
          have : j < (GM F).length := by rw [hG]; exact hjl
          rw [i_cl (by omega), hL1.2 j (by omega), Int32.xor_assoc, ← gm_get this, hG]
        have lx : Low 21 (s ^^^ G.getD j 0) := low_xor hs (glow _ (getD_mem hjl))
        have cx := cl21 lx
        refine b199_50 (i_vp (by omega) (by omega)) (by rw [ej, ← cx.2]; exact i_vp cx.1 (by omega)) vs (fun q => ?_) (fun _ => b199_78 ?_)
        · exfalso
          rw [ej, ss, i_pre] at q
          rcases g3 _ lx with ⟨k', h1, h2⟩ | ⟨h1, h2⟩
          · have h2 : S1.2.1 54 (s ^^^ G.getD j 0).toNatClampNeg = Int32.ofNat k' := h2
            have k40 : k' ≤ 40 := Nat.le_trans (pk_len h1.1) g40
            have := nat_ne (by omega) (by omega) (h2.symm.trans q)
            rw [this] at h1
            exact hlt j (by omega) h1
          · have h2 : S1.2.1 54 (s ^^^ G.getD j 0).toNatClampNeg = -1 := h2
            exact nat_m1 (by omega) (q.symm.trans h2)
        · rw [i_suc]; exact ih (j + 1) (by omega)
    exact loop i 0 (by omega)
  have walk : ∀ e c s l' v, c + e = n → Low 21 s → (∃ m, k = c + (m + 1) ∧ Dk G (m + 1) s ∧ RC G (m + 1) s l') → l'.getD e 0 = l.getD n 0 → Wp (d + 3) b 199 42 [.ref 46, .int (Int32.ofNat n), .int s, .int v, .int (Int32.ofNat c)] [] S1 Q := by
    intro e
    induction e with
    | zero =>
      rintro c s l' v hc hs ⟨m, hm, hds, i, r, e1, h1, h2, h3, h4⟩ hlast
      refine b199_42 (fun q => ?_) (fun _ => seek m i s v _ hs hds h1 h2 h3 ?_)
      · have := (i_lt (by omega) (by omega)).1 q
        omega
      · rw [i_suc]
        refine b199_42 (fun _ => b199_103 ?_) (fun q => absurd ((i_lt (by omega) (by omega)).2 (by omega)) q)
        rw [e1] at hlast
        rw [show i = l.getD n 0 from hlast]
        exact fin
    | succ e ih =>
      rintro c s l' v hc hs ⟨m, hm, hds, i, r, e1, h1, h2, h3, h4⟩ hlast
      refine b199_42 (fun q => ?_) (fun _ => seek m i s v _ hs hds h1 h2 h3 ?_)
      · have := (i_lt (by omega) (by omega)).1 q
        omega
      · rw [i_suc]
        obtain ⟨m', rfl⟩ : ∃ m', m = m' + 1 := ⟨m - 1, by omega⟩
        refine ih (c + 1) _ r _ (by omega) (low_xor hs (glow _ (getD_mem h1))) ⟨m', by omega, h3, h4⟩ ?_
        rw [e1] at hlast
        exact hlast
  obtain ⟨m, rfl⟩ : ∃ m, k = m + 1 := ⟨k - 1, by omega⟩
  exact walk n 0 1048576 l _ (by omega) odd21 ⟨m, by omega, hd, hrc⟩ rfl
/-- both sides -/
theorem rw_phi (hF : ∀ f, f ∈ F → Low 20 f) : (F.take 40).map rwF = (GM F).map phi := by
  unfold GM
  rw [List.map_map]
  refine List.map_congr_left (fun f hf => ?_)
  exact (phi_od (hF f (List.mem_of_mem_take hf))).symm
theorem par_pk (hF : ∀ f, f ∈ F → Low 20 f) (k : Nat) : Pk ((F.take 40).map rwF) k 1 ↔ Pk (GM F) k 1048576 := by
  rw [rw_phi hF, ← phi_odd]
  exact pk_phi (gm_low hF) odd21
theorem par_eq {S S2 : St} (hF : ∀ f, f ∈ F → Low 20 f) (h1 : LeP ((F.take 40).map rwF) S) (h2 : Ly (GM F) S2) : (S.1 9 7 = -1 ∧ S2.2.1 54 1048576 = -1 ∧ ∀ k, ¬ Dk (GM F) k 1048576) ∨ ∃ k l, 1 ≤ k ∧ k ≤ 40 ∧ S.1 9 7 = Int32.ofNat k ∧ S2.2.1 54 1048576 = Int32.ofNat k ∧ Dk (GM F) k 1048576 ∧ RC (GM F) k 1048576 l ∧ ∀ j, j < k → S.2.1 36 j = Int32.ofNat (l.getD j 0) := by
  have h2 := h2 _ odd21
  rw [show stp S2 1048576 = S2.2.1 54 1048576 by unfold stp; rw [show ((1048576 : Int32)).toNatClampNeg = 1048576 from i_cl (n := 1048576) (by omega)]] at h2
  rcases h1 with ⟨h1, hn⟩ | ⟨k, l, e1, k1, k40, hn, hx, hc⟩
  · have hn' : ∀ k, ¬ Dk (GM F) k 1048576 := fun k hk => hn k ((par_pk hF k).2 hk.1)
    rcases h2 with ⟨k, hd, _⟩ | ⟨_, e⟩
    · exact absurd hd (hn' k)
    · exact Or.inl ⟨h1, e, hn'⟩
  · have hx' : LX (GM F) 0 k 1048576 l := by
      rw [rw_phi hF, ← phi_odd] at hx
      exact lx_phi (gm_low hF) odd21 hx
    have hd : Dk (GM F) k 1048576 := ⟨by have := lx_pk hx'; rw [List.drop_zero] at this; exact this, fun j hj z => hn j hj ((par_pk hF j).2 z)⟩
    refine Or.inr ⟨k, l, k1, k40, e1, ?_, hd, lx_rc hd (fun j hj => by omega) hx', hc⟩
    rcases h2 with ⟨k', hd', e⟩ | ⟨h, _⟩
    · rw [dk_uniq hd hd']; exact e
    · exact absurd hd (h k)
end MPAR2
