/-! THE REFERENCE: refused sets thinned layer by layer -/
theorem tn_low {X : Int32} (h : Low 20 X) : tn X < 1048576 := by
  have : tn X < 2 ^ 20 := by
    apply Nat.lt_pow_two_of_testBit
    intro i hi
    show tb X i = false
    refine bneg (fun e => ?_)
    have := h i e
    omega
  exact this
theorem of_tn (X : Int32) : Int32.ofNat (tn X) = X := tn_inj (tn_of (tn_lt X))
theorem i_div {n k : Nat} (h : n < 2147483648) (hk : 1 < k) (hk2 : k < 2147483648) : Int32.ofNat n / Int32.ofNat k = Int32.ofNat (n / k) := by
  apply Int32.toInt.inj
  have hd : n / k < 2147483648 := Nat.lt_of_le_of_lt (Nat.div_le_self _ _) h
  rw [Int32.toInt_div_of_ne_right, i_toInt h, i_toInt hk2, i_toInt hd, Int.tdiv_eq_ediv_of_nonneg (by omega)]
  · rfl
  · intro q
    have := congrArg Int32.toInt q
    rw [i_toInt hk2] at this
    have e : (-1 : Int32).toInt = -1 := by decide
    omega
theorem i_mod {n k : Nat} (h : n < 2147483648) (hk : 1 < k) (hk2 : k < 2147483648) : Int32.ofNat n - Int32.ofNat n / Int32.ofNat k * Int32.ofNat k = Int32.ofNat (n % k) := by
  rw [i_div h hk hk2, i_mul, i_sub (Nat.div_mul_le_self n k)]
  congr 1
  have := Nat.div_add_mod n k
  rw [Nat.mul_comm] at this
  omega
/-- as many sets of so many rays as can be -/
theorem chl_pc : ∀ (n t : Nat) (y : Int32), n ≤ 20 → (∀ k, k < n → tb y k = false) → ((chl 0 (fun _ => 0) [] (-1) n y).filter (fun T => decide (pcn T = pcn y + t))).length ≤ ch n t := by
  intro n
  induction n with
  | zero =>
    intro t y _ _
    cases t with
    | zero =>
      refine Nat.le_trans (List.length_filter_le _ _) ?_
      rw [show chl 0 (fun _ => 0) [] (-1) 0 y = [y] from rfl]
      exact Nat.le_refl _
    | succ t =>
      have e : chl 0 (fun _ => 0) [] (-1) 0 y = [y] := rfl
      rw [e, List.filter_cons, decide_eq_false (by omega)]
      exact Nat.le_refl _
  | succ n ih =>
    intro t y hn hy
    have e : chl 0 (fun _ => 0) [] (-1) (n + 1) y = chl 0 (fun _ => 0) [] (-1) n y ++ chl 0 (fun _ => 0) [] (-1) n (y ||| bit n) := by
      show (if _ then _ else _ ++ (if _ then _ else _)) = _
      rw [if_neg (show ¬ lostB [] (-1) y (n + 1) = true from fun q => by cases q), if_pos]
      refine ⟨tb_m1 (by omega), ?_⟩
      unfold barB
      rw [if_pos rfl, and_zero_l]; rfl
    have hyr : ∀ k, k < n → tb (y ||| bit n) k = false := by
      intro k hk
      rw [tb_or, hy k (by omega), tb_bit (by omega)]
      exact decide_eq_false (by omega)
    have hp : pcn (y ||| bit n) = pcn y + 1 := by
      rw [pcn_or]
      · have : ∀ r : Fin 32, pcn (bit r.val) = 1 := by decide +kernel
        rw [this ⟨n, by omega⟩]
      · refine and0.2 (fun k _ q => ?_)
        rw [tb_bit (by omega)] at q
        have : k = n := by simpa using q.2
        subst this
        rw [hy k (by omega)] at q
        cases q.1
    rw [e, List.filter_append, List.length_append]
    have i1 := ih t y (by omega) (fun k hk => hy k (by omega))
    cases t with
    | zero =>
      have e2 : (chl 0 (fun _ => 0) [] (-1) n (y ||| bit n)).filter (fun T => decide (pcn T = pcn y + 0)) = [] := by
        rw [List.filter_eq_nil_iff]
        intro T hT q
        have hA := ((chl_mem n (y ||| bit n) T (by omega) hyr).1 hT).1
        have : sb (y ||| bit n) T := fun k hk => by
          by_cases h : k < n
          · rw [hyr k h] at hk; cases hk
          · rw [hA k (by omega)]; exact hk
        have := pcn_mono this
        have := of_decide_eq_true q
        omega
      rw [e2]
      have c0 : ch n 0 = 1 := by cases n <;> rfl
      have c1 : ch (n + 1) 0 = 1 := rfl
      rw [c0] at i1
      rw [c1]
      exact i1
    | succ t =>
      have i2 := ih t (y ||| bit n) (by omega) hyr
      rw [hp] at i2
      have e3 : (fun T : Int32 => decide (pcn T = pcn y + 1 + t)) = (fun T => decide (pcn T = pcn y + (t + 1))) := by
        funext T
        rw [show pcn y + 1 + t = pcn y + (t + 1) by omega]
      rw [e3] at i2
      show _ ≤ ch n t + ch n (t + 1)
      omega
theorem few_len {B : List Int32} {t : Nat} (hn : B.Nodup) (h : ∀ X, X ∈ B → Low 20 X ∧ pcn X = t) : B.length ≤ ch 20 t := by
  refine Nat.le_trans (nodup_len _ (univ.filter (fun T => decide (pcn T = pcn 0 + t))) hn (fun X hX => ?_)) (chl_pc 20 t 0 (Nat.le_refl _) (fun k _ => tb_zero k))
  obtain ⟨h1, h2⟩ := h X hX
  rw [List.mem_filter, mem_univ]
  refine ⟨h1, decide_eq_true ?_⟩
  rw [pcn_zero, h2]
  omega
theorem ch20 {t : Nat} (h : 12 ≤ t) (h2 : t ≤ 20) : ch 20 t ≤ 131071 := by
  have : ∀ t : Fin 21, 12 ≤ t.val → ch 20 t.val ≤ 131071 := by decide +kernel
  exact this ⟨t, by omega⟩ h
/-- sets that were seen -/
def Sn (S : St) (n : Nat) : Bool := tb (S.2.1 51 (n / 32)) (n % 32)
section MFEW
variable {b m rl : Nat} {ins : Int32} {up : Nat → Int32} {F : List Int32}
theorem w188 {d : Nat} {S : St} {X : Int32} {Q : Out → St → Prop} (hX : Low 20 X) (K : ∀ S1, Fz [] [51] S S1 → (∀ q, Sn S1 q = (Sn S q || decide (q = tn X))) → Q (.inl (some (.int (bi (Sn S (tn X)))))) S1) : Wp (d + 1) b 188 0 [.ref 46, .int X] [] S Q := by
  have hn := tn_low hX
  have e1 : X / 32 = Int32.ofNat (tn X / 32) := by
    have := i_div (n := tn X) (k := 32) (by omega) (by omega) (by omega)
    rw [of_tn] at this
    exact this
  have e2 : X - X / 32 * 32 = Int32.ofNat (tn X % 32) := by
    have := i_mod (n := tn X) (k := 32) (by omega) (by omega) (by omega)
    rw [of_tn] at this
    exact this
  have vp : vp_in (X / 32) 32768 := by rw [e1]; exact i_vp (by omega) (by omega)
  refine b188_0 (by decide) vp (by decide) (P := Vx (bi (Sn S (tn X))) S) ?_ ?_
  · rw [e2, e1, i_cl (by omega)]
    exact s154 _ (by omega)
  · rintro _ _ ⟨rfl, rfl⟩
    refine b188_16 (by decide) vp (by decide) vp (bi01 _) ?_
    rw [e2, e1, i_cl (by omega)]
    refine K _ (Fz.refl.seta (by decide)) (fun q => ?_)
    show tb ((setA S 51 (tn X / 32) (S.2.1 51 (tn X / 32) ||| bit (tn X % 32))).2.1 51 (q / 32)) (q % 32) = _
    by_cases e : q / 32 = tn X / 32
    · rw [e, seta_same, tb_or, tb_bit (by omega)]
      unfold Sn
      rw [e]
      congr 1
      rw [decide_eq_decide]
      omega
    · rw [seta_ne (by omega), decide_eq_false (fun h => e (by rw [h])), Bool.or_false]
      rfl
/-- a layer: all refused sets of so many rays -/
def Lay (rf : Int32 → Bool) (ins : Int32) (s : Nat) (A : List Int32) : Prop := A.Nodup ∧ ∀ X, X ∈ A ↔ (sb X ins ∧ pcn X = s ∧ rf X = true)
theorem w189 {d s : Nat} {S : St} {A : List Int32} {Q : Out → St → Prop} (hU : UW m rl ins up F) (hW : MW m rl ins up F S) (hA : Lay (rfB m rl up F) ins (s + 1) A) (hAl : A.length ≤ 131072) (hA52 : ∀ i, i < A.length → S.2.1 52 i = A.getD i 0) (hsn : ∀ X, Low 20 X → Sn S (tn X) = true → s < pcn X) (hs : s < pcn ins) (hB : ∀ X, sb X ins → rfB m rl up F X = true → 12 ≤ pcn X)
    (K : ∀ S1 B, Fz [(46, 13), (46, 14)] [51, 53] S S1 → Lay (rfB m rl up F) ins s B → B.length ≤ 131072 → (∀ i, i < B.length → S1.2.1 53 i = B.getD i 0) → (∀ X, Low 20 X → Sn S1 (tn X) = true → s ≤ pcn X) → Q (.inl (some (.int (Int32.ofNat B.length)))) S1) : Wp (d + 25) b 189 0 [.ref 46, .int (Int32.ofNat A.length)] [] S Q := by
  obtain ⟨hm, h20, hi, hlow, hrl, h1, hup, hL, hlen, hbs⟩ := id hW
  have ins20 : Low 20 ins := low_le hlow h20
  -- what holds all the while
  let Inv : St → List Int32 → Prop := fun S' B => Fz [(46, 13), (46, 14)] [51, 53] S S' ∧ B.Nodup ∧ (∀ X, X ∈ B → rfB m rl up F X = true ∧ sb X ins ∧ pcn X = s ∧ Sn S' (tn X) = true) ∧ (∀ X, sb X ins → pcn X = s → Sn S' (tn X) = true → rfB m rl up F X = true → X ∈ B) ∧ (∀ X, Low 20 X → Sn S' (tn X) = true → s ≤ pcn X) ∧ (∀ i, i < B.length → S'.2.1 53 i = B.getD i 0)
  have bound : ∀ S' B, Inv S' B → B.length ≤ 131071 := by
    intro S' B hI
    cases hB0 : B with
    | nil => exact Nat.zero_le _
    | cons x t =>
      rw [← hB0]
      have hx := hI.2.2.1 x (by rw [hB0]; exact List.mem_cons_self)
      have h12 := hB x hx.2.1 hx.1
      have hs20 : s ≤ 20 := by
        have := pcn_lown ins20 (by omega)
        omega
      exact Nat.le_trans (few_len hI.2.1 (fun X hX => ⟨sb_low (hI.2.2.1 X hX).2.1 ins20, (hI.2.2.1 X hX).2.2.1⟩)) (ch20 (by omega) hs20)
  have fin : ∀ S' B, Inv S' B → (∀ X, sb X ins → pcn X = s → rfB m rl up F X = true → Sn S' (tn X) = true) → Q (.inl (some (.int (Int32.ofNat B.length)))) S' := by
    intro S' B hI hall
    have hb := bound S' B hI
    obtain ⟨i1, i2, i3, i4, i5, i6⟩ := hI
    exact K S' B i1 ⟨i2, fun X => ⟨fun h => ⟨(i3 X h).2.1, (i3 X h).2.2.1, (i3 X h).1⟩, fun h => i4 X h.1 h.2.1 (hall X h.1 h.2.1 h.2.2) h.2.2⟩⟩ (by omega) i6 i5
  have inner : ∀ j r (S' : St) (B : List Int32) k, k < A.length → r + j = m → Inv S' B → (∀ z, z < r → tb (A.getD k 0) z = true → Sn S' (tn (A.getD k 0 &&& (bit z ^^^ -1))) = true) → (∀ i, i < k → ∀ z, tb (A.getD i 0) z = true → Sn S' (tn (A.getD i 0 &&& (bit z ^^^ -1))) = true) →
      (∀ S2 B2, Inv S2 B2 → (∀ i, i < k + 1 → ∀ z, tb (A.getD i 0) z = true → Sn S2 (tn (A.getD i 0 &&& (bit z ^^^ -1))) = true) → Wp (d + 25) b 189 4 [.ref 46, .int (Int32.ofNat A.length), .int (Int32.ofNat B2.length), .int (Int32.ofNat (k + 1))] [] S2 Q) →
      Wp (d + 25) b 189 12 [.ref 46, .int (Int32.ofNat A.length), .int (Int32.ofNat B.length), .int (Int32.ofNat k), .int (Int32.ofNat r)] [] S' Q := by
    intro j
    induction j with
    | zero =>
      intro r S' B k hk hr hI hz hp K'
      refine b189_12 (fun _ => b189_88 ?_) (fun h => ?_)
      · rw [i_suc]
        refine K' S' B hI (fun i hi' z hz' => ?_)
        by_cases e : i = k
        · subst e
          refine hz z ?_ hz'
          have := ((hA.2 _).1 (get_mem hk)).1 z hz'
          have := hlow z this
          omega
        · exact hp i (by omega) z hz'
      · rw [(hI.1.f (by decide)).trans hm] at h
        exact absurd ((i_le (by omega) (by omega)).2 (by omega)) h
    | succ j ih =>
      intro r S' B k hk hr hI hz hp K'
      obtain ⟨i1, i2, i3, i4, i5, i6⟩ := id hI
      have hmem := (hA.2 _).1 (get_mem (F := A) hk)
      have e52 : S'.2.1 52 (Int32.ofNat k).toNatClampNeg = A.getD k 0 := by rw [i_cl (by omega)]; exact (i1.a (by decide) k).trans (hA52 k hk)
      have tl : tb (bit r) r = true := by rw [tb_bit (by omega)]; simp
      have only : ∀ z, tb (bit r) z = true → z = r := fun z hz => by
        rw [tb_bit (by omega)] at hz
        simpa using hz
      have next : ∀ (S2 : St) (B2 : List Int32) (x5 : Int32), Inv S2 B2 → (∀ z, z < r + 1 → tb (A.getD k 0) z = true → Sn S2 (tn (A.getD k 0 &&& (bit z ^^^ -1))) = true) → (∀ i, i < k → ∀ z, tb (A.getD i 0) z = true → Sn S2 (tn (A.getD i 0 &&& (bit z ^^^ -1))) = true) → Wp (d + 25) b 189 82 [.ref 46, .int (Int32.ofNat A.length), .int (Int32.ofNat B2.length), .int (Int32.ofNat k), .int (Int32.ofNat r), .int x5] [] S2 Q := by
        intro S2 B2 x5 hI2 q1 q2
        refine b189_82 ?_
        rw [i_suc]
        exact ih (r + 1) S2 B2 k hk (by omega) hI2 q1 q2 K'
      have vp := i_vp (k := k) (n := 131072) (by omega) (by omega)
      refine b189_12 (fun h => ?_) (fun _ => b189_21 vp vp ?_ ?_)
      · rw [(i1.f (by decide)).trans hm] at h
        have := (i_le (by omega) (by omega)).1 h
        omega
      all_goals rw [e52]
      · intro h
        have hout : tb (A.getD k 0) r = false := bneg (fun e => by
          have h' : A.getD k 0 &&& (bit r ^^^ -1) = A.getD k 0 := h
          rw [← h'] at e
          have := (dif_t.1 e).2
          rw [tl] at this; cases this)
        refine next S' B _ hI (fun z hz' hz2 => ?_) hp
        by_cases e : z = r
        · subst e; rw [hout] at hz2; cases hz2
        · exact hz z (by omega) hz2
      · intro h
        have hin : tb (A.getD k 0) r = true := bpos (fun e => h (by
          show A.getD k 0 &&& (bit r ^^^ -1) = A.getD k 0
          refine sb_anti (sb_andl _ _) (fun z hz' => dif_t.2 ⟨hz', bneg (fun q => ?_)⟩)
          rw [only z q, e] at hz'; cases hz'))
        have hXi : sb (A.getD k 0 &&& (bit r ^^^ -1)) ins := (sb_andl _ _).trans hmem.1
        have hXl : Low 20 (A.getD k 0 &&& (bit r ^^^ -1)) := sb_low hXi ins20
        have hXp : pcn (A.getD k 0 &&& (bit r ^^^ -1)) = s := by
          have e1 : (A.getD k 0 &&& (bit r ^^^ -1)) &&& bit r = 0 := and0.2 (fun z _ q => by
            have := (dif_t.1 q.1).2
            rw [q.2] at this; cases this)
          have e2 : (A.getD k 0 &&& (bit r ^^^ -1)) ||| bit r = A.getD k 0 := by
            refine sb_anti (sb_or (sb_andl _ _) (fun z hz' => by rw [only z hz']; exact hin)) (fun z hz' => ?_)
            cases ez : tb (bit r) z
            · exact or_t.2 (Or.inl (dif_t.2 ⟨hz', ez⟩))
            · exact or_t.2 (Or.inr ez)
          have e3 := pcn_or e1
          have e4 : ∀ r : Fin 32, pcn (bit r.val) = 1 := by decide +kernel
          rw [e2, e4 ⟨r, by omega⟩, hmem.2.1] at e3
          omega
        generalize hX : A.getD k 0 &&& (bit r ^^^ -1) = X at *
        have hX' : A.getD k 0 &&& (((1 : Int32) <<< (Int32.ofNat r &&& 31)) ^^^ -1) = X := hX
        rw [hX']
        refine b189_47 (P := fun v S2 => v = bi (Sn S' (tn X)) ∧ Fz [] [51] S' S2 ∧ ∀ q, Sn S2 q = (Sn S' q || decide (q = tn X))) (w188 (d := d + 23) hXl (fun S2 h1 h2 => ⟨_, rfl, rfl, h1, h2⟩)) ?_
        rintro _ S2 ⟨rfl, hF2, hq⟩
        have mono : ∀ q, Sn S' q = true → Sn S2 q = true := fun q h => by rw [hq, h]; rfl
        have self : Sn S2 (tn X) = true := by rw [hq, decide_eq_true rfl, Bool.or_true]
        have mark : ∀ Y, Sn S2 (tn Y) = true → Sn S' (tn Y) = true ∨ Y = X := fun Y h => by
          rw [hq, Bool.or_eq_true] at h
          rcases h with h | h
          · exact Or.inl h
          · exact Or.inr (tn_inj (of_decide_eq_true h))
        have hF12 : Fz [(46, 13), (46, 14)] [51, 53] S S2 := i1.trans (hF2.mono (by decide) (by decide))
        have q1 : ∀ (S3 : St), (∀ q, Sn S2 q = true → Sn S3 q = true) → ∀ z, z < r + 1 → tb (A.getD k 0) z = true → Sn S3 (tn (A.getD k 0 &&& (bit z ^^^ -1))) = true := by
          intro S3 hS3 z hz' hz2
          by_cases e : z = r
          · subst e; rw [hX]; exact hS3 _ self
          · exact hS3 _ (mono _ (hz z (by omega) hz2))
        have q2 : ∀ (S3 : St), (∀ q, Sn S2 q = true → Sn S3 q = true) → ∀ i, i < k → ∀ z, tb (A.getD i 0) z = true → Sn S3 (tn (A.getD i 0 &&& (bit z ^^^ -1))) = true := fun S3 hS3 i hi' z hz' => hS3 _ (mono _ (hp i hi' z hz'))
        have h53 : ∀ i, i < B.length → S2.2.1 53 i = B.getD i 0 := fun i hi' => (hF2.a (by decide) i).trans (i6 i hi')
        refine b189_53 (fun hs0 => b189_59 (P := fun v S3 => v = bi (rfB m rl up F X) ∧ Fz [(46, 13), (46, 14)] [] S2 S3) ?_ ?_) (fun hs1 => b189_56 (next S2 B _ ⟨hF12, i2, fun Y hY => ⟨(i3 Y hY).1, (i3 Y hY).2.1, (i3 Y hY).2.2.1, mono _ (i3 Y hY).2.2.2⟩, fun Y a1 a2 a3 a4 => ?_, fun Y a1 a2 => ?_, h53⟩ (q1 S2 (fun _ h => h)) (q2 S2 (fun _ h => h))))
        · refine w171 (d := d) X (hW.of hF12 (by decide)) (fun S3 h => ⟨_, rfl, ?_, h⟩)
          rw [refB_rf hXi]
        · rintro _ S3 ⟨rfl, hF3⟩
          have hF13 : Fz [(46, 13), (46, 14)] [51, 53] S S3 := hF12.trans (hF3.mono (by decide) (by decide))
          have sn3 : ∀ q, Sn S3 q = Sn S2 q := fun q => by
            unfold Sn
            rw [hF3.a (by decide)]
          refine b189_65 (fun hr1 => ?_) (fun hr0 => b189_68 (next S3 B _ ⟨hF13, i2, fun Y hY => ⟨(i3 Y hY).1, (i3 Y hY).2.1, (i3 Y hY).2.2.1, by rw [sn3]; exact mono _ (i3 Y hY).2.2.2⟩, fun Y a1 a2 a3 a4 => ?_, fun Y a1 a2 => ?_, fun i hi' => (hF3.a (by decide) i).trans (h53 i hi')⟩ (q1 S3 (fun q h => by rw [sn3]; exact h)) (q2 S3 (fun q h => by rw [sn3]; exact h))))
          · have hrX := bi1.1 hr1
            have hnew : X ∉ B := fun q => by
              have := (i3 X q).2.2.2
              rw [bi0.1 hs0] at this
              cases this
            have hI' : Inv (setA S3 53 B.length X) (B ++ [X]) := by
              have snA : ∀ q, Sn (setA S3 53 B.length X) q = Sn S2 q := fun q => by
                rw [← sn3]
                unfold Sn
                rw [seta_ne (by omega)]
              refine ⟨hF13.seta (by decide), ?_, fun Y hY => ?_, fun Y a1 a2 a3 a4 => ?_, fun Y a1 a2 => ?_, fun i hi' => ?_⟩
              · refine List.nodup_append.2 ⟨i2, List.pairwise_singleton _ _, ?_⟩
                rintro x hx y hy rfl
                rw [List.mem_singleton.1 hy] at hx
                exact hnew hx
              · rw [snA]
                rcases List.mem_append.1 hY with q | q
                · exact ⟨(i3 Y q).1, (i3 Y q).2.1, (i3 Y q).2.2.1, mono _ (i3 Y q).2.2.2⟩
                · rw [List.mem_singleton.1 q]
                  exact ⟨hrX, hXi, hXp, self⟩
              · rw [snA] at a3
                rcases mark Y a3 with q | q
                · exact List.mem_append_left _ (i4 Y a1 a2 q a4)
                · rw [q]; exact List.mem_append_right _ (List.mem_singleton.2 rfl)
              · rw [snA] at a2
                rcases mark Y a2 with q | q
                · exact i5 Y a1 q
                · rw [q, hXp]; exact Nat.le_refl _
              · rw [List.length_append] at hi'
                have hi' : i < B.length + 1 := hi'
                by_cases e : i = B.length
                · rw [e, seta_same, getD_app2]
                · rw [seta_ne (by omega), getD_app (by omega), hF3.a (by decide)]
                  exact h53 i (by omega)
            have hb := bound _ _ hI'
            rw [List.length_append] at hb
            have hb : B.length + 1 ≤ 131071 := hb
            refine b189_71 (i_vp (by omega) (by omega)) ?_
            rw [i_suc, i_cl (by omega)]
            have := next (setA S3 53 B.length X) (B ++ [X]) X hI' (q1 _ (fun q h => ?_)) (q2 _ (fun q h => ?_))
            · rw [List.length_append] at this
              exact this
            all_goals
              unfold Sn
              rw [seta_ne (by omega)]
              have := sn3 q
              rw [h] at this
              exact this
          · rw [sn3] at a3
            rcases mark Y a3 with q | q
            · exact i4 Y a1 a2 q a4
            · rw [q, bi0.1 (Classical.not_not.1 hr0)] at a4; cases a4
          · rw [sn3] at a2
            rcases mark Y a2 with q | q
            · exact i5 Y a1 q
            · rw [q, hXp]; exact Nat.le_refl _
        · rcases mark Y a3 with q | q
          · exact i4 Y a1 a2 q a4
          · rw [q] at a4 ⊢
            exact i4 X hXi hXp (bi1.1 hs1) a4
        · rcases mark Y a2 with q | q
          · exact i5 Y a1 q
          · rw [q, hXp]; exact Nat.le_refl _
  have outer : ∀ j k (S' : St) (B : List Int32), k + j = A.length → Inv S' B → (∀ i, i < k → ∀ z, tb (A.getD i 0) z = true → Sn S' (tn (A.getD i 0 &&& (bit z ^^^ -1))) = true) → Wp (d + 25) b 189 4 [.ref 46, .int (Int32.ofNat A.length), .int (Int32.ofNat B.length), .int (Int32.ofNat k)] [] S' Q := by
    intro j
    induction j with
    | zero =>
      intro k S' B hk hI hp
      refine b189_4 (fun _ => b189_94 (fin S' B hI (fun X a1 a2 a3 => ?_))) (fun h => absurd ((i_le (by omega) (by omega)).2 (by omega)) h)
      -- one ray more makes a set of the layer
      have hne : ∃ z, tb ins z = true ∧ tb X z = false := by
        refine Classical.byContradiction fun q => ?_
        have : sb ins X := fun z hz => bpos (fun e => q ⟨z, hz, e⟩)
        have := pcn_mono this
        omega
      obtain ⟨z, z1, z2⟩ := hne
      have z32 := tb_lt z1
      have tl : tb (bit z) z = true := by rw [tb_bit z32]; simp
      have only : ∀ q, tb (bit z) q = true → q = z := fun q hq => by
        rw [tb_bit z32] at hq
        simpa using hq
      have hsup : sb (X ||| bit z) ins := sb_or a1 (fun q hq => by rw [only q hq]; exact z1)
      have hmem : X ||| bit z ∈ A := by
        refine (hA.2 _).2 ⟨hsup, ?_, rf_mono hU (sb_orl _ _) hsup a3⟩
        rw [pcn_or, a2]
        · have : ∀ r : Fin 32, pcn (bit r.val) = 1 := by decide +kernel
          rw [this ⟨z, z32⟩]
        · refine and0.2 (fun q _ w => ?_)
          rw [only q w.2, z2] at w
          cases w.1
      obtain ⟨i, hi', he⟩ := mem_get hmem
      have := hp i (by omega) z (by rw [he]; exact or_t.2 (Or.inr tl))
      rw [he] at this
      have eX : (X ||| bit z) &&& (bit z ^^^ -1) = X := by
        refine sb_anti (fun q hq => ?_) (fun q hq => dif_t.2 ⟨or_t.2 (Or.inl hq), bneg (fun w => by rw [only q w, z2] at hq; cases hq)⟩)
        obtain ⟨w1, w2⟩ := dif_t.1 hq
        rcases or_t.1 w1 with w | w
        · exact w
        · rw [w] at w2; cases w2
      rw [eX] at this
      exact this
    | succ j ih =>
      intro k S' B hk hI hp
      refine b189_4 (fun h => ?_) (fun _ => b189_9 (inner m 0 S' B k (by omega) (by omega) hI (fun z hz => absurd hz (by omega)) hp (fun S2 B2 h1 h2 => ih (k + 1) S2 B2 (by omega) h1 h2)))
      have := (i_le (by omega) (by omega)).1 h
      omega
  refine b189_0 (outer A.length 0 S [] (by omega) ⟨Fz.refl, List.Pairwise.nil, fun X h => absurd h List.not_mem_nil, fun X a1 a2 a3 _ => ?_, fun X a1 a2 => ?_, fun i hi' => absurd hi' (Nat.not_lt_zero i)⟩ (fun i hi' => absurd hi' (by omega)))
  · have := hsn X (sb_low a1 ins20) a3
    omega
  · have := hsn X a1 a2
    omega
end MFEW
