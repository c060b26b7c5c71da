/-! FEW RAYS ARE NEVER REFUSED -/
section SMALL
variable {D m rl : Nat} {ins : Int32} {nu : Nat → Nat → Int} {up : Nat → Int32} {F : List Int32}
theorem pcn_list : ∀ (L : List Nat) (s : Int32), L.Nodup → (∀ k, k ∈ L → tb s k = true) → L.length ≤ pcn s := by
  intro L
  induction L with
  | nil => intro s _ _; exact Nat.zero_le _
  | cons a L ih =>
    intro s hn h
    rw [List.nodup_cons] at hn
    have ha := h a List.mem_cons_self
    have a32 := tb_lt ha
    have := ih (s &&& (bit a ^^^ -1)) hn.2 (fun k hk => by
      have hk' := h k (List.mem_cons_of_mem _ hk)
      refine dif_t.2 ⟨hk', ?_⟩
      rw [tb_bit a32]
      exact decide_eq_false (fun e => hn.1 (e ▸ hk)))
    have := frm_drop ha
    rw [List.length_cons]
    omega
theorem pcn_split {T R : Int32} (h : sb T R) : pcn R = pcn T + pcn (R &&& (T ^^^ -1)) := by
  have e : R = T ||| (R &&& (T ^^^ -1)) := tb_ext (fun k _ => by
    rw [Bool.eq_iff_iff, or_t, dif_t]
    constructor
    · intro hk
      cases q : tb T k
      · exact Or.inr ⟨hk, rfl⟩
      · exact Or.inl rfl
    · rintro (q | q)
      · exact h k q
      · exact q.1)
  have z : T &&& (R &&& (T ^^^ -1)) = 0 := and0.2 (fun k _ q => by
    rw [(dif_t.1 q.2).2] at q
    exact absurd q.1 (by decide))
  have := pcn_or z
  rw [← e] at this
  exact this
theorem pcn_pos {T : Int32} (h : 1 ≤ pcn T) : ∃ k, tb T k = true := ne0 (fun e => by rw [e, pcn_zero] at h; omega)
theorem pcn_other {T : Int32} {n : Nat} (L : List Nat) (hL : ∀ a, a ∈ L → a < 32) (hn : L.length < n) (h : n ≤ pcn T) : ∃ k, tb T k = true ∧ ¬ k ∈ L := by
  refine Classical.byContradiction (fun q => ?_)
  have hs : sb T (mk (fun k => L.contains k) 32) := fun k hk => by
    rw [tb_mk _ (by omega), decide_eq_true (tb_lt hk), Bool.true_and]
    exact List.contains_iff_mem.2 (Classical.byContradiction (fun z => q ⟨k, hk, z⟩))
  have h1 := pcn_mono hs
  have h2 : ∀ L : List Nat, (∀ a, a ∈ L → a < 32) → pcn (mk (fun k => L.contains k) 32) ≤ L.length := by
    intro L
    induction L with
    | nil =>
      intro _
      have : mk (fun k => ([] : List Nat).contains k) 32 = 0 := tb_ext (fun k _ => by rw [tb_mk _ (by omega), tb_zero]; simp)
      rw [this, pcn_zero]
      exact Nat.le_refl _
    | cons a L ih =>
      intro hL
      have ih := ih (fun x hx => hL x (List.mem_cons_of_mem _ hx))
      have a32 := hL a List.mem_cons_self
      by_cases ha : tb (mk (fun k => L.contains k) 32) a = true
      · have : sb (mk (fun k => (a :: L).contains k) 32) (mk (fun k => L.contains k) 32) := fun k hk => by
          rw [tb_mk _ (by omega), Bool.and_eq_true] at hk
          have := List.contains_iff_mem.1 hk.2
          rcases List.mem_cons.1 this with e | e
          · rw [e]; exact ha
          · rw [tb_mk _ (by omega), hk.1, Bool.true_and]; exact List.contains_iff_mem.2 e
        have := pcn_mono this
        rw [List.length_cons]
        omega
      · have : sb (mk (fun k => (a :: L).contains k) 32) (mk (fun k => L.contains k) 32 ||| bit a) := fun k hk => by
          rw [tb_mk _ (by omega), Bool.and_eq_true] at hk
          have := List.contains_iff_mem.1 hk.2
          rw [or_t]
          rcases List.mem_cons.1 this with e | e
          · refine Or.inr ?_
            rw [tb_bit a32, e]
            exact decide_eq_true rfl
          · refine Or.inl ?_
            rw [tb_mk _ (by omega), hk.1, Bool.true_and]; exact List.contains_iff_mem.2 e
        have h1 := pcn_mono this
        rw [pcn_add a32 (Bool.eq_false_iff.2 ha)] at h1
        rw [List.length_cons]
        omega
  have := h2 L hL
  omega
/-- pcn two: the two -/
theorem pcn_pair {T : Int32} {p : Nat} (h : pcn T = 2) (hp : tb T p = true) : ∃ q, ¬ q = p ∧ tb T q = true ∧ ∀ k, tb T k = true → k = p ∨ k = q := by
  obtain ⟨q, hq, hn⟩ := pcn_other (T := T) (n := 2) [p] (fun a ha => by rw [List.mem_singleton.1 ha]; exact tb_lt hp) (by simp) (by omega)
  have hn : ¬ q = p := fun e => hn (List.mem_singleton.2 e)
  refine ⟨q, hn, hq, fun k hk => Classical.byContradiction (fun z => ?_)⟩
  have := pcn_list [p, q, k] T (by simp; exact ⟨⟨fun e => hn e.symm, fun e => z (Or.inl e.symm)⟩, fun e => z (Or.inr e.symm)⟩) (fun x hx => by
    simp at hx
    rcases hx with rfl | rfl | rfl
    · exact hp
    · exact hq
    · exact hk)
  rw [h] at this
  exact absurd this (by simp)
/-- what is asked of the remainders -/
def Rems (up : Nat → Int32) (R : Int32) (RM : Int32 → Prop) : Prop := (∀ T, RM T → sb T R ∧ Clq up T ∧ 2 ≤ pcn T) ∧ (∀ T, RM T → ∀ c, tb R c = true → ∃ t, tb T t = true ∧ tb (up c) t = false) ∧ (∀ T T' c, RM T → RM T' → pcn T = 2 → pcn T' = 2 → tb T c = true → tb T' c = true → T = T')
def C4f (up : Nat → Int32) (R : Int32) : Prop := ∀ u w x y, tb R u = true → tb R w = true → tb R x = true → tb R y = true → ¬ u = w → ¬ x = y → tb (up u) x = true → tb (up u) y = true → tb (up w) x = true → tb (up w) y = true → False
def Hits (up : Nat → Int32) (R : Int32) (RM : Int32 → Prop) : Prop := ∃ P : Nat → Prop, (∀ k, P k → tb R k = true) ∧ (∀ i j, P i → P j → tb (up i) j = false) ∧ ∀ T, RM T → ∃ k, tb T k = true ∧ P k
theorem hit_big {R T0 : Int32} {RM : Int32 → Prop} (hsym : ∀ r o, tb (up r) o = tb (up o) r) (hirr : ∀ r, tb (up r) r = false) (hR : Rems up R RM) (hn : pcn R ≤ 5 ∨ (pcn R ≤ 6 ∧ C4f up R)) (h0 : RM T0) (h3 : 3 ≤ pcn T0) : Hits up R RM := by
  obtain ⟨ra, rb, rc⟩ := hR
  obtain ⟨s0, q0, _⟩ := ra T0 h0
  have hsp := pcn_split s0
  have adj0 : ∀ s t, tb T0 s = true → tb T0 t = true → ¬ s = t → tb (up s) t = true := q0
  have mO : ∀ k, tb (R &&& (T0 ^^^ -1)) k = true ↔ (tb R k = true ∧ tb T0 k = false) := fun k => dif_t
  generalize R &&& (T0 ^^^ -1) = O at *
  -- what isn't upright on one of T0
  have away : ∀ T s, RM T → tb T0 s = true → ∃ t, tb T t = true ∧ tb (up s) t = false ∧ (t = s ∨ tb O t = true) := by
    intro T s hT hs
    obtain ⟨t, ht, hn⟩ := rb T hT s (s0 s hs)
    refine ⟨t, ht, hn, ?_⟩
    by_cases e : t = s
    · exact Or.inl e
    · refine Or.inr ((mO t).2 ⟨(ra T hT).1 t ht, Bool.eq_false_iff.2 (fun z => ?_)⟩)
      rw [adj0 s t hs z (fun q => e q.symm)] at hn
      cases hn
  by_cases hi : ∃ s, tb T0 s = true ∧ pcn (O &&& (up s ^^^ -1)) ≤ 1
  · obtain ⟨s, hs, h1⟩ := hi
    refine ⟨fun k => k = s ∨ tb (O &&& (up s ^^^ -1)) k = true, ?_, ?_, ?_⟩
    · rintro k (rfl | h)
      · exact s0 _ hs
      · exact ((mO k).1 (dif_t.1 h).1).1
    · rintro i j (rfl | h) (rfl | h')
      · exact hirr _
      · exact (dif_t.1 h').2
      · rw [hsym]; exact (dif_t.1 h).2
      · have : i = j := Classical.byContradiction (fun q => by
          have := pcn_two h h' q
          omega)
        rw [this]
        exact hirr _
    · intro T hT
      obtain ⟨t, ht, hn, e | e⟩ := away T s hT hs
      · exact ⟨t, ht, Or.inl e⟩
      · exact ⟨t, ht, Or.inr (dif_t.2 ⟨e, hn⟩)⟩
  have two : ∀ s, tb T0 s = true → 2 ≤ pcn (O &&& (up s ^^^ -1)) := fun s hs => by
    have : ¬ pcn (O &&& (up s ^^^ -1)) ≤ 1 := fun q => hi ⟨s, hs, q⟩
    omega
  have O3 : pcn O ≤ 3 := by omega
  by_cases hx : ∃ s x, tb T0 s = true ∧ tb O x = true ∧ tb (up s) x = true
  · obtain ⟨s, x, hs, hxO, hsx⟩ := hx
    have h2 := two s hs
    obtain ⟨y, hy⟩ := pcn_pos (T := O &&& (up s ^^^ -1)) (by omega)
    obtain ⟨z, hz, hne⟩ := pcn_other (T := O &&& (up s ^^^ -1)) (n := 2) [y] (fun a ha => by rw [List.mem_singleton.1 ha]; exact tb_lt hy) (by simp) h2
    have hzy : ¬ y = z := fun e => hne (List.mem_singleton.2 e.symm)
    obtain ⟨yO, ys⟩ := dif_t.1 hy
    obtain ⟨zO, zs⟩ := dif_t.1 hz
    have hxy : ¬ x = y := fun e => by rw [e, ys] at hsx; cases hsx
    have hxz : ¬ x = z := fun e => by rw [e, zs] at hsx; cases hsx
    have l3 : 3 ≤ pcn O := pcn_list [x, y, z] O (by simp; exact ⟨⟨hxy, hxz⟩, hzy⟩) (fun k hk => by
      simp at hk
      rcases hk with rfl | rfl | rfl
      · exact hxO
      · exact yO
      · exact zO)
    have c4 : C4f up R := by
      rcases hn with h | h
      · omega
      · exact h.2
    have allO : ∀ k, tb O k = true → k = x ∨ k = y ∨ k = z := fun k hk => Classical.byContradiction (fun q => by
      have := pcn_list [x, y, z, k] O (by simp; exact ⟨⟨hxy, hxz, fun e => q (Or.inl e.symm)⟩, ⟨hzy, fun e => q (Or.inr (Or.inl e.symm))⟩, fun e => q (Or.inr (Or.inr e.symm))⟩) (fun j hj => by
        simp at hj
        rcases hj with rfl | rfl | rfl | rfl
        · exact hxO
        · exact yO
        · exact zO
        · exact hk)
      have : 4 ≤ pcn O := this
      omega)
    have xR := ((mO x).1 hxO)
    have yR := ((mO y).1 yO)
    have zR := ((mO z).1 zO)
    -- one outside stands upright on one of T0 at most
    have one : ∀ o t t', tb O o = true → tb T0 t = true → tb T0 t' = true → tb (up o) t = true → tb (up o) t' = true → t = t' := fun o t t' hO ht ht' h1 h2 => Classical.byContradiction (fun ne => by
      obtain ⟨w, hw, hwn⟩ := pcn_other (T := T0) (n := 3) [t, t'] (fun a ha => by
        simp at ha
        rcases ha with rfl | rfl
        · exact tb_lt ht
        · exact tb_lt ht') (by simp) h3
      simp at hwn
      have oR := (mO o).1 hO
      exact c4 o w t t' oR.1 (s0 w hw) (s0 t ht) (s0 t' ht') (fun e => by rw [e, hw] at oR; exact absurd oR.2 (by decide)) ne h1 h2 (adj0 w t hw ht hwn.1) (adj0 w t' hw ht' hwn.2))
    have xs : tb (up x) s = true := by rw [hsym]; exact hsx
    have xone : ∀ t, tb T0 t = true → tb (up x) t = true → t = s := fun t ht h => one x t s hxO ht hs h xs
    -- T: in it, s or y or z
    have syz : ∀ T, RM T → tb T s = true ∨ tb T y = true ∨ tb T z = true := by
      intro T hT
      obtain ⟨t, ht, hn, e | e⟩ := away T s hT hs
      · exact Or.inl (e ▸ ht)
      · rcases allO t e with rfl | rfl | rfl
        · rw [hsx] at hn; cases hn
        · exact Or.inr (Or.inl ht)
        · exact Or.inr (Or.inr ht)
    by_cases hyz : tb (up y) z = true
    · by_cases f1 : ∀ T, RM T → tb T s = true ∨ tb T y = true
      · refine ⟨fun k => k = s ∨ k = y, ?_, ?_, ?_⟩
        · rintro k (rfl | rfl)
          · exact s0 _ hs
          · exact yR.1
        · rintro i j (rfl | rfl) (rfl | rfl)
          · exact hirr _
          · exact ys
          · rw [hsym]; exact ys
          · exact hirr _
        · intro T hT
          rcases f1 T hT with h | h
          · exact ⟨s, h, Or.inl rfl⟩
          · exact ⟨y, h, Or.inr rfl⟩
      by_cases f2 : ∀ T, RM T → tb T s = true ∨ tb T z = true
      · refine ⟨fun k => k = s ∨ k = z, ?_, ?_, ?_⟩
        · rintro k (rfl | rfl)
          · exact s0 _ hs
          · exact zR.1
        · rintro i j (rfl | rfl) (rfl | rfl)
          · exact hirr _
          · exact zs
          · rw [hsym]; exact zs
          · exact hirr _
        · intro T hT
          rcases f2 T hT with h | h
          · exact ⟨s, h, Or.inl rfl⟩
          · exact ⟨z, h, Or.inr rfl⟩
      -- the two that fail: each is of two
      have fails : ∀ p q, tb O p = true → tb O q = true → ¬ p = q → ¬ x = p → ¬ x = q → tb (up s) p = false → (∀ k, tb O k = true → k = x ∨ k = p ∨ k = q) → tb (up p) q = true → ∀ T, RM T → ¬ (tb T s = true ∨ tb T q = true) → tb T p = true → pcn T = 2 ∧ ((∀ k, tb T k = true ↔ (k = p ∨ k = x)) ∨ ∃ t, tb T0 t = true ∧ ¬ t = s ∧ tb (up p) t = true ∧ ∀ k, tb T k = true ↔ (k = p ∨ k = t)) := by
        intro p q hp hq hpq hxp hxq hsp all hup T hT hno hTp
        obtain ⟨ts, tc, t2⟩ := ra T hT
        obtain ⟨k, hk, hkn⟩ := pcn_other (T := T) (n := 2) [p] (fun a ha => by rw [List.mem_singleton.1 ha]; exact tb_lt hTp) (by simp) t2
        have hkn : ¬ k = p := fun e => hkn (List.mem_singleton.2 e)
        have pk := tc p k hTp hk (fun e => hkn e.symm)
        -- every other is k
        have kin : ∀ j, tb T j = true → ¬ j = p → j = x ∨ tb T0 j = true := by
          intro j hj hjp
          by_cases q0 : tb T0 j = true
          · exact Or.inr q0
          · rcases all j ((mO j).2 ⟨ts j hj, Bool.eq_false_iff.2 q0⟩) with e | e | e
            · exact Or.inl e
            · exact absurd e hjp
            · exact absurd (Or.inr (e ▸ hj)) hno
        have only : ∀ j, tb T j = true → j = p ∨ j = k := by
          intro j hj
          by_cases jp : j = p
          · exact Or.inl jp
          · refine Or.inr (Classical.byContradiction (fun jk => ?_))
            have pj := tc p j hTp hj (fun e => jp e.symm)
            have kj := tc k j hk hj (fun e => jk e.symm)
            rcases kin k hk hkn with ek | ek <;> rcases kin j hj jp with ej | ej
            · exact jk (ej.trans ek.symm)
            · rw [ek] at kj
              exact hno (Or.inl ((xone j ej kj) ▸ hj))
            · rw [ej, hsym] at kj
              exact hno (Or.inl ((xone k ek kj) ▸ hk))
            · exact jk (one p j k hp ej ek pj pk)
        have iff : ∀ j, tb T j = true ↔ (j = p ∨ j = k) := fun j => ⟨only j, fun h => by
          rcases h with rfl | rfl
          · exact hTp
          · exact hk⟩
        refine ⟨?_, ?_⟩
        · refine Classical.byContradiction (fun q2 => ?_)
          obtain ⟨w, hw, hwn⟩ := pcn_other (T := T) (n := 3) [p, k] (fun a ha => by
            simp at ha
            rcases ha with rfl | rfl
            · exact tb_lt hTp
            · exact tb_lt hk) (by simp) (by omega)
          simp at hwn
          rcases only w hw with e | e
          · exact hwn.1 e
          · exact hwn.2 e
        · rcases kin k hk hkn with ek | ek
          · refine Or.inl ?_
            rw [← ek]
            exact iff
          · exact Or.inr ⟨k, ek, fun e => hno (Or.inl (e ▸ hk)), pk, iff⟩
      obtain ⟨T1, h1⟩ := Classical.not_forall.1 f1
      obtain ⟨hT1, n1⟩ := Classical.not_imp.1 h1
      obtain ⟨T2, h2'⟩ := Classical.not_forall.1 f2
      obtain ⟨hT2, n2⟩ := Classical.not_imp.1 h2'
      have z1 : tb T1 z = true := by
        rcases syz T1 hT1 with h | h | h
        · exact absurd (Or.inl h) n1
        · exact absurd (Or.inr h) n1
        · exact h
      have y2 : tb T2 y = true := by
        rcases syz T2 hT2 with h | h | h
        · exact absurd (Or.inl h) n2
        · exact h
        · exact absurd (Or.inr h) n2
      obtain ⟨p1, k1⟩ := fails z y zO yO (fun e => hzy e.symm) hxz hxy zs (fun k hk => by rcases allO k hk with h | h | h; exact Or.inl h; exact Or.inr (Or.inr h); exact Or.inr (Or.inl h)) (by rw [hsym]; exact hyz) T1 hT1 n1 z1
      obtain ⟨p2, k2⟩ := fails y z yO zO hzy hxy hxz ys allO hyz T2 hT2 n2 y2
      -- one of x, one of T0
      have last : ∀ p q t Tx Tt, tb O p = true → tb O q = true → (∀ k, tb O k = true → k = x ∨ k = p ∨ k = q) → RM Tx → RM Tt → pcn Tx = 2 → pcn Tt = 2 → (∀ k, tb Tx k = true ↔ (k = p ∨ k = x)) → (∀ k, tb Tt k = true ↔ (k = q ∨ k = t)) → tb T0 t = true → ¬ t = s → tb (up q) t = true → Hits up R RM := by
        intro p q t Tx Tt hp hq all hTx hTt px pt kx kt ht hts hqt
        have xt : tb (up x) t = false := Bool.eq_false_iff.2 (fun z => hts (xone t ht z))
        refine ⟨fun k => k = t ∨ k = x, ?_, ?_, ?_⟩
        · rintro k (rfl | rfl)
          · exact s0 _ ht
          · exact xR.1
        · rintro i j (rfl | rfl) (rfl | rfl)
          · exact hirr _
          · rw [hsym]; exact xt
          · exact xt
          · exact hirr _
        · intro T hT
          refine Classical.byContradiction (fun no => ?_)
          have nt : ¬ tb T t = true := fun z => no ⟨t, z, Or.inl rfl⟩
          have nx : ¬ tb T x = true := fun z => no ⟨x, z, Or.inr rfl⟩
          obtain ⟨ts, tc, t2⟩ := ra T hT
          -- not within T0
          have out : ∃ k, tb T k = true ∧ tb O k = true := by
            refine Classical.byContradiction (fun q => ?_)
            obtain ⟨w, hw, hwn⟩ := rb T hT t (s0 t ht)
            have w0 : tb T0 w = true := Classical.byContradiction (fun z => q ⟨w, hw, (mO w).2 ⟨ts w hw, Bool.eq_false_iff.2 z⟩⟩)
            rw [adj0 t w ht w0 (fun e => nt (e ▸ hw))] at hwn
            cases hwn
          obtain ⟨k, hk, hkO⟩ := out
          have hk' : k = p ∨ k = q := by
            rcases all k hkO with e | e | e
            · exact absurd (e ▸ hk) nx
            · exact Or.inl e
            · exact Or.inr e
          by_cases t3 : pcn T = 2
          · rcases hk' with e | e
            · have := rc T Tx k hT hTx t3 px hk ((kx k).2 (Or.inl e))
              exact nx (by rw [this]; exact (kx x).2 (Or.inr rfl))
            · have := rc T Tt k hT hTt t3 pt hk ((kt k).2 (Or.inl e))
              exact nt (by rw [this]; exact (kt t).2 (Or.inr rfl))
          · -- three of it: k, and two more
            obtain ⟨w, hw, hwn⟩ := pcn_other (T := T) (n := 2) [k] (fun a ha => by rw [List.mem_singleton.1 ha]; exact tb_lt hk) (by simp) t2
            have hwn : ¬ w = k := fun e => hwn (List.mem_singleton.2 e)
            obtain ⟨u, hu, hun⟩ := pcn_other (T := T) (n := 3) [k, w] (fun a ha => by
              simp at ha
              rcases ha with rfl | rfl
              · exact tb_lt hk
              · exact tb_lt hw) (by simp) (by omega)
            simp at hun
            have cl : ∀ j, tb T j = true → ¬ j = k → tb T0 j = true ∨ (tb O j = true ∧ (j = p ∨ j = q)) := by
              intro j hj hjk
              by_cases q0 : tb T0 j = true
              · exact Or.inl q0
              · have jO := (mO j).2 ⟨ts j hj, Bool.eq_false_iff.2 q0⟩
                refine Or.inr ⟨jO, ?_⟩
                rcases all j jO with e | e | e
                · exact absurd (e ▸ hj) nx
                · exact Or.inl e
                · exact Or.inr e
            -- one that is of T0, and q both in T
            have key : ∀ j, tb T j = true → tb T0 j = true → tb T q = true → False := fun j hj h0 hq' => by
              have : ¬ q = j := fun e => by rw [e] at hq; rw [((mO j).1 hq).2] at h0; cases h0
              have := one q j t hq h0 ht (tc q j hq' hj this) hqt
              exact nt (this ▸ hj)
            rcases cl w hw hwn with w0 | ⟨wO, we⟩ <;> rcases cl u hu hun.1 with u0 | ⟨uO, ue⟩
            · have := one k w u hkO w0 u0 (tc k w hk hw (fun e => hwn e.symm)) (tc k u hk hu (fun e => hun.1 e.symm))
              exact hun.2 this.symm
            · rcases hk' with e | e
              · rcases ue with e' | e'
                · exact hun.1 (e'.trans e.symm)
                · exact key w hw w0 (e' ▸ hu)
              · exact key w hw w0 (e ▸ hk)
            · rcases hk' with e | e
              · rcases we with e' | e'
                · exact hwn (e'.trans e.symm)
                · exact key u hu u0 (e' ▸ hw)
              · exact key u hu u0 (e ▸ hk)
            · rcases hk' with e | e <;> rcases we with e' | e' <;> rcases ue with e'' | e''
              · exact hwn (e'.trans e.symm)
              · exact hwn (e'.trans e.symm)
              · exact hun.1 (e''.trans e.symm)
              · exact hun.2 (e''.trans e'.symm)
              · exact hun.2 (e''.trans e'.symm)
              · exact hun.1 (e''.trans e.symm)
              · exact hwn (e'.trans e.symm)
              · exact hwn (e'.trans e.symm)
      rcases k1 with k1 | ⟨t1, a1, a2, a3, k1⟩ <;> rcases k2 with k2 | ⟨t2, b1, b2, b3, k2⟩
      · -- both with x: then T1 isn't the largest
        obtain ⟨w, hw, hwn⟩ := rb T1 hT1 y yR.1
        rcases (k1 w).1 hw with e | e
        · rw [e, hyz] at hwn; cases hwn
        · have := (ra T2 hT2).2.1 y x ((k2 y).2 (Or.inl rfl)) ((k2 x).2 (Or.inr rfl)) (fun e => hxy e.symm)
          rw [e, this] at hwn; cases hwn
      · exact last z y t2 T1 T2 zO yO (fun k hk => by rcases allO k hk with h | h | h; exact Or.inl h; exact Or.inr (Or.inr h); exact Or.inr (Or.inl h)) hT1 hT2 p1 p2 k1 k2 b1 b2 b3
      · exact last y z t1 T2 T1 yO zO allO hT2 hT1 p2 p1 k2 k1 a1 a2 a3
      · by_cases e : t1 = t2
        · have := rc T1 T2 t1 hT1 hT2 p1 p2 ((k1 t1).2 (Or.inr rfl)) ((k2 t1).2 (Or.inr e))
          rw [this] at z1
          exact absurd (Or.inr z1) n2
        · exact (c4 y t1 z t2 yR.1 (s0 t1 a1) zR.1 (s0 t2 b1) (fun e => by rw [e, a1] at yR; exact absurd yR.2 (by decide)) (fun e => by rw [e, b1] at zR; exact absurd zR.2 (by decide)) hyz b3 (by rw [hsym]; exact a3) (adj0 t1 t2 a1 b1 e)).elim
    · refine ⟨fun k => k = s ∨ k = y ∨ k = z, ?_, ?_, ?_⟩
      · rintro k (rfl | rfl | rfl)
        · exact s0 _ hs
        · exact yR.1
        · exact zR.1
      · have hyz := Bool.eq_false_iff.2 hyz
        rintro i j (rfl | rfl | rfl) (rfl | rfl | rfl)
        · exact hirr _
        · exact ys
        · exact zs
        · rw [hsym]; exact ys
        · exact hirr _
        · exact hyz
        · rw [hsym]; exact zs
        · rw [hsym]; exact hyz
        · exact hirr _
      · intro T hT
        rcases syz T hT with h | h | h
        · exact ⟨s, h, Or.inl rfl⟩
        · exact ⟨y, h, Or.inr (Or.inl rfl)⟩
        · exact ⟨z, h, Or.inr (Or.inr rfl)⟩
  · have nocross : ∀ s x, tb T0 s = true → tb O x = true → tb (up s) x = false := fun s x hs hx' => Bool.eq_false_iff.2 (fun z => hx ⟨s, x, hs, hx', z⟩)
    obtain ⟨s, hs⟩ := pcn_pos (T := T0) (by omega)
    -- others lie outside
    have lies : ∀ T, RM T → ¬ tb T s = true → sb T O := by
      intro T hT hnot
      obtain ⟨ts, tc, t2⟩ := ra T hT
      have none : ∀ k, tb T k = true → tb T0 k = false := fun k hk => Bool.eq_false_iff.2 (fun k0 => by
        -- then all of T is of T0, and s is upright on all
        obtain ⟨w, hw, hwn⟩ := rb T hT s (s0 s hs)
        have w0 : tb T0 w = true := Classical.byContradiction (fun z => by
          have wO := (mO w).2 ⟨ts w hw, Bool.eq_false_iff.2 z⟩
          have ne : ¬ k = w := fun e => z (e ▸ k0)
          have := tc k w hk hw ne
          rw [nocross k w k0 wO] at this
          cases this)
        rw [adj0 s w hs w0 (fun e => hnot (e ▸ hw))] at hwn
        cases hwn)
      exact fun k hk => (mO k).2 ⟨ts k hk, none k hk⟩
    by_cases hT1 : ∃ T1, RM T1 ∧ ¬ tb T1 s = true
    · obtain ⟨T1, h1, n1⟩ := hT1
      have o1 := lies T1 h1 n1
      obtain ⟨j, hj⟩ := pcn_pos (T := T1) (by have := (ra T1 h1).2.2; omega)
      refine ⟨fun k => k = s ∨ k = j, ?_, ?_, ?_⟩
      · rintro k (rfl | rfl)
        · exact s0 _ hs
        · exact (ra T1 h1).1 _ hj
      · rintro a c (rfl | rfl) (rfl | rfl)
        · exact hirr _
        · exact nocross _ _ hs (o1 _ hj)
        · rw [hsym]; exact nocross _ _ hs (o1 _ hj)
        · exact hirr _
      · intro T hT
        by_cases hTs : tb T s = true
        · exact ⟨s, hTs, Or.inl rfl⟩
        · -- T is T1
          have o2 := lies T hT hTs
          have sub : ∀ A B, RM A → RM B → sb A O → sb B O → 3 ≤ pcn B → A = B := by
            intro A B hA hB hAO hBO h3
            have eB : B = O := Classical.byContradiction (fun q => by
              have := pcn_lt hBO q
              omega)
            refine sb_anti (fun k hk => by rw [eB]; exact hAO k hk) (fun k hk => Classical.byContradiction (fun q => ?_))
            obtain ⟨w, hw, hwn⟩ := rb A hA k ((ra B hB).1 k hk)
            have wB : tb B w = true := by rw [eB]; exact hAO w hw
            rw [(ra B hB).2.1 k w hk wB (fun e => q (e ▸ hw))] at hwn
            cases hwn
          have : T = T1 := by
            by_cases a3 : 3 ≤ pcn T1
            · exact sub T T1 hT h1 o2 o1 a3
            · by_cases b3 : 3 ≤ pcn T
              · exact (sub T1 T h1 hT o1 o2 b3).symm
              · have a2 := (ra T1 h1).2.2
                have b2 := (ra T hT).2.2
                -- they share one
                have : ∃ c, tb T c = true ∧ tb T1 c = true := by
                  refine Classical.byContradiction (fun q => ?_)
                  have z : T &&& T1 = 0 := and0.2 (fun k _ h => q ⟨k, h⟩)
                  have := pcn_or z
                  have := pcn_mono (s := T ||| T1) (t := O) (fun k hk => by
                    rcases or_t.1 hk with h | h
                    · exact o2 k h
                    · exact o1 k h)
                  omega
                obtain ⟨c, c1, c2⟩ := this
                exact rc T T1 c hT h1 (by omega) (by omega) c1 c2
          exact ⟨j, by rw [this]; exact hj, Or.inr rfl⟩
    · refine ⟨fun k => k = s, ?_, ?_, ?_⟩
      · rintro k rfl
        exact s0 _ hs
      · rintro a c rfl rfl
        exact hirr _
      · intro T hT
        exact ⟨s, Classical.byContradiction (fun q => hT1 ⟨T, hT, q⟩), rfl⟩
theorem hit_all {R : Int32} {RM : Int32 → Prop} (hsym : ∀ r o, tb (up r) o = tb (up o) r) (hirr : ∀ r, tb (up r) r = false) (hR : Rems up R RM) (hn : pcn R ≤ 5 ∨ (pcn R ≤ 6 ∧ C4f up R)) : Hits up R RM := by
  by_cases hb : ∃ T0, RM T0 ∧ 3 ≤ pcn T0
  · obtain ⟨T0, h0, h3⟩ := hb
    exact hit_big hsym hirr hR hn h0 h3
  obtain ⟨ra, rb, rc⟩ := hR
  have eq2 : ∀ T, RM T → pcn T = 2 := fun T hT => by
    have := (ra T hT).2.2
    have : ¬ 3 ≤ pcn T := fun q => hb ⟨T, hT, q⟩
    omega
  have disj : ∀ T T', RM T → RM T' → ¬ T = T' → T &&& T' = 0 := fun T T' h h' ne => and0.2 (fun k _ q => ne (rc T T' k h h' (eq2 T h) (eq2 T' h') q.1 q.2))
  by_cases h1 : ∃ T1, RM T1
  · obtain ⟨T1, r1⟩ := h1
    obtain ⟨a, ha⟩ := pcn_pos (T := T1) (by rw [eq2 T1 r1]; omega)
    by_cases h2 : ∃ T2, RM T2 ∧ ¬ T1 = T2
    · obtain ⟨T2, r2, ne12⟩ := h2
      have d12 := disj T1 T2 r1 r2 ne12
      by_cases h3 : ∃ T3, RM T3 ∧ ¬ T1 = T3 ∧ ¬ T2 = T3
      · obtain ⟨T3, r3, ne13, ne23⟩ := h3
        have d13 := disj T1 T3 r1 r3 ne13
        have d23 := disj T2 T3 r2 r3 ne23
        have p12 := pcn_or d12
        have d123 : (T1 ||| T2) &&& T3 = 0 := and0.2 (fun k hk q => by
          rcases or_t.1 q.1 with h | h
          · exact and0.1 d13 k hk ⟨h, q.2⟩
          · exact and0.1 d23 k hk ⟨h, q.2⟩)
        have p123 := pcn_or d123
        have e1 := eq2 T1 r1
        have e2 := eq2 T2 r2
        have e3 := eq2 T3 r3
        have le := pcn_mono (s := (T1 ||| T2) ||| T3) (t := R) (fun k hk => by
          rcases or_t.1 hk with h | h
          · rcases or_t.1 h with h | h
            · exact (ra T1 r1).1 k h
            · exact (ra T2 r2).1 k h
          · exact (ra T3 r3).1 k h)
        have c4 : C4f up R := by
          rcases hn with h | h
          · omega
          · exact h.2
        have r6 : pcn R ≤ 6 := by omega
        have all : ∀ T, RM T → T = T1 ∨ T = T2 ∨ T = T3 := fun T hT => Classical.byContradiction (fun q => by
          have f1 := disj T T1 hT r1 (fun e => q (Or.inl e))
          have f2 := disj T T2 hT r2 (fun e => q (Or.inr (Or.inl e)))
          have f3 := disj T T3 hT r3 (fun e => q (Or.inr (Or.inr e)))
          have z : ((T1 ||| T2) ||| T3) &&& T = 0 := and0.2 (fun k hk h => by
            rcases or_t.1 h.1 with h' | h'
            · rcases or_t.1 h' with h' | h'
              · exact and0.1 f1 k hk ⟨h.2, h'⟩
              · exact and0.1 f2 k hk ⟨h.2, h'⟩
            · exact and0.1 f3 k hk ⟨h.2, h'⟩)
          have p := pcn_or z
          have e := eq2 T hT
          have le := pcn_mono (s := ((T1 ||| T2) ||| T3) ||| T) (t := R) (fun k hk => by
            rcases or_t.1 hk with h | h
            · rcases or_t.1 h with h | h
              · rcases or_t.1 h with h | h
                · exact (ra T1 r1).1 k h
                · exact (ra T2 r2).1 k h
              · exact (ra T3 r3).1 k h
            · exact (ra T hT).1 k h)
          omega)
        -- one of T1 without one in T2
        have ex : ∃ a, tb T1 a = true ∧ ∀ c, tb T2 c = true → tb (up a) c = false := by
          refine Classical.byContradiction (fun q => ?_)
          have bad : ∀ a, tb T1 a = true → ∃ c, tb T2 c = true ∧ tb (up a) c = true := fun a ha => Classical.byContradiction (fun z => q ⟨a, ha, fun c hc => Bool.eq_false_iff.2 (fun w => z ⟨c, hc, w⟩)⟩)
          obtain ⟨b', hb', hbT, hb2⟩ := pcn_pair e1 ha
          obtain ⟨c, hc, hac⟩ := bad a ha
          obtain ⟨c', hc', hbc⟩ := bad b' hbT
          by_cases ec : c = c'
          · rw [← ec] at hbc
            obtain ⟨t, ht, htn⟩ := rb T1 r1 c ((ra T2 r2).1 c hc)
            rcases hb2 t ht with e | e
            · rw [e, hsym, hac] at htn; cases htn
            · rw [e, hsym, hbc] at htn; cases htn
          · have ad : ¬ a = c' := fun e => and0.1 d12 a (tb_lt ha) ⟨ha, e ▸ hc'⟩
            have bc : ¬ b' = c := fun e => and0.1 d12 b' (tb_lt hbT) ⟨hbT, e ▸ hc⟩
            exact c4 a c' b' c ((ra T1 r1).1 a ha) ((ra T2 r2).1 c' hc') ((ra T1 r1).1 b' hbT) ((ra T2 r2).1 c hc) ad bc ((ra T1 r1).2.1 a b' ha hbT (fun e => hb' e.symm)) hac (by rw [hsym]; exact hbc) ((ra T2 r2).2.1 c' c hc' hc (fun e => ec e.symm))
        obtain ⟨a, ha, hno⟩ := ex
        obtain ⟨e, he, hae⟩ := rb T3 r3 a ((ra T1 r1).1 a ha)
        obtain ⟨c, hc, hec⟩ := rb T2 r2 e ((ra T3 r3).1 e he)
        have hac := hno c hc
        refine ⟨fun k => k = a ∨ k = e ∨ k = c, ?_, ?_, ?_⟩
        · rintro k (rfl | rfl | rfl)
          · exact (ra T1 r1).1 _ ha
          · exact (ra T3 r3).1 _ he
          · exact (ra T2 r2).1 _ hc
        · rintro i j (rfl | rfl | rfl) (rfl | rfl | rfl)
          · exact hirr _
          · exact hae
          · exact hac
          · rw [hsym]; exact hae
          · exact hirr _
          · exact hec
          · rw [hsym]; exact hac
          · rw [hsym]; exact hec
          · exact hirr _
        · intro T hT
          rcases all T hT with rfl | rfl | rfl
          · exact ⟨a, ha, Or.inl rfl⟩
          · exact ⟨c, hc, Or.inr (Or.inr rfl)⟩
          · exact ⟨e, he, Or.inr (Or.inl rfl)⟩
      · obtain ⟨t, ht, hat⟩ := rb T2 r2 a ((ra T1 r1).1 a ha)
        refine ⟨fun k => k = a ∨ k = t, ?_, ?_, ?_⟩
        · rintro k (rfl | rfl)
          · exact (ra T1 r1).1 _ ha
          · exact (ra T2 r2).1 _ ht
        · rintro i j (rfl | rfl) (rfl | rfl)
          · exact hirr _
          · exact hat
          · rw [hsym]; exact hat
          · exact hirr _
        · intro T hT
          by_cases e1 : T1 = T
          · exact ⟨a, e1 ▸ ha, Or.inl rfl⟩
          · by_cases e2 : T2 = T
            · exact ⟨t, e2 ▸ ht, Or.inr rfl⟩
            · exact absurd ⟨T, hT, e1, e2⟩ h3
    · refine ⟨fun k => k = a, ?_, ?_, ?_⟩
      · rintro k rfl
        exact (ra T1 r1).1 _ ha
      · rintro i j rfl rfl
        exact hirr _
      · intro T hT
        have : T1 = T := Classical.byContradiction (fun q => h2 ⟨T, hT, q⟩)
        exact ⟨a, this ▸ ha, rfl⟩
  · exact ⟨fun _ => False, (fun k q => q.elim), (fun i j q => q.elim), fun T hT => absurd ⟨T, hT⟩ h1⟩
end SMALL
