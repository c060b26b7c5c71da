/-! FRAMES: which they are, how many -/
section FRAMES
variable {D m rl : Nat} {ins : Int32} {nu : Nat → Nat → Int} {up : Nat → Int32} {F : List Int32}
/-- who stands upright -/
def UD (m : Nat) (ins : Int32) (nu : Nat → Nat → Int) (up : Nat → Int32) : Prop := ∀ r o, tb (up r) o = true ↔ (r < m ∧ o < m ∧ ¬ r = o ∧ tb ins r = true ∧ tb ins o = true ∧ dt (nu r) (nu o) = 0)
def Clq (up : Nat → Int32) (f : Int32) : Prop := ∀ i j, tb f i = true → tb f j = true → ¬ i = j → tb (up i) j = true
/-- a frame -/
def Frm (D : Nat) (ins : Int32) (up : Nat → Int32) (f : Int32) : Prop := sb f ins ∧ pcn f = D ∧ Clq up f
def FS (D : Nat) (ins : Int32) (up : Nat → Int32) (F : List Int32) : Prop := F.Nodup ∧ ∀ f, f ∈ F ↔ Frm D ins up f
theorem pcn_add {s : Int32} {r : Nat} (hr : r < 32) (h : tb s r = false) : pcn (s ||| bit r) = pcn s + 1 := by
  refine cnt_flip hr ?_ h (fun k _ hk => ?_)
  · rw [tb_or, tb_bit hr, decide_eq_true rfl, Bool.or_true]
  · rw [tb_or, tb_bit hr, decide_eq_false hk, Bool.or_false]
theorem ff_spec (hm : m ≤ 20) : ∀ k s set, k ≤ m → Low (m - k) set → (∀ f, f ∈ ff up ins m k s set ↔ (Low m f ∧ (∀ j, j < m - k → tb f j = tb set j) ∧ pcn f = pcn set + s ∧ ∀ j, m - k ≤ j → tb f j = true → tb ins j = true ∧ ∀ i, i < j → tb f i = true → tb (up j) i = true)) ∧ (ff up ins m k s set).Nodup := by
  intro k
  induction k with
  | zero =>
    intro s set hk hl
    have same : ∀ f, Low m f → (∀ j, j < m - 0 → tb f j = tb set j) → f = set := fun f h1 h2 => tb_ext (fun j _ => by
      by_cases hj : j < m
      · exact h2 j hj
      · have e1 : tb f j = false := Bool.eq_false_iff.2 (fun z => hj (h1 j z))
        have e2 : tb set j = false := Bool.eq_false_iff.2 (fun z => hj (hl j z))
        rw [e1, e2])
    by_cases s0 : s = 0
    · subst s0
      refine ⟨fun f => ?_, List.pairwise_singleton _ _⟩
      show f ∈ [set] ↔ _
      rw [List.mem_singleton]
      constructor
      · rintro rfl
        exact ⟨hl, fun j _ => rfl, rfl, fun j hj h => absurd (hl j h) (by omega)⟩
      · exact fun h => same f h.1 h.2.1
    · have e : ff up ins m 0 s set = [] := if_neg s0
      rw [e]
      refine ⟨fun f => ⟨(fun q => by cases q), fun h => ?_⟩, List.Pairwise.nil⟩
      have := h.2.2.1
      rw [same f h.1 h.2.1] at this
      omega
  | succ k ih =>
    intro s set hk hl
    cases s with
    | zero =>
      rw [ff_zero]
      refine ⟨fun f => ?_, List.pairwise_singleton _ _⟩
      rw [List.mem_singleton]
      constructor
      · rintro rfl
        exact ⟨low_le hl (by omega), fun j _ => rfl, rfl, fun j hj h => absurd (hl j h) (by omega)⟩
      · intro h
        refine Classical.byContradiction (fun q => ?_)
        have := pcn_lt (s := set) (t := f) (fun j hj => by rw [h.2.1 j (hl j hj)]; exact hj) (fun e => q e.symm)
        have := h.2.2.1
        omega
    | succ s =>
      obtain ⟨r, hr⟩ : ∃ r, r = m - (k + 1) := ⟨_, rfl⟩
      have hk1 : m - k = r + 1 := by omega
      have e : ff up ins m (k + 1) (s + 1) set = (if tb ins r = true ∧ set &&& (up r ^^^ -1) = 0 then ff up ins m k s (set ||| bit r) else []) ++ ff up ins m k (s + 1) set := by rw [hr]; rfl
      rw [e]
      rw [← hr] at hl ⊢
      have r32 : r < 32 := by omega
      have sr : tb set r = false := Bool.eq_false_iff.2 (fun z => by have := hl r z; omega)
      obtain ⟨m1, n1⟩ := ih s (set ||| bit r) (by omega) (by rw [hk1]; exact low_or (low_le hl (by omega)) (low_bit (by omega) r32))
      obtain ⟨m2, n2⟩ := ih (s + 1) set (by omega) (by rw [hk1]; exact low_le hl (by omega))
      rw [hk1] at m1 m2
      rw [pcn_add r32 sr] at m1
      have tbr : tb (set ||| bit r) r = true := by rw [tb_or, tb_bit r32, decide_eq_true rfl, Bool.or_true]
      have tbn : ∀ j, ¬ j = r → tb (set ||| bit r) j = tb set j := fun j hj => by rw [tb_or, tb_bit r32, decide_eq_false hj, Bool.or_false]
      have in1 : ∀ f, f ∈ (if tb ins r = true ∧ set &&& (up r ^^^ -1) = 0 then ff up ins m k s (set ||| bit r) else []) → (tb ins r = true ∧ set &&& (up r ^^^ -1) = 0) ∧ f ∈ ff up ins m k s (set ||| bit r) := by
        intro f hf
        split at hf
        · exact ⟨by assumption, hf⟩
        · cases hf
      constructor
      · intro f
        rw [List.mem_append]
        constructor
        · rintro (h | h)
          · obtain ⟨⟨c1, c2⟩, h⟩ := in1 f h
            obtain ⟨a1, a2, a3, a4⟩ := (m1 f).1 h
            have fr := a2 r (by omega)
            rw [tbr] at fr
            refine ⟨a1, fun j hj => by rw [a2 j (by omega), tbn j (by omega)], by omega, fun j hj hf => ?_⟩
            by_cases ej : j = r
            · subst ej
              refine ⟨c1, fun i hi hfi => sub0.1 c2 i ?_⟩
              rw [a2 i (by omega), tbn i (by omega)] at hfi
              exact hfi
            · exact a4 j (by omega) hf
          · obtain ⟨a1, a2, a3, a4⟩ := (m2 f).1 h
            refine ⟨a1, fun j hj => a2 j (by omega), a3, fun j hj hf => ?_⟩
            by_cases ej : j = r
            · rw [ej, a2 r (by omega), sr] at hf
              cases hf
            · exact a4 j (by omega) hf
        · rintro ⟨a1, a2, a3, a4⟩
          by_cases fr : tb f r = true
          · have c := a4 r (Nat.le_refl _) fr
            refine Or.inl ?_
            rw [if_pos ⟨c.1, sub0.2 (fun i hi => c.2 i (hl i hi) (by rw [a2 i (hl i hi)]; exact hi))⟩]
            refine (m1 f).2 ⟨a1, fun j hj => ?_, by omega, fun j hj => a4 j (by omega)⟩
            by_cases ej : j = r
            · rw [ej, tbr, fr]
            · rw [tbn j ej]; exact a2 j (by omega)
          · refine Or.inr ((m2 f).2 ⟨a1, fun j hj => ?_, a3, fun j hj => a4 j (by omega)⟩)
            by_cases ej : j = r
            · rw [ej, sr]; exact Bool.eq_false_iff.2 fr
            · exact a2 j (by omega)
      · rw [List.nodup_append]
        refine ⟨?_, n2, fun f hf g hg efg => ?_⟩
        · split
          · exact n1
          · exact List.Pairwise.nil
        · have h1 := ((m1 f).1 (in1 f hf).2).2.1 r (by omega)
          have h2 := ((m2 g).1 hg).2.1 r (by omega)
          rw [tbr] at h1
          rw [← efg, h1, sr] at h2
          cases h2
theorem fs_ff (hm : m ≤ 20) (hl : Low m ins) (hsym : ∀ r o, tb (up r) o = tb (up o) r) : FS D ins up (ff up ins m m D 0) := by
  obtain ⟨h, n⟩ := ff_spec (up := up) (ins := ins) hm m D 0 (Nat.le_refl _) (low_zero _)
  refine ⟨n, fun f => (h f).trans ⟨?_, ?_⟩⟩
  · rintro ⟨_, _, a3, a4⟩
    rw [pcn_zero, Nat.zero_add] at a3
    refine ⟨fun j hj => (a4 j (by omega) hj).1, a3, fun i j hi hj hij => ?_⟩
    rcases Nat.lt_or_gt_of_ne hij with q | q
    · rw [hsym]; exact (a4 j (by omega) hj).2 i q hi
    · exact (a4 i (by omega) hi).2 j q hj
  · rintro ⟨a1, a2, a3⟩
    refine ⟨fun j hj => hl j (a1 j hj), fun j hj => absurd hj (by omega), by rw [pcn_zero, a2]; omega, fun j _ hj => ⟨a1 j hj, fun i hi hfi => a3 j i hj hfi (by omega)⟩⟩
theorem ud_facts (h : UD m ins nu up) : (∀ r o, tb (up r) o = tb (up o) r) ∧ (∀ r, tb (up r) r = false) ∧ ∀ r o, tb (up r) o = true → tb ins o = true := by
  refine ⟨fun r o => ?_, fun r => Bool.eq_false_iff.2 (fun z => ((h r r).1 z).2.2.1 rfl), fun r o z => ((h r o).1 z).2.2.2.2.1⟩
  rw [Bool.eq_iff_iff, h, h, dt_comm]
  constructor <;> rintro ⟨a1, a2, a3, a4, a5, a6⟩ <;> exact ⟨a2, a1, fun e => a3 e.symm, a5, a4, a6⟩
theorem ti_dot {num : Nat → Int32} (hD : D = 3 ∨ D = 4) (hR : RWd D m nu) (hn : ∀ r k, r < m → k < D → (num (4 * r + k)).toInt = nu r k) {r o : Nat} (hr : r < m) (ho : o < m) : (dotN num r o D).toInt = dt (nu r) (nu o) := by
  obtain ⟨r1, _, r3⟩ := hR.1 r hr
  obtain ⟨o1, _, o3⟩ := hR.1 o ho
  have step : ∀ k (x : Int32), k < D → -1000000 ≤ x.toInt → x.toInt ≤ 1000000 → (x + num (4 * r + k) * num (4 * o + k)).toInt = x.toInt + nu r k * nu o k := by
    intro k x hk h1 h2
    have e1 := hn r k hr hk
    have e2 := hn o k ho hk
    have mm := mul_9 (r1 k (by omega)) (o1 k (by omega))
    have t1 : (num (4 * r + k) * num (4 * o + k)).toInt = nu r k * nu o k := by
      rw [ti_mul (by rw [e1, e2]; omega) (by rw [e1, e2]; omega), e1, e2]
    rw [ti_add (by rw [t1]; omega) (by rw [t1]; omega), t1]
  have b0 := mul_9 (r1 0 (by omega)) (o1 0 (by omega))
  have b1 := mul_9 (r1 1 (by omega)) (o1 1 (by omega))
  have b2 := mul_9 (r1 2 (by omega)) (o1 2 (by omega))
  have z : ((0 : Int32)).toInt = 0 := by decide
  have s0 : (dotN num r o 1).toInt = nu r 0 * nu o 0 := by
    show ((0 : Int32) + _ * _).toInt = _
    rw [step 0 0 (by omega) (by rw [z]; omega) (by rw [z]; omega), z, Int.zero_add]
  have s1 : (dotN num r o 2).toInt = nu r 0 * nu o 0 + nu r 1 * nu o 1 := by
    show (dotN num r o 1 + _ * _).toInt = _
    rw [step 1 _ (by omega) (by rw [s0]; omega) (by rw [s0]; omega), s0]
  have s2 : (dotN num r o 3).toInt = nu r 0 * nu o 0 + nu r 1 * nu o 1 + nu r 2 * nu o 2 := by
    show (dotN num r o 2 + _ * _).toInt = _
    rw [step 2 _ (by omega) (by rw [s1]; omega) (by rw [s1]; omega), s1]
  rcases hD with rfl | rfl
  · rw [s2]
    unfold dt
    rw [r3 3 (by omega), Int.zero_mul, Int.add_zero]
  · show (dotN num r o 3 + _ * _).toInt = _
    rw [step 3 _ (by omega) (by rw [s2]; omega) (by rw [s2]; omega), s2]
    rfl
theorem ud_upS {num : Nat → Int32} (hD : D = 3 ∨ D = 4) (hm : m ≤ 20) (hl : Low m ins) (hR : RWd D m nu) (hn : ∀ r k, r < m → k < D → (num (4 * r + k)).toInt = nu r k) : UD m ins nu (upS num D m ins) := by
  intro r o
  unfold upS
  rw [tb_mk _ (by omega)]
  unfold pU
  simp only [Bool.and_eq_true, Bool.not_eq_true', decide_eq_true_eq, decide_eq_false_iff_not]
  constructor
  · rintro ⟨a1, ⟨⟨a2, a3⟩, a4⟩, a5⟩
    refine ⟨hl r a3, a1, fun e => a2 e.symm, a3, a4, ?_⟩
    rw [← ti_dot hD hR hn (hl r a3) a1]
    exact ti_0.1 a5
  · rintro ⟨a1, a2, a3, a4, a5, a6⟩
    refine ⟨a2, ⟨⟨fun e => a3 e.symm, a4⟩, a5⟩, ti_0.2 ?_⟩
    rw [ti_dot hD hR hn a1 a2]
    exact a6
/-- the rays of a set -/
def els (f : Int32) : List Nat := (List.range 20).filter (fun k => tb f k)
theorem range_cnt (p : Nat → Bool) (n : Nat) : ((List.range n).filter p).length = cnt p n := by
  induction n with
  | zero => rfl
  | succ n ih =>
    rw [List.range_succ, List.filter_append, List.length_append, ih]
    show _ = cnt p n + _
    cases h : p n <;> simp [h]
theorem els_len {f : Int32} (h : Low 20 f) : (els f).length = pcn f := by
  rw [pcn_low h (by omega)]
  exact range_cnt _ _
theorem els_mem {f : Int32} (h : Low 20 f) {k : Nat} : k ∈ els f ↔ tb f k = true := by
  unfold els
  rw [List.mem_filter, List.mem_range]
  exact ⟨fun a => a.2, fun a => ⟨h k a, a⟩⟩
theorem els_nodup (f : Int32) : (els f).Nodup := List.nodup_range.filter _
theorem parsF (hD : D = 3 ∨ D = 4) (hm : m ≤ 20) (hl : Low m ins) (hR : RWd D m nu) (hud : UD m ins nu up) {f : Int32} (hf : Frm D ins up f) {v x : Nat → Int} (hv : D = 3 → v 3 = 0) (h : ∀ u, tb f u = true → dt v (nu u) = 0 ∨ dt (nu u) x = 0) : dt v x = 0 := by
  have hlow : Low 20 f := fun k hk => by have := hl k (hf.1 k hk); omega
  have hlen := els_len hlow
  have hmem := fun k => els_mem hlow (k := k)
  have hnd := els_nodup f
  rw [hf.2.1] at hlen
  have nz : ∀ u, tb f u = true → Nz (nu u) := fun u hu => (hR.1 u (hl u (hf.1 u hu))).2.1
  have d0 : ∀ u w, tb f u = true → tb f w = true → ¬ u = w → dt (nu u) (nu w) = 0 := fun u w hu hw hne => ((hud u w).1 (hf.2.2 u w hu hw hne)).2.2.2.2.2
  generalize els f = L at *
  rcases hD with rfl | rfl
  · match L, hlen with
    | [a, b, c], _ =>
      have ha := (hmem a).1 (by simp)
      have hb := (hmem b).1 (by simp)
      have hc := (hmem c).1 (by simp)
      simp only [List.nodup_cons, List.mem_cons, List.not_mem_nil, or_false, not_or] at hnd
      have e3 : ∀ u, tb f u = true → dt (nu u) (fun k => if k = 3 then 1 else 0) = 0 := fun u hu => by
        have := (hR.1 u (hl u (hf.1 u hu))).2.2 3 (Nat.le_refl _)
        unfold dt
        simp
        exact this
      refine parseval (a := nu a) (b := nu b) (c := nu c) (e := fun k => if k = 3 then 1 else 0) ⟨nz a ha, nz b hb, nz c hc, ⟨3, by omega, by simp⟩, d0 a b ha hb hnd.1.1, d0 a c ha hc hnd.1.2, e3 a ha, d0 b c hb hc hnd.2.1, e3 b hb, e3 c hc⟩ (h a ha) (h b hb) (h c hc) (Or.inl ?_)
      have := hv rfl
      unfold dt
      simp
      exact this
  · match L, hlen with
    | [a, b, c, e], _ =>
      have ha := (hmem a).1 (by simp)
      have hb := (hmem b).1 (by simp)
      have hc := (hmem c).1 (by simp)
      have he := (hmem e).1 (by simp)
      simp only [List.nodup_cons, List.mem_cons, List.not_mem_nil, or_false, not_or] at hnd
      exact parseval (a := nu a) (b := nu b) (c := nu c) (e := nu e) ⟨nz a ha, nz b hb, nz c hc, nz e he, d0 a b ha hb hnd.1.1, d0 a c ha hc hnd.1.2.1, d0 a e ha he hnd.1.2.2, d0 b c hb hc hnd.2.1.1, d0 b e hb he hnd.2.1.2, d0 c e hc he hnd.2.2.1⟩ (h a ha) (h b hb) (h c hc) (h e he)
/-- a ray that isn't of a frame: two of the frame aren't upright on it -/
theorem two_left (hD : D = 3 ∨ D = 4) (hm : m ≤ 20) (hl : Low m ins) (hR : RWd D m nu) (hud : UD m ins nu up) {f : Int32} (hf : Frm D ins up f) {v : Nat} (hv : tb ins v = true) (hvf : tb f v = false) : ∃ t t', ¬ t = t' ∧ tb f t = true ∧ tb f t' = true ∧ tb (up v) t = false ∧ tb (up v) t' = false := by
  have vm := hl v hv
  obtain ⟨_, vz, v3⟩ := hR.1 v vm
  have v3' : D = 3 → nu v 3 = 0 := fun e => v3 3 (by omega)
  have ups : ∀ u, tb f u = true → tb (up v) u = true → dt (nu v) (nu u) = 0 := fun u _ h => ((hud v u).1 h).2.2.2.2.2
  have vp := dt_pos vz
  have h1 : ∃ t, tb f t = true ∧ tb (up v) t = false := by
    refine Classical.byContradiction (fun q => ?_)
    have : dt (nu v) (nu v) = 0 := parsF hD hm hl hR hud hf v3' (fun u hu => Or.inl (ups u hu (Classical.byContradiction (fun z => q ⟨u, hu, Bool.eq_false_iff.2 z⟩))))
    omega
  obtain ⟨t, ht, htv⟩ := h1
  refine Classical.byContradiction (fun q => ?_)
  have oth : ∀ u, tb f u = true → ¬ t = u → tb (up v) u = true := fun u hu hne => Classical.byContradiction (fun z => q ⟨t, u, hne, ht, hu, htv, Bool.eq_false_iff.2 z⟩)
  have tm := hl t (hf.1 t ht)
  obtain ⟨_, tz, t3⟩ := hR.1 t tm
  have hpar : Par (nu t) (nu v) := by
    refine par_of_x tz (fun nz => ?_)
    have p := dt_pos nz
    have : dt (fun k => dt (nu t) (nu t) * nu v k - dt (nu v) (nu t) * nu t k) (fun k => dt (nu t) (nu t) * nu v k - dt (nu v) (nu t) * nu t k) = 0 := by
      refine parsF hD hm hl hR hud hf (fun e => ?_) (fun u hu => Or.inl ?_)
      · show dt (nu t) (nu t) * nu v 3 - dt (nu v) (nu t) * nu t 3 = 0
        rw [v3' e, t3 3 (by omega), Int.mul_zero, Int.mul_zero]
        rfl
      · rw [x_dt]
        by_cases e : t = u
        · rw [e]
          grind
        · rw [ups u hu (oth u hu e), ((hud t u).1 (hf.2.2 t u ht hu e)).2.2.2.2.2, Int.mul_zero, Int.mul_zero]
          rfl
    omega
  have := hR.2 t v tm vm hpar
  rw [this, hvf] at ht
  cases ht
/-- two frames have at most all but two in common -/
theorem frm_meet (hD : D = 3 ∨ D = 4) (hm : m ≤ 20) (hl : Low m ins) (hR : RWd D m nu) (hud : UD m ins nu up) {f g : Int32} (hf : Frm D ins up f) (hg : Frm D ins up g) (hne : ¬ f = g) : pcn (f &&& g) + 2 ≤ D := by
  have hv : ∃ v, tb g v = true ∧ tb f v = false := by
    refine Classical.byContradiction (fun q => ?_)
    have : sb g f := fun k hk => Classical.byContradiction (fun z => q ⟨k, hk, Bool.eq_false_iff.2 z⟩)
    have := pcn_lt this (fun e => hne e.symm)
    have h1 := hf.2.1
    have h2 := hg.2.1
    omega
  obtain ⟨v, vg, vf⟩ := hv
  obtain ⟨t, t', hne', ht, ht', hu, hu'⟩ := two_left hD hm hl hR hud hf (hg.1 v vg) vf
  have notg : ∀ t, tb f t = true → tb (up v) t = false → tb g t = false := fun t h1 h2 => Bool.eq_false_iff.2 (fun z => by
    have : ¬ v = t := fun e => by rw [e, h1] at vf; cases vf
    rw [hg.2.2 v t vg z this] at h2
    cases h2)
  have g1 := notg t ht hu
  have g2 := notg t' ht' hu'
  have t32 := tb_lt ht
  have t32' := tb_lt ht'
  have e1 : pcn ((f &&& g) ||| bit t) = pcn (f &&& g) + 1 := pcn_add t32 (by rw [tb_and, g1, Bool.and_false])
  have e2 : pcn (((f &&& g) ||| bit t) ||| bit t') = pcn ((f &&& g) ||| bit t) + 1 := pcn_add t32' (by rw [tb_or, tb_and, g2, Bool.and_false, tb_bit t32, decide_eq_false (fun e => hne' e.symm)]; rfl)
  have e3 : pcn (((f &&& g) ||| bit t) ||| bit t') ≤ pcn f := pcn_mono (fun k hk => by
    rw [tb_or, tb_or, tb_and, tb_bit t32, tb_bit t32'] at hk
    simp only [Bool.or_eq_true, Bool.and_eq_true, decide_eq_true_eq] at hk
    rcases hk with (h | h) | h
    · exact h.1
    · rw [h]; exact ht
    · rw [h]; exact ht')
  rw [hf.2.1] at e3
  omega
theorem frm_drop {f : Int32} {x : Nat} (hx : tb f x = true) : pcn (f &&& (bit x ^^^ -1)) + 1 = pcn f := by
  have x32 := tb_lt hx
  refine (cnt_flip x32 hx ?_ (fun k hk hne => ?_)).symm
  · rw [tb_and, tb_not _ x32, tb_bit x32, decide_eq_true rfl, Bool.not_true, Bool.and_false]
  · rw [tb_and, tb_not _ hk, tb_bit x32, decide_eq_false hne, Bool.not_false, Bool.and_true]
theorem map_nodup {L : List Nat} {g : Nat → Int32} (hn : L.Nodup) (hi : ∀ x, x ∈ L → ∀ y, y ∈ L → g x = g y → x = y) : (L.map g).Nodup := by
  induction L with
  | nil => exact List.Pairwise.nil
  | cons a L ih =>
    rw [List.nodup_cons] at hn
    rw [List.map_cons, List.nodup_cons]
    refine ⟨fun h => ?_, ih hn.2 (fun x hx y hy => hi x (List.mem_cons_of_mem _ hx) y (List.mem_cons_of_mem _ hy))⟩
    obtain ⟨x, hx, he⟩ := List.mem_map.1 h
    have := hi x (List.mem_cons_of_mem _ hx) a List.mem_cons_self he
    subst this
    exact hn.1 hx
theorem frm_few (hD : D = 3 ∨ D = 4) (hm : m ≤ 20) (hl : Low m ins) (hR : RWd D m nu) (hud : UD m ins nu up) : ∀ G : List Int32, G.Nodup → (∀ g, g ∈ G → Frm D ins up g) → (G.flatMap (fun f => (els f).map (fun x => f &&& (bit x ^^^ -1)))).length = D * G.length ∧ (G.flatMap (fun f => (els f).map (fun x => f &&& (bit x ^^^ -1)))).Nodup := by
  have low : ∀ f, Frm D ins up f → Low 20 f := fun f hf k hk => by have := hl k (hf.1 k hk); omega
  intro G
  induction G with
  | nil => exact fun _ _ => ⟨rfl, List.Pairwise.nil⟩
  | cons f G ih =>
    intro hn hG
    rw [List.nodup_cons] at hn
    have hf := hG f List.mem_cons_self
    obtain ⟨i1, i2⟩ := ih hn.2 (fun g hg => hG g (List.mem_cons_of_mem _ hg))
    have lf := low f hf
    rw [List.flatMap_cons]
    constructor
    · rw [List.length_append, i1, List.length_map, els_len lf, hf.2.1, List.length_cons, Nat.mul_add, Nat.mul_one, Nat.add_comm]
    · rw [List.nodup_append]
      refine ⟨map_nodup (els_nodup f) (fun x hx y hy e => ?_), i2, fun a ha c hc hac => ?_⟩
      · have hx := (els_mem lf).1 hx
        have x32 := tb_lt hx
        have y32 := tb_lt ((els_mem lf).1 hy)
        refine Classical.byContradiction (fun q => ?_)
        have := congrArg (fun s => tb s x) e
        simp only [tb_and, tb_not _ x32, tb_bit x32, tb_bit y32, hx] at this
        simp [q] at this
      · obtain ⟨x, hx, rfl⟩ := List.mem_map.1 ha
        obtain ⟨g, hg, hc⟩ := List.mem_flatMap.1 hc
        obtain ⟨y, hy, rfl⟩ := List.mem_map.1 hc
        have hgF := hG g (List.mem_cons_of_mem _ hg)
        have hx := (els_mem lf).1 hx
        have ne : ¬ f = g := fun e => hn.1 (e ▸ hg)
        have h1 := frm_meet hD hm hl hR hud hf hgF ne
        have h2 := frm_drop hx
        have h3 : pcn (f &&& (bit x ^^^ -1)) ≤ pcn (f &&& g) := pcn_mono (fun k hk => and_t.2 ⟨(and_t.1 hk).1, by rw [hac] at hk; exact (and_t.1 hk).1⟩)
        have h4 := hf.2.1
        omega
theorem frm_300 (hD : D = 3 ∨ D = 4) (hm : m ≤ 20) (hl : Low m ins) (hR : RWd D m nu) (hud : UD m ins nu up) (hF : FS D ins up F) : F.length ≤ 300 := by
  have low : ∀ f, Frm D ins up f → Low 20 f := fun f hf k hk => by have := hl k (hf.1 k hk); omega
  obtain ⟨h1, h2⟩ := frm_few hD hm hl hR hud F hF.1 (fun g hg => (hF.2 g).1 hg)
  have h3 := few_len (t := D - 1) h2 (fun X hX => by
    obtain ⟨f, hf, hX⟩ := List.mem_flatMap.1 hX
    obtain ⟨x, hx, rfl⟩ := List.mem_map.1 hX
    have hf := (hF.2 f).1 hf
    have hx := (els_mem (low f hf)).1 hx
    have := frm_drop hx
    have := hf.2.1
    exact ⟨fun k hk => low f hf k (and_t.1 hk).1, by omega⟩)
  have c2 : ch 20 2 = 190 := by decide +kernel
  have c3 : ch 20 3 = 1140 := by decide +kernel
  rw [h1] at h3
  rcases hD with rfl | rfl
  · have h3 : 3 * F.length ≤ ch 20 2 := h3
    omega
  · have h3 : 4 * F.length ≤ ch 20 3 := h3
    omega
/-- the world -/
theorem uw_of (hD : D = 3 ∨ D = 4) (hm : m ≤ 20) (hrl : rl ≤ 1) (hl : Low m ins) (hR : RWd D m nu) (hud : UD m ins nu up) (hF : FS D ins up F) : UW m rl ins up F := by
  obtain ⟨h1, h2, h3⟩ := ud_facts hud
  exact ⟨hm, hrl, hl, h1, h2, h3, fun f hf => ((hF.2 f).1 hf).1, fun f hf r o hr ho hne => ((hF.2 f).1 hf).2.2 r o hr ho hne, fun f hf => by rw [((hF.2 f).1 hf).2.1]; omega, frm_300 hD hm hl hR hud hF⟩
theorem col_frm (hD : D ≤ 4) (hm : m ≤ 20) (hl : Low m ins) {f : Int32} (hf : Frm D ins up f) {k : Nat} (hc : Col up ins k) : D ≤ k := by
  obtain ⟨col, c1, c2⟩ := hc
  have lf : Low 20 f := fun j hj => by have := hl j (hf.1 j hj); omega
  have hlen := els_len lf
  rw [hf.2.1] at hlen
  refine Nat.le_of_not_lt (fun q => ?_)
  have hc1 : ∀ x, x ∈ els f → col x < k := fun x hx => c1 x (hf.1 x ((els_mem lf).1 hx))
  have := nodup_len ((els f).map (fun u => Int32.ofNat (col u))) ((List.range k).map Int32.ofNat) (map_nodup (els_nodup f) (fun x hx y hy e => Classical.byContradiction (fun ne => by
    have h1 := hc1 x hx
    have h2 := hc1 y hy
    have e := (i_inj (by omega) (by omega)).1 e
    have hx := (els_mem lf).1 hx
    have hy := (els_mem lf).1 hy
    exact c2 x y (hf.1 x hx) (hf.1 y hy) (hf.2.2 x y hx hy ne) e))) (fun x hx => by
    obtain ⟨u, hu, rfl⟩ := List.mem_map.1 hx
    exact List.mem_map.2 ⟨col u, List.mem_range.2 (hc1 u hu), rfl⟩)
  rw [List.length_map, List.length_map, List.length_range, hlen] at this
  omega
theorem hue_low (hD : D = 3 ∨ D = 4) (hU : UW m rl ins up F) (hF : FS D ins up F) : ∀ k, Col up ins k → (0 < F.length → D ≤ k) ∧ (0 < sumN (fun r => pcn (up r)) 20 / 2 → 2 ≤ k) := by
  intro k hc
  obtain ⟨hm, _, hl, hsym, _, hin, _⟩ := hU
  constructor
  · intro h
    obtain ⟨f, hf⟩ := List.exists_mem_of_length_pos h
    exact col_frm (by omega) hm hl ((hF.2 f).1 hf) hc
  · intro h
    have : ∃ r, ¬ up r = 0 := by
      refine Classical.byContradiction (fun q => ?_)
      have z : ∀ r, pcn (up r) = 0 := fun r => by
        have : up r = 0 := Classical.byContradiction (fun z => q ⟨r, z⟩)
        rw [this, pcn_zero]
      have := sumN_le (f := fun r => pcn (up r)) (c := 0) (fun r => by rw [z r]; exact Nat.le_refl _) 20
      omega
    obtain ⟨r, hr⟩ := this
    obtain ⟨o, ho⟩ := ne0 hr
    exact col_two (hin o r (by rw [← hsym]; exact ho)) (hin r o ho) ho hc
/-- lacking: the same pairs -/
theorem lk_eq (hU : UW m rl ins up F) (r o : Nat) : lkB ins up F r o = lkC up F r o := by
  obtain ⟨hm, _, hl, hsym, hirr, hin, _⟩ := hU
  unfold lkB lkC
  cases h : tb (up r) o
  · rw [Bool.and_false, Bool.false_and, Bool.false_and]
  · have h1 := hin r o h
    have h2 := hin o r (by rw [← hsym]; exact h)
    have hne : ¬ o = r := fun e => by rw [e, hirr] at h; cases h
    have hr := hl r h2
    rw [h1, h2, Bool.true_and, Bool.true_and, Bool.true_and]
    congr 1
    rw [Bool.eq_iff_iff, tb_mates F (by omega), List.any_eq_true]
    constructor
    · rintro ⟨f, hf, h⟩
      rw [Bool.and_eq_true] at h
      exact ⟨hne, f, hf, h.1, h.2⟩
    · rintro ⟨_, f, hf, h1, h2⟩
      exact ⟨f, hf, by rw [h1, h2]; rfl⟩
theorem cr_dt (a c : Nat → Int) : dt (cr a c) a = 0 ∧ dt (cr a c) c = 0 := by
  have e0 : cr a c 0 = a 1 * c 2 - a 2 * c 1 := rfl
  have e1 : cr a c 1 = a 2 * c 0 - a 0 * c 2 := rfl
  have e2 : cr a c 2 = a 0 * c 1 - a 1 * c 0 := rfl
  have e3 : cr a c 3 = 0 := rfl
  unfold dt
  rw [e0, e1, e2, e3]
  constructor <;> grind
theorem th_dt {a c e : Nat → Int} (nz : Nz (cr a c)) (hp : Par (th a c) e) (he : Nz e) : dt e a = 0 ∧ dt e c = 0 := by
  -- th * gc = +- cr, and th is along e
  have hs : ∃ s : Int, ¬ s = 0 ∧ ∀ k, k < 4 → cr a c k = s * th a c k := by
    have gp := gc_pos nz
    rcases th_sg a c with h | h
    · exact ⟨gc (cr a c), by omega, fun k hk => by rw [h k hk, Int.mul_comm, rd_mul _ hk]⟩
    · exact ⟨-(gc (cr a c) : Int), by omega, fun k hk => by rw [h k hk, Int.neg_mul_neg, Int.mul_comm, rd_mul _ hk]⟩
  obtain ⟨s, s0, hs⟩ := hs
  obtain ⟨j, hj, hz⟩ := nz
  have tj : ¬ th a c j = 0 := fun z => hz (by rw [hs j hj, z, Int.mul_zero])
  have cd := cr_dt a c
  have key : ∀ x, dt (cr a c) x = 0 → dt e x = 0 := by
    intro x hx
    have h0 := hp j 0 hj (by omega)
    have h1 := hp j 1 hj (by omega)
    have h2 := hp j 2 hj (by omega)
    have h3 := hp j 3 hj (by omega)
    have : s * (th a c j * dt e x) = e j * dt (cr a c) x := by
      unfold dt
      rw [hs 0 (by omega), hs 1 (by omega), hs 2 (by omega), hs 3 (by omega)]
      generalize th a c j = t at *
      generalize th a c 0 = t0 at *
      generalize th a c 1 = t1 at *
      generalize th a c 2 = t2 at *
      generalize th a c 3 = t3 at *
      generalize e j = ej at *
      grind
    rw [hx, Int.mul_zero] at this
    rcases Int.mul_eq_zero.1 this with h | h
    · exact absurd h s0
    · rcases Int.mul_eq_zero.1 h with h | h
      · exact absurd h tj
      · exact h
  exact ⟨key a cd.1, key c cd.2⟩
theorem th_eq (hD : D = 3 ∨ D = 4) (hU : UW m rl ins up F) (hR : RWd D m nu) (hud : UD m ins nu up) (hF : FS D ins up F) (r o : Nat) : thB D m ins nu (lkB ins up F) r o = (lkC up F r o && (decide (D = 3) && hasB m nu r o)) := by
  unfold thB
  rw [lk_eq hU]
  cases hk : lkC up F r o
  · rfl
  by_cases d3 : D = 3
  · rw [decide_eq_true d3, Bool.true_and, Bool.true_and, Bool.true_and, Bool.true_and, Bool.eq_iff_iff, hasB_iff]
    unfold outB
    rw [List.any_eq_true]
    have hl := hU.2.2.1
    have hm := hU.1
    constructor
    · rintro ⟨t, ht, h⟩
      rw [Bool.and_eq_true] at h
      exact ⟨t, List.mem_range.1 ht, parB_iff.1 h.2⟩
    · rintro ⟨t, ht, hp⟩
      refine ⟨t, List.mem_range.2 ht, ?_⟩
      rw [Bool.and_eq_true]
      refine ⟨?_, parB_iff.2 hp⟩
      rw [Bool.not_eq_true']
      refine Bool.eq_false_iff.2 (fun hin => ?_)
      -- in: then the three are a frame
      rw [← lk_eq hU] at hk
      unfold lkB at hk
      simp only [Bool.and_eq_true, Bool.not_eq_true'] at hk
      obtain ⟨⟨⟨ir, io⟩, hup⟩, hno⟩ := hk
      obtain ⟨rm, om, hne, _, _, dro⟩ := (hud r o).1 hup
      obtain ⟨_, rz, r3⟩ := hR.1 r rm
      obtain ⟨_, oz, o3⟩ := hR.1 o om
      obtain ⟨_, tz, _⟩ := hR.1 t ht
      have nz : Nz (cr (nu r) (nu o)) := cr_nz (r3 3 (by omega)) (o3 3 (by omega)) (fun z => hne (hR.2 r o rm om z))
      obtain ⟨tr, to⟩ := th_dt nz hp tz
      have hrt : ¬ r = t := fun e => by
        have := dt_pos tz
        rw [e] at tr
        omega
      have hot : ¬ o = t := fun e => by
        have := dt_pos tz
        rw [e] at to
        omega
      have urt : tb (up r) t = true := (hud r t).2 ⟨rm, ht, hrt, ir, hin, by rw [dt_comm]; exact tr⟩
      have uot : tb (up o) t = true := (hud o t).2 ⟨om, ht, hot, io, hin, by rw [dt_comm]; exact to⟩
      have hsym := hU.2.2.2.1
      have fr : Frm D ins up ((bit r ||| bit o) ||| bit t) := by
        have mem : ∀ k, tb ((bit r ||| bit o) ||| bit t) k = true ↔ (k = r ∨ k = o ∨ k = t) := by
          intro k
          rw [or_t, or_t, tb_bit (by omega), tb_bit (by omega), tb_bit (by omega), decide_eq_true_eq, decide_eq_true_eq, decide_eq_true_eq, or_assoc]
        refine ⟨fun k hk => ?_, ?_, fun i j hi hj hij => ?_⟩
        · rcases (mem k).1 hk with rfl | rfl | rfl
          · exact ir
          · exact io
          · exact hin
        · have b1 : pcn (bit r) = 1 := by
            have := pcn_add (s := 0) (r := r) (by omega) (tb_zero r)
            rw [or_zero_l, pcn_zero] at this
            exact this
          rw [pcn_add (by omega) (by rw [tb_or, tb_bit (by omega), tb_bit (by omega), decide_eq_false (fun e => hrt e.symm), decide_eq_false (fun e => hot e.symm)]; rfl), pcn_add (by omega) (by rw [tb_bit (by omega), decide_eq_false (fun e => hne e.symm)]), b1, d3]
        · rcases (mem i).1 hi with rfl | rfl | rfl <;> rcases (mem j).1 hj with rfl | rfl | rfl
          · exact absurd rfl hij
          · exact hup
          · exact urt
          · rw [hsym]; exact hup
          · exact absurd rfl hij
          · exact uot
          · rw [hsym]; exact urt
          · rw [hsym]; exact uot
          · exact absurd rfl hij
      have : F.any (fun f => tb f r && tb f o) = true := List.any_eq_true.2 ⟨_, (hF.2 _).2 fr, by
        have a1 : tb ((bit r ||| bit o) ||| bit t) r = true := or_t.2 (Or.inl (or_t.2 (Or.inl (by rw [tb_bit (by omega)]; exact decide_eq_true rfl))))
        have a2 : tb ((bit r ||| bit o) ||| bit t) o = true := or_t.2 (Or.inl (or_t.2 (Or.inr (by rw [tb_bit (by omega)]; exact decide_eq_true rfl))))
        rw [a1, a2]
        rfl⟩
      rw [this] at hno
      cases hno
  · rw [decide_eq_false d3]
    rfl
end FRAMES
