/-! RAYS AS ROWS OF WHOLE NUMBERS: what stands upright -/
section GEO
def dt (a c : Nat → Int) : Int := a 0 * c 0 + a 1 * c 1 + a 2 * c 2 + a 3 * c 3
theorem dt_comm (a c : Nat → Int) : dt a c = dt c a := by unfold dt; grind
theorem sq_nn (x : Int) : 0 ≤ x * x := by
  rcases Int.le_total 0 x with h | h
  · exact Int.mul_nonneg h h
  · have := Int.mul_nonneg (show 0 ≤ -x by omega) (show 0 ≤ -x by omega)
    rw [Int.neg_mul_neg] at this
    exact this
theorem dt_nn (a : Nat → Int) : 0 ≤ dt a a := by
  unfold dt
  have := sq_nn (a 0)
  have := sq_nn (a 1)
  have := sq_nn (a 2)
  have := sq_nn (a 3)
  omega
theorem dt_pos {a : Nat → Int} (h : Nz a) : 0 < dt a a := by
  obtain ⟨k, hk, h⟩ := h
  have := sq_nn (a 0)
  have := sq_nn (a 1)
  have := sq_nn (a 2)
  have := sq_nn (a 3)
  have p : 0 < a k * a k := by
    have := sq_nn (a k)
    have : ¬ a k * a k = 0 := fun z => by
      rcases Int.mul_eq_zero.1 z with z | z <;> exact h z
    omega
  unfold dt
  have : k = 0 ∨ k = 1 ∨ k = 2 ∨ k = 3 := by omega
  rcases this with rfl | rfl | rfl | rfl <;> omega
/-- a table, its squares -/
def fb (u : Nat → Nat → Int) : Int := dt (u 0) (u 0) + dt (u 1) (u 1) + dt (u 2) (u 2) + dt (u 3) (u 3)
theorem gs_row (x v : Nat → Int) (N A y : Int) (hN : dt v v = N) (hy : dt x v = A * y) : dt (fun l => N * x l - A * y * v l) (fun l => N * x l - A * y * v l) = N * N * dt x x - N * (A * A) * (y * y) := by
  unfold dt at *
  grind
theorem gs_dot (x v w : Nat → Int) (N A y z : Int) (h0 : dt v w = 0) (hz : dt x w = A * z) : dt (fun l => N * x l - A * y * v l) w = N * A * z := by
  unfold dt at *
  grind
theorem gs_step (u : Nat → Nat → Int) (v : Nat → Int) (A t : Int) (hA : 0 < A) (hv : Nz v) (hu : ∀ k, k < 4 → dt (u k) v = A * v k) (ht : fb u = A * A * t) : ∃ (u' : Nat → Nat → Int) (A' : Int), 0 < A' ∧ fb u' = A' * A' * (t - 1) ∧ ∀ w, dt v w = 0 → (∀ k, k < 4 → dt (u k) w = A * w k) → ∀ k, k < 4 → dt (u' k) w = A' * w k := by
  have hN := dt_pos hv
  generalize hn : dt v v = N at *
  refine ⟨fun k l => N * u k l - A * v k * v l, N * A, Int.mul_pos hN hA, ?_, fun w h0 hw k hk => gs_dot (u k) v w N A (v k) (w k) h0 (hw k hk)⟩
  unfold fb
  rw [gs_row (u 0) v N A (v 0) hn (hu 0 (by omega)), gs_row (u 1) v N A (v 1) hn (hu 1 (by omega)), gs_row (u 2) v N A (v 2) hn (hu 2 (by omega)), gs_row (u 3) v N A (v 3) hn (hu 3 (by omega))]
  unfold fb at ht
  have e : v 0 * v 0 + v 1 * v 1 + v 2 * v 2 + v 3 * v 3 = N := hn
  grind
theorem no_five {a b c e f : Nat → Int} (ha : Nz a) (hb : Nz b) (hc : Nz c) (he : Nz e) (hf : Nz f) (ab : dt a b = 0) (ac : dt a c = 0) (ae : dt a e = 0) (af : dt a f = 0) (bc : dt b c = 0) (be : dt b e = 0) (bf : dt b f = 0) (ce : dt c e = 0) (cf : dt c f = 0) (ef : dt e f = 0) : False := by
  have u0 : ∀ w k, k < 4 → dt (fun l => if k = l then 1 else 0) w = 1 * w k := by
    intro w k hk
    have : k = 0 ∨ k = 1 ∨ k = 2 ∨ k = 3 := by omega
    unfold dt
    rcases this with rfl | rfl | rfl | rfl <;> simp
  obtain ⟨u1, A1, p1, t1, h1⟩ := gs_step (fun k l => if k = l then 1 else 0) a 1 4 (by omega) ha (u0 a) (by unfold fb dt; simp)
  obtain ⟨u2, A2, p2, t2, h2⟩ := gs_step u1 b A1 _ p1 hb (h1 b ab (u0 b)) t1
  obtain ⟨u3, A3, p3, t3, h3⟩ := gs_step u2 c A2 _ p2 hc (h2 c bc (h1 c ac (u0 c))) t2
  obtain ⟨u4, A4, p4, t4, h4⟩ := gs_step u3 e A3 _ p3 he (h3 e ce (h2 e be (h1 e ae (u0 e)))) t3
  obtain ⟨u5, A5, p5, t5, _⟩ := gs_step u4 f A4 _ p4 hf (h4 f ef (h3 f cf (h2 f bf (h1 f af (u0 f))))) t4
  have := Int.mul_pos p5 p5
  have : 0 ≤ fb u5 := by
    have := dt_nn (u5 0)
    have := dt_nn (u5 1)
    have := dt_nn (u5 2)
    have := dt_nn (u5 3)
    unfold fb
    omega
  omega
theorem fourth {a b c e f : Nat → Int} (ha : Nz a) (hb : Nz b) (hc : Nz c) (he : Nz e) (ab : dt a b = 0) (ac : dt a c = 0) (ae : dt a e = 0) (af : dt a f = 0) (bc : dt b c = 0) (be : dt b e = 0) (bf : dt b f = 0) (ce : dt c e = 0) (cf : dt c f = 0) : Par e f := by
  have hz : ¬ Nz (fun k => dt e e * f k - dt e f * e k) := by
    intro hf
    have lin : ∀ x : Nat → Int, dt x (fun k => dt e e * f k - dt e f * e k) = dt e e * dt x f - dt e f * dt x e := by
      intro x
      generalize dt e e = s
      generalize dt e f = t
      unfold dt
      grind
    refine no_five ha hb hc he hf ab ac ae ?_ bc be ?_ ce ?_ ?_
    · rw [lin, af, ae]; simp
    · rw [lin, bf, be]; simp
    · rw [lin, cf, ce]; simp
    · rw [lin, Int.mul_comm, Int.sub_self]
  have z : ∀ k, k < 4 → dt e e * f k = dt e f * e k := by
    intro k hk
    have : dt e e * f k - dt e f * e k = 0 := Classical.byContradiction (fun q => hz ⟨k, hk, q⟩)
    omega
  have p := dt_pos he
  intro i k hi hk
  have h1 := z i hi
  have h2 := z k hk
  generalize dt e e = s at *
  generalize dt e f = t at *
  have : s * (e i * f k - e k * f i) = 0 := by grind
  rcases Int.mul_eq_zero.1 this with h | h
  · omega
  · omega
theorem third_one {a b e f : Nat → Int} (ha : Nz a) (hb : Nz b) (he : Nz e) (a3 : a 3 = 0) (b3 : b 3 = 0) (e3 : e 3 = 0) (f3 : f 3 = 0) (ab : dt a b = 0) (ae : dt a e = 0) (af : dt a f = 0) (be : dt b e = 0) (bf : dt b f = 0) : Par e f := by
  have hu : Nz (fun k => if k = 3 then 1 else 0) := ⟨3, by omega, by simp⟩
  refine fourth (c := fun k => if k = 3 then 1 else 0) ha hb hu he ab ?_ ae af ?_ be bf ?_ ?_ <;> (unfold dt; simp; assumption)
/-- one step of the expansion -/
theorem pv_step (v c w u : Nat → Int) (A : Int) (hA : 0 < A) (hu : Nz u) (hc : dt v u = 0 ∨ dt u c = 0) (hwu : dt w u = A * dt v u) (hwc : dt w c = A * dt v c) : ∃ (w' : Nat → Int) (A' : Int), 0 < A' ∧ dt w' c = A' * dt v c ∧ dt w' u = 0 ∧ (∀ x, dt u x = 0 → dt w x = 0 → dt w' x = 0) ∧ ∀ x, dt u x = 0 → dt w x = A * dt v x → dt w' x = A' * dt v x := by
  have hN := dt_pos hu
  have lin : ∀ x, dt (fun l => dt u u * w l - dt w u * u l) x = dt u u * dt w x - dt w u * dt u x := by
    intro x
    generalize dt u u = s
    generalize dt w u = t
    unfold dt
    grind
  refine ⟨fun l => dt u u * w l - dt w u * u l, dt u u * A, Int.mul_pos hN hA, ?_, ?_, ?_, ?_⟩
  · rw [lin, hwc, hwu]
    rcases hc with h | h
    · rw [h]; grind
    · rw [h]; grind
  · rw [lin]; grind
  · intro x h1 h2
    rw [lin, h1, h2]; simp
  · intro x h1 h2
    rw [lin, h1, h2]; grind
/-- four that stand upright on one another, none of them 0 -/
def Bas (a b c e : Nat → Int) : Prop := Nz a ∧ Nz b ∧ Nz c ∧ Nz e ∧ dt a b = 0 ∧ dt a c = 0 ∧ dt a e = 0 ∧ dt b c = 0 ∧ dt b e = 0 ∧ dt c e = 0
theorem parseval {a b c e v x : Nat → Int} (h : Bas a b c e) (h1 : dt v a = 0 ∨ dt a x = 0) (h2 : dt v b = 0 ∨ dt b x = 0) (h3 : dt v c = 0 ∨ dt c x = 0) (h4 : dt v e = 0 ∨ dt e x = 0) : dt v x = 0 := by
  obtain ⟨ha, hb, hc, he, ab, ac, ae, bc, be, ce⟩ := h
  obtain ⟨w1, A1, p1, x1, u1, z1, k1⟩ := pv_step v x v a 1 (by omega) ha h1 (by omega) (by omega)
  have e1 : ∀ y, dt v y = 1 * dt v y := fun y => (Int.one_mul _).symm
  obtain ⟨w2, A2, p2, x2, u2, z2, k2⟩ := pv_step v x w1 b A1 p1 hb h2 (k1 b ab (e1 b)) x1
  obtain ⟨w3, A3, p3, x3, u3, z3, k3⟩ := pv_step v x w2 c A2 p2 hc h3 (k2 c bc (k1 c ac (e1 c))) x2
  obtain ⟨w4, A4, p4, x4, u4, z4, k4⟩ := pv_step v x w3 e A3 p3 he h4 (k3 e ce (k2 e be (k1 e ae (e1 e)))) x3
  have wa : dt w4 a = 0 := z4 a (by rw [dt_comm]; exact ae) (z3 a (by rw [dt_comm]; exact ac) (z2 a (by rw [dt_comm]; exact ab) u1))
  have wb : dt w4 b = 0 := z4 b (by rw [dt_comm]; exact be) (z3 b (by rw [dt_comm]; exact bc) u2)
  have wc : dt w4 c = 0 := z4 c (by rw [dt_comm]; exact ce) u3
  have nz : ¬ Nz w4 := fun hw => no_five ha hb hc he hw ab ac ae (by rw [dt_comm]; exact wa) bc be (by rw [dt_comm]; exact wb) ce (by rw [dt_comm]; exact wc) (by rw [dt_comm]; exact u4)
  have z : ∀ k, k < 4 → w4 k = 0 := fun k hk => Classical.byContradiction (fun q => nz ⟨k, hk, q⟩)
  have : dt w4 x = 0 := by
    unfold dt
    rw [z 0 (by omega), z 1 (by omega), z 2 (by omega), z 3 (by omega)]
    simp
  rw [this] at x4
  rcases Int.mul_eq_zero.1 x4.symm with h | h
  · omega
  · exact h
theorem par_of_x {t v : Nat → Int} (ht : Nz t) (h : ¬ Nz (fun k => dt t t * v k - dt v t * t k)) : Par t v := by
  have z : ∀ k, k < 4 → dt t t * v k = dt v t * t k := by
    intro k hk
    have : dt t t * v k - dt v t * t k = 0 := Classical.byContradiction (fun q => h ⟨k, hk, q⟩)
    omega
  have p := dt_pos ht
  intro i k hi hk
  have h1 := z i hi
  have h2 := z k hk
  generalize dt t t = s at *
  generalize dt v t = r at *
  have : s * (t i * v k - t k * v i) = 0 := by grind
  rcases Int.mul_eq_zero.1 this with h | h <;> omega
theorem x_dt (t v y : Nat → Int) : dt (fun k => dt t t * v k - dt v t * t k) y = dt t t * dt v y - dt v t * dt t y := by
  generalize dt t t = s
  generalize dt v t = r
  unfold dt
  grind
/-- upright on all but one of a base: that one -/
theorem bas_par {a b c e v : Nat → Int} (h : Bas a b c e) (hb : dt v b = 0) (hc : dt v c = 0) (he : dt v e = 0) : Par a v := by
  refine par_of_x h.1 (fun nz => ?_)
  have h' := h
  obtain ⟨ha, _, _, _, ab, ac, ae, bc, be, ce⟩ := h'
  have z : dt (fun k => dt a a * v k - dt v a * a k) (fun k => dt a a * v k - dt v a * a k) = 0 := by
    refine parseval h (Or.inl ?_) (Or.inl ?_) (Or.inl ?_) (Or.inl ?_)
    · rw [x_dt]; grind
    · rw [x_dt, hb, ab]; simp
    · rw [x_dt, hc, ac]; simp
    · rw [x_dt, he, ae]; simp
  have := dt_pos nz
  omega
/-- in three sides: upright on two, one of which isn't the other -/
theorem c4_free {u w x y : Nat → Int} (hu : Nz u) (hx : Nz x) (u3 : u 3 = 0) (w3 : w 3 = 0) (x3 : x 3 = 0) (y3 : y 3 = 0) (ux : dt u x = 0) (uy : dt u y = 0) (wx : dt w x = 0) (wy : dt w y = 0) : Par u w ∨ Par x y := by
  by_cases hz : Nz (fun k => dt u u * w k - dt w u * u k)
  · refine Or.inr (third_one (b := fun k => dt u u * w k - dt w u * u k) hu hz hx u3 (by show dt u u * w 3 - dt w u * u 3 = 0; rw [w3, u3, Int.mul_zero, Int.mul_zero]; rfl) x3 y3 ?_ ux uy ?_ ?_)
    · rw [dt_comm, x_dt]; grind
    · rw [x_dt, wx, ux]; simp
    · rw [x_dt, wy, uy]; simp
  · exact Or.inl (par_of_x hu hz)
/-- the plane of two has one more that is upright on the first -/
theorem plane_one {c d e v : Nat → Int} (hd : Nz d) (hcd : dt c d = 0) (hce : dt c e = 0) (vd : ¬ dt v d = 0) (ve : ¬ dt v e = 0) (h1 : ∀ x, dt c x = 0 → dt d x = 0 → dt v x = 0) (h2 : ∀ x, dt c x = 0 → dt e x = 0 → dt v x = 0) : Par d e := by
  have e1 := h1 (fun k => dt d d * e k - dt e d * d k) (by rw [dt_comm, x_dt, dt_comm e c, dt_comm d c, hcd, hce]; simp) (by rw [dt_comm, x_dt]; grind)
  have e2 := h2 (fun k => dt e e * d k - dt d e * e k) (by rw [dt_comm, x_dt, dt_comm e c, dt_comm d c, hcd, hce]; simp) (by rw [dt_comm, x_dt]; grind)
  rw [dt_comm, x_dt, dt_comm e v, dt_comm d v] at e1
  rw [dt_comm, x_dt, dt_comm e v, dt_comm d v, dt_comm d e] at e2
  refine par_of_x hd (fun nz => ?_)
  have p := dt_pos nz
  have z : dt (fun k => dt d d * e k - dt e d * d k) (fun k => dt d d * e k - dt e d * d k) = dt d d * (dt d d * dt e e - dt e d * dt e d) := by
    have y : ∀ y, dt y (fun k => dt d d * e k - dt e d * d k) = dt d d * dt y e - dt e d * dt y d := fun y => by rw [dt_comm, x_dt, dt_comm e, dt_comm d y]
    rw [x_dt, y e, y d, dt_comm d e]
    grind
  rw [z] at p
  generalize dt d d = P at *
  generalize dt e e = q at *
  generalize dt e d = r at *
  generalize dt v d = s at *
  generalize dt v e = t at *
  have : s * (P * q - r * r) = 0 := by grind
  rcases Int.mul_eq_zero.1 this with h | h
  · exact vd h
  · rw [h, Int.mul_zero] at p
    omega
end GEO
