/-! the members of the JDK that a row calls -/
def jW : List (Nat × Jvm.Cond) := [(4020, .static Lib.Math.abs.name), (3123, .static Lib.Math.min.name), (3192, .static Lib.Math.max.name), (1018, .initialized "java/lang/Math"), (4021, .code Lib.Math.abs.name Lib.Math.abs.code 1 (some .int)), (3124, .code Lib.Math.min.name Lib.Math.min.code 2 (some .int)), (3193, .code Lib.Math.max.name Lib.Math.max.code 2 (some .int)), (3127, .static arraycopyName), (1023, .initialized "java/lang/System"), (3128, .native arraycopyName)]
theorem jW_ok : ∀ q ∈ jW, okW q.1 q.2 = true := by decide +kernel
theorem jW_in (i : Nat) {q : Nat × Jvm.Cond} (h : jW[i]? = some q) : q.2 ∈ gT := okW_in (jW_ok q (List.mem_of_getElem? h))
/-- room enough for small things -/
def Rm (R : Room) (cells slots : Nat) : Prop := 8 ≤ R.frames ∧ 300 ≤ R.locals ∧ cells ≤ R.cells ∧ slots ≤ R.slots
theorem cats (ad : Nat → Nat) : ∀ st : List Value, ((st.map (cv ad)).map fun v => v.category).sum ≤ 2 * st.length := by
  intro st
  induction st with
  | nil => exact Nat.le_refl _
  | cons v st ih =>
    simp only [List.map_cons, List.sum_cons, List.length_cons]
    have : (cv ad v).category ≤ 2 := by rcases lv_cat (cv ad v) with h | h <;> rw [h] <;> omega
    omega
theorem few_spec {α : Type} {r : List Value} {x : Option α} {y : α} (h : few r x = some y) : r.length ≤ 20 ∧ x = some y := by
  unfold few at h
  cases e : Nat.ble r.length 20 with
  | true => rw [e] at h; exact ⟨Nat.le_of_ble_eq_true e, h⟩
  | false => rw [e] at h; cases h
section SND3
variable {G : Gp} {p : Program} {l : Launch} {e : Env} {R : Room} {s : State} {m : MethodId} {args : Array Value} {below : List Frame} {meth : Method} {c : Code} {cells slots : Nat} {Q : State → Prop} {M pc ct a b w u : Nat} {k : Int32} {ls st : List Value} {S : St}
theorem s_abs (F : Fr G p l s m args meth c M) (hR : Rm R cells slots) (hk : okRow M (pc, ct, 28, a, b, w, u, k) = true) {x : Int32} (hn : st.length ≤ 20) (K : Kt G p l e R s m args below meth c cells slots Q M (pc + 3) ls (.int (if 0 ≤ x then x else 0 - x) :: st) S) : Kt G p l e R s m args below meth c cells slots Q M pc ls (.int x :: st) S := by
  intro lsA H locs hl hP hS
  obtain ⟨hx, hb, hr, hml, hown, hts, -⟩ := F
  obtain ⟨hd, hq⟩ := okRow_spec hk
  have := cats (g_ad G) st
  exact va_mabs hx hb (by rw [hml, hl.1]) hown (hts _ (okW_in hq)) (hts _ (jW_in 0 rfl)) (hts _ (jW_in 3 rfl)) (hts _ (jW_in 4 rfl)) (by have := hR.1; omega) (by have := hR.2.1; omega) hR.2.2.1 hR.2.2.2 hd (K lsA H locs hl hP hS)
theorem s_min (F : Fr G p l s m args meth c M) (hR : Rm R cells slots) (hk : okRow M (pc, ct, 29, a, b, w, u, k) = true) {x y : Int32} (hn : st.length ≤ 20) (K : Kt G p l e R s m args below meth c cells slots Q M (pc + 3) ls (.int (if y < x then y else x) :: st) S) : Kt G p l e R s m args below meth c cells slots Q M pc ls (.int y :: .int x :: st) S := by
  intro lsA H locs hl hP hS
  obtain ⟨hx, hb, hr, hml, hown, hts, -⟩ := F
  obtain ⟨hd, hq⟩ := okRow_spec hk
  have := cats (g_ad G) st
  exact va_mmin hx hb (by rw [hml, hl.1]) hown (hts _ (okW_in hq)) (hts _ (jW_in 1 rfl)) (hts _ (jW_in 3 rfl)) (hts _ (jW_in 5 rfl)) (by have := hR.1; omega) (by have := hR.2.1; omega) hR.2.2.1 hR.2.2.2 hd (K lsA H locs hl hP hS)
theorem s_max (F : Fr G p l s m args meth c M) (hR : Rm R cells slots) (hk : okRow M (pc, ct, 30, a, b, w, u, k) = true) {x y : Int32} (hn : st.length ≤ 20) (K : Kt G p l e R s m args below meth c cells slots Q M (pc + 3) ls (.int (if x < y then y else x) :: st) S) : Kt G p l e R s m args below meth c cells slots Q M pc ls (.int y :: .int x :: st) S := by
  intro lsA H locs hl hP hS
  obtain ⟨hx, hb, hr, hml, hown, hts, -⟩ := F
  obtain ⟨hd, hq⟩ := okRow_spec hk
  have := cats (g_ad G) st
  exact va_mmax hx hb (by rw [hml, hl.1]) hown (hts _ (okW_in hq)) (hts _ (jW_in 2 rfl)) (hts _ (jW_in 3 rfl)) (hts _ (jW_in 6 rfl)) (by have := hR.1; omega) (by have := hR.2.1; omega) hR.2.2.1 hR.2.2.2 hd (K lsA H locs hl hP hS)
theorem set_C {j0 j1 n sp dp z : Nat} (hPu : Pur G) (hs : shp.getD j1 (.inr (9, 0)) = .inr (0, n)) : (wsO (g_ad G) (g_dA G) (g_nc G) S).set j1 (g_ad G j1, .inl (g_dA G 0, (n, .inl (va_cpy (S.2.1 j0) (S.2.1 j1) sp dp z)))) = wsO (g_ad G) (g_dA G) (g_nc G) (setC S j0 j1 sp dp z) := by
  rw [← wsO_set (g_ad G) (g_dA G) (nc := g_nc G) (j := j1) S (setC S j0 j1 sp dp z) (fun q hq hin => ent_setC _ _ S j0 j1 sp dp z q hq (by have := hPu.2.2.1; omega))]
  have e : (setC S j0 j1 sp dp z).2.1 j1 = va_cpy (S.2.1 j0) (S.2.1 j1) sp dp z := by
    funext q
    simp [setC]
  rw [ent_A0 _ _ _ hs, e]
theorem s_copy (F : Fr G p l s m args meth c M) (hR : Rm R cells slots) (hk : okRow M (pc, ct, 33, a, b, w, u, k) = true) {n dp sp : Int32} {j0 j1 n0 n1 : Nat} (hn : st.length ≤ 20) (h0 : isA j0 0 = some n0) (h1 : isA j1 0 = some n1) (hc : ¬ sp < 0 ∧ ¬ dp < 0 ∧ ¬ n < 0 ∧ sp.toNatClampNeg + n.toNatClampNeg ≤ n0 ∧ dp.toNatClampNeg + n.toNatClampNeg ≤ n1) (K : Kt G p l e R s m args below meth c cells slots Q M (pc + 3) ls st (setC S j0 j1 sp.toNatClampNeg dp.toNatClampNeg n.toNatClampNeg)) : Kt G p l e R s m args below meth c cells slots Q M pc ls (.int n :: .int dp :: .ref j1 :: .int sp :: .ref j0 :: st) S := by
  intro lsA H locs hl hP hS
  obtain ⟨hx, hb, hr, hml, hown, hts, hlk, htr, hG, hPu, -⟩ := F
  obtain ⟨hd, hq⟩ := okRow_spec hk
  have hz := cats (g_ad G) st
  have hw : nativeFrameWords "java/lang/System" "arraycopy" 5 ≤ 100 := by decide +kernel
  refine va_copyi hx hb (by rw [hml, hl.1]) hown (hts _ (okW_in hq)) (hts _ (jW_in 9 rfl)) (hts _ (jW_in 7 rfl)) (hts _ (jW_in 8 rfl)) hG.2.1 hP (gD hPu S) hS j0 j1 0 0 (w_A0 hPu h0) (w_A0 hPu h1) rfl rfl (by decide) hc.1 hc.2.1 hc.2.2.1 hc.2.2.2.1 hc.2.2.2.2 (fun _ _ => rfl) (by have := hR.1; omega) (by have := hR.2.1; omega) hd (fun H1 locs1 hP1 hD1 hS1 => ?_)
  rw [set_C hPu (isA_spec (by omega) h1).1] at hP1
  exact K lsA H1 locs1 hl hP1 hS1
theorem s_sld (F : Fr G p l s m args meth c M) (hsc : Scr G S) (hk : okRow M (pc, ct, 34, a, b, w, u, k) = true) {i : Int32} (hi : vp_in i (S.1 3000 0).toNatClampNeg) (K : Kt G p l e R s m args below meth c cells slots Q M (pc + 1) ls (.int (S.2.1 3000 i.toNatClampNeg) :: st) S) : Kt G p l e R s m args below meth c cells slots Q M pc ls (.int i :: .ref 3000 :: st) S := by
  intro lsA H locs hl hP hS
  obtain ⟨hx, hb, hr, hml, hown, hts, hlk, htr, hG, hPu, -, -, hlw⟩ := F
  obtain ⟨hd, hq⟩ := okRow_spec hk
  obtain ⟨hX, hbl, hbA⟩ := hlw (Nat.eq_of_beq_eq_true hq)
  have K := K lsA H locs hl hP hS
  have hL : (S.1 3000 0).toNatClampNeg = g_L G := by rw [hsc.2]; exact nI_clamp (by have := hPu.2.2.2; omega)
  rw [hL] at hi
  rw [hsc.1] at K
  exact va_sld hx hb hX hbl hbA hS hi hd K
theorem s_slenS (F : Fr G p l s m args meth c M) (hsc : Scr G S) (hk : okRow M (pc, ct, 35, a, b, w, u, k) = true) (K : Kt G p l e R s m args below meth c cells slots Q M (pc + 1) ls (.int (S.1 3000 0) :: st) S) : Kt G p l e R s m args below meth c cells slots Q M pc ls (.ref 3000 :: st) S := by
  intro lsA H locs hl hP hS
  obtain ⟨hx, hb, hr, hml, hown, hts, hlk, htr, hG, hPu, -, -, hlw⟩ := F
  obtain ⟨hd, hq⟩ := okRow_spec hk
  obtain ⟨hX, hbl, hbA⟩ := hlw (Nat.eq_of_beq_eq_true hq)
  have K := K lsA H locs hl hP hS
  rw [hsc.2] at K
  exact va_slen hx hb hX hbl hbA hS hd K
theorem s_goto (F : Fr G p l s m args meth c M) (hk : okRow M (pc, ct, 50, a, b, w, u, k) = true) (K : Kt G p l e R s m args below meth c cells slots Q M a ls st S) : Kt G p l e R s m args below meth c cells slots Q M pc ls st S := fun lsA H locs hl hP hS => lv_goto F.1 F.2.1 (okRow_spec hk).1 (by show (pc : Int) + ((a : Int) - pc) = a; omega) (K lsA H locs hl hP hS)
theorem s_if (F : Fr G p l s m args meth c M) (hk : okRow M (pc, ct, 51, a, b, w, u, k) = true) {x : Int32} (K1 : cnd b x 0 → Kt G p l e R s m args below meth c cells slots Q M a ls st S) (K2 : ¬ cnd b x 0 → Kt G p l e R s m args below meth c cells slots Q M (pc + 3) ls st S) : Kt G p l e R s m args below meth c cells slots Q M pc ls (.int x :: st) S := by
  intro lsA H locs hl hP hS
  obtain ⟨hx, hb, -⟩ := F
  obtain ⟨hd, hq⟩ := okRow_spec hk
  have ht : (pc : Int) + ((a : Int) - pc) = a := by omega
  have K1 := fun h => K1 h lsA H locs hl hP hS
  have K2 := fun h => K2 h lsA H locs hl hP hS
  match b, hd, hq, K1, K2 with
  | 0, hd, _, K1, K2 => exact lv_if_eq hx hb hd ht K1 K2
  | 1, hd, _, K1, K2 => exact lv_if_ne hx hb hd ht K1 (fun h => K2 (fun q => q h))
  | 2, hd, _, K1, K2 => exact lv_if_lt hx hb hd ht K1 K2
  | 3, hd, _, K1, K2 => exact lv_if_ge hx hb hd ht K1 K2
  | 4, hd, _, K1, K2 => exact lv_if_gt hx hb hd ht K1 K2
  | 5, hd, _, K1, K2 => exact lv_if_le hx hb hd ht K1 K2
  | n + 6, hd, hq, K1, K2 =>
    have h3 : n + 6 < 6 := Nat.blt_eq.mp hq
    omega
theorem s_icmp (F : Fr G p l s m args meth c M) (hk : okRow M (pc, ct, 52, a, b, w, u, k) = true) {x y : Int32} (K1 : cnd b x y → Kt G p l e R s m args below meth c cells slots Q M a ls st S) (K2 : ¬ cnd b x y → Kt G p l e R s m args below meth c cells slots Q M (pc + 3) ls st S) : Kt G p l e R s m args below meth c cells slots Q M pc ls (.int y :: .int x :: st) S := by
  intro lsA H locs hl hP hS
  obtain ⟨hx, hb, -⟩ := F
  obtain ⟨hd, hq⟩ := okRow_spec hk
  have ht : (pc : Int) + ((a : Int) - pc) = a := by omega
  have K1 := fun h => K1 h lsA H locs hl hP hS
  have K2 := fun h => K2 h lsA H locs hl hP hS
  match b, hd, hq, K1, K2 with
  | 0, hd, _, K1, K2 => exact lv_icmp_eq hx hb hd ht K1 K2
  | 1, hd, _, K1, K2 => exact lv_icmp_ne hx hb hd ht K1 (fun h => K2 (fun q => q h))
  | 2, hd, _, K1, K2 => exact lv_icmp_lt hx hb hd ht K1 K2
  | 3, hd, _, K1, K2 => exact lv_icmp_ge hx hb hd ht K1 K2
  | 4, hd, _, K1, K2 => exact lv_icmp_gt hx hb hd ht K1 K2
  | 5, hd, _, K1, K2 => exact lv_icmp_le hx hb hd ht K1 K2
  | n + 6, hd, hq, K1, K2 =>
    have h3 : n + 6 < 6 := Nat.blt_eq.mp hq
    omega
theorem s_sw (F : Fr G p l s m args meth c M) (hk : okRow M (pc, ct, 53, a, b, w, u, k) = true) {x : Int32} (K : Kt G p l e R s m args below meth c cells slots Q M (swT a x) ls st S) : Kt G p l e R s m args below meth c cells slots Q M pc ls (.int x :: st) S := by
  intro lsA H locs hl hP hS
  obtain ⟨hx, hb, -⟩ := F
  obtain ⟨hd, hq⟩ := okRow_spec hk
  have K := K lsA H locs hl hP hS
  have hd2 : decode (mcode M) pc = .ok (swI a pc, b) := hd
  unfold swT at K
  unfold swI at hd2
  cases hs : sws[a]? with
  | none => rw [show okL M pc (53, a, b, w, u, k) = (sws[a]?).isSome from rfl, hs] at hq; cases hq
  | some q =>
    rw [hs] at K hd2
    dsimp only at K hd2
    by_cases hc : x.toInt < q.1 ∨ q.1 + q.2.1.length ≤ x.toInt
    · rw [if_pos hc] at K
      exact lv_tableOut hx hb hd2 (by rcases hc with h | h; exact Or.inl h; exact Or.inr (by omega)) (by show (pc : Int) + ((q.2.2 : Int) - pc) = q.2.2; omega) K
    · rw [if_neg hc] at K
      have h1 : ¬ x.toInt < q.1 := fun h => hc (Or.inl h)
      have h2 : (x.toInt - q.1).toNat < q.2.1.length := by
        have : ¬ q.1 + q.2.1.length ≤ x.toInt := fun h => hc (Or.inr h)
        omega
      refine lv_tableIn hx hb hd2 h1 (by have : ¬ q.1 + q.2.1.length ≤ x.toInt := fun h => hc (Or.inr h); omega) (off := offT (q.2.1.getD (x.toInt - q.1).toNat 0) pc) ?_ (by show (pc : Int) + (((q.2.1.getD (x.toInt - q.1).toNat 0 : Nat) : Int) - pc) = _; omega) K
      simp [h2]
end SND3
