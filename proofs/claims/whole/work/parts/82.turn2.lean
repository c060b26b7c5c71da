/-! SYMMETRIES: the class goes through all changes -/
section TURN2
variable {b D m : Nat} {ins : Int32} {nu : Nat → Nat → Int}
def pw32 (k : Nat) : Int32 := if k = 0 then 6859 else if k = 1 then 361 else if k = 2 then 19 else 1
theorem s76 {d k : Nat} {S : St} (hk : k < 4) : Wp d b 76 0 [.int (Int32.ofNat k)] [] S (Ri (Vx (pw32 k) S)) := by
  refine b76_0 ?_
  have : k = 0 ∨ k = 1 ∨ k = 2 ∨ k = 3 := by omega
  rcases this with rfl | rfl | rfl | rfl
  · rw [show swT 1 (Int32.ofNat 0) = 28 by decide +kernel]; exact b76_28 ⟨_, rfl, rfl, rfl⟩
  · rw [show swT 1 (Int32.ofNat 1) = 32 by decide +kernel]; exact b76_32 ⟨_, rfl, rfl, rfl⟩
  · rw [show swT 1 (Int32.ofNat 2) = 36 by decide +kernel]; exact b76_36 ⟨_, rfl, rfl, rfl⟩
  · rw [show swT 1 (Int32.ofNat 3) = 39 by decide +kernel]; exact b76_39 ⟨_, rfl, rfl, rfl⟩
/-- the weights of a change -/
def wv (p t k : Nat) : Int32 := if tb (Int32.ofNat t) k = true then - pw32 (plc p k) else pw32 (plc p k)
theorem wv_coef : ∀ p : Fin 256, okP 4 p.val = true → ∀ u : Fin 8, ∀ k : Fin 4, (wv p.val (2 * u.val) k.val).toInt = coef (key2 p.val (2 * u.val)) k.val := by decide +kernel
theorem plc_eq : ∀ p : Fin 256, ∀ k : Fin 4, ((Int32.ofNat p.val >>> (((2 : Int32) * Int32.ofNat k.val) &&& 31)) &&& 3) = Int32.ofNat (plc p.val k.val) := by decide +kernel
theorem ok_eq : ∀ p : Fin 256, ((((1 : Int32) <<< ((Int32.ofNat p.val &&& (3 : Int32)) &&& 31)) ||| ((1 : Int32) <<< (((Int32.ofNat p.val >>> ((2 : Int32) &&& 31)) &&& (3 : Int32)) &&& 31))) ||| ((1 : Int32) <<< (((Int32.ofNat p.val >>> ((4 : Int32) &&& 31)) &&& (3 : Int32)) &&& 31))) ||| ((1 : Int32) <<< ((Int32.ofNat p.val >>> ((6 : Int32) &&& 31)) &&& 31)) = 15 ↔ okP 4 p.val = true := by decide +kernel
theorem last_eq : ∀ p : Fin 256, (Int32.ofNat p.val >>> ((6 : Int32) &&& 31)) = 3 ↔ p.val / 64 = 3 := by decide +kernel
theorem ok3 (p : Nat) : okP 3 p = (okP 4 p && decide (p / 64 = 3)) := by
  unfold okP
  simp
/-- what stands while it goes on -/
def TI (m : Nat) (ins : Int32) (nu : Nat → Nat → Int) (L : List Nat) (S : St) : Prop := S.1 10 9 = Int32.ofNat (2 * wayN m ins nu L) ∧ (∀ r, r < 20 → S.2.1 37 r = if tb ins r = true then symI m ins nu L r else 0) ∧ (∀ r, r < 20 → tb ins r = false → S.2.1 38 r = 0) ∧ SLo m nu (tb ins) S ∧ ∀ r k, r < m → tb ins r = true → k < 4 → (S.2.1 40 (4 * r + k)).toInt = rd (nu r) k
/-- the weights stand -/
def WQ (q : Nat) (S : St) : Prop := ∀ k, k < 4 → (S.2.1 39 k).toInt = coef q k
theorem coef_b (q k : Nat) : -7240 ≤ coef q k ∧ coef q k ≤ 7240 := by
  unfold coef
  constructor
  · split <;> split <;> split <;> split <;> (repeat' split) <;> omega
  · split <;> split <;> split <;> split <;> (repeat' split) <;> omega
theorem mul_b {x y : Int} (hx : -9 ≤ x ∧ x ≤ 9) (hy : -7240 ≤ y ∧ y ≤ 7240) : -65160 ≤ x * y ∧ x * y ≤ 65160 := by
  obtain ⟨n, hn⟩ : ∃ n : Nat, x + 9 = n := ⟨(x + 9).toNat, by omega⟩
  have : x = (n : Int) - 9 := by omega
  have hn : n ≤ 18 := by omega
  subst this
  have : n = 0 ∨ n = 1 ∨ n = 2 ∨ n = 3 ∨ n = 4 ∨ n = 5 ∨ n = 6 ∨ n = 7 ∨ n = 8 ∨ n = 9 ∨ n = 10 ∨ n = 11 ∨ n = 12 ∨ n = 13 ∨ n = 14 ∨ n = 15 ∨ n = 16 ∨ n = 17 ∨ n = 18 := by omega
  rcases this with rfl | rfl | rfl | rfl | rfl | rfl | rfl | rfl | rfl | rfl | rfl | rfl | rfl | rfl | rfl | rfl | rfl | rfl | rfl <;> omega
theorem c89 {d q r : Nat} {S : St} {Q : Out → St → Prop} (hm : m ≤ 20) (hR : RWd D m nu) (hq : GK q) (hr : r < m) (hin : tb ins r = true) (hins : Low m ins) {L : List Nat} (hI : TI m ins nu L S) (hw : WQ q S) (K1 : ∀ o, o < m → imB ins nu q r o = true → Q (.inl (some (.int (bit o)))) S) (K0 : (∀ o, o < m → imB ins nu q r o = false) → Q (.inl (some (.int 0))) S) : Wp (d + 1) b 89 0 [.ref 10, .int (Int32.ofNat (4 * r))] [] S Q := by
  obtain ⟨r1, r2, _⟩ := hR.1 r hr
  have e40 := fun k hk => hI.2.2.2.2 r k hr hin hk
  have b40 := rd_b9 r1
  have ad : ∀ c, c < 4 → Int32.ofNat (4 * r) + Int32.ofNat c = Int32.ofNat (4 * r + c) := fun c _ => i_add _ _
  have ad1 : Int32.ofNat (4 * r) + 1 = Int32.ofNat (4 * r + 1) := ad 1 (by omega)
  have ad2 : Int32.ofNat (4 * r) + 2 = Int32.ofNat (4 * r + 2) := ad 2 (by omega)
  have ad3 : Int32.ofNat (4 * r) + 3 = Int32.ofNat (4 * r + 3) := ad 3 (by omega)
  have c0 : ((0 : Int32)).toNatClampNeg = 0 := by decide
  have c1 : ((1 : Int32)).toNatClampNeg = 1 := by decide
  have c2 : ((2 : Int32)).toNatClampNeg = 2 := by decide
  have c3 : ((3 : Int32)).toNatClampNeg = 3 := by decide
  refine b89_0 (fun z => absurd z (i_nneg (by omega))) (fun _ => b89_4 (fun _ => ?_) (fun z => ?_))
  rotate_left
  · rw [ad3] at z
    exact absurd ((i_lt (b := 80) (by omega) (by omega)).2 (by omega)) z
  refine b89_17 (i_vp (by omega) (by omega)) (i_vp (k := 0) (by omega) (by omega)) (by rw [ad1]; exact i_vp (by omega) (by omega)) (i_vp (k := 1) (by omega) (by omega)) ?_
  refine b89_45 (by rw [ad2]; exact i_vp (by omega) (by omega)) (i_vp (k := 2) (by omega) (by omega)) (by rw [ad3]; exact i_vp (by omega) (by omega)) ?_
  rw [ad1, ad2, ad3, c0, c1, c2, i_cl (by omega), i_cl (by omega), i_cl (by omega), i_cl (by omega)]
  -- the code
  have h0 := e40 0 (by omega)
  have h1 := e40 1 (by omega)
  have h2 := e40 2 (by omega)
  have h3 := e40 3 (by omega)
  rw [Nat.add_zero] at h0
  have w0 := hw 0 (by omega)
  have w1 := hw 1 (by omega)
  have w2 := hw 2 (by omega)
  have w3 := hw 3 (by omega)
  have m0 := mul_b (b40 0 (by omega)) (coef_b q 0)
  have m1 := mul_b (b40 1 (by omega)) (coef_b q 1)
  have m2 := mul_b (b40 2 (by omega)) (coef_b q 2)
  have m3 := mul_b (b40 3 (by omega)) (coef_b q 3)
  have t0 : (S.2.1 40 (4 * r) * S.2.1 39 0).toInt = rd (nu r) 0 * coef q 0 := by
    rw [ti_mul (by rw [h0, w0]; omega) (by rw [h0, w0]; omega), h0, w0]
  have t1 : (S.2.1 40 (4 * r + 1) * S.2.1 39 1).toInt = rd (nu r) 1 * coef q 1 := by
    rw [ti_mul (by rw [h1, w1]; omega) (by rw [h1, w1]; omega), h1, w1]
  have t2 : (S.2.1 40 (4 * r + 2) * S.2.1 39 2).toInt = rd (nu r) 2 * coef q 2 := by
    rw [ti_mul (by rw [h2, w2]; omega) (by rw [h2, w2]; omega), h2, w2]
  have t3 : (S.2.1 40 (4 * r + 3) * S.2.1 39 3).toInt = rd (nu r) 3 * coef q 3 := by
    rw [ti_mul (by rw [h3, w3]; omega) (by rw [h3, w3]; omega), h3, w3]
  have tot : (S.2.1 40 (4 * r) * S.2.1 39 0 + S.2.1 40 (4 * r + 1) * S.2.1 39 1 + S.2.1 40 (4 * r + 2) * S.2.1 39 2 + S.2.1 40 (4 * r + 3) * S.2.1 39 3).toInt = lin (act q (rd (nu r))) := by
    have a1 : (S.2.1 40 (4 * r) * S.2.1 39 0 + S.2.1 40 (4 * r + 1) * S.2.1 39 1).toInt = rd (nu r) 0 * coef q 0 + rd (nu r) 1 * coef q 1 := by
      rw [ti_add (by rw [t0, t1]; omega) (by rw [t0, t1]; omega), t0, t1]
    have a2 : (S.2.1 40 (4 * r) * S.2.1 39 0 + S.2.1 40 (4 * r + 1) * S.2.1 39 1 + S.2.1 40 (4 * r + 2) * S.2.1 39 2).toInt = rd (nu r) 0 * coef q 0 + rd (nu r) 1 * coef q 1 + rd (nu r) 2 * coef q 2 := by
      rw [ti_add (by rw [a1, t2]; omega) (by rw [a1, t2]; omega), a1, t2]
    rw [ti_add (by rw [a2, t3]; omega) (by rw [a2, t3]; omega), a2, t3, lin_act]
  have av : (if 0 ≤ (S.2.1 40 (4 * r) * S.2.1 39 0 + S.2.1 40 (4 * r + 1) * S.2.1 39 1 + S.2.1 40 (4 * r + 2) * S.2.1 39 2 + S.2.1 40 (4 * r + 3) * S.2.1 39 3) then (S.2.1 40 (4 * r) * S.2.1 39 0 + S.2.1 40 (4 * r + 1) * S.2.1 39 1 + S.2.1 40 (4 * r + 2) * S.2.1 39 2 + S.2.1 40 (4 * r + 3) * S.2.1 39 3) else 0 - (S.2.1 40 (4 * r) * S.2.1 39 0 + S.2.1 40 (4 * r + 1) * S.2.1 39 1 + S.2.1 40 (4 * r + 2) * S.2.1 39 2 + S.2.1 40 (4 * r + 3) * S.2.1 39 3)) = Int32.ofNat (codeN (act q (rd (nu r)))) := by
    have hl : lin (act q (rd (nu r))) = rd (nu r) 0 * coef q 0 + rd (nu r) 1 * coef q 1 + rd (nu r) 2 * coef q 2 + rd (nu r) 3 * coef q 3 := lin_act _ _
    rw [ti_abs (by rw [tot]; omega), tot]; rfl
  have ab9 : B9 (act q (rd (nu r))) := act_b9 b40
  have anz : Nz (act q (rd (nu r))) := act_nz hq (rd_nz r2)
  have cp := code_pos ab9 anz
  have cl := code_le ab9
  have crd : codeN (rd (act q (nu r))) = codeN (act q (rd (nu r))) := by
    unfold codeN lin
    rw [rd_act hq, rd_act hq, rd_act hq, rd_act hq]
  have imc : ∀ o, o < m → (imB ins nu q r o = true ↔ (tb ins o = true ∧ codeN (act q (rd (nu r))) = codeN (rd (nu o)))) := by
    intro o ho
    obtain ⟨o1, o2, _⟩ := hR.1 o ho
    rw [imB_iff, par_code (act_nz hq r2) o2 (act_b9 r1) o1, crd]
  generalize codeN (act q (rd (nu r))) = c at *
  obtain ⟨s1, s2⟩ := hI.2.2.2.1
  have none0 : (∀ o, o < m → tb ins o = true → ¬ c = codeN (rd (nu o))) → ∀ o, o < m → imB ins nu q r o = false := fun h o ho => bneg (fun z => h o ho ((imc o ho).1 z).1 ((imc o ho).1 z).2)
  refine b89_71 (P := fun x S1 => S = S1 ∧ ∃ p, p < 64 ∧ x = Int32.ofNat p ∧ (S.2.1 41 p = Int32.ofNat c ∨ (¬ S.2.1 41 p = Int32.ofNat c ∧ ∀ o, o < m → tb ins o = true → ¬ c = codeN (rd (nu o))))) (i_vp (k := 3) (by omega) (by omega)) ?_ ?_
  · rw [c3, av]
    refine c86 (by omega) (fun j j1 j2 j3 => ⟨_, rfl, rfl, _, Nat.mod_lt _ (by omega), rfl, ?_⟩) (fun hall => ⟨_, rfl, rfl, _, Nat.mod_lt _ (by omega), rfl, Or.inr ⟨?_, fun o ho hi e => ?_⟩⟩)
    · rcases j3 with j3 | j3
      · refine Or.inr ⟨fun z => ?_, fun o ho hi e => ?_⟩
        · rw [show S.2.1 41 ((c + j) % 64) = 0 from j3] at z
          have := (i_inj (a := 0) (by omega) (by omega)).1 z
          omega
        · obtain ⟨k, k1, k2, k3⟩ := s2 o ho hi
          rw [← e] at k2 k3
          rcases Nat.lt_trichotomy j k with q | q | q
          · exact k3 j q j3
          · rw [← q, j3] at k2
            have := (i_inj (a := 0) (by omega) (by omega)).1 k2
            omega
          · exact (j2 k q).2 k2
      · exact Or.inl j3
    · have := (hall 0 (by omega)).2
      unfold sl at this
      rw [show (c + 64) % 64 = (c + 0) % 64 by omega]
      exact this
    · obtain ⟨k, k1, k2, k3⟩ := s2 o ho hi
      rw [← e] at k2
      exact (hall k k1).2 k2
  rintro _ _ ⟨rfl, p, p1, rfl, hp⟩
  have vs := i_vp (k := p) (n := 64) p1 (by omega)
  refine b89_87 (fun z => absurd z (i_nneg (by omega))) (fun _ => b89_92 (fun z => ?_) (fun _ => b89_98 vs (fun z => b89_117 (b89_118 ?_)) (fun z => b89_108 vs (b89_118 ?_))))
  · have := (i_le (a := 64) (by omega) (by omega)).1 z
    omega
  · rw [c3, av, i_cl (by omega)] at z
    rcases hp with hp | ⟨_, hp⟩
    · exact absurd hp z
    · exact K0 (none0 hp)
  · rw [c3, av, i_cl (by omega)] at z
    rw [i_cl (by omega)]
    have z : S.2.1 41 p = Int32.ofNat c := Classical.byContradiction z
    rcases s1 p p1 with h | ⟨o, o1, o2, o3, o4⟩
    · rw [h] at z
      have := (i_inj (a := 0) (by omega) (by omega)).1 z
      omega
    · rw [o4]
      have oc := rd_code hR o1
      rw [o3] at z
      have := (i_inj (by omega) (by omega)).1 z
      exact K1 o o1 ((imc o o1).2 ⟨o2, this.symm⟩)
end TURN2
