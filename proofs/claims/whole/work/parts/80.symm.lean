/-! SYMMETRIES: what is counted -/
section SYMM
variable {D m : Nat} {ins : Int32} {nu : Nat → Nat → Int}
/-- rays as they are told -/
def RWd (D m : Nat) (nu : Nat → Nat → Int) : Prop := (∀ r, r < m → B9 (nu r) ∧ Nz (nu r) ∧ ∀ k, D ≤ k → nu r k = 0) ∧ ∀ r o, r < m → o < m → Par (nu r) (nu o) → r = o
def parB (a c : Nat → Int) : Bool := decide (∀ i k : Fin 4, a i.val * c k.val = a k.val * c i.val)
theorem parB_iff {a c : Nat → Int} : parB a c = true ↔ Par a c := by
  unfold parB
  rw [decide_eq_true_iff]
  exact ⟨fun h i k hi hk => h ⟨i, hi⟩ ⟨k, hk⟩, fun h i k => h i.val k.val i.isLt k.isLt⟩
def imB (ins : Int32) (nu : Nat → Nat → Int) (q r o : Nat) : Bool := tb ins o && parB (act q (nu r)) (nu o)
def fitB (m : Nat) (ins : Int32) (nu : Nat → Nat → Int) (q : Nat) : Bool := decide (∀ r : Fin m, tb ins r.val = true → ∃ o : Fin m, imB ins nu q r.val o.val = true)
theorem imB_iff {q r o : Nat} : imB ins nu q r o = true ↔ (tb ins o = true ∧ Par (act q (nu r)) (nu o)) := by
  unfold imB
  rw [Bool.and_eq_true, parB_iff]
theorem fitB_iff {q : Nat} : fitB m ins nu q = true ↔ ∀ r, r < m → tb ins r = true → ∃ o, o < m ∧ imB ins nu q r o = true := by
  unfold fitB
  rw [decide_eq_true_iff]
  constructor
  · intro h r hr h1
    obtain ⟨o, ho⟩ := h ⟨r, hr⟩ h1
    exact ⟨o.val, o.isLt, ho⟩
  · intro h r h1
    obtain ⟨o, ho, h2⟩ := h r.val r.isLt h1
    exact ⟨⟨o, ho⟩, h2⟩
theorem im_uniq {q r o o' : Nat} (hR : RWd D m nu) (hq : GK q) (hr : r < m) (ho : o < m) (ho' : o' < m) (h1 : imB ins nu q r o = true) (h2 : imB ins nu q r o' = true) : o = o' := by
  obtain ⟨r1, r2, _⟩ := hR.1 r hr
  obtain ⟨o1, o2, _⟩ := hR.1 o ho
  obtain ⟨p1, p2, _⟩ := hR.1 o' ho'
  have h1 := (imB_iff.1 h1).2
  have h2 := (imB_iff.1 h2).2
  rw [par_code (act_nz hq r2) o2 (act_b9 r1) o1] at h1
  rw [par_code (act_nz hq r2) p2 (act_b9 r1) p1] at h2
  exact hR.2 o o' ho ho' ((par_code o2 p2 o1 p1).2 (h1.symm.trans h2))
/-- how many of these changes -/
def wayN (m : Nat) (ins : Int32) (nu : Nat → Nat → Int) (L : List Nat) : Nat := (L.filter (fitB m ins nu)).length
/-- where a ray comes to by them -/
def symI (m : Nat) (ins : Int32) (nu : Nat → Nat → Int) (L : List Nat) (r : Nat) : Int32 := mk (fun o => L.any (fun q => fitB m ins nu q && imB ins nu q r o)) m
theorem wayN_app (L L' : List Nat) : wayN m ins nu (L ++ L') = wayN m ins nu L + wayN m ins nu L' := by
  unfold wayN
  rw [List.filter_append, List.length_append]
theorem neg_act {q : Nat} {a : Nat → Int} (hD : D = 4 ∨ (D = 3 ∧ dgt q 3 = 6)) (ha : ∀ k, D ≤ k → a k = 0) {j : Nat} (hj : j < 4) : act (negK D q) a j = - act q a j := by
  have hd : ∀ i, dgt q i < 8 := fun i => Nat.mod_lt _ (by omega)
  have e : dgt (negK D q) j = if j < D then (if dgt q j % 2 = 1 then dgt q j - 1 else dgt q j + 1) else dgt q j := by
    unfold negK
    refine kf_dgt (fun i _ => ?_) hj
    have := hd i
    by_cases c : i < D
    · rw [if_pos c]
      split <;> omega
    · rw [if_neg c]; omega
  unfold act
  rw [e]
  by_cases c : j < D
  · rw [if_pos c]
    by_cases z : dgt q j % 2 = 1
    · rw [if_pos z, if_pos z, if_neg (by omega), show (dgt q j - 1) / 2 = dgt q j / 2 by omega, Int.neg_neg]
    · rw [if_neg z, if_neg z, if_pos (by omega), show (dgt q j + 1) / 2 = dgt q j / 2 by omega]
  · rw [if_neg c]
    rcases hD with h | ⟨h, h6⟩
    · omega
    · have : j = 3 := by omega
      subst this
      rw [h6, if_neg (by omega), ha _ (by omega)]
      rfl
theorem neg_im {q r o : Nat} (hD : D = 4 ∨ (D = 3 ∧ dgt q 3 = 6)) (hR : RWd D m nu) (hr : r < m) : imB ins nu (negK D q) r o = imB ins nu q r o := by
  have : parB (act (negK D q) (nu r)) (nu o) = parB (act q (nu r)) (nu o) := by
    have e := fun j hj => neg_act (j := j) hD (hR.1 r hr).2.2 hj
    have : Par (act (negK D q) (nu r)) (nu o) ↔ Par (act q (nu r)) (nu o) := by
      constructor
      · intro h i k hi hk
        have := h i k hi hk
        rw [e i hi, e k hk, Int.neg_mul, Int.neg_mul] at this
        omega
      · intro h i k hi hk
        have := h i k hi hk
        rw [e i hi, e k hk, Int.neg_mul, Int.neg_mul, this]
    rw [Bool.eq_iff_iff, parB_iff, parB_iff]
    exact this
  unfold imB
  rw [this]
theorem neg_fit {q : Nat} (hD : D = 4 ∨ (D = 3 ∧ dgt q 3 = 6)) (hR : RWd D m nu) : fitB m ins nu (negK D q) = fitB m ins nu q := by
  rw [Bool.eq_iff_iff, fitB_iff, fitB_iff]
  constructor
  · intro h r hr h1
    obtain ⟨o, ho, h2⟩ := h r hr h1
    rw [neg_im hD hR hr] at h2
    exact ⟨o, ho, h2⟩
  · intro h r hr h1
    obtain ⟨o, ho, h2⟩ := h r hr h1
    rw [← neg_im hD hR hr] at h2
    exact ⟨o, ho, h2⟩
theorem e_dig (hD : D = 3 ∨ D = 4) {q : Nat} (h : q ∈ E2 D) : D = 4 ∨ (D = 3 ∧ dgt q 3 = 6) := by
  rcases hD with rfl | rfl
  · exact Or.inr ⟨rfl, (e_good3 q h).2⟩
  · exact Or.inl rfl
theorem e_perm (hD : D = 3 ∨ D = 4) : (E1 D).Perm (E2 D ++ (E2 D).map (negK D)) := by
  rcases hD with rfl | rfl
  · exact List.isPerm_iff.1 e_perm3
  · exact List.isPerm_iff.1 e_perm4
theorem e_good (hD : D = 3 ∨ D = 4) {q : Nat} (h : q ∈ E2 D) : GK q := by
  rcases hD with rfl | rfl
  · exact (e_good3 q h).1
  · exact e_good4 q h
theorem e_good1 (hD : D = 3 ∨ D = 4) {q : Nat} (h : q ∈ E1 D) : GK q := by
  rcases hD with rfl | rfl
  · exact e_good13 q h
  · exact e_good14 q h
theorem way_eq (hD : D = 3 ∨ D = 4) (hR : RWd D m nu) : wayN m ins nu (E1 D) = 2 * wayN m ins nu (E2 D) := by
  have h1 : wayN m ins nu (E1 D) = wayN m ins nu (E2 D ++ (E2 D).map (negK D)) := ((e_perm hD).filter _).length_eq
  have h2 : wayN m ins nu ((E2 D).map (negK D)) = wayN m ins nu (E2 D) := by
    unfold wayN
    rw [List.filter_map, List.length_map]
    congr 1
    refine List.filter_congr (fun q hq => ?_)
    exact neg_fit (e_dig hD hq) hR
  rw [h1, wayN_app, h2]
  omega
theorem sym_eq (hD : D = 3 ∨ D = 4) (hR : RWd D m nu) (hm : m ≤ 20) {r : Nat} (hr : r < m) : symI m ins nu (E1 D) r = symI m ins nu (E2 D) r := by
  apply tb_ext
  intro o _
  unfold symI
  rw [tb_mk _ (by omega), tb_mk _ (by omega)]
  congr 1
  rw [Bool.eq_iff_iff, List.any_eq_true, List.any_eq_true]
  constructor
  · rintro ⟨q, hq, h⟩
    rcases List.mem_append.1 ((e_perm hD).mem_iff.1 hq) with h1 | h1
    · exact ⟨q, h1, h⟩
    · obtain ⟨p, hp, rfl⟩ := List.mem_map.1 h1
      rw [neg_fit (e_dig hD hp) hR, neg_im (e_dig hD hp) hR hr] at h
      exact ⟨p, hp, h⟩
  · rintro ⟨q, hq, h⟩
    exact ⟨q, (e_perm hD).mem_iff.2 (List.mem_append.2 (Or.inl hq)), h⟩
/-- a list more -/
theorem symI_one {L : List Nat} {q r o : Nat} (hm : m ≤ 20) (hr : RWd D m nu) (hrm : r < m) (hq : GK q) (ho : o < m) (hf : fitB m ins nu q = true) (hi : imB ins nu q r o = true) : symI m ins nu (L ++ [q]) r = symI m ins nu L r ||| bit o := by
  apply tb_ext
  intro c _
  unfold symI
  rw [tb_or, tb_bit (by omega), tb_mk _ (by omega), tb_mk _ (by omega), List.any_append]
  by_cases hc : c < m
  · rw [decide_eq_true hc, Bool.true_and, Bool.true_and]
    congr 1
    rw [List.any_cons, List.any_nil, Bool.or_false, hf, Bool.true_and]
    by_cases e : c = o
    · rw [e, hi]; simp
    · rw [decide_eq_false e]
      exact bneg (fun z => e (im_uniq hr hq hrm hc ho z hi))
  · have e : ¬ c = o := by omega
    rw [decide_eq_false hc, decide_eq_false e]
    rfl
theorem symI_no {L : List Nat} {q r : Nat} (hf : fitB m ins nu q = false) : symI m ins nu (L ++ [q]) r = symI m ins nu L r := by
  unfold symI
  congr 1
  funext o
  rw [List.any_append, List.any_cons, List.any_nil, hf]
  simp
theorem wayN_one {L : List Nat} {q : Nat} : wayN m ins nu (L ++ [q]) = wayN m ins nu L + (if fitB m ins nu q = true then 1 else 0) := by
  rw [wayN_app]
  congr 1
  unfold wayN
  rw [List.filter_cons]
  split <;> rfl
theorem e_len (hD : D = 3 ∨ D = 4) : (E1 D).length ≤ 384 ∧ (E2 D).length ≤ 192 := by
  rcases hD with rfl | rfl
  · exact ⟨by decide +kernel, by decide +kernel⟩
  · exact ⟨by decide +kernel, by decide +kernel⟩
end SYMM
