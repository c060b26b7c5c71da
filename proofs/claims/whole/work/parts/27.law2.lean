def adC (sz b : Nat) (j : Nat) : Nat := if j < 3000 then sz + j else b
def adG (sz : Nat) (adK : Nat → Nat) (b nw : Nat) (j : Nat) : Nat := if j = 3000 then b else if 2000 ≤ j then adK (j - 2000) else if j = 66 then nw else sz + pm j
abbrev mkG (sz : Nat) (adK : Nat → Nat) (D : va_G) (dA : Nat → ClassId) (b L : Nat) (xf : Nat → Int32) (nc nw : Nat) : Gp := (adG sz adK b nw, D.1, D.2, dA, nc, sz, L, xf)
section LW
variable {sz : Nat} {adK : Nat → Nat} {D : va_G} {dA : Nat → ClassId} {b L : Nat} {xf : Nat → Int32} {nc nw : Nat}
theorem adG_lo {j : Nat} (h : j < 66) : adG sz adK b nw j = sz + pm j := by
  unfold adG
  rw [if_neg (by omega), if_neg (by omega), if_neg (by omega)]
theorem adG_66 : adG sz adK b nw 66 = nw := by
  unfold adG
  rw [if_neg (by omega), if_neg (by omega), if_pos rfl]
theorem adG_K {i : Nat} (h : i < 53) : adG sz adK b nw (2000 + i) = adK i := by
  unfold adG
  rw [if_neg (by omega), if_pos (by omega), show 2000 + i - 2000 = i by omega]
theorem gA_eq (h : nc = 66 ∨ (nc = 67 ∧ sz ≤ nw)) : gA (mkG sz adK D dA b L xf nc nw) = fun q => sz ≤ q := by
  funext q
  apply propext
  constructor
  · rintro (⟨j, hj, rfl⟩ | h1)
    · show sz ≤ adG sz adK b nw j
      have hj : j < nc := hj
      by_cases h6 : j < 66
      · rw [adG_lo h6]; omega
      · rw [show j = 66 by omega, adG_66]; omega
    · exact h1
  · exact Or.inr
theorem pur_of (h : nc = 66 ∨ (nc = 67 ∧ ∀ j, j < 66 → nw ≠ sz + pm j)) (hL : L ≤ 3072) : Pur (mkG sz adK D dA b L xf nc nw) := by
  refine ⟨fun i j hi hj he => ?_, ?_, ?_, hL⟩
  · have hi : i < nc := hi
    have hj : j < nc := hj
    have he : adG sz adK b nw i = adG sz adK b nw j := he
    by_cases h1 : i < 66
    · by_cases h2 : j < 66
      · rw [adG_lo h1, adG_lo h2] at he
        exact pm_inj i (by omega) j (by omega) (by omega)
      · rw [show j = 66 by omega, adG_lo h1, adG_66] at he
        exact absurd he.symm ((h.resolve_left (by omega)).2 i h1)
    · by_cases h2 : j < 66
      · rw [show i = 66 by omega, adG_lo h2, adG_66] at he
        exact absurd he ((h.resolve_left (by omega)).2 j h2)
      · omega
  · show 66 ≤ nc; omega
  · show nc ≤ 67; omega
def fkB (j : Nat) : Bool := match shp.getD j (.inr (9, 0)) with
  | .inl c => (List.range (nF c)).all (fun k => Nat.blt (fkd j k) 68)
  | .inr _ => true
theorem fkB_all : ∀ j, j < 67 → fkB j = true := by decide +kernel
theorem fk_lt {j c k : Nat} (hj : j < 67) (hs : shp.getD j (.inr (9, 0)) = .inl c) (hk : k < nF c) : fkd j k < 68 := by
  have h := fkB_all j hj
  unfold fkB at h
  rw [hs] at h
  exact Nat.blt_eq.mp (List.all_eq_true.mp h k (List.mem_range.mpr hk))
theorem ent_ini {j : Nat} (hj : j < 66) : ∃ c, cB1[pm j]? = some c ∧ entC (adC sz b) dA c = ent (adG sz adK b nw) dA (Sini L xf) j := by
  have h := cell_all j hj
  unfold cellOK at h
  cases e1 : cB1[pm j]? with
  | none => rw [e1] at h; cases h
  | some c =>
    rw [e1] at h
    refine ⟨c, rfl, ?_⟩
    cases e2 : shp.getD j (.inr (9, 0)) with
    | inl ci =>
      rw [e2] at h
      cases c with
      | inr q => cases h
      | inl q =>
        simp only [Bool.and_eq_true, decide_eq_true_eq] at h
        obtain ⟨c0, vs⟩ := q
        have h1 : c0 = ci := Nat.eq_of_beq_eq_true h.1
        have h2 : vs = (List.range (nF ci)).map (fv0 j) := h.2
        subst h1; subst h2
        rw [ent_O _ _ _ e2]
        show Sum.inr (c0, ((List.range (nF c0)).map (fv0 j)).map (cv (adC sz b))) = _
        rw [List.map_map]
        refine congrArg (fun z => Sum.inr (c0, z)) (List.map_congr_left fun k hk => ?_)
        have hk : k < nF c0 := List.mem_range.mp hk
        have h68 := fk_lt (show j < 67 by omega) e2 hk
        show cv (adC sz b) (fv0 j k) = cv (adG sz adK b nw) (fvi (Sini L xf) j k)
        unfold fv0 fvi
        cases e : fkd j k with
        | zero =>
          show Value.int (ini j k) = Value.int (if j = 3000 then Int32.ofNat L else ini j k)
          rw [if_neg (by omega)]
        | succ r =>
          cases r with
          | zero => rfl
          | succ r =>
            show Value.ref (adC sz b (pm r)) = Value.ref (adG sz adK b nw r)
            have hr : r < 66 := by omega
            have := pm_lt r (by omega)
            rw [adG_lo hr]
            unfold adC
            rw [if_pos (by omega)]
    | inr q' =>
      rw [e2] at h
      cases c with
      | inl q => cases h
      | inr q =>
        obtain ⟨t, n⟩ := q
        obtain ⟨t', n'⟩ := q'
        simp only [Bool.and_eq_true] at h
        have h1 : t = t' := Nat.eq_of_beq_eq_true h.1.1
        have h2 : n = n' := Nat.eq_of_beq_eq_true h.1.2
        subst h1; subst h2
        have h3 : t < 2 := Nat.blt_eq.mp h.2
        have e9 : (Sini L xf).2.1 j = fun _ => 0 := by
          funext i
          show (if j = 3000 then xf i else 0) = 0
          rw [if_neg (by omega)]
        rcases (show t = 0 ∨ t = 1 by omega) with rfl | rfl
        · rw [ent_A0 _ _ _ e2, e9]; rfl
        · rw [ent_A1 _ _ _ e2, e9]; rfl
theorem pic_ini {H : Heap} (h : va_P D clT (wsC sz (adC sz b) dA cB1) H) : Pic (mkG sz adK D dA b L xf 66 nw) (Sini L xf) H := by
  intro k q hq
  have hk : k < 66 := by
    by_cases hk : k < 66
    · exact hk
    · simp [wsO, hk] at hq
  have hq : (wsO (adG sz adK b nw) dA 66 (Sini L xf))[k]? = some q := hq
  rw [wsO_at _ _ _ hk] at hq
  cases hq
  obtain ⟨c, h1, h2⟩ := ent_ini (sz := sz) (adK := adK) (dA := dA) (b := b) (L := L) (xf := xf) (nw := nw) hk
  have h3 := h (pm k) _ (wsC_at sz (adC sz b) dA h1)
  rw [h2, ← adG_lo (sz := sz) (adK := adK) (b := b) (nw := nw) hk] at h3
  exact h3
theorem good_start {args : Array Value} {s : State} (hts : ∀ w ∈ lw_tbl, w.before args s = true) (hgv : (Jvm.Cond.and given_1 narrow_1).before args s = true) : ∃ (adK : Nat → Nat) (D : va_G) (dA : Nat → ClassId), ∀ (b L : Nat) (xf : Nat → Int32) (nc nw : Nat), (nc = 66 ∨ (nc = 67 ∧ s.heap.size ≤ nw)) → Good (mkG s.heap.size adK D dA b L xf nc nw) s := by
  obtain ⟨adK, h1, h2, h3, h4, h5, h6, h7⟩ := start_H hts (flat_of_before _ hgv)
  obtain ⟨D, dA, hK⟩ := start_K hts
  refine ⟨adK, D, dA, fun b L xf nc nw hn => ⟨Nat.le_refl _, hK, fun w hw => va_Nw.of (nest_tab (List.mem_filter.mp hw).2) (hts w (List.mem_filter.mp hw).1), fun i hi => ?_, ?_⟩⟩
  · show vk_R _ _ _ (adG s.heap.size adK b nw (2000 + i)) s
    rw [adG_K hi]
    exact h1 i hi
  · unfold GH
    rw [gA_eq hn]
    refine ⟨fun i hi => ?_, h3, h4, h5, h6, h7⟩
    show ∃ v : Nat, vk_S 1 _ _ (fun _ => adG s.heap.size adK b nw (2000 + i)) (fun _ => v) _ s s.heap
    rw [adG_K hi]
    exact h2 i hi
end LW
