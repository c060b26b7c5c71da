theorem k4_aux (a b : Nat) (h1 : a ≤ 3000000) (h2 : b ≤ 3000000) : a - 0 + (b - a) + 1 + 6 * 4096 ≤ 7293034 := by omega
set_option maxHeartbeats 2000000 in
set_option maxRecDepth 10000 in
theorem whole_start (hPC : PureClaim) {p : Program} {e : Env} {s : State} {m : MethodId} {below : List Frame} {meth : Method} {c : Code} (l : Launch) (hflags : l.flags = flags0) {b L : Nat} {xs : Nat → Int32} (hL : L ≤ 3072) (C0 : lw_At p s m meth c b L xs) : W p l e room_1 s m #[Value.ref b] below meth c s.heap [] 0 0 (lw_Z below #[Value.ref b] s) (entryFrame m ([Value.ref b] : List Value).toArray 7) := by
  obtain ⟨hx, hb, hr, hml, hown, hts0, hX, hbs, hlocks, hgv, hexc⟩ := C0
  have htr := trace_off hflags
  obtain ⟨S1, S', ⟨n1, hE1⟩, ⟨n2, hE2⟩⟩ := hPC L xs hL
  obtain ⟨adK, D, dA, hGood⟩ := good_start hts0 hgv
  have hts : ∀ w ∈ gT, w.before #[Value.ref b] s = true := fun w hw => hts0 w (List.mem_filter.mp hw).1
  generalize hsz : s.heap.size = sz at *
  have hG66 := hGood b L xs 66 0 (Or.inl rfl)
  have had : ∀ j, j < 3000 → adC sz b j = sz + j := fun j hj => by unfold adC; rw [if_pos hj]
  have a3 : adC sz b 3000 = b := by unfold adC; rw [if_neg (by omega)]
  have F : CFr sz (adC sz b) D dA p s m #[Value.ref b] meth c 13 := ⟨hx, hb, hr, hml, hown, hts, hlocks, fun q => absurd q (by omega), hG66.2.1, hG66.2.2.1, by omega, by omega, had⟩
  have eA : cxr 2000 5 13 0 [.ref 3000] [] [] = some (12, [.ref 3000, .ref 0], [.ref 46, .ref 46], cA1) := cA_eq
  have hA := cA_len
  have hB := cB_len
  have zA := cA_z
  have zB := cB_z
  have zAB := cB_A
  rw [lg_entry_eq]
  have hent : Lh (adC sz b) ((lg_sl ([Value.ref b]) ++ List.replicate (7 - (lg_sl ([Value.ref b])).length) Slot.unset).toArray) 7 [.ref 3000] := by
    have h9 := Lh.entry (ad := adC sz b) (As := [.ref 3000]) (n := 7) (by simp) (fun v hv => by rw [List.mem_singleton.mp hv]; rfl)
    have e9 : [Value.ref 3000].map (cv (adC sz b)) = [Value.ref b] := by show [Value.ref (adC sz b 3000)] = _; rw [a3]
    rw [e9] at h9
    exact h9
  refine (fun K => csnd_all l 2000 sz (adC sz b) D dA p e room_1 s m #[Value.ref b] below meth c 0 0 _ 5 13 0 [.ref 3000] [] [] 12 [.ref 3000, .ref 0] [.ref 46, .ref 46] cA1 eA F (Nat.le_refl _) (Nat.zero_le _) (by rw [hA]; decide) (by show _ ≤ 7293034; omega) (by decide) (by decide) (by omega) K _ s.heap [] hent (fun k q hq => by cases hq) (by rw [hsz]; rfl) va_S.rf) ?_
  intro lsA H locs hl hP hH hS
  have hmod := met_model (l := l) (sz := sz) (adK := adK) (D := D) (dA := dA) (b := b) (xf := xs) (d := 1900) (by omega) htr (by rw [show cst 161 = 0 by decide +kernel]; exact hE1) hL
  obtain ⟨h1, h2, h3, h4, h5, h6, h7, h8, h9, h10⟩ := cM_spec (show 12 < 13 by omega)
  have a46 : adC sz b 46 = sz + 46 := had 46 (by omega)
  have hgA66 : gA (mkG sz adK D dA b L xs 66 0) = fun q => sz ≤ q := gA_eq (Or.inl rfl)
  have hn0 : (parseMethodDescriptor (cname 12).desc).map (fun d => d.parameters.length) = some 0 := desc1 h7
  have hrun := va_runI (R := room_1) (p := p) (l := l) (e := e) (below := below) (meth := meth) (locs := locs) (cells := cA1.length - 0) (slots := czs cA1 - 0) (rest := [Value.ref (adC sz b 46)]) (g := F0 m 12 lsA [Value.ref (adC sz b 46), Value.ref (adC sz b 46)]) (nL := 7) (cc := code) (b := adC sz b 46) (As := []) ⟨hx, hb, hml, hown, hts⟩ hmod
    ⟨callB_of 0 hts (gT_all (fun w hw => (List.mem_cons.mp hw).elim (fun q => by rw [q]; exact ccode_in (by omega)) id)) rfl rfl rfl (hts _ h3) (hts _ (okW_in law_link)) ⟨h1.1, h1.2, hn0⟩ ⟨by decide, by decide⟩, h6, hts _ h4⟩
    ⟨PMod.blind, fun U hU hW => ⟨⟨rfl, by rw [hU]; exact hH, by rw [hU]; exact hP, hG66.2.1.moved hW.alike, fun w hw => nest_warm hW (List.mem_filter.mp hw).2 (hG66.2.2.1 w hw)⟩, hG66.call (by rw [hgA66]; exact hS) hU hW⟩⟩ rfl rfl hl.1 rfl (lv_room (by simp [Value.category])) law_d12 (by
      rw [hA]
      exact ⟨by decide, by show _ ≤ 7293034; omega⟩)
  refine va_callv (S := Unit) (a := #[Value.ref (adC sz b 46)]) (A1 := fun q => sz ≤ q) hrun hS (fun _ _ h => h) (fun _ h => h) (fun uu t H1 locs1 ht hvm hw hB1 hz1 hk1 hS1 => ?_)
  have hB1 : Pic (mkG sz adK D dA b L xs 66 0) S1 t.heap := hB1
  rw [ht] at hB1
  have hv0 : lv_has lsA 7 [(0, .ref b), (1, .ref (sz + 0))] := by
    refine ⟨hl.1, hl.2.1, fun q hq => ?_⟩
    rcases List.mem_cons.mp hq with rfl | hq
    · have := (hl.2.2 0 (.ref 3000) rfl).1
      show lsA[0]? = _
      rw [this]
      show some (Slot.val (Value.ref (adC sz b 3000))) = _
      rw [a3]
    · rw [List.mem_singleton.mp hq]
      have := (hl.2.2 1 (.ref 0) rfl).1
      show lsA[1]? = _
      rw [this]
      show some (Slot.val (Value.ref (adC sz b 0))) = _
      rw [had 0 (by omega)]
  refine lv_astore_n (i := 2) (lv' := [(2, .ref (adC sz b 46)), (0, .ref b), (1, .ref (sz + 0))]) hx hb law_d15 rfl hv0 (by omega) rfl (fun ls2 hv2 => ?_)
  refine lv_iconst hx hb law_d16 rfl ?_
  have hPu66 : Pur (mkG sz adK D dA b L xs 66 0) := pur_of (Or.inl rfl) hL
  have hD66 := gD hPu66 S1
  rw [hgA66] at hD66
  refine va_newa (atype := .long) hx hb (hts _ (jO_in 4 rfl)) (ty := .long) rfl hG66.2.1 hB1 hD66 hS1 (fun q hq => by omega) (a0 := (1, .inr (.inl (fun _ => 0)))) (N' := 1) (fun cA => by first | rfl | exact vp_cell_new) (by decide) (by decide) (by decide) (by rw [hA]; decide) (by show _ ≤ 7293034; omega) law_d17 (fun q cA H2 hK2 hP2 hD2 hS2 => ?_)
  have hcA : cA = dA 2 := by
    have k1 := (hK2.2 3 (cA, .long) rfl).2
    have k2 := (hG66.2.1.2 2 (dA 2, .long) rfl).2
    have k1 : s.vm.findClass ("[" ++ (FieldType.long).toString) = some cA := k1
    have k2 : s.vm.findClass ("[" ++ (FieldType.long).toString) = some (dA 2) := k2
    exact Option.some.inj (k1.symm.trans k2)
  subst hcA
  have hlen : (wsO (adG sz adK b 0) dA 66 S1).length = 66 := by simp [wsO]
  have hq66 : (wsO (adG sz adK b 0) dA 66 S1 ++ [(q, Sum.inl (dA 2, (1, Sum.inr (Sum.inl (fun _ => 0)))))])[66]? = some (q, .inl (dA 2, (1, .inr (.inl (fun _ => 0))))) := by rw [List.getElem?_append_right (by omega), hlen]; rfl
  have hqs : sz ≤ q := hD2.2 66 _ hq66
  have hqd : ∀ j, j < 66 → q ≠ sz + pm j := by
    intro j hj he
    have := hD2.1 66 j _ (adG sz adK b 0 j, ent (adG sz adK b 0) dA S1 j) hq66 (by
      show (wsO (adG sz adK b 0) dA 66 S1 ++ _)[j]? = _
      rw [List.getElem?_append_left (by omega), wsO_at _ _ _ hj]) (by show q = adG sz adK b 0 j; rw [adG_lo hj]; exact he)
    omega
  refine lv_astore_n (i := 3) (lv' := [(3, .ref q), (2, .ref (adC sz b 46)), (0, .ref b), (1, .ref (sz + 0))]) hx hb law_d19 rfl hv2 (by omega) rfl (fun ls3 hv3 => ?_)
  refine lv_iconst hx hb law_d20 rfl ?_
  refine lv_istore (lv' := [(4, .int 0), (3, .ref q), (2, .ref (adC sz b 46)), (0, .ref b), (1, .ref (sz + 0))]) hx hb law_d21 hv3 (by omega) rfl (fun ls4 hv4 => ?_)
  have hPi : Pic (mkG sz adK D dA b L xs 67 q) (setO S1 0) H2 := pic67 hP2
  have hG67 := hGood b L xs 67 q (Or.inr ⟨rfl, hqs⟩)
  have hgA67 : gA (mkG sz adK D dA b L xs 67 q) = fun q => sz ≤ q := gA_eq (Or.inr ⟨rfl, hqs⟩)
  have hPu67 : Pur (mkG sz adK D dA b L xs 67 q) := pur_of (Or.inr ⟨rfl, hqd⟩) hL
  have a67 : adG sz adK b q 3000 = b := by unfold adG; rw [if_pos rfl]
  have FR : Fr (mkG sz adK D dA b L xs 67 q) p l s m #[Value.ref b] meth c 288 := ⟨hx, hb, hr, hml, hown, hts, hlocks, htr, hG67, hPu67, by omega, fun _ => rfl, fun _ => by
    show va_X (adG sz adK b q 3000) L xs s s.heap ∧ adG sz adK b q 3000 < s.heap.size ∧ ¬ gA _ (adG sz adK b q 3000)
    rw [a67, hgA67]
    exact ⟨hX, by omega, by show ¬ sz ≤ b; omega⟩⟩
  have hsc1 := ev_scr _ _ _ _ _ _ _ _ _ _ hE1
  have hsc : Scr (mkG sz adK D dA b L xs 67 q) (setO S1 0) := by
    have h0 := scr_ini (sz := sz) (adK := adK) (D := D) (dA := dA) (b := b) (L := L) (xf := xs) (nc := 67) (nw := q)
    refine ⟨?_, ?_⟩
    · show S1.2.1 3000 = _
      rw [hsc1.1]; exact h0.1
    · show S1.1 3000 0 = _
      rw [hsc1.2]; exact h0.2
  have hLh : Lh (adG sz adK b q) ls4 7 lsLaw := by
    refine ⟨hv4.1, hv4.2.1, fun i v hv => ?_⟩
    match i, hv with
    | 0, hv => cases hv; exact ⟨by show ls4[0]? = some (Slot.val (Value.ref (adG sz adK b q 3000))); rw [a67]; exact hv4.2.2 (0, .ref b) (by simp), rfl⟩
    | 1, hv => cases hv; exact ⟨by show ls4[1]? = some (Slot.val (Value.ref (adG sz adK b q 0))); rw [adG_lo (by omega), show pm 0 = 0 by decide +kernel]; exact hv4.2.2 (1, .ref (sz + 0)) (by simp), rfl⟩
    | 2, hv => cases hv; exact ⟨by show ls4[2]? = some (Slot.val (Value.ref (adG sz adK b q 46))); rw [adG_lo (by omega), pm46, ← a46]; exact hv4.2.2 (2, .ref (adC sz b 46)) (by simp), rfl⟩
    | 3, hv => cases hv; exact ⟨by show ls4[3]? = some (Slot.val (Value.ref (adG sz adK b q 66))); rw [adG_66]; exact hv4.2.2 (3, .ref q) (by simp), rfl⟩
    | 4, hv => cases hv; exact ⟨hv4.2.2 (4, .int 0) (by simp), rfl⟩
    | i + 5, hv => cases hv
  have k1 : 2000 + 8 ≤ room_1.frames := by decide +kernel
  have k2 : 40 * 2000 + 300 ≤ room_1.locals := by decide +kernel
  have k3 : 47 - 0 + 19 + 1 + 4096 ≤ 601024 := by decide +kernel
  have k4 : czs cA1 - 0 + (czs cB1 - czs cA1) + 1 + 6 * 4096 ≤ 7293034 := k4_aux _ _ zA zB
  have k5 : ¬ 288 < 288 := Nat.lt_irrefl _
  refine snd_all l htr n2 (mkG sz adK D dA b L xs 67 q) p e room_1 s m #[Value.ref b] below meth c _ _ 601024 7293034 2000 4096 288 23 _ lsLaw [] (setO S1 0) _ S' hE2 FR ⟨fun _ => hexc, fun _ h => absurd h k5⟩ hsc k1 k2 (by rw [hA]; exact k3) (by exact k4) (Nat.le_refl _) (Nat.le_refl _) ?_ ?_ ?_ ?_ ls4 H2 locs1 hLh hPi (by rw [hgA67]; exact hS2)
  · intro x ho pcR lsB H9 locs9 cells' slots' hd hre hP' hS9 hc1 hc2
    cases ho
    rw [hgA67] at hS9
    refine va_forget (fun q hq => by rw [hsz]; exact hS9.2.2 q hq) (W.widen hc1 hc2 ?_)
    exact lw_ret hx hb hr hlocks hd
  · intro ho; cases ho
  · intro X ho; cases ho
  · intro h; exact absurd rfl h
