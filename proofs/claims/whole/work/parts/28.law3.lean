section LW2
variable {l : Launch} {sz : Nat} {adK : Nat → Nat} {D : va_G} {dA : Nat → ClassId} {b L : Nat} {xf : Nat → Int32} {S1 : St} {n d : Nat}
def PMod (sz : Nat) (adK : Nat → Nat) (D : va_G) (dA : Nat → ClassId) (b L : Nat) (xf : Nat → Int32) : Array Value → State → Prop := fun v U => CPc sz (adC sz b) D dA [.ref 46] cA1 v U ∧ Good (mkG sz adK D dA b L xf 66 0) U
def QMod (sz : Nat) (adK : Nat → Nat) (D : va_G) (dA : Nat → ClassId) (b L : Nat) (xf : Nat → Int32) (S1 : St) : Array Value → State → Outcome → State → Prop := va_Qv (S := Unit) (fun _ => True) (fun _ t => Pic (mkG sz adK D dA b L xf 66 0) S1 t.heap) (fun q => sz ≤ q)
theorem PMod.blind : FrameBlind (PMod sz adK D dA b L xf) := by
  intro a U g mk h
  obtain ⟨hc, h1, h2, h3, h4, h5⟩ := h
  exact ⟨CPc.blind sz (adC sz b) D dA _ cA1 a U g mk hc, h1, h2.moved (Vm.Alike.refl U.vm), fun w hw => va_Nw.same (u := U) (U := U.calling g mk a) (nest_tab (List.mem_filter.mp hw).2) rfl (h3 w hw), fun i hi => vk_R.same (u := U) (U := U.calling g mk a) rfl (h4 i hi), h5.moved (Vm.Alike.refl U.vm)⟩
theorem mod_link : okW 6182 (.methodLink (cown 12) 78 (mname 161)) = true := by decide +kernel
theorem mod_d168 : decode (ccode 12) 168 = .ok (.invokevirtual 78, 3) := by decide +kernel
theorem mod_d171 : decode (ccode 12) 171 = .ok (.return_, 1) := by decide +kernel
theorem pm46 : pm 46 = 46 := by decide +kernel
theorem is46 : isO 46 12 = true := by decide +kernel
theorem mn161 : mn 161 1 = 1 ∧ mn 161 2 = 0 := by decide +kernel
theorem scr_ini {nc nw : Nat} : Scr (mkG sz adK D dA b L xf nc nw) (Sini L xf) := by
  refine ⟨?_, ?_⟩
  · funext i
    show (if (3000 : Nat) = 3000 then xf i else 0) = xf i
    rw [if_pos rfl]
  · show (if (3000 : Nat) = 3000 then Int32.ofNat L else ini 3000 0) = Int32.ofNat L
    rw [if_pos rfl]
def rmD (d : Nat) : Room := { frames := d + 9, cells := 19, slots := czs cB1 - czs cA1, locals := 40 * (d + 1) + 300 }
set_option maxHeartbeats 1000000 in
theorem met_model (hd4 : 4 ≤ d) (htr : l.stackTraces = false) (hE : EvN n d (cst 161) 161 0 [.ref 46] [] (Sini L xf) (.inl none) S1) (hL : L ≤ 3072) : Met l (cname 12) (.code (cname 12) (ccode 12) (cmax 12) none :: gT) (rmD d) (PMod sz adK D dA b L xf) (QMod sz adK D dA b L xf S1) 19 (czs cB1 - czs cA1) (fun q => sz ≤ q) := by
  have hPu : Pur (mkG sz adK D dA b L xf 66 0) := pur_of (Or.inl rfl) hL
  have hgA : gA (mkG sz adK D dA b L xf 66 0) = fun q => sz ≤ q := gA_eq (Or.inl rfl)
  have hcon : Con l (mkG sz adK D dA b L xf 66 0) d 161 [.ref 46] (Sini L xf) (.inl none) S1 := con_low (snd_all l htr n) htr (by omega) hE scr_ini hPu (fun v hv => by rw [List.mem_singleton.mp hv]; rfl) mn161.1.symm
  have hmet := met_of hcon Xcx.no
  obtain ⟨h1, h2, h3, h4, h5, h6, h7, h8, h9, h10⟩ := cM_spec (show 12 < 13 by omega)
  refine Met.ofW (cc := ccode 12) (maxL := cmax 12) (ret := none) h2 rfl ?_
  intro p e s m args below meth c s₁ B hml hv
  obtain ⟨⟨rfl, hsz, hP, hK, hnw⟩, hG⟩ := hv
  have hts0 := atoms_spec (ws := Jvm.Cond.code (cname 12) (ccode 12) (cmax 12) none :: gT) B.pre
  have hts : ∀ w ∈ gT, w.before _ s = true := fun w hw => hts0 w (List.mem_cons_of_mem _ hw)
  have hlocks := B.notSynchronized
  have had : ∀ j, j < 3000 → adC sz b j = sz + j := fun j hj => by unfold adC; rw [if_pos hj]
  have F : CFr sz (adC sz b) D dA p s m ([Value.ref 46].map (cv (adC sz b))).toArray meth c 12 := ⟨B.exec, B.bytes, by rw [h10]; exact B.returns, hml, findClass_of_methodNamed B.named, hts, hlocks, fun _ => (name_of_methodNamed B.named B.method).1.trans h6, hK, hnw, by omega, by omega, had⟩
  rw [lg_entry_eq]
  have eB : cxr 2000 4 12 0 [.ref 46] [] cA1 = some (168, [.ref 46], [.ref 46], cB1) := cB_eq
  have q1 := cxr_mono _ _ _ _ _ _ _ _ eB
  dsimp only at q1
  have hA := cA_len
  have hB := cB_len
  refine (fun K => csnd_all l 2000 sz (adC sz b) D dA p e (rmD d) s m _ below meth c cA1.length (czs cA1) _ 4 12 0 [.ref 46] [] cA1 168 [.ref 46] [.ref 46] cB1 eB F (Nat.le_refl _) (Nat.le_refl _) (by rw [hA, hB]; exact Nat.le_refl _) (Nat.le_refl _) (by show 4 + 8 ≤ d + 9; omega) (by show 40 * 4 + 300 ≤ 40 * (d + 1) + 300; omega) (by omega) K _ s.heap [] (Lh.entry h8 (fun v hv => by rw [List.mem_singleton.mp hv]; rfl)) hP hsz va_S.rf) ?_ |> cast (by rw [Nat.sub_self, Nat.sub_self]; rfl)
  intro lsA H locs hl hP' hH hS
  have hPi : Pic (mkG sz adK D dA b L xf 66 0) (Sini L xf) H := pic_ini hP'
  have hS' : va_S (gA (mkG sz adK D dA b L xf 66 0)) s.heap H locs := by rw [hgA]; exact hS
  obtain ⟨i1, i2, i3, i4, i5, i6⟩ := okM_spec (show 161 < 288 by omega)
  obtain ⟨e1, e2⟩ := head_code (show 161 < 264 by omega)
  obtain ⟨j1, j2, j3⟩ := i5 mn161.2
  rw [mn161.1] at j3
  have a46 : adC sz b 46 = adG sz adK b 0 46 := by rw [adG_lo (by omega), pm46, had 46 (by omega)]
  have cw : CallW (rmD d) s ([Value.ref 46].map (cv (adC sz b))).toArray (cown 12) (mname 161).cls 78 (mname 161) (mcode 161) (mmax 161) (mret 161) (headW 161 :: gT) (rmM d 161) (cst 161) (6 * cst 161) 0 :=
    ⟨callB_of 0 hts (gT_all (fun w hw => (List.mem_cons.mp hw).elim (fun q => by rw [q]; exact e2) id)) (by rw [e1]) rfl rfl (hts _ i3) (hts _ (okW_in mod_link)) ⟨i1.1, i1.2, desc1 j3⟩ ⟨Nat.le_refl _, by show 8 + (mmax 161 + 11) + (40 * d + 300) ≤ 40 * (d + 1) + 300; omega⟩, hts _ j1, hts _ j2⟩
  have hrc : ∃ cell : Cell, H[adG sz adK b 0 46]? = some cell ∧ cell.vm.isStatics = false ∧ s.vm.findClass (mname 161).cls = some cell.cls := by
    obtain ⟨k1, k2, k3⟩ := isO_spec is46
    have he : (wsO (adG sz adK b 0) dA 66 (Sini L xf))[46]? = some (adG sz adK b 0 46, .inr (12, (List.range (nF 12)).map (fun k => cv (adG sz adK b 0) (fvi (Sini L xf) 46 k)))) := by rw [wsO_at _ _ _ (by omega), ent_O _ _ _ k1]
    have hk := va_recv hG.2.1 hPi (cl_get k3) he
    exact hk
  have hpr : PreV s H (mname 161).cls (adG sz adK b 0 46) (Pcx (mkG sz adK D dA b L xf 66 0) [.ref 46] (Sini L xf)) [] := ⟨Pcx.blind _ _ _, hrc, fun U hU hW => ⟨rfl, hG.call hS' hU hW, by rw [hU]; exact hPi⟩⟩
  have hrun := va_runV (p := p) (l := l) (e := e) (below := below) (meth := meth) (locs := locs) (cells := cB1.length - cA1.length) (slots := czs cB1 - czs cA1) (rest := []) (g := F0 m 168 lsA [Value.ref (adG sz adK b 0 46)]) (nL := cmax 12) (cc := ccode 12) ⟨F.1, F.2.1, F.2.2.2.1, F.2.2.2.2.1, hts⟩ hmet cw hpr rfl rfl hl.1 rfl (lv_room (by simp)) mod_d168 (by
    have : cst 161 = 0 := by decide +kernel
    rw [this, hA, hB]
    exact ⟨Nat.le_refl _, Nat.le_refl _⟩)
  show W p l e _ s m _ below meth c H locs _ _ _ (F0 m 168 lsA [Value.ref (adC sz b 46)])
  rw [a46]
  refine va_callv (S := Unit) (a := #[Value.ref (adG sz adK b 0 46)]) (A1 := gA (mkG sz adK D dA b L xf 66 0)) hrun hS' (fun _ _ h => h) (fun _ h => h) (fun uu t H1 locs1 ht hvm hw hB1 hz1 hk1 hS1 => ?_)
  rw [hgA] at hS1
  have hB1 : Pic (mkG sz adK D dA b L xf 66 0) S1 t.heap := hB1
  rw [ht] at hB1
  have c161 : cst 161 = 0 := by decide +kernel
  refine W.widen (k := 19) (n := czs cB1 - czs cA1) (by rw [hA, hB, c161]; exact Nat.le_refl _) (by rw [c161]; exact Nat.le_refl _) ?_
  exact W.vret B.exec B.bytes B.returns (fun t ht _ => ⟨⟨(), rfl, trivial, by show Pic _ S1 t.heap; rw [ht]; exact hB1⟩, hS1.F ht⟩) hS1.2.2 mod_d171
end LW2
