/-! String.length, String.charAt of a text constant -/
def rmJ : Room := { frames := 6, cells := 0, slots := 0, locals := 250 }
abbrev yJlen : MethodName := ⟨"java/lang/String", "length", "()I"⟩
abbrev yJchr : MethodName := ⟨"java/lang/String", "charAt", "(I)C"⟩
def jX : List (Nat × Jvm.Cond) := [(3204, .instanceMethod yJlen), (3205, .selects "java/lang/String" yJlen yJlen), (1019, .initialized "java/lang/String"), (3214, .instanceMethod yJchr), (3215, .selects "java/lang/String" yJchr yJchr)]
theorem jX_ok : ∀ q ∈ jX, okW q.1 q.2 = true := by decide +kernel
theorem jX_in (i : Nat) {q : Nat × Jvm.Cond} (h : jX[i]? = some q) : q.2 ∈ gT := okW_in (jX_ok q (List.mem_of_getElem? h))
theorem jlen_in : Jvm.Cond.code yJlen cJ0_length_8abf5 1 (some .int) ∈ gT := List.mem_filter.mpr ⟨wd_in (u := 3206) rfl, rfl⟩
theorem jchr_in : Jvm.Cond.code yJchr cJ0_charAt_5068e 2 (some .char) ∈ gT := List.mem_filter.mpr ⟨wd_in (u := 3216) rfl, rfl⟩
theorem c_slen (l : Launch) (G : Gp) {i : Nat} (hi : i < 53) : Met l yJlen (.code yJlen cJ0_length_8abf5 1 (some .int) :: gT) rmJ (va_Pc [.ref (g_ad G (2000 + i))] (Good G)) (va_Qi (S := Unit) (fun r _ => r = Int32.ofNat (sByt.getD i []).length) (fun _ _ => True) (fun _ => False)) 0 0 (fun _ => False) := sorry
theorem c_schr (l : Launch) (G : Gp) {i : Nat} (hi : i < 53) {k : Int32} (hk : vp_in k (sByt.getD i []).length) : Met l yJchr (.code yJchr cJ0_charAt_5068e 2 (some .char) :: gT) rmJ (va_Pc [.ref (g_ad G (2000 + i)), .int k] (Good G)) (va_Qi (S := Unit) (fun r _ => r = (sByt.getD i []).getD k.toNatClampNeg 0) (fun _ _ => True) (fun _ => False)) 0 0 (fun _ => False) := sorry
theorem Pic.kept {G : Gp} {S : St} {H H1 : Heap} (h : Pic G S H) (hq : ∀ q : Nat, q < H.size → H1[q]? = H[q]?) : Pic G S H1 := fun k q hk => (h k q hk).kept (hq _ (h k q hk).lt)
theorem Good.blind (G : Gp) (av : List Value) : FrameBlind (va_Pc av (Good G)) := by
  intro a U g mk h
  obtain ⟨h0, h1, h2, h3, h4, h5⟩ := h
  exact ⟨h0, h1, h2.moved (Vm.Alike.refl U.vm), fun w hw => va_Nw.same (u := U) (U := U.calling g mk a) (nest_tab (List.mem_filter.mp hw).2) rfl (h3 w hw), fun i hi => vk_R.same (u := U) (U := U.calling g mk a) rfl (h4 i hi), h5.moved (Vm.Alike.refl U.vm)⟩
section SNDJ
variable {G : Gp} {p : Program} {l : Launch} {e : Env} {R : Room} {s : State} {m : MethodId} {args : Array Value} {below : List Frame} {meth : Method} {c : Code} {cells slots : Nat} {Q : State → Prop} {M pc ct a b w u : Nat} {k : Int32} {ls st : List Value} {S : St}
theorem str_recv (F : Fr G p l s m args meth c M) {i : Nat} (hi : i < 53) {H : Heap} {locs : List Loc} (hS : va_S (gA G) s.heap H locs) : ∃ cell : Cell, H[g_ad G (2000 + i)]? = some cell ∧ cell.vm.isStatics = false ∧ s.vm.findClass "java/lang/String" = some cell.cls := by
  obtain ⟨v, hv⟩ := F.2.2.2.2.2.2.2.2.1.2.2.2.2.1 i hi
  exact vk_recv (i := 0) hv (by omega) hS
theorem s_slen (F : Fr G p l s m args meth c M) (hR : Rm R cells slots) (hk : okRow M (pc, ct, 31, a, b, w, u, k) = true) (hn : st.length ≤ 4) {q : Nat} (hq : 2000 ≤ q ∧ q < 2053) (K : Kt G p l e R s m args below meth c cells slots Q M (pc + 3) ls (.int (Int32.ofNat (sLen q)) :: st) S) : Kt G p l e R s m args below meth c cells slots Q M pc ls (.ref q :: st) S := by
  intro lsA H locs hl hP hS
  obtain ⟨hx, hb, hr, hml, hown, hts, hlk, htr, hG, -⟩ := id F
  obtain ⟨hd, hqq⟩ := okRow_spec hk
  obtain ⟨i, hi, rfl⟩ : ∃ i, i < 53 ∧ q = 2000 + i := ⟨q - 2000, by omega, by omega⟩
  have e : sLen (2000 + i) = (sByt.getD i []).length := by unfold sLen; rw [Nat.add_sub_cancel_left]
  rw [e] at K
  have cw : CallW R s args (mown M) "java/lang/String" w yJlen cJ0_length_8abf5 1 (some .int) (.code yJlen cJ0_length_8abf5 1 (some .int) :: gT) rmJ 0 0 0 := ⟨callB_of 0 hts (gT_all (fun w hw => (List.mem_cons.mp hw).elim (fun q => by rw [q]; exact jlen_in) id)) rfl rfl rfl (hts _ (jX_in 2 rfl)) (hts _ (okW_in hqq)) ⟨by decide, by decide, by decide +kernel⟩ ⟨by show 6 + 1 ≤ _; have := hR.1; omega, by show 8 + (1 + 11) + 250 ≤ _; have := hR.2.1; omega⟩, hts _ (jX_in 0 rfl), hts _ (jX_in 1 rfl)⟩
  refine va_calli (va_runV (As := []) (rest := st.map (cv (g_ad G))) ⟨hx, hb, hml, hown, hts⟩ (c_slen l G hi) cw ⟨Good.blind G _, str_recv F hi hS, fun U hU hW => ⟨rfl, hG.call hS hU hW⟩⟩ rfl rfl hl.1 rfl (room8 hn) hd ⟨hR.2.2.1, hR.2.2.2⟩) hS (fun _ _ h => h.elim) (fun _ h => h.elim) (fun r u t H1 locs1 ht hvm hw hB hz hk1 hS1 => ?_)
  subst hw
  exact K lsA H1 locs1 hl (hP.kept (fun q hq => hk1 q hq (fun z => z))) hS1
theorem s_schar (F : Fr G p l s m args meth c M) (hR : Rm R cells slots) (hk : okRow M (pc, ct, 32, a, b, w, u, k) = true) (hn : st.length ≤ 4) {q : Nat} {x : Int32} (hq : 2000 ≤ q ∧ q < 2053) (hin : vp_in x (sLen q)) (K : Kt G p l e R s m args below meth c cells slots Q M (pc + 3) ls (.int (sCh q x.toNatClampNeg) :: st) S) : Kt G p l e R s m args below meth c cells slots Q M pc ls (.int x :: .ref q :: st) S := by
  intro lsA H locs hl hP hS
  obtain ⟨hx, hb, hr, hml, hown, hts, hlk, htr, hG, -⟩ := id F
  obtain ⟨hd, hqq⟩ := okRow_spec hk
  obtain ⟨i, hi, rfl⟩ : ∃ i, i < 53 ∧ q = 2000 + i := ⟨q - 2000, by omega, by omega⟩
  have e : sLen (2000 + i) = (sByt.getD i []).length := by unfold sLen; rw [Nat.add_sub_cancel_left]
  have e2 : sCh (2000 + i) x.toNatClampNeg = (sByt.getD i []).getD x.toNatClampNeg 0 := by unfold sCh; rw [Nat.add_sub_cancel_left]
  rw [e] at hin
  rw [e2] at K
  have cw : CallW R s args (mown M) "java/lang/String" w yJchr cJ0_charAt_5068e 2 (some .char) (.code yJchr cJ0_charAt_5068e 2 (some .char) :: gT) rmJ 0 0 1 := ⟨callB_of 1 hts (gT_all (fun w hw => (List.mem_cons.mp hw).elim (fun q => by rw [q]; exact jchr_in) id)) rfl rfl rfl (hts _ (jX_in 2 rfl)) (hts _ (okW_in hqq)) ⟨by decide, by decide, by decide +kernel⟩ ⟨by show 6 + 1 ≤ _; have := hR.1; omega, by show 8 + (2 + 11) + 250 ≤ _; have := hR.2.1; omega⟩, hts _ (jX_in 3 rfl), hts _ (jX_in 4 rfl)⟩
  refine va_calli (va_runV (As := [.int x]) (rest := st.map (cv (g_ad G))) ⟨hx, hb, hml, hown, hts⟩ (c_schr l G hi hin) cw ⟨Good.blind G _, str_recv F hi hS, fun U hU hW => ⟨rfl, hG.call hS hU hW⟩⟩ rfl rfl hl.1 rfl (room8 hn) hd ⟨hR.2.2.1, hR.2.2.2⟩) hS (fun _ _ h => h.elim) (fun _ h => h.elim) (fun r u t H1 locs1 ht hvm hw hB hz hk1 hS1 => ?_)
  subst hw
  exact K lsA H1 locs1 hl (hP.kept (fun q hq => hk1 q hq (fun z => z))) hS1
end SNDJ
