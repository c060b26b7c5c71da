/-! String.length, String.charAt of a text constant -/
def rmX (f x : Nat) : Room := { frames := f, cells := 0, slots := 0, locals := x }
def rmJ : Room := rmX 6 250
abbrev yJlen : MethodName := ⟨"java/lang/String", "length", "()I"⟩
abbrev yJchr : MethodName := ⟨"java/lang/String", "charAt", "(I)C"⟩
def jX : List (Nat × Jvm.Cond) := [(3204, .instanceMethod yJlen), (3205, .selects "java/lang/String" yJlen yJlen), (1019, .initialized "java/lang/String"), (3214, .instanceMethod yJchr), (3215, .selects "java/lang/String" yJchr yJchr),
  (3207, .methodLink "java/lang/String" 335 yJ0_coder_7d493), (3208, .instanceMethod yJ0_coder_7d493), (3209, .selects "java/lang/String" yJ0_coder_7d493 yJ0_coder_7d493), (3211, .fieldLink "java/lang/String" 38 "java/lang/String" "COMPACT_STRINGS" "Z"), (9121, .fieldLink "java/lang/String" 15 "java/lang/String" "coder" "B"),
  (9120, .fieldLink "java/lang/String" 9 "java/lang/String" "value" "[B"), (3217, .methodLink "java/lang/String" 492 yJ0_isLatin1_aae02), (3218, .instanceMethod yJ0_isLatin1_aae02), (3219, .selects "java/lang/String" yJ0_isLatin1_aae02 yJ0_isLatin1_aae02), (3221, .methodLink "java/lang/String" 495 yJ1_charAt_3b067),
  (3222, .static yJ1_charAt_3b067), (1020, .initialized "java/lang/StringLatin1"), (3224, .methodLink "java/lang/StringLatin1" 9 yJ0_checkIndex_df160), (3225, .static yJ0_checkIndex_df160), (3227, .fieldLink "java/lang/String" 1053 "jdk/internal/util/Preconditions" "SIOOBE_FORMATTER" "Ljava/util/function/BiFunction;"),
  (3229, .methodLink "java/lang/String" 1059 yJ3_checkIndex_8e157), (3230, .static yJ3_checkIndex_8e157), (1021, .initialized "jdk/internal/util/Preconditions")]
theorem jX_ok : ∀ q ∈ jX, okW q.1 q.2 = true := by decide +kernel
theorem jX_in (i : Nat) {q : Nat × Jvm.Cond} (h : jX[i]? = some q) : q.2 ∈ gT := okW_in (jX_ok q (List.mem_of_getElem? h))
theorem jlen_in : Jvm.Cond.code yJlen cJ0_length_8abf5 1 (some .int) ∈ gT := List.mem_filter.mpr ⟨wd_in (u := 3206) rfl, rfl⟩
theorem jchr_in : Jvm.Cond.code yJchr cJ0_charAt_5068e 2 (some .char) ∈ gT := List.mem_filter.mpr ⟨wd_in (u := 3216) rfl, rfl⟩
theorem jcod_in : Jvm.Cond.code yJ0_coder_7d493 cJ0_coder_7d493 1 (some .byte) ∈ gT := List.mem_filter.mpr ⟨wd_in (u := 3210) rfl, rfl⟩
theorem jlat_in : Jvm.Cond.code yJ0_isLatin1_aae02 cJ0_isLatin1_aae02 1 (some .boolean) ∈ gT := List.mem_filter.mpr ⟨wd_in (u := 3220) rfl, rfl⟩
theorem jl1c_in : Jvm.Cond.code yJ1_charAt_3b067 cJ1_charAt_3b067 2 (some .char) ∈ gT := List.mem_filter.mpr ⟨wd_in (u := 3223) rfl, rfl⟩
theorem jchk_in : Jvm.Cond.code yJ0_checkIndex_df160 cJ0_checkIndex_df160 2 none ∈ gT := List.mem_filter.mpr ⟨wd_in (u := 3226) rfl, rfl⟩
theorem jpre_in : Jvm.Cond.code yJ3_checkIndex_8e157 cJ3_checkIndex_8e157 3 (some .int) ∈ gT := List.mem_filter.mpr ⟨wd_in (u := 3231) rfl, rfl⟩
theorem Good.blind (G : Gp) (av : List Value) : FrameBlind (va_Pc av (Good G)) := by
  intro a U g mk h
  obtain ⟨h0, h1, h2, h3, h4, h5⟩ := h
  exact ⟨h0, h1, h2.moved (Vm.Alike.refl U.vm), fun w hw => va_Nw.same (u := U) (U := U.calling g mk a) (nest_tab (List.mem_filter.mp hw).2) rfl (h3 w hw), fun i hi => vk_R.same (u := U) (U := U.calling g mk a) rfl (h4 i hi), h5.moved (Vm.Alike.refl U.vm)⟩
theorem vaS_mono {A B : Nat → Prop} {H0 H : Heap} {locs : List Loc} (hab : ∀ q, A q → B q) (h : va_S A H0 H locs) : va_S B H0 H locs := ⟨h.1, fun q h1 h2 => h.2.1 q h1 (fun z => h2 (hab q z)), fun l hl => hab _ (h.2.2 l hl)⟩
abbrev noA : Nat → Prop := fun _ => False
abbrev jQ (v : Int32) : Array Value → State → Outcome → State → Prop := va_Qi (S := Unit) (fun r _ => r = v) (fun _ _ => True) noA
/-- a method of the JDK that reads alone -/
theorem jm (l : Launch) (B : State → Prop) {y : MethodName} {cc : ByteArray} {maxL f x : Nat} {ret : Option FieldType} {av : List Value} {Qc : Array Value → State → Outcome → State → Prop} (hy : plainName y.cls = true) (hlen : (lg_sl av).length ≤ maxL)
    (body : ∀ (p : Program) (e : Env) (s : State) (m : MethodId) (below : List Frame) (meth : Method) (c : Code) (ls : Array Slot), p.tables.exec = Jvm.exec → c.code = cc → meth.sig.returnType = ret → c.maxLocals = maxL → s.vm.findClass y.cls = some m.cls → (∀ w ∈ gT, w.before av.toArray s = true) → meth.locks = false → B s → lv_has ls maxL (lv_args 0 av) → W p l e (rmX f x) s m av.toArray below meth c s.heap [] 0 0 (MQ below Qc av.toArray s 0 0 noA) (F0 m 0 ls [])) : Met l y (.code y cc maxL ret :: gT) (rmX f x) (va_Pc av B) Qc 0 0 noA := by
  refine Met.ofW (cc := cc) (maxL := maxL) (ret := ret) hy rfl ?_
  intro p e s m args below meth c s₁ BB hml hv
  obtain ⟨rfl, hG⟩ := hv
  have hts := atoms_spec (ws := Jvm.Cond.code y cc maxL ret :: gT) BB.pre
  rw [lg_entry_eq]
  exact body p e s m below meth c _ BB.exec BB.bytes BB.returns hml (findClass_of_methodNamed BB.named) (fun w hw => hts w (List.mem_cons_of_mem _ hw)) BB.notSynchronized hG (lv_entry av hlen)
theorem jGI {w : Jvm.Cond} (h : w ∈ gT) : GoodIn gT (w :: gT) := gT_all (fun x hx => (List.mem_cons.mp hx).elim (fun q => by rw [q]; exact h) id)
theorem c_pre (l : Launch) (G : Gp) {k n q : Int32} {o : Option Nat} (h0 : ¬ k < 0) (h1 : k < n) : Met l yJ3_checkIndex_8e157 (.code yJ3_checkIndex_8e157 cJ3_checkIndex_8e157 3 (some .int) :: gT) (rmX 3 160) (va_Pc [.int k, .int n, va_rf o] (Good G)) (jQ k) 0 0 noA := by
  refine jm l (Good G) (by decide) (by cases o <;> exact Nat.le_of_ble_eq_true rfl) ?_
  intro p e s m below meth c ls hx hb hr hml hown hts hlocks hG hl
  have hl0 : ls[0]? = some (.val (.int k)) := hl.2.2 (0, .int k) (by cases o <;> exact List.mem_cons_self)
  have hl1 : ls[1]? = some (.val (.int n)) := hl.2.2 (1, .int n) (by cases o <;> exact List.mem_cons_of_mem _ List.mem_cons_self)
  refine lv_iload_n (i := 0) hx hb (show decode cJ3_checkIndex_8e157 0 = .ok (.iload_n 0, 1) by decide +kernel) rfl hl0 ?_
  refine lv_if_lt (tgt := 9) hx hb (show decode cJ3_checkIndex_8e157 1 = .ok (.ifCond .lt 8, 3) by decide +kernel) (by decide) (fun z => absurd z h0) (fun _ => ?_)
  refine lv_iload_n (i := 0) hx hb (show decode cJ3_checkIndex_8e157 4 = .ok (.iload_n 0, 1) by decide +kernel) rfl hl0 ?_
  refine lv_iload_n (i := 1) hx hb (show decode cJ3_checkIndex_8e157 5 = .ok (.iload_n 1, 1) by decide +kernel) rfl hl1 ?_
  refine lv_icmp_lt (tgt := 16) hx hb (show decode cJ3_checkIndex_8e157 6 = .ok (.if_icmp .lt 10, 3) by decide +kernel) (by decide) (fun _ => ?_) (fun z => absurd h1 z)
  refine lv_iload_n (i := 0) hx hb (show decode cJ3_checkIndex_8e157 16 = .ok (.iload_n 0, 1) by decide +kernel) rfl hl0 ?_
  exact W.iret hx hb hr (fun t ht _ => ⟨⟨k, (), rfl, rfl, trivial⟩, (va_S.rf (A := noA)).F ht⟩) (fun _ h => by cases h) (show decode cJ3_checkIndex_8e157 17 = .ok (.ireturn, 1) by decide +kernel)
abbrev jV : Array Value → State → Outcome → State → Prop := va_Qv (S := Unit) (fun _ => True) (fun _ _ => True) noA
theorem c_chk (l : Launch) (G : Gp) {k n : Int32} (h0 : ¬ k < 0) (h1 : k < n) : Met l yJ0_checkIndex_df160 (.code yJ0_checkIndex_df160 cJ0_checkIndex_df160 2 none :: gT) (rmX 4 190) (va_Pc [.int k, .int n] (Good G)) jV 0 0 noA := by
  refine jm l (Good G) (by decide) (Nat.le_of_ble_eq_true rfl) ?_
  intro p e s m below meth c ls hx hb hr hml hown hts hlocks hG hl
  have hS : va_S (gA G) s.heap s.heap [] := va_S.rf
  have hS0 : va_S noA s.heap s.heap [] := va_S.rf
  refine lv_iload_n (i := 0) hx hb (show decode cJ0_checkIndex_df160 0 = .ok (.iload_n 0, 1) by decide +kernel) rfl (lv_at hl 0 rfl) ?_
  refine lv_iload_n (i := 1) hx hb (show decode cJ0_checkIndex_df160 1 = .ok (.iload_n 1, 1) by decide +kernel) rfl (lv_at hl 1 rfl) ?_
  have go : ∀ o : Option Nat, W p l e (rmX 4 190) s m ([.int k, .int n] : List Value).toArray below meth c s.heap [] 0 0 (MQ below jV ([.int k, .int n] : List Value).toArray s 0 0 noA) (F0 m 5 ls [va_rf o, .int n, .int k]) := by
    intro o
    refine va_calli (va_runS (As := [.int k, .int n, va_rf o]) (rest := []) ⟨hx, hb, hml, hown, hts⟩ (c_pre l G (q := 0) (o := o) h0 h1) ⟨callB_of 3 hts (jGI jpre_in) rfl rfl rfl (hts _ (jX_in 22 rfl)) (hts _ (jX_in 20 rfl)) ⟨by decide, by decide, by decide +kernel⟩ ⟨by decide, by decide⟩, hts _ (jX_in 21 rfl)⟩ ⟨Good.blind G _, fun U hU hW => ⟨rfl, hG.call hS hU hW⟩⟩ rfl rfl hl.1 rfl (lv_room (by decide)) (show decode cJ0_checkIndex_df160 5 = .ok (.invokestatic 1059, 3) by decide +kernel) ⟨by decide, by decide⟩) hS0 (fun _ _ h => h) (fun _ h => h) (fun r u t H1 locs1 ht hvm hw hB hz hk1 hS1 => ?_)
    refine lv_pop hx hb (show decode cJ0_checkIndex_df160 8 = .ok (.pop, 1) by decide +kernel) rfl ?_
    exact W.vret hx hb hr (fun t ht _ => ⟨⟨(), rfl, trivial, trivial⟩, hS1.F ht⟩) hS1.2.2 (show decode cJ0_checkIndex_df160 9 = .ok (.return_, 1) by decide +kernel)
  rcases hG.2.2.2.2.2.2.2.2.1 with hz | ⟨t, hz⟩
  · exact va_gets hx hb hz hS hown (hts _ (jX_in 19 rfl)) (fun _ h => h) (show decode cJ0_checkIndex_df160 2 = .ok (.getstatic 1053, 3) by decide +kernel) (go none)
  · exact va_gets hx hb hz hS hown (hts _ (jX_in 19 rfl)) (fun _ h => h) (show decode cJ0_checkIndex_df160 2 = .ok (.getstatic 1053, 3) by decide +kernel) (go (some t))
theorem c_cod (l : Launch) (G : Gp) {i : Nat} (hi : i < 53) : Met l yJ0_coder_7d493 (.code yJ0_coder_7d493 cJ0_coder_7d493 1 (some .byte) :: gT) (rmX 3 160) (va_Pc [.ref (g_ad G (2000 + i))] (Good G)) (jQ 0) 0 0 noA := by
  refine jm l (Good G) (by decide) (Nat.le_of_ble_eq_true rfl) ?_
  intro p e s m below meth c ls hx hb hr hml hown hts hlocks hG hl
  have hS : va_S (gA G) s.heap s.heap [] := va_S.rf
  obtain ⟨v, hv⟩ := hG.2.2.2.2.1 i hi
  obtain ⟨-, hco, -, -⟩ := hv.1 0 (by omega)
  refine va_gets hx hb hG.2.2.2.2.2.2.2.1 hS hown (hts _ (jX_in 8 rfl)) (fun _ h => h) (show decode cJ0_coder_7d493 0 = .ok (.getstatic 38, 3) by decide +kernel) ?_
  refine lv_if_eq (tgt := 13) hx hb (show decode cJ0_coder_7d493 3 = .ok (.ifCond .eq 10, 3) by decide +kernel) (by decide) (fun z => absurd z (by decide)) (fun _ => ?_)
  refine lv_aload_n (i := 0) hx hb (show decode cJ0_coder_7d493 6 = .ok (.aload_n 0, 1) by decide +kernel) rfl (lv_at hl 0 rfl) ?_
  refine vk_getf hx hb hco hS hown (hts _ (jX_in 9 rfl)) (fun _ h => h) (show decode cJ0_coder_7d493 7 = .ok (.getfield 15, 3) by decide +kernel) ?_
  refine lv_goto (tgt := 14) hx hb (show decode cJ0_coder_7d493 10 = .ok (.goto 4, 3) by decide +kernel) (by decide) ?_
  exact W.zret (ty := .byte) hx hb hr (by decide +kernel) (fun t ht _ => ⟨⟨0, (), rfl, rfl, trivial⟩, (va_S.rf (A := noA)).F ht⟩) (fun _ h => by cases h) (show decode cJ0_coder_7d493 14 = .ok (.ireturn, 1) by decide +kernel)
theorem c_lat (l : Launch) (G : Gp) {i : Nat} (hi : i < 53) : Met l yJ0_isLatin1_aae02 (.code yJ0_isLatin1_aae02 cJ0_isLatin1_aae02 1 (some .boolean) :: gT) (rmX 3 160) (va_Pc [.ref (g_ad G (2000 + i))] (Good G)) (jQ 1) 0 0 noA := by
  refine jm l (Good G) (by decide) (Nat.le_of_ble_eq_true rfl) ?_
  intro p e s m below meth c ls hx hb hr hml hown hts hlocks hG hl
  have hS : va_S (gA G) s.heap s.heap [] := va_S.rf
  obtain ⟨v, hv⟩ := hG.2.2.2.2.1 i hi
  obtain ⟨-, hco, -, -⟩ := hv.1 0 (by omega)
  refine va_gets hx hb hG.2.2.2.2.2.2.2.1 hS hown (hts _ (jX_in 8 rfl)) (fun _ h => h) (show decode cJ0_isLatin1_aae02 0 = .ok (.getstatic 38, 3) by decide +kernel) ?_
  refine lv_if_eq (tgt := 17) hx hb (show decode cJ0_isLatin1_aae02 3 = .ok (.ifCond .eq 14, 3) by decide +kernel) (by decide) (fun z => absurd z (by decide)) (fun _ => ?_)
  refine lv_aload_n (i := 0) hx hb (show decode cJ0_isLatin1_aae02 6 = .ok (.aload_n 0, 1) by decide +kernel) rfl (lv_at hl 0 rfl) ?_
  refine vk_getf hx hb hco hS hown (hts _ (jX_in 9 rfl)) (fun _ h => h) (show decode cJ0_isLatin1_aae02 7 = .ok (.getfield 15, 3) by decide +kernel) ?_
  refine lv_if_ne (tgt := 17) hx hb (show decode cJ0_isLatin1_aae02 10 = .ok (.ifCond .ne 7, 3) by decide +kernel) (by decide) (fun z => absurd rfl z) (fun _ => ?_)
  refine lv_iconst (v := 1) hx hb (show decode cJ0_isLatin1_aae02 13 = .ok (.iconst 1, 1) by decide +kernel) (by decide) ?_
  refine lv_goto (tgt := 18) hx hb (show decode cJ0_isLatin1_aae02 14 = .ok (.goto 4, 3) by decide +kernel) (by decide) ?_
  exact W.zret (ty := .boolean) hx hb hr (by decide +kernel) (fun t ht _ => ⟨⟨1, (), rfl, rfl, trivial⟩, (va_S.rf (A := noA)).F ht⟩) (fun _ h => by cases h) (show decode cJ0_isLatin1_aae02 18 = .ok (.ireturn, 1) by decide +kernel)
theorem sb_len : ∀ i, i < 53 → (sByt.getD i []).length < 100 := by decide +kernel
theorem sb_ch : ∀ i, i < 53 → ∀ j, j < (sByt.getD i []).length → ((((sByt.getD i []).getD j 0) &&& 255).toUInt32 % 65536).toInt32 = (sByt.getD i []).getD j 0 ∧ narrow .char (.int ((sByt.getD i []).getD j 0)) = .int ((sByt.getD i []).getD j 0) := by decide +kernel
theorem c_l1c (l : Launch) (G : Gp) {i v : Nat} (hi : i < 53) {k : Int32} (hk : vp_in k (sByt.getD i []).length) : Met l yJ1_charAt_3b067 (.code yJ1_charAt_3b067 cJ1_charAt_3b067 2 (some .char) :: gT) (rmX 5 220) (va_Pc [.ref v, .int k] (fun U => Good G U ∧ va_T .byte v (sByt.getD i []).length (fun j => .int ((sByt.getD i []).getD j 0)) (gA G) U U.heap)) (jQ ((sByt.getD i []).getD k.toNatClampNeg 0)) 0 0 noA := by
  refine jm l _ (by decide) (Nat.le_of_ble_eq_true rfl) ?_
  intro p e s m below meth c ls hx hb hr hml hown hts hlocks hGT hl
  obtain ⟨hG, hT⟩ := hGT
  have hS0 : va_S noA s.heap s.heap [] := va_S.rf
  have hS : va_S (gA G) s.heap s.heap [] := va_S.rf
  have hlen := sb_len i hi
  obtain ⟨z, hz, rfl⟩ := vp_in_of hk (by omega)
  refine lv_iload_n (i := 1) hx hb (show decode cJ1_charAt_3b067 0 = .ok (.iload_n 1, 1) by decide +kernel) rfl (lv_at hl 1 rfl) ?_
  refine lv_aload_n (i := 0) hx hb (show decode cJ1_charAt_3b067 1 = .ok (.aload_n 0, 1) by decide +kernel) rfl (lv_at hl 0 rfl) ?_
  refine va_tlen hx hb hT hS rfl (show decode cJ1_charAt_3b067 2 = .ok (.arraylength, 1) by decide +kernel) ?_
  refine va_callv (va_runS (As := [.int (nI z), .int (Int32.ofNat (sByt.getD i []).length)]) (rest := []) ⟨hx, hb, hml, hown, hts⟩ (c_chk l G (nI_pos (by omega)) (nI_lt hz (by omega))) ⟨callB_of 2 hts (jGI jchk_in) rfl rfl rfl (hts _ (jX_in 2 rfl)) (hts _ (jX_in 17 rfl)) ⟨by decide, by decide, by decide +kernel⟩ ⟨by decide, by decide⟩, hts _ (jX_in 18 rfl)⟩ ⟨Good.blind G _, fun U hU hW => ⟨rfl, hG.call hS hU hW⟩⟩ rfl rfl hl.1 rfl (lv_room (by decide)) (show decode cJ1_charAt_3b067 3 = .ok (.invokestatic 9, 3) by decide +kernel) ⟨by decide, by decide⟩) hS0 (fun _ _ h => h) (fun _ h => h) (fun u t H1 locs1 ht hvm hw hB hz1 hk1 hS1 => ?_)
  have hS2 := vaS_mono (B := gA G) (fun _ h => h.elim) hS1
  refine lv_aload_n (i := 0) hx hb (show decode cJ1_charAt_3b067 6 = .ok (.aload_n 0, 1) by decide +kernel) rfl (lv_at hl 0 rfl) ?_
  refine lv_iload_n (i := 1) hx hb (show decode cJ1_charAt_3b067 7 = .ok (.iload_n 1, 1) by decide +kernel) rfl (lv_at hl 1 rfl) ?_
  refine va_tb hx hb hT hS2 hk rfl (show decode cJ1_charAt_3b067 8 = .ok (.baload, 1) by decide +kernel) ?_
  refine lv_sipush (v := 255) hx hb (show decode cJ1_charAt_3b067 9 = .ok (.sipush 255, 3) by decide +kernel) (by decide) ?_
  refine lv_iand hx hb (show decode cJ1_charAt_3b067 12 = .ok (.iand, 1) by decide +kernel) ?_
  have e2 := sb_ch i hi z hz
  refine lv_i2c (v := (sByt.getD i []).getD z 0) hx hb (show decode cJ1_charAt_3b067 13 = .ok (.i2c, 1) by decide +kernel) (by rw [nI_clamp (by omega)]; exact e2.1) ?_
  exact W.zret (ty := .char) hx hb hr e2.2 (fun t ht _ => ⟨⟨_, (), rfl, by rw [nI_clamp (by omega)], trivial⟩, hS1.F ht⟩) hS1.2.2 (show decode cJ1_charAt_3b067 14 = .ok (.ireturn, 1) by decide +kernel)
theorem blindT {G : Gp} {av : List Value} {v n : Nat} {f : Nat → Value} : FrameBlind (va_Pc av (fun U => Good G U ∧ va_T .byte v n f (gA G) U U.heap)) := by
  intro a U g mk h
  obtain ⟨h0, h1, h2⟩ := h
  exact ⟨h0, (Good.blind G av a U g mk ⟨h0, h1⟩).2, h2.moved (Vm.Alike.refl U.vm)⟩
theorem str_recvU {G : Gp} {s : State} (hG : Good G s) {i : Nat} (hi : i < 53) {H : Heap} {locs : List Loc} (hS : va_S (gA G) s.heap H locs) : ∃ cell : Cell, H[g_ad G (2000 + i)]? = some cell ∧ cell.vm.isStatics = false ∧ s.vm.findClass "java/lang/String" = some cell.cls := by
  obtain ⟨v, hv⟩ := hG.2.2.2.2.1 i hi
  exact vk_recv (i := 0) hv (by omega) hS
theorem c_slen (l : Launch) (G : Gp) {i : Nat} (hi : i < 53) : Met l yJlen (.code yJlen cJ0_length_8abf5 1 (some .int) :: gT) rmJ (va_Pc [.ref (g_ad G (2000 + i))] (Good G)) (jQ (Int32.ofNat (sByt.getD i []).length)) 0 0 noA := by
  refine jm l (Good G) (f := 6) (x := 250) (by decide) (Nat.le_of_ble_eq_true rfl) ?_
  intro p e s m below meth c ls hx hb hr hml hown hts hlocks hG hl
  have hS0 : va_S noA s.heap s.heap [] := va_S.rf
  have hS : va_S (gA G) s.heap s.heap [] := va_S.rf
  obtain ⟨v, hv⟩ := hG.2.2.2.2.1 i hi
  obtain ⟨-, -, hva, hT⟩ := hv.1 0 (by omega)
  refine lv_aload_n (i := 0) hx hb (show decode cJ0_length_8abf5 0 = .ok (.aload_n 0, 1) by decide +kernel) rfl (lv_at hl 0 rfl) ?_
  refine vk_getf hx hb hva hS hown (hts _ (jX_in 10 rfl)) (fun _ h => h) (show decode cJ0_length_8abf5 1 = .ok (.getfield 9, 3) by decide +kernel) ?_
  refine va_tlen hx hb hT hS rfl (show decode cJ0_length_8abf5 4 = .ok (.arraylength, 1) by decide +kernel) ?_
  refine lv_aload_n (i := 0) hx hb (show decode cJ0_length_8abf5 5 = .ok (.aload_n 0, 1) by decide +kernel) rfl (lv_at hl 0 rfl) ?_
  refine va_calli (va_runV (C := "java/lang/String") (As := []) (rest := [.int (Int32.ofNat (sByt.getD i []).length)]) ⟨hx, hb, hml, hown, hts⟩ (c_cod l G hi) ⟨callB_of 0 hts (jGI jcod_in) rfl rfl rfl (hts _ (jX_in 2 rfl)) (hts _ (jX_in 5 rfl)) ⟨by decide, by decide, by decide +kernel⟩ ⟨by decide, by decide⟩, hts _ (jX_in 6 rfl), hts _ (jX_in 7 rfl)⟩ ⟨Good.blind G _, str_recvU hG hi hS, fun U hU hW => ⟨rfl, hG.call hS hU hW⟩⟩ rfl rfl hl.1 rfl (lv_room (Nat.le_of_ble_eq_true rfl)) (show decode cJ0_length_8abf5 6 = .ok (.invokevirtual 335, 3) by decide +kernel) ⟨by decide, by decide⟩) hS0 (fun _ _ h => h) (fun _ h => h) (fun r u t H1 locs1 ht hvm hw hB hz1 hk1 hS1 => ?_)
  subst hw
  refine lv_ishr hx hb (show decode cJ0_length_8abf5 9 = .ok (.ishr, 1) by decide +kernel) ?_
  have e2 : Int32.ofNat (sByt.getD i []).length >>> ((0 : Int32) &&& 31) = Int32.ofNat (sByt.getD i []).length := by
    rw [show ((0 : Int32) &&& 31) = 0 by decide]
    exact (pk_shrN (n := (sByt.getD i []).length) (by have := sb_len i hi; omega) 0 0 (by decide)).trans (by rw [Nat.pow_zero, Nat.div_one]; rfl)
  rw [e2]
  exact W.iret hx hb hr (fun t ht _ => ⟨⟨_, (), rfl, rfl, trivial⟩, hS1.F ht⟩) hS1.2.2 (show decode cJ0_length_8abf5 10 = .ok (.ireturn, 1) by decide +kernel)
theorem c_schr (l : Launch) (G : Gp) {i : Nat} (hi : i < 53) {k : Int32} (hk : vp_in k (sByt.getD i []).length) : Met l yJchr (.code yJchr cJ0_charAt_5068e 2 (some .char) :: gT) rmJ (va_Pc [.ref (g_ad G (2000 + i)), .int k] (Good G)) (jQ ((sByt.getD i []).getD k.toNatClampNeg 0)) 0 0 noA := by
  refine jm l (Good G) (f := 6) (x := 250) (by decide) (Nat.le_of_ble_eq_true rfl) ?_
  intro p e s m below meth c ls hx hb hr hml hown hts hlocks hG hl
  have hS0 : va_S noA s.heap s.heap [] := va_S.rf
  have hS : va_S (gA G) s.heap s.heap [] := va_S.rf
  obtain ⟨v, hv⟩ := hG.2.2.2.2.1 i hi
  obtain ⟨-, -, hva, hT⟩ := hv.1 0 (by omega)
  refine lv_aload_n (i := 0) hx hb (show decode cJ0_charAt_5068e 0 = .ok (.aload_n 0, 1) by decide +kernel) rfl (lv_at hl 0 rfl) ?_
  refine va_calli (va_runV (C := "java/lang/String") (As := []) (rest := []) ⟨hx, hb, hml, hown, hts⟩ (c_lat l G hi) ⟨callB_of 0 hts (jGI jlat_in) rfl rfl rfl (hts _ (jX_in 2 rfl)) (hts _ (jX_in 11 rfl)) ⟨by decide, by decide, by decide +kernel⟩ ⟨by decide, by decide⟩, hts _ (jX_in 12 rfl), hts _ (jX_in 13 rfl)⟩ ⟨Good.blind G _, str_recvU hG hi hS, fun U hU hW => ⟨rfl, hG.call hS hU hW⟩⟩ rfl rfl hl.1 rfl (lv_room (by decide)) (show decode cJ0_charAt_5068e 1 = .ok (.invokevirtual 492, 3) by decide +kernel) ⟨by decide, by decide⟩) hS0 (fun _ _ h => h) (fun _ h => h) (fun r u t H1 locs1 ht hvm hw hB hz1 hk1 hS1 => ?_)
  subst hw
  have hS2 := vaS_mono (B := gA G) (fun _ h => h.elim) hS1
  refine lv_if_eq (tgt := 16) hx hb (show decode cJ0_charAt_5068e 4 = .ok (.ifCond .eq 12, 3) by decide +kernel) (by decide) (fun z => absurd z (by decide)) (fun _ => ?_)
  refine lv_aload_n (i := 0) hx hb (show decode cJ0_charAt_5068e 7 = .ok (.aload_n 0, 1) by decide +kernel) rfl (lv_at hl 0 rfl) ?_
  refine vk_getf hx hb hva hS2 hown (hts _ (jX_in 10 rfl)) (fun _ h => h) (show decode cJ0_charAt_5068e 8 = .ok (.getfield 9, 3) by decide +kernel) ?_
  refine lv_iload_n (i := 1) hx hb (show decode cJ0_charAt_5068e 11 = .ok (.iload_n 1, 1) by decide +kernel) rfl (lv_at hl 1 rfl) ?_
  refine va_calli (va_runS (As := [.ref v, .int k]) (rest := []) ⟨hx, hb, hml, hown, hts⟩ (c_l1c l G hi hk) ⟨callB_of 2 hts (jGI jl1c_in) rfl rfl rfl (hts _ (jX_in 16 rfl)) (hts _ (jX_in 14 rfl)) ⟨by decide, by decide, by decide +kernel⟩ ⟨by decide, by decide⟩, hts _ (jX_in 15 rfl)⟩ ⟨blindT, fun U hU hW => ⟨rfl, hG.call hS2 hU hW, by rw [hU]; exact (hT.moved hW.alike).kept hS2.2.1⟩⟩ rfl rfl hl.1 rfl (lv_room (by decide)) (show decode cJ0_charAt_5068e 12 = .ok (.invokestatic 495, 3) by decide +kernel) ⟨by decide, by decide⟩) hS1 (fun _ _ h => h) (fun _ h => h) (fun r u t H2 locs2 ht hvm hw hB hz1 hk1 hS3 => ?_)
  subst hw
  have hkk : narrow .char (.int ((sByt.getD i []).getD k.toNatClampNeg 0)) = .int ((sByt.getD i []).getD k.toNatClampNeg 0) := by
    obtain ⟨z, hz, rfl⟩ := vp_in_of hk (by have := sb_len i hi; omega)
    rw [nI_clamp (by have := sb_len i hi; omega)]
    exact (sb_ch i hi z hz).2
  exact W.zret (ty := .char) hx hb hr hkk (fun t ht _ => ⟨⟨_, (), rfl, rfl, trivial⟩, hS3.F ht⟩) hS3.2.2 (show decode cJ0_charAt_5068e 15 = .ok (.ireturn, 1) by decide +kernel)
theorem Pic.kept {G : Gp} {S : St} {H H1 : Heap} (h : Pic G S H) (hq : ∀ q : Nat, q < H.size → H1[q]? = H[q]?) : Pic G S H1 := fun k q hk => (h k q hk).kept (hq _ (h k q hk).lt)
section SNDJ
variable {G : Gp} {p : Program} {l : Launch} {e : Env} {R : Room} {s : State} {m : MethodId} {args : Array Value} {below : List Frame} {meth : Method} {c : Code} {cells slots : Nat} {Q : State → Prop} {M pc ct a b w u : Nat} {k : Int32} {ls st : List Value} {S : St}
theorem str_recv (F : Fr G p l s m args meth c M) {i : Nat} (hi : i < 53) {H : Heap} {locs : List Loc} (hS : va_S (gA G) s.heap H locs) : ∃ cell : Cell, H[g_ad G (2000 + i)]? = some cell ∧ cell.vm.isStatics = false ∧ s.vm.findClass "java/lang/String" = some cell.cls := by
  obtain ⟨v, hv⟩ := F.2.2.2.2.2.2.2.2.1.2.2.2.2.1 i hi
  exact vk_recv (i := 0) hv (by omega) hS
theorem s_slen (F : Fr G p l s m args meth c M) (hR : Rm R cells slots) (hk : okRow M (pc, ct, 31, a, b, w, u, k) = true) (hn : st.length ≤ 4) {q : Nat} (hq : 2000 ≤ q ∧ q < 2053) (K : Kt G p l e R s m args below meth c cells slots Q M (pc + 3) ls (.int (Int32.ofNat (sLen q)) :: st) S) : Kt G p l e R s m args below meth c cells slots Q M pc ls (.ref q :: st) S := by
  intro lsA H locs hl hP hS
  obtain ⟨hx, hb, hr, hml, hown, hts, hlk, htr, hG, -⟩ := id F
  obtain ⟨hd, hqq⟩ := okRow_spec hk
  obtain ⟨i, hi, rfl⟩ : ∃ i, i < 53 ∧ q = 2000 + i := ⟨q - 2000, by omega, by omega⟩
  have e : sLen (2000 + i) = (sByt.getD i []).length := by unfold sLen; rw [Nat.add_sub_cancel_left]
  rw [e] at K
  have cw : CallW R s args (mown M) "java/lang/String" w yJlen cJ0_length_8abf5 1 (some .int) (.code yJlen cJ0_length_8abf5 1 (some .int) :: gT) rmJ 0 0 0 := ⟨callB_of 0 hts (gT_all (fun w hw => (List.mem_cons.mp hw).elim (fun q => by rw [q]; exact jlen_in) id)) rfl rfl rfl (hts _ (jX_in 2 rfl)) (hts _ (okW_in hqq)) ⟨by decide, by decide, by decide +kernel⟩ ⟨by show 6 + 1 ≤ _; have := hR.1; omega, by show 8 + (1 + 11) + 250 ≤ _; have := hR.2.1; omega⟩, hts _ (jX_in 0 rfl), hts _ (jX_in 1 rfl)⟩
  refine va_calli (va_runV (As := []) (rest := st.map (cv (g_ad G))) ⟨hx, hb, hml, hown, hts⟩ (c_slen l G hi) cw ⟨Good.blind G _, str_recv F hi hS, fun U hU hW => ⟨rfl, hG.call hS hU hW⟩⟩ rfl rfl hl.1 rfl (room8 hn) hd ⟨hR.2.2.1, hR.2.2.2⟩) hS (fun _ _ h => h.elim) (fun _ h => h.elim) (fun r u t H1 locs1 ht hvm hw hB hz hk1 hS1 => ?_)
  subst hw
  exact K lsA H1 locs1 hl (hP.kept (fun q hq => hk1 q hq (fun z => z))) hS1
theorem s_schar (F : Fr G p l s m args meth c M) (hR : Rm R cells slots) (hk : okRow M (pc, ct, 32, a, b, w, u, k) = true) (hn : st.length ≤ 4) {q : Nat} {x : Int32} (hq : 2000 ≤ q ∧ q < 2053) (hin : vp_in x (sLen q)) (K : Kt G p l e R s m args below meth c cells slots Q M (pc + 3) ls (.int (sCh q x.toNatClampNeg) :: st) S) : Kt G p l e R s m args below meth c cells slots Q M pc ls (.int x :: .ref q :: st) S := by
  intro lsA H locs hl hP hS
  obtain ⟨hx, hb, hr, hml, hown, hts, hlk, htr, hG, -⟩ := id F
  obtain ⟨hd, hqq⟩ := okRow_spec hk
  obtain ⟨i, hi, rfl⟩ : ∃ i, i < 53 ∧ q = 2000 + i := ⟨q - 2000, by omega, by omega⟩
  have e : sLen (2000 + i) = (sByt.getD i []).length := by unfold sLen; rw [Nat.add_sub_cancel_left]
  have e2 : sCh (2000 + i) x.toNatClampNeg = (sByt.getD i []).getD x.toNatClampNeg 0 := by unfold sCh; rw [Nat.add_sub_cancel_left]
  rw [e] at hin
  rw [e2] at K
  have cw : CallW R s args (mown M) "java/lang/String" w yJchr cJ0_charAt_5068e 2 (some .char) (.code yJchr cJ0_charAt_5068e 2 (some .char) :: gT) rmJ 0 0 1 := ⟨callB_of 1 hts (gT_all (fun w hw => (List.mem_cons.mp hw).elim (fun q => by rw [q]; exact jchr_in) id)) rfl rfl rfl (hts _ (jX_in 2 rfl)) (hts _ (okW_in hqq)) ⟨by decide, by decide, by decide +kernel⟩ ⟨by show 6 + 1 ≤ _; have := hR.1; omega, by show 8 + (2 + 11) + 250 ≤ _; have := hR.2.1; omega⟩, hts _ (jX_in 3 rfl), hts _ (jX_in 4 rfl)⟩
  refine va_calli (va_runV (As := [.int x]) (rest := st.map (cv (g_ad G))) ⟨hx, hb, hml, hown, hts⟩ (c_schr l G hi hin) cw ⟨Good.blind G _, str_recv F hi hS, fun U hU hW => ⟨rfl, hG.call hS hU hW⟩⟩ rfl rfl hl.1 rfl (room8 hn) hd ⟨hR.2.2.1, hR.2.2.2⟩) hS (fun _ _ h => h.elim) (fun _ h => h.elim) (fun r u t H1 locs1 ht hvm hw hB hz hk1 hS1 => ?_)
  subst hw
  exact K lsA H1 locs1 hl (hP.kept (fun q hq => hk1 q hq (fun z => z))) hS1
end SNDJ
