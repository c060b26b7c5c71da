/-! calls -/
def rmM (d M : Nat) : Room := { frames := d + 8, cells := cst M, slots := 6 * cst M, locals := 40 * d + 300 }
def headW (M : Nat) : Jvm.Cond := (wd (mn M 3)).getD (.count 0)
def Pcx (G : Gp) (As : List Value) (S : St) : Array Value → State → Prop := fun v U => v = (As.map (cv (g_ad G))).toArray ∧ Good G U ∧ Pic G S U.heap
def Qcx (G : Gp) (out : Out) (S' : St) : Array Value → State → Outcome → State → Prop := match out with
  | .inl none => va_Qv (S := Unit) (fun _ => True) (fun _ t => Pic G S' t.heap) (gA G)
  | .inl (some (.int x)) => va_Qi (S := Unit) (fun r _ => r = x) (fun _ t => Pic G S' t.heap) (gA G)
  | _ => fun _ _ _ _ => False
def Xcx (G : Gp) (out : Out) (S' : St) : String → State → State → Prop := vx_X (S := Unit) (fun _ => True) (fun E _ t => out = .inr E ∧ Pic G S' t.heap) (gA G)
/-- the contract of method M at these arguments and numbers -/
def Con (l : Launch) (G : Gp) (d M : Nat) (As : List Value) (S : St) (out : Out) (S' : St) : Prop := vx_Met l (mname M) (headW M :: gT) (rmM d M) (Pcx G As S) (Qcx G out S') (Xcx G out S') (cst M) (6 * cst M) (gA G)
theorem nest_warm {s U : State} (hW : s.WarmedH U.vm) {w : Jvm.Cond} (hw : isCar w = true) (h : va_Nw w s) : va_Nw w U := by
  cases w <;> first | exact va_Nw.warmF hW h | exact va_Nw.warmM hW h | exact va_Nw.warmC hW h | exact va_Nw.warmD hW h | cases hw
theorem nest_tab {w : Jvm.Cond} (hw : isCar w = true) : w.onTables = true := by
  cases w <;> first | rfl | cases hw
theorem Good.call {G : Gp} {s U : State} {H : Heap} {locs : List Loc} (h : Good G s) (hS : va_S (gA G) s.heap H locs) (hU : U.heap = H) (hW : s.WarmedH U.vm) : Good G U := by
  obtain ⟨h1, h2, h3, h4, h5⟩ := h
  refine ⟨?_, h2.moved hW.alike, fun w hw => nest_warm hW (List.mem_filter.mp hw).2 (h3 w hw), fun i hi => (h4 i hi).warm hW, ?_⟩
  · rw [hU]; exact Nat.le_trans h1 hS.1
  · rw [hU]; exact (h5.moved hW.alike).kept hS.2.1
theorem Pcx.blind (G : Gp) (As : List Value) (S : St) : FrameBlind (Pcx G As S) := by
  intro a U g mk h
  obtain ⟨h0, ⟨h1, h2, h3, h4, h5⟩, h6⟩ := h
  exact ⟨h0, ⟨h1, h2.moved (Vm.Alike.refl U.vm), fun w hw => va_Nw.same (u := U) (U := U.calling g mk a) (nest_tab (List.mem_filter.mp hw).2) rfl (h3 w hw), fun i hi => vk_R.same (u := U) (U := U.calling g mk a) rfl (h4 i hi), h5.moved (Vm.Alike.refl U.vm)⟩, h6⟩
theorem met_of {l : Launch} {y : MethodName} {ws : List Jvm.Cond} {rm : Room} {Pc : Array Value → State → Prop} {Qc : Array Value → State → Outcome → State → Prop} {XC : String → State → State → Prop} {mc ms : Nat} {free : Addr → Prop} (h : vx_Met l y ws rm Pc Qc XC mc ms free) (hx : ∀ E st t, XC E st t → False) : Met l y ws rm Pc Qc mc ms free := by
  intro p e ha hc hk s m args below hf happ hP hK
  obtain ⟨n, o, h1, h2, h3, hQ⟩ := h p e ha hc hk s m args below hf happ hP hK
  refine ⟨n, o, h1, h2, h3, ?_⟩
  rcases hQ with hQ | ⟨q, -, E, ce, L, hX, -⟩
  · exact hQ
  · exact absurd hX (hx _ _ _)
theorem Xcx.no {G : Gp} {v : Option Value} {S' : St} : ∀ E st t, Xcx G (.inl v) S' E st t → False := by
  rintro E st t ⟨-, -, ⟨h, -⟩, -⟩
  cases h
theorem okM_spec {M : Nat} (h : M < 288) : ((mname M).cls ≠ "java/lang/invoke/MethodHandle" ∧ (mname M).cls ≠ "java/lang/invoke/VarHandle") ∧ plainName (mname M).cls = true ∧ Jvm.Cond.initialized (mname M).cls ∈ gT ∧ mmax M ≤ 12 ∧
    (mn M 2 = 0 → Jvm.Cond.instanceMethod (mname M) ∈ gT ∧ Jvm.Cond.selects (mname M).cls (mname M) (mname M) ∈ gT ∧ (parseMethodDescriptor (mname M).desc).map (fun d => d.parameters.length + 1) = some (mn M 1)) ∧
    (¬ mn M 2 = 0 → Jvm.Cond.static (mname M) ∈ gT ∧ (parseMethodDescriptor (mname M).desc).map (fun d => d.parameters.length) = some (mn M 1)) := by
  have h1 := om_all M h
  unfold okM at h1
  simp only [Bool.and_eq_true, decide_eq_true_eq] at h1
  obtain ⟨⟨⟨⟨h2, h3⟩, h4⟩, h5⟩, h6⟩ := h1
  refine ⟨h2, h3, okW_in h4, Nat.le_of_ble_eq_true h5, fun e => ?_, fun e => ?_⟩
  · rw [e] at h6
    simp only [Bool.and_eq_true, decide_eq_true_eq] at h6
    exact ⟨okW_in h6.1.1, okW_in h6.1.2, h6.2⟩
  · generalize mn M 2 = z at h6 e
    match z, e, h6 with
    | 0, e, _ => exact absurd rfl e
    | 1, _, h6 =>
      simp only [Bool.and_eq_true, decide_eq_true_eq] at h6
      exact ⟨okW_in h6.1, h6.2⟩
    | n + 2, _, h6 =>
      simp only [Bool.and_eq_true, decide_eq_true_eq] at h6
      exact ⟨okW_in h6.1, h6.2⟩
theorem head_code {M : Nat} (h : M < 264) : headW M = .code (mname M) (mcode M) (mmax M) (mret M) ∧ headW M ∈ gT := by
  have e : headW M = .code (mname M) (mcode M) (mmax M) (mret M) := by
    unfold headW
    rw [cw_all M h]; rfl
  refine ⟨e, ?_⟩
  rw [e]
  exact List.mem_filter.mpr ⟨wd_in (cw_all M h), rfl⟩
theorem desc1 {o : Option MethodDescriptor} {n : Nat} (h : o.map (fun d => d.parameters.length + 1) = some (n + 1)) : o.map (fun d => d.parameters.length) = some n := by
  cases o with
  | none => cases h
  | some d => simp at h; simp [h]
theorem mcls_ok : ∀ M, M < 264 → (!(Nat.beq (mn M 2) 0) || (Nat.blt (mcls.getD M 99) 13 && decide ((clG (mcls.getD M 99)).1 = (mname M).cls))) = true := by decide +kernel
theorem rcv_spec {M : Nat} {As : List Value} (hM : M < 264) (h0 : mn M 2 = 0) (h : rcv M As = true) : ∃ j As', As = .ref j :: As' ∧ isO j (mcls.getD M 99) = true ∧ mcls.getD M 99 < 13 ∧ (clG (mcls.getD M 99)).1 = (mname M).cls := by
  have h1 := mcls_ok M hM
  rw [h0] at h1
  simp only [Bool.or_eq_true, Bool.and_eq_true, decide_eq_true_eq, Nat.blt_eq] at h1
  have h2 : Nat.blt (mcls.getD M 99) 13 = true ∧ (clG (mcls.getD M 99)).1 = (mname M).cls := by
    rcases h1 with h1 | h1
    · cases h1
    · exact ⟨Nat.blt_eq.mpr h1.1, h1.2⟩
  unfold rcv at h
  rw [h0] at h
  match As, h with
  | .ref j :: As', h => exact ⟨j, As', rfl, h, Nat.blt_eq.mp h2.1, h2.2⟩
section SND4
variable {G : Gp} {p : Program} {l : Launch} {e : Env} {R : Room} {s : State} {m : MethodId} {args : Array Value} {below : List Frame} {meth : Method} {c : Code} {cells slots : Nat} {Q : State → Prop} {M pc ct a b w u d : Nat} {k : Int32} {ls As r : List Value} {S : St} {lsA : Array Slot} {H : Heap} {locs : List Loc}
theorem pre_S (F : Fr G p l s m args meth c M) (hP : Pic G S H) (hS : va_S (gA G) s.heap H locs) : PreS s H (Pcx G As S) (As.map (cv (g_ad G))) :=
  ⟨Pcx.blind G As S, fun U hU hW => ⟨rfl, F.2.2.2.2.2.2.2.2.1.call hS hU hW, by rw [hU]; exact hP⟩⟩
theorem call_B {link : Jvm.Cond} {n : Nat} (F : Fr G p l s m args meth c M) (ha : a < 264) (hl : (Jvm.Cond.methodLink (mown M) w (mname a)) ∈ gT) (hn : (parseMethodDescriptor (mname a).desc).map (fun d => d.parameters.length) = some n) (hfr : d + 9 ≤ R.frames ∧ 40 * (d + 1) + 300 ≤ R.locals) : CallB R s args (mown M) w (mname a) (mcode a) (mmax a) (mret a) (headW a :: gT) (rmM d a) (cst a) (6 * cst a) n := by
  obtain ⟨hx, hb, hr, hml, hown, hts, -⟩ := F
  obtain ⟨h1, h2, h3, h4, h5, h6⟩ := okM_spec (show a < 288 by omega)
  obtain ⟨e, he⟩ := head_code ha
  exact callB_of n hts (gT_all (fun w hw => (List.mem_cons.mp hw).elim (fun q => by rw [q]; exact he) id)) (by rw [e]) rfl rfl (hts _ h3) (hts _ hl) ⟨h1.1, h1.2, hn⟩ ⟨hfr.1, by show 8 + (mmax a + 11) + (40 * d + 300) ≤ R.locals; omega⟩
theorem call_N {n : Nat} (F : Fr G p l s m args meth c M) (ha : a < 264) (hl : (Jvm.Cond.methodLinkNest (mown M) w (mname a) "YesNoRays") ∈ nT) (hn : (parseMethodDescriptor (mname a).desc).map (fun d => d.parameters.length) = some n) (hfr : d + 9 ≤ R.frames ∧ 40 * (d + 1) + 300 ≤ R.locals) : va_CN R s args (mown M) w (mname a) "YesNoRays" (mcode a) (mmax a) (mret a) (headW a :: gT) (rmM d a) (cst a) (6 * cst a) n := by
  obtain ⟨hx, hb, hr, hml, hown, hts, hlk, htr, hG, -⟩ := F
  obtain ⟨h1, h2, h3, h4, h5, h6⟩ := okM_spec (show a < 288 by omega)
  obtain ⟨e, he⟩ := head_code ha
  exact va_cnB n hts (gT_all (fun w hw => (List.mem_cons.mp hw).elim (fun q => by rw [q]; exact he) id)) (by rw [e]) rfl rfl (hG.2.2.1 _ hl) (hts _ h3) ⟨h1.1, h1.2, hn⟩ ⟨hfr.1, by show 8 + (mmax a + 11) + (40 * d + 300) ≤ R.locals; omega⟩
theorem room8 {pc : Nat} {lsA : Array Slot} {st : List Value} (h : r.length ≤ 4) : 2 * (F0 m pc lsA st).monitorRoom + ((r.map (cv (g_ad G))).map fun v => v.category).sum ≤ 8 := lv_room (by have := cats (g_ad G) r; omega)
theorem rcv_of (F : Fr G p l s m args meth c M) (hP : Pic G S H) {j ci : Nat} (hj : isO j ci = true) : ∃ cell : Cell, H[g_ad G j]? = some cell ∧ cell.vm.isStatics = false ∧ s.vm.findClass (clG ci).1 = some cell.cls := by
  obtain ⟨hx, hb, hr, hml, hown, hts, hlk, htr, hG, hPu, -⟩ := F
  obtain ⟨hs, hj6, ha⟩ := isO_spec hj
  have he : (wsO (g_ad G) (g_dA G) (g_nc G) S)[j]? = some (g_ad G j, .inr (ci, (List.range (nF ci)).map (fun k => cv (g_ad G) (fvi S j k)))) := by rw [wsO_at _ _ S (by have := hPu.2.1; omega), ent_O _ _ S hs]
  exact va_recv hG.2.1 hP (cl_get ha) he
theorem run_ret {Qc : Array Value → State → Outcome → State → Prop} {k1 : Nat} (F : Fr G p l s m args meth c M) (hk : okRow M (pc, ct, k1, a, b, w, u, k) = true) (hk1 : 57 ≤ k1 ∧ k1 ≤ 60) (hA : As.length = b) (hrv : rcv a As = true) (hrl : r.length ≤ 4) (hfr : d + 9 ≤ R.frames ∧ 40 * (d + 1) + 300 ≤ R.locals) (hce : cells + cst a ≤ R.cells ∧ slots + 6 * cst a ≤ R.slots) (hcon : Met l (mname a) (headW a :: gT) (rmM d a) (Pcx G As S) Qc (cst a) (6 * cst a) (gA G)) (ha : a < 264) (hl : Lh (g_ad G) lsA (mmax M) ls) (hP : Pic G S H) (hS : va_S (gA G) s.heap H locs) :
    va_Run p l e R s m args below meth c H locs cells slots (cst a) (6 * cst a) (F0 m pc lsA ((As.reverse ++ r).map (cv (g_ad G)))) (r.map (cv (g_ad G))) (Qc (As.map (cv (g_ad G))).toArray) (gA G) := by
  obtain ⟨hd, hq⟩ := okRow_spec hk
  obtain ⟨hx, hb, hr, hml, hown, hts, hrest⟩ := id F
  obtain ⟨h1, h2, h3, h4, h5, h6⟩ := okM_spec (show a < 288 by omega)
  have fix : CallFix p m c (mcode M) (mmax M) s args gT (mown M) := ⟨hx, hb, hml, hown, hts⟩
  have hstS : (As.reverse ++ r).map (cv (g_ad G)) = (As.map (cv (g_ad G))).reverse ++ r.map (cv (g_ad G)) := by rw [List.map_append, List.map_reverse]
  rcases (show k1 = 57 ∨ k1 = 58 ∨ k1 = 59 ∨ k1 = 60 by omega) with rfl | rfl | rfl | rfl
  · skip
    have hq : (okW u (.methodLink (mown M) w (mname a)) && Nat.beq (mn a 2) 0 && Nat.beq (mn a 1) b && Nat.blt a 288) = true := hq
    simp only [Bool.and_eq_true] at hq
    obtain ⟨⟨⟨q1, q2⟩, q3⟩, -⟩ := hq
    have e2 := Nat.eq_of_beq_eq_true q2
    have e3 := Nat.eq_of_beq_eq_true q3
    obtain ⟨j, As', rfl, hj, hc, hcn⟩ := rcv_spec ha e2 hrv
    obtain ⟨i1, i2, i3⟩ := h5 e2
    have hb1 : b = As'.length + 1 := by rw [← hA]; rfl
    rw [e3, hb1] at i3
    have cw : CallW R s args (mown M) (mname a).cls w (mname a) (mcode a) (mmax a) (mret a) (headW a :: gT) (rmM d a) (cst a) (6 * cst a) As'.length := ⟨call_B (link := .count 0) F ha (okW_in q1) (desc1 i3) hfr, hts _ i1, hts _ i2⟩
    have hpr : PreV s H (mname a).cls (g_ad G j) (Pcx G (.ref j :: As') S) (As'.map (cv (g_ad G))) := ⟨Pcx.blind G _ S, by rw [← hcn]; exact rcv_of F hP hj, (pre_S F hP hS).2⟩
    exact va_runV fix hcon cw hpr rfl (by simp) hl.1 (by rw [hstS]; simp [cv]) (room8 hrl) hd hce
  · skip
    have hq : (okW u (.methodLink (mown M) w (mname a)) && Nat.beq (mn a 2) 1 && Nat.beq (mn a 1) b && Nat.blt a 288) = true := hq
    simp only [Bool.and_eq_true] at hq
    obtain ⟨⟨⟨q1, q2⟩, q3⟩, -⟩ := hq
    have e2 := Nat.eq_of_beq_eq_true q2
    have e3 := Nat.eq_of_beq_eq_true q3
    obtain ⟨i1, i3⟩ := h6 (by omega)
    rw [e3] at i3
    exact va_runS fix hcon ⟨call_B (link := .count 0) F ha (okW_in q1) i3 hfr, hts _ i1⟩ (pre_S F hP hS) rfl (by simp [hA]) hl.1 hstS (room8 hrl) hd hce
  · skip
    have hq : (okN u (.methodLinkNest (mown M) w (mname a) "YesNoRays") && Nat.beq (mn a 2) 0 && Nat.beq (mn a 1) b && Nat.blt a 288) = true := hq
    simp only [Bool.and_eq_true] at hq
    obtain ⟨⟨⟨q1, q2⟩, q3⟩, -⟩ := hq
    have e2 := Nat.eq_of_beq_eq_true q2
    have e3 := Nat.eq_of_beq_eq_true q3
    obtain ⟨j, As', rfl, hj, hc, hcn⟩ := rcv_spec ha e2 hrv
    obtain ⟨i1, i2, i3⟩ := h5 e2
    have hb1 : b = As'.length + 1 := by rw [← hA]; rfl
    rw [e3, hb1] at i3
    have hpr : PreV s H (mname a).cls (g_ad G j) (Pcx G (.ref j :: As') S) (As'.map (cv (g_ad G))) := ⟨Pcx.blind G _ S, by rw [← hcn]; exact rcv_of F hP hj, (pre_S F hP hS).2⟩
    exact va_runVN fix hcon ⟨call_N F ha (okN_in q1) (desc1 i3) hfr, hts _ i1, hts _ i2⟩ hpr rfl (by simp) hl.1 (by rw [hstS]; simp [cv]) (room8 hrl) hd hce
  · skip
    have hq : (okN u (.methodLinkNest (mown M) w (mname a) "YesNoRays") && Nat.beq (mn a 2) 1 && Nat.beq (mn a 1) b && Nat.blt a 288) = true := hq
    simp only [Bool.and_eq_true] at hq
    obtain ⟨⟨⟨q1, q2⟩, q3⟩, -⟩ := hq
    have e2 := Nat.eq_of_beq_eq_true q2
    have e3 := Nat.eq_of_beq_eq_true q3
    obtain ⟨i1, i3⟩ := h6 (by omega)
    rw [e3] at i3
    exact va_runSN fix hcon ⟨call_N F ha (okN_in q1) i3 hfr, hts _ i1, trivial⟩ (pre_S F hP hS) rfl (by simp [hA]) hl.1 hstS (room8 hrl) hd hce
theorem run_thr {Qc : Array Value → State → Outcome → State → Prop} {XC : String → State → State → Prop} {k1 : Nat} (F : Fr G p l s m args meth c M) (hk : okRow M (pc, ct, k1, a, b, w, u, k) = true) (hk1 : k1 = 57 ∨ k1 = 58) (hA : As.length = b) (hrv : rcv a As = true) (hrl : r.length ≤ 4) (hfr : d + 9 ≤ R.frames ∧ 40 * (d + 1) + 300 ≤ R.locals) (hce : cells + cst a ≤ R.cells ∧ slots + 6 * cst a ≤ R.slots) (hcon : vx_Met l (mname a) (headW a :: gT) (rmM d a) (Pcx G As S) Qc XC (cst a) (6 * cst a) (gA G)) (ha : a < 264) (hl : Lh (g_ad G) lsA (mmax M) ls) (hP : Pic G S H) (hS : va_S (gA G) s.heap H locs) :
    vx_Run p l e R s m args below meth c H locs cells slots (cst a) (6 * cst a) (F0 m pc lsA ((As.reverse ++ r).map (cv (g_ad G)))) (r.map (cv (g_ad G))) (Qc (As.map (cv (g_ad G))).toArray) XC (gA G) := by
  obtain ⟨hd, hq⟩ := okRow_spec hk
  obtain ⟨hx, hb, hr, hml, hown, hts, hrest⟩ := id F
  obtain ⟨h1, h2, h3, h4, h5, h6⟩ := okM_spec (show a < 288 by omega)
  have fix : CallFix p m c (mcode M) (mmax M) s args gT (mown M) := ⟨hx, hb, hml, hown, hts⟩
  have hstS : (As.reverse ++ r).map (cv (g_ad G)) = (As.map (cv (g_ad G))).reverse ++ r.map (cv (g_ad G)) := by rw [List.map_append, List.map_reverse]
  rcases hk1 with rfl | rfl
  · have hq : (okW u (.methodLink (mown M) w (mname a)) && Nat.beq (mn a 2) 0 && Nat.beq (mn a 1) b && Nat.blt a 288) = true := hq
    simp only [Bool.and_eq_true] at hq
    obtain ⟨⟨⟨q1, q2⟩, q3⟩, -⟩ := hq
    have e2 := Nat.eq_of_beq_eq_true q2
    have e3 := Nat.eq_of_beq_eq_true q3
    obtain ⟨j, As', rfl, hj, hc, hcn⟩ := rcv_spec ha e2 hrv
    obtain ⟨i1, i2, i3⟩ := h5 e2
    have hb1 : b = As'.length + 1 := by rw [← hA]; rfl
    rw [e3, hb1] at i3
    have cw : CallW R s args (mown M) (mname a).cls w (mname a) (mcode a) (mmax a) (mret a) (headW a :: gT) (rmM d a) (cst a) (6 * cst a) As'.length := ⟨call_B (link := .count 0) F ha (okW_in q1) (desc1 i3) hfr, hts _ i1, hts _ i2⟩
    have hpr : PreV s H (mname a).cls (g_ad G j) (Pcx G (.ref j :: As') S) (As'.map (cv (g_ad G))) := ⟨Pcx.blind G _ S, by rw [← hcn]; exact rcv_of F hP hj, (pre_S F hP hS).2⟩
    exact vx_runV fix hcon cw hpr rfl (by simp) hl.1 (by rw [hstS]; simp [cv]) (room8 hrl) hd hce
  · have hq : (okW u (.methodLink (mown M) w (mname a)) && Nat.beq (mn a 2) 1 && Nat.beq (mn a 1) b && Nat.blt a 288) = true := hq
    simp only [Bool.and_eq_true] at hq
    obtain ⟨⟨⟨q1, q2⟩, q3⟩, -⟩ := hq
    have e2 := Nat.eq_of_beq_eq_true q2
    have e3 := Nat.eq_of_beq_eq_true q3
    obtain ⟨i1, i3⟩ := h6 (by omega)
    rw [e3] at i3
    exact vx_runS fix hcon ⟨call_B (link := .count 0) F ha (okW_in q1) i3 hfr, hts _ i1⟩ (pre_S F hP hS) rfl (by simp [hA]) hl.1 hstS (room8 hrl) hd hce
end SND4
