/-! the law's helpers: called by the law alone, they catch what the class throws -/
def hhs : List (List (Nat × Nat × Nat × Nat)) := [[(0, 9, 12, 13)], [(0, 9, 12, 18)], [(0, 10, 13, 18)], [(0, 16, 19, 18)], [(0, 10, 13, 18)], [(0, 9, 12, 18)], [(0, 9, 12, 18)], [(0, 9, 12, 18)], [(0, 10, 13, 18)], [(0, 12, 15, 18), (0, 12, 19, 13)], [(0, 9, 12, 18)], [(0, 16, 19, 13)], [(0, 9, 12, 18)], [(0, 9, 12, 18)], [(0, 9, 12, 18)], [(0, 9, 12, 18)], [(0, 12, 15, 18)], [(0, 9, 12, 18)], [(0, 10, 13, 18)], [(0, 9, 12, 18)], [(0, 17, 20, 18)], [(0, 9, 12, 13)], [(0, 9, 12, 13)], [(0, 9, 12, 13)]]
def hhG (M : Nat) : List (Nat × Nat × Nat × Nat) := hhs.getD (M - 264) []
set_option maxRecDepth 100000 in
theorem cx264 : wd (mn 264 3) = some (.codeWith (mname 264) (mcode 264) (mmax 264) (mret 264) (hhG 264)) := rfl
set_option maxRecDepth 100000 in
theorem cx265 : wd (mn 265 3) = some (.codeWith (mname 265) (mcode 265) (mmax 265) (mret 265) (hhG 265)) := rfl
set_option maxRecDepth 100000 in
theorem cx266 : wd (mn 266 3) = some (.codeWith (mname 266) (mcode 266) (mmax 266) (mret 266) (hhG 266)) := rfl
set_option maxRecDepth 100000 in
theorem cx267 : wd (mn 267 3) = some (.codeWith (mname 267) (mcode 267) (mmax 267) (mret 267) (hhG 267)) := rfl
set_option maxRecDepth 100000 in
theorem cx268 : wd (mn 268 3) = some (.codeWith (mname 268) (mcode 268) (mmax 268) (mret 268) (hhG 268)) := rfl
set_option maxRecDepth 100000 in
theorem cx269 : wd (mn 269 3) = some (.codeWith (mname 269) (mcode 269) (mmax 269) (mret 269) (hhG 269)) := rfl
set_option maxRecDepth 100000 in
theorem cx270 : wd (mn 270 3) = some (.codeWith (mname 270) (mcode 270) (mmax 270) (mret 270) (hhG 270)) := rfl
set_option maxRecDepth 100000 in
theorem cx271 : wd (mn 271 3) = some (.codeWith (mname 271) (mcode 271) (mmax 271) (mret 271) (hhG 271)) := rfl
set_option maxRecDepth 100000 in
theorem cx272 : wd (mn 272 3) = some (.codeWith (mname 272) (mcode 272) (mmax 272) (mret 272) (hhG 272)) := rfl
set_option maxRecDepth 100000 in
theorem cx273 : wd (mn 273 3) = some (.codeWith (mname 273) (mcode 273) (mmax 273) (mret 273) (hhG 273)) := rfl
set_option maxRecDepth 100000 in
theorem cx274 : wd (mn 274 3) = some (.codeWith (mname 274) (mcode 274) (mmax 274) (mret 274) (hhG 274)) := rfl
set_option maxRecDepth 100000 in
theorem cx275 : wd (mn 275 3) = some (.codeWith (mname 275) (mcode 275) (mmax 275) (mret 275) (hhG 275)) := rfl
set_option maxRecDepth 100000 in
theorem cx276 : wd (mn 276 3) = some (.codeWith (mname 276) (mcode 276) (mmax 276) (mret 276) (hhG 276)) := rfl
set_option maxRecDepth 100000 in
theorem cx277 : wd (mn 277 3) = some (.codeWith (mname 277) (mcode 277) (mmax 277) (mret 277) (hhG 277)) := rfl
set_option maxRecDepth 100000 in
theorem cx278 : wd (mn 278 3) = some (.codeWith (mname 278) (mcode 278) (mmax 278) (mret 278) (hhG 278)) := rfl
set_option maxRecDepth 100000 in
theorem cx279 : wd (mn 279 3) = some (.codeWith (mname 279) (mcode 279) (mmax 279) (mret 279) (hhG 279)) := rfl
set_option maxRecDepth 100000 in
theorem cx280 : wd (mn 280 3) = some (.codeWith (mname 280) (mcode 280) (mmax 280) (mret 280) (hhG 280)) := rfl
set_option maxRecDepth 100000 in
theorem cx281 : wd (mn 281 3) = some (.codeWith (mname 281) (mcode 281) (mmax 281) (mret 281) (hhG 281)) := rfl
set_option maxRecDepth 100000 in
theorem cx282 : wd (mn 282 3) = some (.codeWith (mname 282) (mcode 282) (mmax 282) (mret 282) (hhG 282)) := rfl
set_option maxRecDepth 100000 in
theorem cx283 : wd (mn 283 3) = some (.codeWith (mname 283) (mcode 283) (mmax 283) (mret 283) (hhG 283)) := rfl
set_option maxRecDepth 100000 in
theorem cx284 : wd (mn 284 3) = some (.codeWith (mname 284) (mcode 284) (mmax 284) (mret 284) (hhG 284)) := rfl
set_option maxRecDepth 100000 in
theorem cx285 : wd (mn 285 3) = some (.codeWith (mname 285) (mcode 285) (mmax 285) (mret 285) (hhG 285)) := rfl
set_option maxRecDepth 100000 in
theorem cx286 : wd (mn 286 3) = some (.codeWith (mname 286) (mcode 286) (mmax 286) (mret 286) (hhG 286)) := rfl
set_option maxRecDepth 100000 in
theorem cx287 : wd (mn 287 3) = some (.codeWith (mname 287) (mcode 287) (mmax 287) (mret 287) (hhG 287)) := rfl
theorem cx_all : ∀ M, M < 24 → wd (mn (264 + M) 3) = some (.codeWith (mname (264 + M)) (mcode (264 + M)) (mmax (264 + M)) (mret (264 + M)) (hhG (264 + M))) := fun M h => match M, h with
  | 0, _ => cx264
  | 1, _ => cx265
  | 2, _ => cx266
  | 3, _ => cx267
  | 4, _ => cx268
  | 5, _ => cx269
  | 6, _ => cx270
  | 7, _ => cx271
  | 8, _ => cx272
  | 9, _ => cx273
  | 10, _ => cx274
  | 11, _ => cx275
  | 12, _ => cx276
  | 13, _ => cx277
  | 14, _ => cx278
  | 15, _ => cx279
  | 16, _ => cx280
  | 17, _ => cx281
  | 18, _ => cx282
  | 19, _ => cx283
  | 20, _ => cx284
  | 21, _ => cx285
  | 22, _ => cx286
  | 23, _ => cx287
  | n + 24, h => absurd h (by omega)
theorem head_with {M : Nat} (h : 264 ≤ M) (h2 : M < 288) : headW M = .codeWith (mname M) (mcode M) (mmax M) (mret M) (hhG M) ∧ headW M ∈ gT ∧ wd (mn M 3) = some (.codeWith (mname M) (mcode M) (mmax M) (mret M) (hhG M)) := by
  have q := cx_all (M - 264) (by omega)
  rw [show 264 + (M - 264) = M by omega] at q
  have e : headW M = .codeWith (mname M) (mcode M) (mmax M) (mret M) (hhG M) := by
    unfold headW
    rw [q]; rfl
  refine ⟨e, ?_, q⟩
  rw [e]
  exact List.mem_filter.mpr ⟨wd_in q, rfl⟩
theorem hh_eq {y : MethodName} {bs : ByteArray} {mx : Nat} {rt : Option FieldType} {h1 h2 : List (Nat × Nat × Nat × Nat)} (h : some (Jvm.Cond.codeWith y bs mx rt h1) = some (Jvm.Cond.codeWith y bs mx rt h2)) : h2 = h1 := by
  cases h; rfl
set_option maxRecDepth 10000 in
theorem loc_ok {x d R : Nat} (h : x ≤ 12) (h2 : 40 * (d + 1) + 300 ≤ R) : 8 + (x + 11) + (40 * d + 300) ≤ R := by omega
def oneH (M : Nat) (q z : Nat × Nat × Nat × Nat) : Bool := Nat.beq q.2.2.1 z.2.1 && !(Nat.beq q.2.2.2 0) && okW (match z.1 with | 0 => 4055 | _ => 4228) (.classLink "YesNoRaysLaw" q.2.2.2 (exN z.1)) && okC (match z.1 with | 0 => 4062 | _ => 4235) (.castable (exN z.1) (exN z.1)) && Nat.blt z.2.2.1 (mmax M) &&
  (match z.2.2.2 with
    | 1 => Nat.blt z.2.2.1 4 && decide (decode (mcode M) z.2.1 = .ok (.astore_n (f4 z.2.2.1), 1))
    | 2 => decide (decode (mcode M) z.2.1 = .ok (.astore z.2.2.1, 2))
    | _ => false) &&
  (tab M).all (fun r => !(Nat.beq r.2.2.1 57) || (Nat.ble q.1 r.1 && Nat.blt r.1 q.2.1))
def hOK (M : Nat) : Bool := decide (mown M = "YesNoRaysLaw") && (match hhG M, hdl M with
  | [q], [z] => oneH M q z
  | [q, q2], [z, z2] => oneH M q z && oneH M q2 z2 && Nat.beq z.1 1 && Nat.beq z2.1 0
  | _, _ => false)
theorem hOK_all : ∀ M, M < 24 → hOK (264 + M) = true := by decide +kernel
section THR
variable {G : Gp} {p : Program} {l : Launch} {e : Env} {R : Room} {s : State} {m : MethodId} {args : Array Value} {below : List Frame} {meth : Method} {c : Code} {cells slots CB SB : Nat} {Q : State → Prop} {M pc ct a b w u d n : Nat} {k : Int32} {ls st As r : List Value} {S S' : St} {out : Out} {Qc : Array Value → State → Outcome → State → Prop}
theorem run_help {lsA : Array Slot} {H : Heap} {locs : List Loc} (F : Fr G p l s m args meth c M) (hk : okRow M (pc, ct, 61, a, b, w, u, k) = true) (hA : As.length = b) (hrl : r.length ≤ 4) (hfr : d + 9 ≤ R.frames ∧ 40 * (d + 1) + 300 ≤ R.locals) (hce : cells + cst a ≤ R.cells ∧ slots + 6 * cst a ≤ R.slots) (hcon : Met l (mname a) (headW a :: gT) (rmM d a) (Pcx G As S) Qc (cst a) (6 * cst a) (gA G)) (ha : 264 ≤ a) (ha2 : a < 288) (hl : Lh (g_ad G) lsA (mmax M) ls) (hP : Pic G S H) (hS : va_S (gA G) s.heap H locs) :
    va_Run p l e R s m args below meth c H locs cells slots (cst a) (6 * cst a) (F0 m pc lsA ((As.reverse ++ r).map (cv (g_ad G)))) (r.map (cv (g_ad G))) (Qc (As.map (cv (g_ad G))).toArray) (gA G) := by
  obtain ⟨hd, hq⟩ := okRow_spec hk
  obtain ⟨hx, hb, hr, hml, hown, hts, hrest⟩ := id F
  obtain ⟨h1, h2, h3, h4, h5, h6⟩ := okM_spec ha2
  obtain ⟨e1, e2, -⟩ := head_with ha ha2
  have hq : (okW u (.methodLink (mown M) w (mname a)) && Nat.beq (mn a 2) 2 && Nat.beq (mn a 1) b && Nat.blt a 288) = true := hq
  simp only [Bool.and_eq_true] at hq
  obtain ⟨⟨⟨q1, q2⟩, q3⟩, -⟩ := hq
  have z2 := Nat.eq_of_beq_eq_true q2
  have z3 := Nat.eq_of_beq_eq_true q3
  obtain ⟨i1, i3⟩ := h6 (by omega)
  rw [z3] at i3
  have hstS : (As.reverse ++ r).map (cv (g_ad G)) = (As.map (cv (g_ad G))).reverse ++ r.map (cv (g_ad G)) := by rw [List.map_append, List.map_reverse]
  have cw : vx_CSW R s args (mown M) w (mname a) (mcode a) (mmax a) (mret a) (hhG a) (headW a :: gT) (rmM d a) (cst a) (6 * cst a) b := by
    refine vx_cwSW (ws' := gT) b hts (gT_all (fun x hx => ?_)) (by rw [← e1]) rfl rfl ⟨h1.1, h1.2, i3⟩ ⟨hfr.1, loc_ok h4 hfr.2⟩
    rcases List.mem_append.mp hx with hx | hx
    · simp only [List.mem_cons, List.not_mem_nil, or_false] at hx
      rcases hx with rfl | rfl | rfl
      · exact okW_in q1
      · exact i1
      · exact h3
    · rcases List.mem_cons.mp hx with rfl | hx
      · exact e2
      · exact hx
  exact vx_runSW ⟨hx, hb, hml, hown, hts⟩ hcon cw (pre_S F hP hS) rfl (by simp [hA]) hl.1 hstS (room8 hrl) hd hce
theorem Lh.drop {ad : Nat → Nat} {lsA lsB : Array Slot} {n sl : Nat} {ls : List Value} {v : Value} (h : Lh ad lsA n ls) (hb : lv_has lsB n ((sl, v) :: (lvs ad ls).filter (fun q => !(q.1 == sl) && !(q.1 + 1 == sl && q.2.category == 2)))) : Lh ad lsB n (ls.take sl) := by
  refine ⟨hb.1, hb.2.1, fun i w hw => ?_⟩
  have hw2 : ls[i]? = some w ∧ i < sl := by
    rw [List.getElem?_take] at hw
    split at hw
    · next q => exact ⟨hw, q⟩
    · cases hw
  have h1 := h.2.2 i w hw2.1
  refine ⟨hb.2.2 (i, cv ad w) (List.mem_cons_of_mem _ (List.mem_filter.mpr ⟨lvs_mem hw2.1, ?_⟩)), h1.2⟩
  have h2 : (cv ad w).category = 1 := by rw [cv_cat]; exact c1_cat h1.2
  have h3 : i ≠ sl := by omega
  simp [h3, h2]
theorem catch1 (F : Fr G p l s m args meth c M) (hMo : mown M = "YesNoRaysLaw") {q9 z : Nat × Nat × Nat × Nat} {pre suf : List ExceptionTableEntry} (hsplit : c.exceptionTable.toList = pre ++ ⟨q9.1, q9.2.1, q9.2.2.1, q9.2.2.2⟩ :: suf) (hpass : ∀ y ∈ pre, covers y pc = false ∨ (y.catchType ≠ 0 ∧ ∃ nm : String, (Jvm.Cond.classLink (mown M) y.catchType nm).before args s = true ∧ va_Nc (exN z.1) nm s)) (hone : oneH M q9 z = true) {o : Nat × Nat × Nat × Nat × Int32} (hm : (pc, ct, 57, o) ∈ tab M) (K : Kt G p l e R s m args below meth c cells slots Q M (z.2.1 + z.2.2.2) (ls.take z.2.2.1) [] S) (lsA : Array Slot) (rest : List Value) (H : Heap) (locs : List Loc) (q : Nat) (ce : Cell) (hl : Lh (g_ad G) lsA (mmax M) ls) (hP : Pic G S H) (hS : va_S (gA G) s.heap H locs) (hq : H[q]? = some ce) (hv : ce.vm = .none) (hcl : s.vm.findClass (exN z.1) = some ce.cls) : vx_W p l e R s m args below meth c H locs cells slots Q (F0 m pc lsA rest) q := by
  obtain ⟨hx, hb, hr, hml, hown, hts, -⟩ := id F
  unfold oneH at hone
  simp only [Bool.and_eq_true] at hone
  obtain ⟨⟨⟨⟨⟨⟨h1, h2⟩, h3⟩, h4⟩, h5⟩, h6⟩, h7⟩ := hone
  have e1 : q9.2.2.1 = z.2.1 := Nat.eq_of_beq_eq_true h1
  have h8 := List.all_eq_true.mp h7 _ hm
  have h9 : q9.1 ≤ pc ∧ pc < q9.2.1 := by
    have h8' : (Nat.ble q9.1 pc && Nat.blt pc q9.2.1) = true := h8
    rw [Bool.and_eq_true] at h8'
    exact ⟨Nat.le_of_ble_eq_true h8'.1, Nat.blt_eq.mp h8'.2⟩
  refine vx_catch hown pre ⟨q9.1, q9.2.1, q9.2.2.1, q9.2.2.2⟩ suf hsplit hpass (by simp [covers, h9.1, h9.2]) (fun h0 => ?_) (by rw [hMo]; exact hts _ (okW_in h3)) (va_Nw.use rfl (F.2.2.2.2.2.2.2.2.1.2.2.1 _ (okC_in h4))) hq hv hcl ?_
  · have h0' : q9.2.2.2 = 0 := h0
    rw [h0'] at h2
    cases h2
  · show W p l e R s m args below meth c H locs cells slots Q (F0 m q9.2.2.1 lsA [.ref q])
    rw [e1]
    have hn : z.2.2.1 < mmax M := Nat.blt_eq.mp h5
    obtain ⟨zx, zt, zs, zl⟩ := z
    dsimp only at *
    match zl, h6, K with
    | 1, h6, K =>
      have h6 : (Nat.blt zs 4 && decide (decode (mcode M) zt = .ok (.astore_n (f4 zs), 1))) = true := h6
      rw [Bool.and_eq_true] at h6
      exact lv_astore_n hx hb (of_decide_eq_true h6.2) (f4_at h6.1) hl.has hn rfl (fun lsB hB => K lsB H locs (hl.drop hB) hP hS)
    | 2, h6, K => exact lv_astore hx hb (of_decide_eq_true h6) hl.has hn rfl (fun lsB hB => K lsB H locs (hl.drop hB) hP hS)
theorem hdl_range (hM9 : M < 289) {x : Nat × Nat × Nat × Nat} (hh : x ∈ hdl M) : 264 ≤ M ∧ M < 288 := by
  refine ⟨?_, ?_⟩
  · rcases Nat.lt_or_ge M 264 with q | q
    · rw [hdl_low M q] at hh; cases hh
    · exact q
  · rcases Nat.lt_or_ge M 288 with q | q
    · exact q
    · have : M = lawM := by show M = 288; omega
      rw [this, hdl_law] at hh
      cases hh
theorem s_catch (F : Fr G p l s m args meth c M) (hT : Tb M c) {o : Nat × Nat × Nat × Nat × Int32} (hm : (pc, ct, 57, o) ∈ tab M) {x t sl ln : Nat} (hh : (x, t, sl, ln) ∈ hdl M) (K : Kt G p l e R s m args below meth c cells slots Q M (t + ln) (ls.take sl) [] S) : ∀ (lsA : Array Slot) (rest : List Value) (H : Heap) (locs : List Loc) (q : Nat) (ce : Cell), Lh (g_ad G) lsA (mmax M) ls → Pic G S H → va_S (gA G) s.heap H locs → H[q]? = some ce → ce.vm = .none → s.vm.findClass (exN x) = some ce.cls → vx_W p l e R s m args below meth c H locs cells slots Q (F0 m pc lsA rest) q := by
  intro lsA rest H locs q ce hl hP hS hq hv hcl
  obtain ⟨hM1, hM2⟩ := hdl_range F.2.2.2.2.2.2.2.2.2.2.1 hh
  obtain ⟨hh0, hw, htab⟩ := hT.2 hM1 hM2
  have e0 : hh0 = hhG M := by
    exact hh_eq ((head_with hM1 hM2).2.2.symm.trans hw)
  rw [e0] at htab
  have hok := hOK_all (M - 264) (by omega)
  rw [show 264 + (M - 264) = M by omega] at hok
  unfold hOK at hok
  rw [Bool.and_eq_true] at hok
  have hMo : mown M = "YesNoRaysLaw" := of_decide_eq_true hok.1
  have hok := hok.2
  have hNc : va_Nc "java/lang/IllegalArgumentException" "java/util/NoSuchElementException" s := F.2.2.2.2.2.2.2.2.1.2.2.2.2.2.2.2.2.2
  generalize hhG M = hg at hok htab
  generalize hdl M = hz at hok hh
  match hg, hz, hok, htab, hh with
  | [q0], [z0], hok, htab, hh =>
    have e : (x, t, sl, ln) = z0 := by simpa using hh
    subst e
    exact catch1 F hMo (pre := []) (suf := []) (q9 := q0) (z := (x, t, sl, ln)) htab (fun y hy => by cases hy) hok hm K lsA rest H locs q ce hl hP hS hq hv hcl
  | [q0, q1], [z0, z1], hok, htab, hh =>
    have hok : (oneH M q0 z0 && oneH M q1 z1 && Nat.beq z0.1 1 && Nat.beq z1.1 0) = true := hok
    simp only [Bool.and_eq_true] at hok
    obtain ⟨⟨⟨o1, o2⟩, o3⟩, o4⟩ := hok
    rcases (show (x, t, sl, ln) = z0 ∨ (x, t, sl, ln) = z1 by simpa using hh) with e | e
    · subst e
      exact catch1 F hMo (pre := []) (suf := [⟨q1.1, q1.2.1, q1.2.2.1, q1.2.2.2⟩]) (q9 := q0) (z := (x, t, sl, ln)) htab (fun y hy => by cases hy) o1 hm K lsA rest H locs q ce hl hP hS hq hv hcl
    · subst e
      refine catch1 F hMo (pre := [⟨q0.1, q0.2.1, q0.2.2.1, q0.2.2.2⟩]) (suf := []) (q9 := q1) (z := (x, t, sl, ln)) htab (fun y hy => ?_) o2 hm K lsA rest H locs q ce hl hP hS hq hv hcl
      have hy : y = ⟨q0.1, q0.2.1, q0.2.2.1, q0.2.2.2⟩ := by simpa using hy
      subst hy
      have hx0 : x = 0 := Nat.eq_of_beq_eq_true o4
      have hz0 : z0.1 = 1 := Nat.eq_of_beq_eq_true o3
      unfold oneH at o1
      simp only [Bool.and_eq_true] at o1
      obtain ⟨⟨⟨⟨⟨⟨h1, h2⟩, h3⟩, h4⟩, h5⟩, h6⟩, h7⟩ := o1
      refine Or.inr ⟨fun h0 => ?_, exN z0.1, by rw [hMo]; exact F.2.2.2.2.2.1 _ (okW_in h3), ?_⟩
      · have h0' : q0.2.2.2 = 0 := h0
        rw [h0'] at h2
        cases h2
      · rw [hz0]
        show va_Nc (exN x) _ s
        rw [hx0]
        exact hNc
  | [], _, hok, _, _ => cases hok
  | [_], [], hok, _, _ => cases hok
  | [_], _ :: _ :: _, hok, _, _ => cases hok
  | [_, _], [], hok, _, _ => cases hok
  | [_, _], [_], hok, _, _ => cases hok
  | [_, _], _ :: _ :: _ :: _, hok, _, _ => cases hok
  | _ :: _ :: _ :: _, _, hok, _, _ => cases hok
theorem con_help (hN : SndN l n) (htr : l.stackTraces = false) (hM : 264 ≤ M) (hM2 : M < 288) (hE : EvN n d (cst M) M 0 As [] S out S') (hsc : Scr G S) (hPu : Pur G) (h67 : g_nc G = 67) (hc : ∀ v ∈ As, c1 v = true) (hA : As.length = mn M 1) : Con l G d M As S out S' := by
  obtain ⟨h1, h2, h3, h4, h5, h6⟩ := okM_spec hM2
  obtain ⟨e, he, hwd⟩ := head_with hM hM2
  have hne : hdl M ≠ [] := by
    have hok := hOK_all (M - 264) (by omega)
    rw [show 264 + (M - 264) = M by omega] at hok
    intro q
    unfold hOK at hok
    rw [Bool.and_eq_true, q] at hok
    have h9 := hok.2
    revert h9
    generalize hhG M = hg
    intro h9
    match hg, h9 with
    | [], h9 => cases h9
    | [_], h9 => cases h9
    | [_, _], h9 => cases h9
    | _ :: _ :: _ :: _, h9 => cases h9
  refine vx_ofWH (cc := mcode M) (maxL := mmax M) (ret := mret M) (hh := hhG M) h2 (by rw [e]) ?_
  intro p ev s m args below meth c s₁ B hml hv
  obtain ⟨rfl, hG, hP⟩ := hv
  have hts := atoms_spec (ws := headW M :: gT) B.pre
  have hlocks := B.notSynchronized
  have hr := B.returns
  have hb := B.bytes
  have hx := B.exec
  have htab : c.exceptionTable.toList = tableOf (hhG M)   := vx_table (x := mname M) B (by rw [← e]; exact hts _ List.mem_cons_self)
  have F : Fr G p l s m (As.map (cv (g_ad G))).toArray meth c M := ⟨hx, hb, hr, hml, findClass_of_methodNamed B.named, fun w hw => hts w (List.mem_cons_of_mem _ hw), hlocks, htr, hG, hPu, by omega, fun _ => h67, fun q => absurd q (by have : lawM = 288 := rfl; omega)⟩
  rw [lg_entry_eq]
  refine hN G p ev (rmM d M) s m _ below meth c 0 0 (cst M) (6 * cst M) d (cst M) M 0 _ As [] S out S' hE F ⟨fun q => absurd q hne, fun _ _ => ⟨hhG M, hwd, htab⟩⟩ hsc (Nat.le_refl _) (Nat.le_refl _) (by omega) (by omega) (Nat.le_refl _) (Nat.le_refl _) ?_ ?_ ?_ ?_ _ s.heap [] (Lh.entry (by rw [hA]; exact Nat.le_of_ble_eq_true (args_max M (by omega))) hc) hP va_S.rf
  · intro x ho pcR lsA H locs cells' slots' hd hre hP' hS hc1 hc2
    subst ho
    refine W.widen hc1 hc2 (vx_ret ?_)
    have hq : ∀ t : State, t.heap = H → s.WarmedH t.vm → Qcx G (.inl (some (.int x))) S' (As.map (cv (g_ad G))).toArray s (.returned (some (.int x))) t := fun t ht _ => ⟨⟨x, (), rfl, rfl, by show Pic G S' t.heap; rw [ht]; exact hP'⟩, hS.F ht⟩
    rcases hre with hre | ⟨hre, h01⟩
    · exact W.iret hx hb (by rw [hr, hre]) hq hS.2.2 hd
    · exact W.zret (ty := .boolean) hx hb (by rw [hr, hre]) (by rcases h01 with rfl | rfl <;> decide +kernel) hq hS.2.2 hd
  · intro ho pcR lsA H locs cells' slots' hd hre hP' hS hc1 hc2
    subst ho
    refine W.widen hc1 hc2 (vx_ret ?_)
    exact W.vret hx hb (by rw [hr, hre]) (fun t ht _ => ⟨⟨(), rfl, trivial, by show Pic G S' t.heap; rw [ht]; exact hP'⟩, hS.F ht⟩) hS.2.2 hd
  · intro X ho pcR lsA rest H locs cells' slots' q ce hP' hS hq hv hcl hc1 hc2 hz
    exact absurd hz hne
  · intro _ hz
    exact absurd hz hne
theorem s_throw (F : Fr G p l s m args meth c M) (hexc : ∀ x ∈ c.exceptionTable.toList, False) (hR : 8 ≤ R.frames ∧ 300 ≤ R.locals) (hm : (pc, ct, 56, a, b, w, u, k) ∈ tab M) (hce : cells + 1 ≤ CB) (hsl : slots + 6 ≤ SB) (hCB : CB ≤ R.cells) (hSB : SB ≤ R.slots) (hst : st.length ≤ 4) : Kt G p l e R s m args below meth c cells slots (vx_MQ below Qc (Xcx G (.inr (exN a)) S) args s CB SB (gA G)) M pc ls st S := by
  intro lsA H locs hl hP hS
  obtain ⟨hx, hb, hr, hml, hown, hts, hlk, htr, hG, hPu, hM9, -⟩ := id F
  have hk := row_ok hM9 hm
  obtain ⟨hd, hq⟩ := okRow_spec hk
  have h1 := List.all_eq_true.mp (thOK_all M hM9) _ hm
  have h1 : (Nat.blt a 2 && Nat.beq w (exX a).2.2.1 && Nat.beq u (exX a).2.2.2) = true := h1
  simp only [Bool.and_eq_true] at h1
  obtain ⟨⟨ha, hw⟩, hu⟩ := h1
  have ha : a < 2 := Nat.blt_eq.mp ha
  have hw : w = (exX a).2.2.1 := Nat.eq_of_beq_eq_true hw
  have hu : u = (exX a).2.2.2 := Nat.eq_of_beq_eq_true hu
  have h2 := thM_all M hM9
  unfold thM at h2
  have h2 := List.all_eq_true.mp h2 _ hm
  have hMo : mown M = "YesNoRays" := by
    have h3 : decide (mown M = "YesNoRays") = true := h2
    exact of_decide_eq_true h3
  have h3 := List.all_eq_true.mp (sT_find M hM9) _ hm
  have h3 : (List.range 53).any (fun i => decide ((sTab.getD i sT0).1 = "YesNoRays") && Nat.beq (sTab.getD i sT0).2.1 b) = true := h3
  obtain ⟨i, hi, hi2⟩ := List.any_eq_true.mp h3
  simp only [Bool.and_eq_true, decide_eq_true_eq] at hi2
  have hi := List.mem_range.mp hi
  have hstr := hG.2.2.2.1 i hi
  rw [hi2.1, Nat.eq_of_beq_eq_true hi2.2] at hstr
  rw [hMo] at hown
  have hwords := tx_all ha
  have hcat := cats (g_ad G) st
  have hcl : (Jvm.Cond.classLink "YesNoRays" w (exN a)).before args s = true ∧ vx_ot (Jvm.Cond.classLink "YesNoRays" w (exN a)) = true ∧ (Jvm.Cond.initialized (exN a)).before args s = true ∧ vx_ot (Jvm.Cond.initialized (exN a)) = true ∧ Bundle.fit (exN a) = true := by
    rw [hw]
    match a, ha with
    | 0, _ => exact ⟨hts _ (okW_in (jE_ok _ (List.mem_of_getElem? (i := 0) rfl)).1), (jE_ok _ (List.mem_of_getElem? (i := 0) rfl)).2, hts _ (okW_in (jE_ok _ (List.mem_of_getElem? (i := 2) rfl)).1), (jE_ok _ (List.mem_of_getElem? (i := 2) rfl)).2, ex_fit.1⟩
    | 1, _ => exact ⟨hts _ (okW_in (jE_ok _ (List.mem_of_getElem? (i := 1) rfl)).1), (jE_ok _ (List.mem_of_getElem? (i := 1) rfl)).2, hts _ (okW_in (jE_ok _ (List.mem_of_getElem? (i := 3) rfl)).1), (jE_ok _ (List.mem_of_getElem? (i := 3) rfl)).2, ex_fit.2.1⟩
  have hrx : decode (exX a).2.1 0 = .ok (.aload_n 0, 1) ∧ decode (exX a).2.1 1 = .ok (.aload_n 1, 1) ∧ decode (exX a).2.1 2 = .ok (.invokespecial (exX a).1, 3) ∧ decode (exX a).2.1 5 = .ok (.return_, 1) := by
    match a, ha with
    | 0, _ => decide +kernel
    | 1, _ => decide +kernel
  have hq2 := hq
  unfold okL at hq2
  simp only [Bool.and_eq_true] at hq2
  have hdec : ∃ n, ((decode (mcode M) (pc + 4) = .ok (.ldc b, 2) ∧ n = 6) ∨ (decode (mcode M) (pc + 4) = .ok (.ldc_w b, 3) ∧ n = 7)) ∧ decode (mcode M) (pc + 3) = .ok (.dup, 1) ∧ decode (mcode M) (pc + n) = .ok (.invokespecial u, 3) ∧ decode (mcode M) (pc + n + 3) = .ok (.athrow, 1) := by
    have h4 := hq2.2
    cases hkk : (k == 0) with
    | true =>
      rw [hkk] at h4
      simp only [Bool.and_eq_true, decide_eq_true_eq] at h4
      exact ⟨6, Or.inl ⟨h4.1.1.2, rfl⟩, h4.1.1.1, h4.1.2, h4.2⟩
    | false =>
      rw [hkk] at h4
      simp only [Bool.and_eq_true, decide_eq_true_eq] at h4
      exact ⟨7, Or.inr ⟨h4.1.1.2, rfl⟩, h4.1.1.1, h4.1.2, h4.2⟩
  obtain ⟨n9, hd4, hd3, hd6, hd9⟩ := hdec
  refine tx_throw (A := gA G) (own := "YesNoRays") (cls := exN a) (Y := "java/lang/RuntimeException") (r := ["java/lang/Exception"]) (ix := (exX a).1) (rx := (exX a).2.1) hx hb htr hrx.1 hrx.2.1 hrx.2.2.1 hrx.2.2.2 hown hcl.2.2.2.2 ex_fit.2.2.1 ex_fit.2.2.2 hcl.1 hcl.2.2.1 hstr (ic := u) ?_ ?_ hG.2.2.2.2.2.1 hG.2.2.2.2.2.2.1 hS (by rw [hml, hl.1]) hd hd3 hd4 hd6 hd9 (fun x hx => (hexc x hx).elim) (by show 1 + 4 < _; omega) (by show _ + (13 * (1 + 2) + 43) ≤ _; omega) (by omega) (by omega) hlk ?_ hS.2.2 hce hsl
  · intro z hz
    rw [hu] at hz
    rcases (hwords z hz).1 with q | q
    · exact hts z q
    · exact va_Nw.use (nest_tab (List.mem_filter.mp q).2) (hG.2.2.1 z q)
  · intro z hz
    rcases List.mem_cons.mp hz with rfl | hz
    · exact hcl.2.1
    · rcases List.mem_cons.mp hz with rfl | hz
      · exact hcl.2.2.2.1
      · rw [hu] at hz
        exact (hwords z hz).2
  · intro t _ h5 h6
    exact ⟨(), trivial, ⟨rfl, hP.kept h6⟩, Nat.le_trans hS.1 h5, fun q h7 h8 => by rw [h6 q (Nat.lt_of_lt_of_le h7 hS.1)]; exact hS.2.1 q h7 h8⟩
end THR
/-- calls go to the class's and the reference's methods; the law's helpers are called by the law alone -/
def callOK (M : Nat) (r : Row) : Bool := match r.2.2.1 with
  | 57 => Nat.blt r.2.2.2.1 264
  | 58 => Nat.blt r.2.2.2.1 264
  | 59 => Nat.blt r.2.2.2.1 264
  | 60 => Nat.blt r.2.2.2.1 264
  | 61 => Nat.beq M 288 && Nat.ble 264 r.2.2.2.1 && Nat.blt r.2.2.2.1 288
  | _ => true
theorem callOK_all : ∀ M, M < 289 → (tab M).all (callOK M) = true := by decide +kernel
