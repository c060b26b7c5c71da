def craw (o : Opn) : Instr := match o.1 with
  | 0 => rawOf o 0
  | 4 => .aload_n (f4 o.2.1)
  | 14 => .dup
  | 17 => .getfield o.2.2.2.1
  | 72 => .putfield o.2.2.2.1
  | 70 => .new o.2.2.2.1
  | 71 => .newarray (([.int, .byte, .long] : List ArrayType).getD o.2.1 .int)
  | 73 => .invokespecial o.2.2.2.1
  | 74 => .invokespecial o.2.2.2.1
  | 55 => .return_
  | 75 => .invokevirtual o.2.2.2.1
  | 76 => .astore_n (f4 o.2.1)
  | _ => .nop
def cF (own : String) (o : Opn) : Bool := match clT[o.2.1]? with
  | none => false
  | some q => Nat.blt o.2.2.1 q.2.2 && decide ((q.2.1 o.2.2.1).1 = q.1) &&
    (match o.2.2.2.2.2 == 0 with
      | true => okW o.2.2.2.2.1 (.fieldLink own o.2.2.2.1 q.1 (q.2.1 o.2.2.1).2.1 (q.2.1 o.2.2.1).2.2.1)
      | false => false)
def cL (M : Nat) (o : Opn) : Bool := match o.1 with
  | 0 => (match o.2.1 with
    | 0 => true
    | 1 => decide ((Int8.ofInt o.2.2.2.2.2.toInt).toInt32 = o.2.2.2.2.2)
    | 2 => decide ((Int16.ofInt o.2.2.2.2.2.toInt).toInt32 = o.2.2.2.2.2)
    | 3 => okW o.2.2.2.2.1 (.constant (cown M) o.2.2.2.1 o.2.2.2.2.2)
    | 4 => okW o.2.2.2.2.1 (.constant (cown M) o.2.2.2.1 o.2.2.2.2.2)
    | _ => false)
  | 4 => Nat.blt o.2.1 4
  | 17 => Nat.blt o.2.1 13 && cF (cown M) o
  | 72 => Nat.blt o.2.1 13 && Nat.blt M 13 && cF (cown M) o && decide ((clG o.2.1).1 = cown M)
  | 70 => Nat.blt o.2.1 13 && okW o.2.2.2.2.1 (.classLink (cown M) o.2.2.2.1 (clG o.2.1).1) && okW (cn o.2.1 8) (.instantiable (clG o.2.1).1 (clG o.2.1).2.2) && okW (cn o.2.1 6) (.initialized (clG o.2.1).1)
  | 73 => okW o.2.2.2.2.1 (.methodLink (cown M) o.2.2.2.1 Lib.objectInit)
  | 74 => Nat.beq (cn o.2.1 1) o.2.2.1 && (match o.2.2.2.2.2 == 0 with
      | true => okW o.2.2.2.2.1 (.methodLink (cown M) o.2.2.2.1 (cname o.2.1))
      | false => okN o.2.2.2.2.1 (.methodLinkNest (cown M) o.2.2.2.1 (cname o.2.1) "YesNoRays"))
  | 76 => Nat.blt o.2.1 4 && Nat.blt o.2.1 (cmax M)
  | _ => true
def cOK (M : Nat) (r : Nat × Opn) : Bool := decide (decode (ccode M) r.1 = .ok (craw r.2, clen r.2)) && cL M r.2
theorem ctk : ∀ M, M < 14 → (ctab M).all (cOK M) = true := by decide +kernel
def cM (M : Nat) : Bool := decide ((cname M).cls ≠ "java/lang/invoke/MethodHandle" ∧ (cname M).cls ≠ "java/lang/invoke/VarHandle") && plainName (cname M).cls && okW (cn M 6) (.initialized (cname M).cls) && okW (cn M 4) (.instanceMethod (cname M)) && Nat.ble (cmax M) 12 && decide ((cname M).name = "<init>") && decide ((parseMethodDescriptor (cname M).desc).map (fun d => d.parameters.length + 1) = some (cn M 1)) && Nat.ble (cn M 1) (cmax M) && decide ((clG M).1 = cown M) && decide (cret M = none)
theorem cM_all : ∀ M, M < 13 → cM M = true := by decide +kernel
theorem ccw : ∀ M, M < 13 → wd (cn M 3) = some (.code (cname M) (ccode M) (cmax M) none) := fun M h => match M, h with
  | 0, _ => rfl
  | 1, _ => rfl
  | 2, _ => rfl
  | 3, _ => rfl
  | 4, _ => rfl
  | 5, _ => rfl
  | 6, _ => rfl
  | 7, _ => rfl
  | 8, _ => rfl
  | 9, _ => rfl
  | 10, _ => rfl
  | 11, _ => rfl
  | 12, _ => rfl
  | n + 13, h => absurd h (by omega)
def jO : List (Nat × Jvm.Cond) := [(1032, .instanceMethod Lib.objectInit), (1033, .code Lib.objectInit ⟨#[0xb1]⟩ 1 none), (1103, .arrayClass .int), (1066, .arrayClass .byte), (9101, .arrayClass .long)]
theorem jO_ok : ∀ q ∈ jO, okW q.1 q.2 = true := by decide +kernel
theorem jO_in (i : Nat) {q : Nat × Jvm.Cond} (h : jO[i]? = some q) : q.2 ∈ gT := okW_in (jO_ok q (List.mem_of_getElem? h))
abbrev tyD (dA : Nat → ClassId) : List (ClassId × FieldType) := [(dA 0, .int), (dA 1, .byte), (dA 2, .long)]
/-- a constructor's frame -/
def CFr (sz : Nat) (ad : Nat → Nat) (D : va_G) (dA : Nat → ClassId) (p : Program) (s : State) (m : MethodId) (args : Array Value) (meth : Method) (c : Code) (M : Nat) : Prop :=
  p.tables.exec = Jvm.exec ∧ c.code = ccode M ∧ meth.sig.returnType = cret M ∧ c.maxLocals = cmax M ∧ s.vm.findClass (cown M) = some m.cls ∧ (∀ w ∈ gT, w.before args s = true) ∧ meth.locks = false ∧ (M < 13 → meth.name = "<init>") ∧ va_K D clT (tyD dA) s ∧ (∀ w ∈ nT, va_Nw w s) ∧ sz ≤ s.heap.size ∧ M < 14 ∧ (∀ j, j < 3000 → ad j = sz + j)
def CKt (sz : Nat) (ad : Nat → Nat) (D : va_G) (dA : Nat → ClassId) (p : Program) (l : Launch) (e : Env) (R : Room) (s : State) (m : MethodId) (args : Array Value) (below : List Frame) (meth : Method) (c : Code) (n0 z0 : Nat) (Q : State → Prop) (M pc : Nat) (ls st : List Value) (cs : List CE) : Prop :=
  ∀ (lsA : Array Slot) (H : Heap) (locs : List Loc), Lh ad lsA (cmax M) ls → va_P D clT (wsC sz ad dA cs) H → H.size = sz + cs.length → va_S (fun q => sz ≤ q) s.heap H locs → W p l e R s m args below meth c H locs (cs.length - n0) (czs cs - z0) Q (F0 m pc lsA (st.map (cv ad)))
theorem cOK_spec {M pc : Nat} {o : Opn} (hM : M < 14) (h : (pc, o) ∈ ctab M) : decode (ccode M) pc = .ok (craw o, clen o) ∧ cL M o = true := by
  have h1 := List.all_eq_true.mp (ctk M hM) _ h
  unfold cOK at h1
  rw [Bool.and_eq_true] at h1
  exact ⟨of_decide_eq_true h1.1, h1.2⟩
theorem clook_mem : ∀ (t : List (Nat × Opn)) (pc : Nat) (o : Opn), clook t pc = some o → (pc, o) ∈ t := by
  intro t
  induction t with
  | nil => intro pc o h; cases h
  | cons r t ih =>
    intro pc o h
    unfold clook at h
    cases e : Nat.beq r.1 pc with
    | true =>
      rw [e] at h
      have h1 : r.1 = pc := Nat.eq_of_beq_eq_true e
      have h2 : r.2 = o := Option.some.inj h
      have h3 : r = (pc, o) := by rw [← h1, ← h2]
      rw [h3]
      exact List.mem_cons_self
    | false => rw [e] at h; exact List.mem_cons_of_mem _ (ih pc o h)
theorem czs_app (cs : List CE) (c : CE) : czs (cs ++ [c]) = czs cs + cz c := by
  unfold czs; simp
theorem czs_set {cs : List CE} {j : Nat} {c c' : CE} (h : cs[j]? = some c) (hz : cz c' = cz c) : czs (cs.set j c') = czs cs := by
  unfold czs
  rw [List.map_set, hz]
  have h2 : (cs.map cz)[j]? = some (cz c) := by simp [h]
  clear h
  generalize cs.map cz = L at h2
  induction L generalizing j with
  | nil => rfl
  | cons x L ih =>
    cases j with
    | zero => simp at h2; simp [h2]
    | succ j => simp at h2; simp [ih h2]
theorem cF_spec {own : String} {o : Opn} (ha : o.2.1 < 13) (h : cF own o = true) : o.2.2.1 < (clG o.2.1).2.2 ∧ ((clG o.2.1).2.1 o.2.2.1).1 = (clG o.2.1).1 ∧ Jvm.Cond.fieldLink own o.2.2.2.1 (clG o.2.1).1 ((clG o.2.1).2.1 o.2.2.1).2.1 ((clG o.2.1).2.1 o.2.2.1).2.2.1 ∈ gT := by
  unfold cF at h
  rw [cl_get ha] at h
  simp only [Bool.and_eq_true] at h
  obtain ⟨⟨h1, h2⟩, h3⟩ := h
  refine ⟨Nat.blt_eq.mp h1, of_decide_eq_true h2, ?_⟩
  cases hn : (o.2.2.2.2.2 == 0) with
  | true => rw [hn] at h3; exact okW_in h3
  | false => rw [hn] at h3; cases h3
theorem tyFit_ok {ad : Nat → Nat} {v : Value} {t : FieldType} (h : tyFit v t = true) : narrow t (cv ad v) = cv ad v ∧ fits t (cv ad v) = true := by
  unfold tyFit at h
  split at h
  · exact ⟨rfl, rfl⟩
  · next x =>
    simp only [Bool.or_eq_true, beq_iff_eq] at h
    rcases h with rfl | rfl
    · exact (show narrow .boolean (.int 0) = .int 0 ∧ fits .boolean (.int 0) = true by decide +kernel)
    · exact (show narrow .boolean (.int 1) = .int 1 ∧ fits .boolean (.int 1) = true by decide +kernel)
  · exact ⟨rfl, rfl⟩
  · exact ⟨rfl, rfl⟩
  · cases h
/-- putfield in a constructor, final or not, with the heap's size (over the kit's own W.putK, W.putFinK) -/
theorem na_put {p : Program} {l : Launch} {e : Env} {R : Room} {s : State} {m : MethodId} {args : Array Value} {below : List Frame} {meth : Method} {c : Code} {H : Heap} {locs : List Loc} {cells slots : Nat} {Q : State → Prop} {cc : ByteArray} {pc : Nat} {lsA : Array Slot} {rest : List Value} {D : va_G} {cl : List vw_C} {A : Nat → Prop} {a : Nat} {tys : List (ClassId × FieldType)} {ws : va_W} {H0 : Heap} (hexec : p.tables.exec = Jvm.exec) (hb : c.code = cc) {own ref C : String} {T : u_T} {N ci index : Nat} {Ts : List Jvm.Cond} (hts : ∀ w ∈ Ts, w.before args s = true) (hin : ∀ w ∈ u_ws C T N, w ∈ Ts) (ty0 : Nat → FieldType) (hty : ∀ k, k < N → parseFieldDescriptor (T k).2.2.1 = some (ty0 k)) (hnm : ∀ a, a < N → ∀ b, b < N → a ≠ b → (T a).2.1 ≠ (T b).2.1) (hown : s.vm.findClass own = some m.cls) (hK : va_K D cl tys s) (hP : va_P D cl ws H) (hD : va_D A ws) (hS0 : va_S A H0 H locs) (q0 : Nat) {fs : List Value} (he : ws[q0]? = some (a, .inr (ci, fs))) (hc : cl[ci]? = some (C, T, N)) (k : Nat) (hk : k < N) (hlink : (Jvm.Cond.fieldLink own index ref (T k).2.1 (T k).2.2.1).before args s = true) (hsame : ∀ x, s.fieldFound? (T k).1 (T k).2.1 (T k).2.2.1 = some x → s.fieldFound? ref (T k).2.1 (T k).2.2.1 = some x) (hin2 : meth.name = "<init>") (hdecl : (T k).1 = own) {ty : FieldType} {v : Value} (hd : parseFieldDescriptor (T k).2.2.1 = some ty) (hn : narrow ty v = v) (hfit : fits ty v = true) (hl : k < fs.length)
    (hdg : decode cc pc = .ok (.putfield index, 3)) (kk : ∀ (H1 : Heap) (locs1 : List Loc), H1.size = H.size → va_P D cl (ws.set q0 (a, .inr (ci, fs.set k v))) H1 → va_S A H0 H1 locs1 → W p l e R s m args below meth c H1 locs1 cells slots Q (F0 m (pc + 3) lsA rest)) : W p l e R s m args below meth c H locs cells slots Q (F0 m pc lsA (v :: .ref a :: rest)) := by
  have hap := va_apart (own := own) hts hin ty0 hty hnm hK hc
  obtain ⟨r, h1, cell, q1, q2, q3, q4⟩ := hP q0 _ he
  have hr : r = (C, T, N) := Option.some.inj (h1.symm.trans hc)
  subst hr
  obtain ⟨hS, hfc, kC, hkC, hkind⟩ := hK.1 ci _ hc
  obtain ⟨cf, kf, fi, f, hi, hsl⟩ := hS k hk
  have hlay := hts _ (hin _ (u_in_lay hk))
  have hst := (u_facts hfc hkC (u_lays hts hin hk) hi).1
  have fin : ∀ H' : Heap, H'[a]? = some (cell.setSlot f.slot v) → H'.size = H.size → (∀ q, q ≠ a → H'[q]? = H[q]?) → W p l e R s m args below meth c H' (locs ++ [⟨a, f.slot⟩]) cells slots Q (F0 m (pc + 3) lsA rest) := by
    intro H' e1 e2 e3
    rw [hsl] at e1 ⊢
    exact kk H' _ e2 (hP.set hD he ⟨_, hc, t_OB.to (V := updV (vp_V fs) k v) ⟨_, e1, q2, q3, t_set q4 hap hk v⟩ (fun j _ => vp_updV_set hl v j)⟩ e3) (hS0.put e2 e3 (hD.2 q0 _ he))
  unfold u_lay at hlay
  by_cases hfin : (T k).2.2.2 = true
  · rw [if_pos hfin] at hlay
    have hcf : m.cls = cf := by
      obtain ⟨_, _, c', _, _, _, -, -, hf', -, -, -, hown2, -⟩ := Cond.laysFinal_spec hlay
      have e1 : c' = cf := by have := hi.symm.trans hf'; simp at this; exact this.1.symm
      rw [hdecl] at hown2
      rw [← e1]; exact Option.some.inj (hown.symm.trans hown2)
    have h6 := u_fits hfc hkC hkind (Or.inr hlay) hi hd hn hfit
    exact W.putFinK hexec hb hown hlink (hsame _ hi) hst hcf hin2 (by rw [q2]; exact h6) q1 q3 (by rw [hsl]; exact k2_hasslot (q4 k hk)) rfl rfl hdg fin
  · rw [if_neg hfin] at hlay
    have h6 := u_store hfc hkC hkind hlay hi hd hn hfit
    exact W.putK hexec hb (f := f) ⟨hown, hlink, ⟨_, _, _, hsame _ hi⟩, hst⟩ (by rw [q2]; exact h6) q1 q3 (by rw [hsl]; exact k2_hasslot (q4 k hk)) rfl rfl hdg fin
section CSND
variable {sz : Nat} {ad : Nat → Nat} {D : va_G} {dA : Nat → ClassId} {p : Program} {l : Launch} {e : Env} {R : Room} {s : State} {m : MethodId} {args : Array Value} {below : List Frame} {meth : Method} {c : Code} {n0 z0 : Nat} {Q : State → Prop} {M pc a b w u j : Nat} {z n : Int32} {v : Value} {o : Opn} {ls st r ls' st' : List Value} {cs cs' : List CE}
set_option maxHeartbeats 1000000 in
theorem c_op0 (F : CFr sz ad D dA p s m args meth c M) (hm : (pc, 0, a, b, w, u, z) ∈ ctab M) (hn0 : n0 ≤ cs.length) (hz0 : z0 ≤ czs cs) (hcell : cs'.length - n0 ≤ R.cells) (hslot : czs cs' - z0 ≤ R.slots) (hR : 1 ≤ R.frames ∧ 100 ≤ R.locals) (hcl : cs.length < 2900) (h : some (ls, .int z :: st, cs) = some (ls', st', cs')) (K : CKt sz ad D dA p l e R s m args below meth c n0 z0 Q M (pc + clen (0, a, b, w, u, z)) ls' st' cs') : CKt sz ad D dA p l e R s m args below meth c n0 z0 Q M pc ls (st) cs := by
  intro lsA H locs hl hP hH hS
  obtain ⟨hx, hb, hr, hml, hown, hts, hlk, hin, hK, hnT, hsz, hM, had⟩ := F
  obtain ⟨hd, hq⟩ := cOK_spec hM hm
  have hA : ∀ q, s.heap.size ≤ q → sz ≤ q := fun q hq => Nat.le_trans hsz hq
  cases h
  have K := K lsA H locs hl hP hH hS
  match a, hd, hq, K with
  | 0, hd, hq, K => exact lv_iconst hx hb hd (Int32.ofInt_toInt z) K
  | 1, hd, hq, K => exact lv_bipush hx hb hd (of_decide_eq_true hq) K
  | 2, hd, hq, K => exact lv_sipush hx hb hd (of_decide_eq_true hq) K
  | 3, hd, hq, K => exact lv_ldc hx hb hown (hts _ (okW_in hq)) hd K
  | 4, hd, hq, K => exact lv_ldcw hx hb hown (hts _ (okW_in hq)) hd K
  | n + 5, hd, hq, K => cases hq
set_option maxHeartbeats 1000000 in
theorem c_op4 (F : CFr sz ad D dA p s m args meth c M) (hm : (pc, 4, a, b, w, u, z) ∈ ctab M) (hn0 : n0 ≤ cs.length) (hz0 : z0 ≤ czs cs) (hcell : cs'.length - n0 ≤ R.cells) (hslot : czs cs' - z0 ≤ R.slots) (hR : 1 ≤ R.frames ∧ 100 ≤ R.locals) (hcl : cs.length < 2900) (h : (match ls[a]? with | some (.ref x) => some (ls, .ref x :: st, cs) | _ => none) = some (ls', st', cs')) (K : CKt sz ad D dA p l e R s m args below meth c n0 z0 Q M (pc + clen (4, a, b, w, u, z)) ls' st' cs') : CKt sz ad D dA p l e R s m args below meth c n0 z0 Q M pc ls (st) cs := by
  intro lsA H locs hl hP hH hS
  obtain ⟨hx, hb, hr, hml, hown, hts, hlk, hin, hK, hnT, hsz, hM, had⟩ := F
  obtain ⟨hd, hq⟩ := cOK_spec hM hm
  have hA : ∀ q, s.heap.size ≤ q → sz ≤ q := fun q hq => Nat.le_trans hsz hq
  split at h
  · next e => cases h; exact lv_aload_n hx hb hd (f4_at hq) (hl.2.2 a _ e).1 (K lsA H locs hl hP hH hS)
  · cases h
set_option maxHeartbeats 1000000 in
theorem c_op14 (F : CFr sz ad D dA p s m args meth c M) (hm : (pc, 14, a, b, w, u, z) ∈ ctab M) (hn0 : n0 ≤ cs.length) (hz0 : z0 ≤ czs cs) (hcell : cs'.length - n0 ≤ R.cells) (hslot : czs cs' - z0 ≤ R.slots) (hR : 1 ≤ R.frames ∧ 100 ≤ R.locals) (hcl : cs.length < 2900) (h : (match c1 v with | true => some (ls, v :: v :: r, cs) | false => none) = some (ls', st', cs')) (K : CKt sz ad D dA p l e R s m args below meth c n0 z0 Q M (pc + clen (14, a, b, w, u, z)) ls' st' cs') : CKt sz ad D dA p l e R s m args below meth c n0 z0 Q M pc ls (v :: r) cs := by
  intro lsA H locs hl hP hH hS
  obtain ⟨hx, hb, hr, hml, hown, hts, hlk, hin, hK, hnT, hsz, hM, had⟩ := F
  obtain ⟨hd, hq⟩ := cOK_spec hM hm
  have hA : ∀ q, s.heap.size ≤ q → sz ≤ q := fun q hq => Nat.le_trans hsz hq
  split at h
  · next e => cases h; exact lv_dup hx hb hd (by rw [cv_cat]; exact c1_cat e) (K lsA H locs hl hP hH hS)
  · cases h
set_option maxHeartbeats 1000000 in
theorem c_op17 (F : CFr sz ad D dA p s m args meth c M) (hm : (pc, 17, a, b, w, u, z) ∈ ctab M) (hn0 : n0 ≤ cs.length) (hz0 : z0 ≤ czs cs) (hcell : cs'.length - n0 ≤ R.cells) (hslot : czs cs' - z0 ≤ R.slots) (hR : 1 ≤ R.frames ∧ 100 ≤ R.locals) (hcl : cs.length < 2900) (h : (match cs[j]? with | some (.inl q) => (match Nat.beq q.1 a, q.2[b]? with | true, some (.ref x) => some (ls, .ref x :: r, cs) | _, _ => none) | _ => none) = some (ls', st', cs')) (K : CKt sz ad D dA p l e R s m args below meth c n0 z0 Q M (pc + clen (17, a, b, w, u, z)) ls' st' cs') : CKt sz ad D dA p l e R s m args below meth c n0 z0 Q M pc ls (.ref j :: r) cs := by
  intro lsA H locs hl hP hH hS
  obtain ⟨hx, hb, hr, hml, hown, hts, hlk, hin, hK, hnT, hsz, hM, had⟩ := F
  obtain ⟨hd, hq⟩ := cOK_spec hM hm
  have hA : ∀ q, s.heap.size ≤ q → sz ≤ q := fun q hq => Nat.le_trans hsz hq
  split at h
  · next q eq =>
    split at h
    · next x e1 e2 =>
      cases h
      have hq : (Nat.blt a 13 && cF (cown M) (17, a, b, w, u, z)) = true := hq
      rw [Bool.and_eq_true] at hq
      have ha : a < 13 := Nat.blt_eq.mp hq.1
      obtain ⟨hbN, href, hw⟩ := cF_spec ha hq.2
      have ea : q.1 = a := Nat.eq_of_beq_eq_true e1
      have hj : j < 3000 := by have := (List.getElem?_eq_some_iff.mp eq).1; omega
      have he : (wsC sz ad dA cs)[j]? = some (sz + j, .inr (a, q.2.map (cv ad))) := by rw [wsC_at sz ad dA eq]; show _ = some (sz + j, Sum.inr (a, _)); rw [← ea]; rfl
      have hcr : cv ad (.ref j) = .ref (sz + j) := by show Value.ref (ad j) = _; rw [had j hj]
      show W p l e R s m args below meth c H locs _ _ Q (F0 m pc lsA (cv ad (.ref j) :: r.map (cv ad)))
      rw [hcr]
      exact va_get (C := (clG a).1) (T := (clG a).2.1) (N := (clG a).2.2) hx hb hts (cl_lay ha) hown hK hP j he (cl_get ha) b hbN (hts _ hw) (fun x hx => by rw [href] at hx; exact hx) (v := cv ad (.ref x)) (by simp [e2]) hd (K lsA H locs hl hP hH hS)
    · cases h
  · cases h
set_option maxHeartbeats 1000000 in
theorem c_op72 (F : CFr sz ad D dA p s m args meth c M) (hm : (pc, 72, a, b, w, u, z) ∈ ctab M) (hn0 : n0 ≤ cs.length) (hz0 : z0 ≤ czs cs) (hcell : cs'.length - n0 ≤ R.cells) (hslot : czs cs' - z0 ≤ R.slots) (hR : 1 ≤ R.frames ∧ 100 ≤ R.locals) (hcl : cs.length < 2900) (h : (match cs[j]? with | some (.inl q) => (match Nat.beq q.1 a && Nat.blt b q.2.length && ctyp v && Nat.beq q.2.length (nF a) && tyFit v (tyG a b) with | true => some (ls, r, cs.set j (.inl (q.1, q.2.set b v))) | false => none) | _ => none) = some (ls', st', cs')) (K : CKt sz ad D dA p l e R s m args below meth c n0 z0 Q M (pc + clen (72, a, b, w, u, z)) ls' st' cs') : CKt sz ad D dA p l e R s m args below meth c n0 z0 Q M pc ls (v :: .ref j :: r) cs := by
  intro lsA H locs hl hP hH hS
  obtain ⟨hx, hb, hr, hml, hown, hts, hlk, hin, hK, hnT, hsz, hM, had⟩ := F
  obtain ⟨hd, hq⟩ := cOK_spec hM hm
  have hA : ∀ q, s.heap.size ≤ q → sz ≤ q := fun q hq => Nat.le_trans hsz hq
  have hD : va_D (fun q => sz ≤ q) (wsC sz ad dA cs) := wsC_D sz ad dA cs
  split at h
  · next q eq =>
    split at h
    · next e1 =>
      cases h
      simp only [Bool.and_eq_true] at e1
      obtain ⟨⟨⟨⟨e1, e2⟩, e3⟩, e5⟩, e4⟩ := e1
      have hq : (Nat.blt a 13 && Nat.blt M 13 && cF (cown M) (72, a, b, w, u, z) && decide ((clG a).1 = cown M)) = true := hq
      simp only [Bool.and_eq_true] at hq
      have ha : a < 13 := Nat.blt_eq.mp hq.1.1.1
      obtain ⟨hbN, href, hw⟩ := cF_spec ha hq.1.2
      have hdecl : (clG a).1 = cown M := of_decide_eq_true hq.2
      have hin2 : meth.name = "<init>" := hin (Nat.blt_eq.mp hq.1.1.2)
      have ea : q.1 = a := Nat.eq_of_beq_eq_true e1
      have hj : j < 3000 := by have := (List.getElem?_eq_some_iff.mp eq).1; omega
      have he : (wsC sz ad dA cs)[j]? = some (sz + j, .inr (a, q.2.map (cv ad))) := by rw [wsC_at sz ad dA eq]; show _ = some (sz + j, Sum.inr (a, _)); rw [← ea]; rfl
      have hcr : cv ad (.ref j) = .ref (sz + j) := by show Value.ref (ad j) = _; rw [had j hj]
      have hlen : b < (q.2.map (cv ad)).length := by simpa using Nat.blt_eq.mp e2
      have hset : (wsC sz ad dA cs).set j (sz + j, .inr (a, (q.2.map (cv ad)).set b (cv ad v))) = wsC sz ad dA (cs.set j (.inl (q.1, q.2.set b v))) := by
        rw [← wsC_set, ea]
        congr 2
        show Sum.inr (a, _) = Sum.inr (a, _)
        rw [List.map_set]
      have hnf : narrow (tyG a b) (cv ad v) = cv ad v ∧ fits (tyG a b) (cv ad v) = true := tyFit_ok e4
      have hzs : czs (cs.set j (.inl (q.1, q.2.set b v))) = czs cs := czs_set eq (by simp [cz])
      have hls : (cs.set j (.inl (q.1, q.2.set b v))).length = cs.length := by simp
      show W p l e R s m args below meth c H locs _ _ Q (F0 m pc lsA (cv ad v :: cv ad (.ref j) :: r.map (cv ad)))
      rw [hcr]
      have go : ∀ (H1 : Heap) (locs1 : List Loc), H1.size = H.size → va_P D clT ((wsC sz ad dA cs).set j (sz + j, .inr (a, (q.2.map (cv ad)).set b (cv ad v)))) H1 → va_S (fun q => sz ≤ q) s.heap H1 locs1 → W p l e R s m args below meth c H1 locs1 (cs.length - n0) (czs cs - z0) Q (F0 m (pc + 3) lsA (r.map (cv ad))) := by
        intro H1 locs1 hh1 hP1 hS1
        have K := K lsA H1 locs1 hl (by rw [← hset]; exact hP1) (by rw [hh1, hls]; exact hH) hS1
        rw [hls, hzs] at K
        exact K
      exact na_put (C := (clG a).1) (T := (clG a).2.1) (N := (clG a).2.2) hx hb hts (cl_lay ha) (tyG a) (cl_ty a ha) (cl_nm a ha) hown hK hP hD hS j he (cl_get ha) b hbN (hts _ hw) (fun x hx => by rw [href] at hx; exact hx) hin2 (by rw [href]; exact hdecl) (ty := tyG a b) (cl_ty a ha b hbN) hnf.1 hnf.2 hlen hd (fun H1 locs1 hh1 hP1 hS1 => go H1 locs1 hh1 hP1 hS1)
    · cases h
  · cases h
set_option maxHeartbeats 1000000 in
theorem c_op70 (F : CFr sz ad D dA p s m args meth c M) (hm : (pc, 70, a, b, w, u, z) ∈ ctab M) (hn0 : n0 ≤ cs.length) (hz0 : z0 ≤ czs cs) (hcell : cs'.length - n0 ≤ R.cells) (hslot : czs cs' - z0 ≤ R.slots) (hR : 1 ≤ R.frames ∧ 100 ≤ R.locals) (hcl : cs.length < 2900) (h : some (ls, .ref cs.length :: st, cs ++ [.inl (a, dflt a)]) = some (ls', st', cs')) (K : CKt sz ad D dA p l e R s m args below meth c n0 z0 Q M (pc + clen (70, a, b, w, u, z)) ls' st' cs') : CKt sz ad D dA p l e R s m args below meth c n0 z0 Q M pc ls (st) cs := by
  intro lsA H locs hl hP hH hS
  obtain ⟨hx, hb, hr, hml, hown, hts, hlk, hin, hK, hnT, hsz, hM, had⟩ := F
  obtain ⟨hd, hq⟩ := cOK_spec hM hm
  have hA : ∀ q, s.heap.size ≤ q → sz ≤ q := fun q hq => Nat.le_trans hsz hq
  cases h
  have hq : (Nat.blt a 13 && okW u (.classLink (cown M) w (clG a).1) && okW (cn a 8) (.instantiable (clG a).1 (clG a).2.2) && okW (cn a 6) (.initialized (clG a).1)) = true := hq
  simp only [Bool.and_eq_true] at hq
  obtain ⟨⟨⟨q1, q2⟩, q3⟩, q4⟩ := hq
  have ha : a < 13 := Nat.blt_eq.mp q1
  have hKn := hK.1 a _ (cl_get ha)
  have hz : cz (.inl (a, dflt a)) = (clG a).2.2 := by show (dflt a).length = _; unfold dflt; simp; rfl
  have hcs : (cs ++ [(.inl (a, dflt a) : CE)]).length = cs.length + 1 := by simp
  rw [hcs] at hcell
  rw [czs_app, hz] at hslot
  refine W.newcK hx hb hown (hts _ (okW_in q2)) (hts _ (okW_in q3)) (hts _ (okW_in q4)) rfl hd (by omega) (by omega) hKn.2.1 rfl fun H1 kC hkC e1 z1 o1 => ?_
  have hk : ∀ (k : Nat) (x : Nat × va_E), (wsC sz ad dA cs)[k]? = some x → H1[x.1]? = H[x.1]? := fun k x hx => o1 x.1 ((hP k x hx).lt)
  have hP1 : va_P D clT (wsC sz ad dA (cs ++ [.inl (a, dflt a)])) H1 := by
    rw [wsC_app]
    refine (hP.kept hk).app (fun k x hx => ?_)
    have hz : k < 1 := (List.getElem?_eq_some_iff.mp hx).1
    rw [show k = 0 by omega] at hx
    cases hx
    have hb9 := (u_born (tyG a) hts (cl_lay ha) hKn hkC e1 (cl_ty a ha)).to (V' := vp_V ((dflt a).map (cv ad))) (fun j hj => by
      rw [dv_ok a ha j hj]
      have : j < nF a := hj
      simp only [vp_V, dflt, List.map_map]
      rw [List.getD_eq_getElem?_getD]
      simp [this]
      cases tyG a j <;> rfl)
    rw [hH] at hb9
    exact ⟨clG a, cl_get ha, hb9⟩
  have K := K lsA H1 locs hl hP1 (by rw [z1, hH, hcs]; omega) ⟨Nat.le_trans hS.1 (by omega), fun x h1 h2 => (o1 x (Nat.lt_of_lt_of_le h1 hS.1)).trans (hS.2.1 x h1 h2), hS.2.2⟩
  rw [czs_app, hz, hcs] at K
  have e9 : cv ad (.ref cs.length) = .ref H.size := by show Value.ref (ad cs.length) = _; rw [had _ (by omega), hH]
  have K2 : W p l e R s m args below meth c H1 locs (cs.length + 1 - n0) (czs cs + (clG a).2.2 - z0) Q (F0 m (pc + 3) lsA (cv ad (.ref cs.length) :: st.map (cv ad))) := K
  rw [e9] at K2
  rw [show cs.length - n0 + 1 = cs.length + 1 - n0 by omega, show czs cs - z0 + (clG a).2.2 = czs cs + (clG a).2.2 - z0 by omega]
  exact K2
set_option maxHeartbeats 1000000 in
theorem c_op71 (F : CFr sz ad D dA p s m args meth c M) (hm : (pc, 71, a, b, w, u, z) ∈ ctab M) (hn0 : n0 ≤ cs.length) (hz0 : z0 ≤ czs cs) (hcell : cs'.length - n0 ≤ R.cells) (hslot : czs cs' - z0 ≤ R.slots) (hR : 1 ≤ R.frames ∧ 100 ≤ R.locals) (hcl : cs.length < 2900) (h : (match decide (n < 0) || !(Nat.blt n.toNatClampNeg 3000000) || !(Nat.blt a 3) with | true => none | false => some (ls, .ref cs.length :: r, cs ++ [.inr (a, n.toNatClampNeg)])) = some (ls', st', cs')) (K : CKt sz ad D dA p l e R s m args below meth c n0 z0 Q M (pc + clen (71, a, b, w, u, z)) ls' st' cs') : CKt sz ad D dA p l e R s m args below meth c n0 z0 Q M pc ls (.int n :: r) cs := by
  intro lsA H locs hl hP hH hS
  obtain ⟨hx, hb, hr, hml, hown, hts, hlk, hin, hK, hnT, hsz, hM, had⟩ := F
  obtain ⟨hd, hq⟩ := cOK_spec hM hm
  have hA : ∀ q, s.heap.size ≤ q → sz ≤ q := fun q hq => Nat.le_trans hsz hq
  split at h
  · cases h
  · next e1 =>
    cases h
    simp only [Bool.or_eq_false_iff, decide_eq_false_iff_not, Bool.not_eq_false'] at e1
    obtain ⟨⟨e1, e2⟩, e3⟩ := e1
    have hcs : (cs ++ [(.inr (a, n.toNatClampNeg) : CE)]).length = cs.length + 1 := by simp
    have hz : cz (.inr (a, n.toNatClampNeg)) = n.toNatClampNeg := rfl
    rw [hcs] at hcell
    rw [czs_app, hz] at hslot
    have hn9 : n.toNatClampNeg < 3000000 := Nat.blt_eq.mp e2
    have ha : a < 3 := Nat.blt_eq.mp e3
    have fin : ∀ (H1 : Heap) (cA : ClassId) (ty : FieldType), (tyD dA)[a]? = some (dA a, ty) → s.vm.findClass ("[" ++ ty.toString) = some cA → va_RA s (dA a) ty → (∀ C, ty ≠ .object C) → H1[H.size]? = some (arrV cA n.toNatClampNeg (fun _ => defaultValue ty)) → vp_cell (dA a) (match entC ad dA (.inr (a, n.toNatClampNeg)) with | .inl q => q.2 | _ => (0, .inl (fun _ => 0))) = arrV (dA a) n.toNatClampNeg (fun _ => defaultValue ty) → H1.size = H.size + 1 → (∀ q, q < H.size → H1[q]? = H[q]?) → W p l e R s m args below meth c H1 locs (cs.length - n0 + 1) (czs cs - z0 + n.toNatClampNeg) Q (F0 m (pc + 2) lsA (.ref H.size :: r.map (cv ad))) := by
      intro H1 cA ty hty hfc hra hno h1 hcellq h2 h3
      have ecA : cA = dA a := by
        cases ty <;> first | exact absurd rfl (hno _) | exact Option.some.inj (hfc.symm.trans hra)
      subst ecA
      have hk : ∀ (k : Nat) (x : Nat × va_E), (wsC sz ad dA cs)[k]? = some x → H1[x.1]? = H[x.1]? := fun k x hx => h3 x.1 ((hP k x hx).lt)
      have hP1 : va_P D clT (wsC sz ad dA (cs ++ [.inr (a, n.toNatClampNeg)])) H1 := by
        rw [wsC_app]
        refine (hP.kept hk).app (fun k x hx => ?_)
        have hz : k < 1 := (List.getElem?_eq_some_iff.mp hx).1
        rw [show k = 0 by omega] at hx
        cases hx
        rw [← hH]
        match a, ha, h1, hcellq with
        | 0, _, h1, hcellq => exact h1.trans (congrArg some hcellq.symm)
        | 1, _, h1, hcellq => exact h1.trans (congrArg some hcellq.symm)
        | 2, _, h1, hcellq => exact h1.trans (congrArg some hcellq.symm)
      have K := K lsA H1 locs hl hP1 (by rw [h2, hH, hcs]; omega) ⟨Nat.le_trans hS.1 (by omega), fun x h1 h2 => (h3 x (Nat.lt_of_lt_of_le h1 hS.1)).trans (hS.2.1 x h1 h2), hS.2.2⟩
      rw [czs_app, hz, hcs] at K
      have e9 : cv ad (.ref cs.length) = .ref H.size := by show Value.ref (ad cs.length) = _; rw [had _ (by omega), hH]
      have K2 : W p l e R s m args below meth c H1 locs (cs.length + 1 - n0) (czs cs + n.toNatClampNeg - z0) Q (F0 m (pc + 2) lsA (cv ad (.ref cs.length) :: r.map (cv ad))) := K
      rw [e9] at K2
      rw [show cs.length - n0 + 1 = cs.length + 1 - n0 by omega, show czs cs - z0 + n.toNatClampNeg = czs cs + n.toNatClampNeg - z0 by omega]
      exact K2
    match a, ha, hd, hcell, hslot, fin with
    | 0, _, hd, hcell, hslot, fin => exact va_newaK (atype := .int) hx hb (hts _ (jO_in 2 rfl)) rfl hd rfl e1 rfl (by show n.toNatClampNeg * 4 ≤ _; omega) (by omega) (by omega) rfl (fun H1 cA h1 h2 h3 h4 h5 => fin H1 cA .int rfl h5 (hK.2 0 _ rfl).2 (fun C h => by cases h) h1 rfl h2 h3)
    | 1, _, hd, hcell, hslot, fin => exact va_newaK (atype := .byte) hx hb (hts _ (jO_in 3 rfl)) rfl hd rfl e1 rfl (by show n.toNatClampNeg * 1 ≤ _; omega) (by omega) (by omega) rfl (fun H1 cA h1 h2 h3 h4 h5 => fin H1 cA .byte rfl h5 (hK.2 1 _ rfl).2 (fun C h => by cases h) h1 rfl h2 h3)
    | 2, _, hd, hcell, hslot, fin => exact va_newaK (atype := .long) hx hb (hts _ (jO_in 4 rfl)) rfl hd rfl e1 rfl (by show n.toNatClampNeg * 8 ≤ _; omega) (by omega) (by omega) rfl (fun H1 cA h1 h2 h3 h4 h5 => fin H1 cA .long rfl h5 (hK.2 2 _ rfl).2 (fun C h => by cases h) h1 rfl h2 h3)
set_option maxHeartbeats 1000000 in
theorem c_op73 (F : CFr sz ad D dA p s m args meth c M) (hm : (pc, 73, a, b, w, u, z) ∈ ctab M) (hn0 : n0 ≤ cs.length) (hz0 : z0 ≤ czs cs) (hcell : cs'.length - n0 ≤ R.cells) (hslot : czs cs' - z0 ≤ R.slots) (hR : 1 ≤ R.frames ∧ 100 ≤ R.locals) (hst : (.ref j :: r : List Value).length ≤ 12) (hcl : cs.length < 2900) (h : some (ls, r, cs) = some (ls', st', cs')) (K : CKt sz ad D dA p l e R s m args below meth c n0 z0 Q M (pc + clen (73, a, b, w, u, z)) ls' st' cs') : CKt sz ad D dA p l e R s m args below meth c n0 z0 Q M pc ls (.ref j :: r) cs := by
  intro lsA H locs hl hP hH hS
  obtain ⟨hx, hb, hr, hml, hown, hts, hlk, hin, hK, hnT, hsz, hM, had⟩ := F
  obtain ⟨hd, hq⟩ := cOK_spec hM hm
  have hA : ∀ q, s.heap.size ≤ q → sz ≤ q := fun q hq => Nat.le_trans hsz hq
  cases h
  have hc2 := cats ad r
  exact W.objInit hx hb hown (hts _ (okW_in hq)) (hts _ (jO_in 0 rfl)) (hts _ (jO_in 1 rfl)) rfl (by rw [hml]; exact hl.1) rfl hd hR.1 (by show 2 * 0 + _ + 12 ≤ _; simp only [List.length_cons] at hst; omega) (K lsA H locs hl hP hH hS)
set_option maxHeartbeats 1000000 in
theorem c_op76 (F : CFr sz ad D dA p s m args meth c M) (hm : (pc, 76, a, b, w, u, z) ∈ ctab M) (hn0 : n0 ≤ cs.length) (hz0 : z0 ≤ czs cs) (hcell : cs'.length - n0 ≤ R.cells) (hslot : czs cs' - z0 ≤ R.slots) (hR : 1 ≤ R.frames ∧ 100 ≤ R.locals) (hcl : cs.length < 2900) (h : (match stl ls a (.ref j) with | some l => some (l, r, cs) | none => none) = some (ls', st', cs')) (K : CKt sz ad D dA p l e R s m args below meth c n0 z0 Q M (pc + clen (76, a, b, w, u, z)) ls' st' cs') : CKt sz ad D dA p l e R s m args below meth c n0 z0 Q M pc ls (.ref j :: r) cs := by
  intro lsA H locs hl hP hH hS
  obtain ⟨hx, hb, hr, hml, hown, hts, hlk, hin, hK, hnT, hsz, hM, had⟩ := F
  obtain ⟨hd, hq⟩ := cOK_spec hM hm
  have hA : ∀ q, s.heap.size ≤ q → sz ≤ q := fun q hq => Nat.le_trans hsz hq
  split at h
  · next e1 =>
    cases h
    have hq : (Nat.blt a 4 && Nat.blt a (cmax M)) = true := hq
    rw [Bool.and_eq_true] at hq
    exact lv_astore_n hx hb hd (f4_at hq.1) hl.has (Nat.blt_eq.mp hq.2) rfl (fun lsB hB => K lsB H locs (hl.store e1 rfl hB) hP hH hS)
  · cases h
end CSND
