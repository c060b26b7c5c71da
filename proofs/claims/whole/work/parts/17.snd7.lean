/-! the main induction -/
/-- the table of a method: empty, or that of one of the law's helpers -/
def Tb (M : Nat) (c : Code) : Prop := (hdl M = [] → ∀ x ∈ c.exceptionTable.toList, False) ∧ (264 ≤ M → M < 288 → ∃ hh, wd (mn M 3) = some (.codeWith (mname M) (mcode M) (mmax M) (mret M) hh) ∧ c.exceptionTable.toList = tableOf hh)
def SndN (l : Launch) (n : Nat) : Prop := ∀ (G : Gp) (p : Program) (e : Env) (R : Room) (s : State) (m : MethodId) (args : Array Value) (below : List Frame) (meth : Method) (c : Code) (cells slots CB SB d b M pc : Nat) (Q : State → Prop) (ls st : List Value) (S : St) (out : Out) (S' : St),
  EvN n d b M pc ls st S out S' → Fr G p l s m args meth c M → Tb M c → Scr G S → d + 8 ≤ R.frames → 40 * d + 300 ≤ R.locals → cells + b ≤ CB → slots + 6 * b ≤ SB → CB ≤ R.cells → SB ≤ R.slots →
  (∀ x, out = .inl (some (.int x)) → ∀ pcR lsA H locs cells' slots', decode (mcode M) pcR = .ok (.ireturn, 1) → (mret M = some .int ∨ (mret M = some .boolean ∧ (x = 0 ∨ x = 1))) → Pic G S' H → va_S (gA G) s.heap H locs → cells' ≤ CB → slots' ≤ SB → W p l e R s m args below meth c H locs cells' slots' Q (F0 m pcR lsA [.int x])) →
  (out = .inl none → ∀ pcR lsA H locs cells' slots', decode (mcode M) pcR = .ok (.return_, 1) → mret M = none → Pic G S' H → va_S (gA G) s.heap H locs → cells' ≤ CB → slots' ≤ SB → W p l e R s m args below meth c H locs cells' slots' Q (F0 m pcR lsA [])) →
  (∀ X, out = .inr X → ∀ pcR lsA rest H locs cells' slots' q ce, Pic G S' H → va_S (gA G) s.heap H locs → H[q]? = some ce → ce.vm = .none → s.vm.findClass X = some ce.cls → cells' ≤ CB → slots' ≤ SB → hdl M = [] → vx_W p l e R s m args below meth c H locs cells' slots' Q (F0 m pcR lsA rest) q) →
  (M ≠ lawM → hdl M = [] → ∃ Qc, Q = vx_MQ below Qc (Xcx G out S') args s CB SB (gA G)) →
  Kt G p l e R s m args below meth c cells slots Q M pc ls st S
theorem lvargs_mem : ∀ (vs : List Value) (k i : Nat) (v : Value), (∀ x ∈ vs, x.category = 1) → vs[i]? = some v → (k + i, v) ∈ lv_args k vs := by
  intro vs
  induction vs with
  | nil => intro k i v _ h; simp at h
  | cons x vs ih =>
    intro k i v hc h
    unfold lv_args
    have hx : x.category = 1 := hc x List.mem_cons_self
    rw [if_neg (by rw [hx]; omega)]
    cases i with
    | zero =>
      simp at h
      subst h
      exact List.mem_cons_self
    | succ i =>
      have h2 : vs[i]? = some v := by simpa using h
      have := ih (k + 1) i v (fun y hy => hc y (List.mem_cons_of_mem _ hy)) h2
      rw [show k + (i + 1) = k + 1 + i by omega]
      exact List.mem_cons_of_mem _ this
theorem lgsl_len : ∀ vs : List Value, (∀ x ∈ vs, x.category = 1) → (lg_sl vs).length = vs.length := by
  intro vs
  induction vs with
  | nil => intro _; rfl
  | cons x vs ih =>
    intro h
    have hx : x.category = 1 := h x List.mem_cons_self
    have e : lg_sl (x :: vs) = .val x :: lg_sl vs := by
      unfold lg_sl
      rw [List.flatMap_cons, if_neg (by rw [hx]; omega)]
      rfl
    rw [e, List.length_cons, List.length_cons, ih (fun y hy => h y (List.mem_cons_of_mem _ hy))]
theorem Lh.entry {ad : Nat → Nat} {As : List Value} {n : Nat} (hn : As.length ≤ n) (hc : ∀ v ∈ As, c1 v = true) : Lh ad ((lg_sl (As.map (cv ad)) ++ List.replicate (n - (lg_sl (As.map (cv ad))).length) Slot.unset).toArray) n As := by
  have hcat : ∀ x ∈ As.map (cv ad), x.category = 1 := by
    intro x hx
    obtain ⟨y, hy, rfl⟩ := List.mem_map.mp hx
    rw [cv_cat]
    exact c1_cat (hc y hy)
  have h := lv_entry (As.map (cv ad)) (n := n) (by rw [lgsl_len _ hcat]; simpa using hn)
  refine ⟨h.1, h.2.1, fun i v hv => ⟨?_, hc v (List.mem_of_getElem? hv)⟩⟩
  have h2 := lvargs_mem (As.map (cv ad)) 0 i (cv ad v) hcat (by simp [hv])
  rw [Nat.zero_add] at h2
  exact h.2.2 _ h2
theorem hdl_low : ∀ M, M < 264 → hdl M = [] := by decide +kernel
theorem hdl_law : hdl lawM = [] := by decide +kernel
theorem args_max : ∀ M, M < 288 → Nat.ble (mn M 1) (mmax M) = true := by decide +kernel
/-- a run of the pure machine is a contract on the machine -/
theorem con_low {l : Launch} {n d M : Nat} {As : List Value} {S S' : St} {out : Out} {G : Gp} (hN : SndN l n) (htr : l.stackTraces = false) (hM : M < 264) (hE : EvN n d (cst M) M 0 As [] S out S') (hsc : Scr G S) (hPu : Pur G) (hc : ∀ v ∈ As, c1 v = true) (hA : As.length = mn M 1) : Con l G d M As S out S' := by
  obtain ⟨h1, h2, h3, h4, h5, h6⟩ := okM_spec (show M < 288 by omega)
  obtain ⟨e, he⟩ := head_code hM
  refine vx_ofW (cc := mcode M) (maxL := mmax M) (ret := mret M) h2 (by rw [e]) ?_
  intro p ev s m args below meth c s₁ B hml hexc hv
  obtain ⟨rfl, hG, hP⟩ := hv
  have hts := atoms_spec (ws := headW M :: gT) B.pre
  have hlocks := B.notSynchronized
  have hr := B.returns
  have hb := B.bytes
  have hx := B.exec
  have F : Fr G p l s m (As.map (cv (g_ad G))).toArray meth c M := ⟨hx, hb, hr, hml, findClass_of_methodNamed B.named, fun w hw => hts w (List.mem_cons_of_mem _ hw), hlocks, htr, hG, hPu, by omega, fun q => absurd q (by omega), fun q => absurd q (by have : lawM = 288 := rfl; omega)⟩
  rw [lg_entry_eq]
  refine hN G p ev (rmM d M) s m _ below meth c 0 0 (cst M) (6 * cst M) d (cst M) M 0 _ As [] S out S' hE F ⟨fun _ => hexc, fun q => absurd q (by omega)⟩ hsc (Nat.le_refl _) (Nat.le_refl _) (by omega) (by omega) (Nat.le_refl _) (Nat.le_refl _) ?_ ?_ ?_ ?_ _ s.heap [] (Lh.entry (by rw [hA]; exact Nat.le_of_ble_eq_true (args_max M (by omega))) hc) hP va_S.rf
  · intro x ho pcR lsA H locs cells' slots' hd hre hP' hS hc1 hc2
    subst ho
    refine W.widen hc1 hc2 (vx_ret ?_)
    have hq : ∀ t : State, t.heap = H → s.WarmedH t.vm → Qcx G (.inl (some (.int x))) S' (As.map (cv (g_ad G))).toArray s (.returned (some (.int x))) t := fun t ht _ => ⟨⟨x, (), rfl, rfl, by show Pic G S' t.heap; rw [ht]; exact hP'⟩, hS.F ht⟩
    rcases hre with hre | ⟨hre, h01⟩
    · exact W.iret hx hb (by rw [hr, hre]) hq hS.2.2 hd
    · exact W.zret (ty := .boolean) hx hb (by rw [hr, hre]) (by rcases h01 with rfl | rfl <;> decide +kernel) hq hS.2.2 hd
  · intro ho pcR lsA H locs cells' slots' hd hre hP' hS hc1 hc2
    subst ho
    refine W.widen hc1 hc2 (vx_ret ?_)
    exact W.vret hx hb (by rw [hr, hre]) (fun t ht _ => ⟨⟨(), rfl, trivial, by show Pic G S' t.heap; rw [ht]; exact hP'⟩, hS.F ht⟩) hS.2.2 hd
  · intro X ho pcR lsA rest H locs cells' slots' q ce hP' hS hq hv hcl hc1 hc2 _
    subst ho
    exact vx_out (fun x hx => (hexc x hx).elim) hlocks hq hv hcl (fun t ht _ => ⟨(), trivial, ⟨rfl, by show Pic G S' t.heap; rw [ht]; exact hP'⟩, hS.F ht⟩) hS.2.2 hc1 hc2
  · intro _ _
    exact ⟨_, rfl⟩
