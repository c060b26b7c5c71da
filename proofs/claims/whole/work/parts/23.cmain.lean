section CM
variable {sz : Nat} {ad : Nat → Nat} {D : va_G} {dA : Nat → ClassId} {p : Program} {l : Launch} {e : Env} {R : Room} {s : State} {m : MethodId} {args : Array Value} {below : List Frame} {meth : Method} {c : Code} {n0 z0 : Nat} {Q : State → Prop} {M pc : Nat} {o : Opn} {ls st ls' st' : List Value} {cs cs' : List CE}
theorem c_step (F : CFr sz ad D dA p s m args meth c M) (hm : (pc, o) ∈ ctab M) (hn0 : n0 ≤ cs.length) (hz0 : z0 ≤ czs cs) (hcell : cs'.length - n0 ≤ R.cells) (hslot : czs cs' - z0 ≤ R.slots) (hR : 1 ≤ R.frames ∧ 100 ≤ R.locals) (hcl : cs.length < 2900) (h : cstep o ls st cs = some (ls', st', cs')) (K : CKt sz ad D dA p l e R s m args below meth c n0 z0 Q M (pc + clen o) ls' st' cs') : CKt sz ad D dA p l e R s m args below meth c n0 z0 Q M pc ls st cs := by
  obtain ⟨k, a, b, w, u, z⟩ := o
  unfold cstep at h
  dsimp only at h
  split at h
  · exact c_op0 F hm hn0 hz0 hcell hslot hR hcl h K
  · exact c_op4 F hm hn0 hz0 hcell hslot hR hcl h K
  · exact c_op14 F hm hn0 hz0 hcell hslot hR hcl h K
  · exact c_op17 F hm hn0 hz0 hcell hslot hR hcl h K
  · exact c_op72 F hm hn0 hz0 hcell hslot hR hcl h K
  · exact c_op70 F hm hn0 hz0 hcell hslot hR hcl h K
  · exact c_op71 F hm hn0 hz0 hcell hslot hR hcl h K
  · split at h
    · next e1 => exact c_op73 F hm hn0 hz0 hcell hslot hR (by have := Nat.le_of_ble_eq_true e1; simp only [List.length_cons]; omega) hcl h K
    · cases h
  · exact c_op76 F hm hn0 hz0 hcell hslot hR hcl h K
  · cases h
theorem cstep_mono (h : cstep o ls st cs = some (ls', st', cs')) : cs.length ≤ cs'.length ∧ czs cs ≤ czs cs' := by
  obtain ⟨k, a, b, w, u, z⟩ := o
  unfold cstep at h
  dsimp only at h
  split at h
  · cases h; exact ⟨Nat.le_refl _, Nat.le_refl _⟩
  · split at h <;> cases h; exact ⟨Nat.le_refl _, Nat.le_refl _⟩
  · split at h <;> cases h; exact ⟨Nat.le_refl _, Nat.le_refl _⟩
  · split at h
    · split at h <;> cases h; exact ⟨Nat.le_refl _, Nat.le_refl _⟩
    · cases h
  · split at h
    · next q eq =>
      split at h
      · cases h
        exact ⟨by simp, by rw [czs_set eq (by simp [cz])]; exact Nat.le_refl _⟩
      · cases h
    · cases h
  · cases h; exact ⟨by simp, by rw [czs_app]; omega⟩
  · split at h
    · cases h
    · cases h; exact ⟨by simp, by rw [czs_app]; omega⟩
  · split at h <;> cases h; exact ⟨Nat.le_refl _, Nat.le_refl _⟩
  · split at h <;> cases h; exact ⟨Nat.le_refl _, Nat.le_refl _⟩
  · cases h
end CM
/-- a step of the constructors' machine: what it does at a row -/
theorem cxr_succ (n d M pc : Nat) (ls st : List Value) (cs : List CE) (r : Nat × List Value × List Value × List CE) (h : cxr (n + 1) d M pc ls st cs = some r) :
    ((∀ o, clook (ctab M) pc = some o → o.1 = 55 ∨ o.1 = 75) ∧ r = (pc, ls, st, cs)) ∨
    (∃ o ls' st' cs', clook (ctab M) pc = some o ∧ cstep o ls st cs = some (ls', st', cs') ∧ cxr n d M (pc + clen o) ls' st' cs' = some r) ∨
    (∃ o d' pc' ls9 cs' o', clook (ctab M) pc = some o ∧ o.1 = 74 ∧ d = d' + 1 ∧ o.2.2.1 ≤ st.length ∧ o.2.1 < 12 ∧ (st.drop o.2.2.1).length ≤ 4 ∧ (∀ v ∈ st.take o.2.2.1, c1 v = true) ∧ isR1 (st.take o.2.2.1).reverse = true ∧ cxr n d' o.2.1 0 (st.take o.2.2.1).reverse [] cs = some (pc', ls9, [], cs') ∧ clook (ctab o.2.1) pc' = some o' ∧ o'.1 = 55 ∧ cxr n d M (pc + 3) ls (st.drop o.2.2.1) cs' = some r) := by
  unfold cxr at h
  split at h
  · next e => exact Or.inl ⟨fun o ho => (by rw [e] at ho; cases ho), (Option.some.inj h).symm⟩
  · next o e =>
    split at h
    · next e1 => exact Or.inl ⟨fun o2 ho => (by rw [e] at ho; cases ho; exact Or.inl e1), (Option.some.inj h).symm⟩
    · next e1 => exact Or.inl ⟨fun o2 ho => (by rw [e] at ho; cases ho; exact Or.inr e1), (Option.some.inj h).symm⟩
    · next e1 =>
      split at h
      · cases h
      · split at h
        · next d' _ pc' ls9 cs' hc1 hc2 =>
          split at h
          · next o' ho' =>
            split at h
            · next h55 =>
              simp only [Bool.and_eq_true] at hc1
              obtain ⟨⟨⟨⟨q1, q2⟩, q3⟩, q4⟩, q5⟩ := hc1
              exact Or.inr (Or.inr ⟨o, _, pc', ls9, cs', o', e, e1, rfl, Nat.le_of_ble_eq_true q1, Nat.blt_eq.mp q2, Nat.le_of_ble_eq_true q3, List.all_eq_true.mp q4, q5, hc2, ho', Nat.eq_of_beq_eq_true h55, h⟩)
            · cases h
          · cases h
        · cases h
    · split at h
      · next ls' st' cs' hs => exact Or.inr (Or.inl ⟨o, ls', st', cs', e, hs, h⟩)
      · cases h
theorem cxr_mono : ∀ (n d M pc : Nat) (ls st : List Value) (cs : List CE) (r : Nat × List Value × List Value × List CE), cxr n d M pc ls st cs = some r → cs.length ≤ r.2.2.2.length ∧ czs cs ≤ czs r.2.2.2 := by
  intro n
  induction n with
  | zero => intro d M pc ls st cs r h; cases h
  | succ n ih =>
    intro d M pc ls st cs r h
    rcases cxr_succ n d M pc ls st cs r h with ⟨-, rfl⟩ | ⟨o, ls', st', cs', -, hs, h⟩ | ⟨o, d', pc', ls9, cs', o', -, -, -, -, -, -, -, -, hc, -, -, h⟩
    · exact ⟨Nat.le_refl _, Nat.le_refl _⟩
    · have q1 := cstep_mono hs
      have q2 := ih _ _ _ _ _ _ _ h
      exact ⟨Nat.le_trans q1.1 q2.1, Nat.le_trans q1.2 q2.2⟩
    · have q1 := ih _ _ _ _ _ _ _ hc
      have q2 := ih _ _ _ _ _ _ _ h
      exact ⟨Nat.le_trans q1.1 q2.1, Nat.le_trans q1.2 q2.2⟩

def rmC (d mc ms : Nat) : Room := { frames := d + 8, cells := mc, slots := ms, locals := 40 * d + 300 }
def CPc (sz : Nat) (ad : Nat → Nat) (D : va_G) (dA : Nat → ClassId) (As : List Value) (cs : List CE) : Array Value → State → Prop := fun v U => v = (As.map (cv ad)).toArray ∧ U.heap.size = sz + cs.length ∧ va_P D clT (wsC sz ad dA cs) U.heap ∧ va_K D clT (tyD dA) U ∧ ∀ w ∈ nT, va_Nw w U
def CQc (sz : Nat) (ad : Nat → Nat) (D : va_G) (dA : Nat → ClassId) (cs' : List CE) : Array Value → State → Outcome → State → Prop := va_Qv (S := Unit) (fun _ => True) (fun _ t => t.heap.size = sz + cs'.length ∧ va_P D clT (wsC sz ad dA cs') t.heap) (fun q => sz ≤ q)
theorem CPc.blind (sz : Nat) (ad : Nat → Nat) (D : va_G) (dA : Nat → ClassId) (As : List Value) (cs : List CE) : FrameBlind (CPc sz ad D dA As cs) := by
  intro a U g mk h
  obtain ⟨h0, h1, h2, h3, h4⟩ := h
  exact ⟨h0, h1, h2, h3.moved (Vm.Alike.refl U.vm), fun w hw => va_Nw.same (u := U) (U := U.calling g mk a) (nest_tab (List.mem_filter.mp hw).2) rfl (h4 w hw)⟩
def CSnd (l : Launch) (n : Nat) : Prop := ∀ (sz : Nat) (ad : Nat → Nat) (D : va_G) (dA : Nat → ClassId) (p : Program) (e : Env) (R : Room) (s : State) (m : MethodId) (args : Array Value) (below : List Frame) (meth : Method) (c : Code) (n0 z0 : Nat) (Q : State → Prop) (d M pc : Nat) (ls st : List Value) (cs : List CE) (pc' : Nat) (ls' st' : List Value) (cs' : List CE),
  cxr n d M pc ls st cs = some (pc', ls', st', cs') → CFr sz ad D dA p s m args meth c M → n0 ≤ cs.length → z0 ≤ czs cs → cs'.length - n0 ≤ R.cells → czs cs' - z0 ≤ R.slots → d + 8 ≤ R.frames → 40 * d + 300 ≤ R.locals → cs'.length < 2900 →
  CKt sz ad D dA p l e R s m args below meth c n0 z0 Q M pc' ls' st' cs' → CKt sz ad D dA p l e R s m args below meth c n0 z0 Q M pc ls st cs
theorem cM_spec {M : Nat} (h : M < 13) : ((cname M).cls ≠ "java/lang/invoke/MethodHandle" ∧ (cname M).cls ≠ "java/lang/invoke/VarHandle") ∧ plainName (cname M).cls = true ∧ Jvm.Cond.initialized (cname M).cls ∈ gT ∧ Jvm.Cond.instanceMethod (cname M) ∈ gT ∧ cmax M ≤ 12 ∧ (cname M).name = "<init>" ∧ (parseMethodDescriptor (cname M).desc).map (fun d => d.parameters.length + 1) = some (cn M 1) ∧ cn M 1 ≤ cmax M ∧ (clG M).1 = cown M ∧ cret M = none := by
  have h1 := cM_all M h
  unfold cM at h1
  simp only [Bool.and_eq_true, decide_eq_true_eq] at h1
  obtain ⟨⟨⟨⟨⟨⟨⟨⟨⟨h2, h3⟩, h4⟩, h5⟩, h6⟩, h7⟩, h8⟩, h9⟩, h10⟩, h11⟩ := h1
  exact ⟨h2, h3, okW_in h4, okW_in h5, Nat.le_of_ble_eq_true h6, h7, h8, Nat.le_of_ble_eq_true h9, h10, h11⟩
theorem ccode_in {M : Nat} (h : M < 13) : Jvm.Cond.code (cname M) (ccode M) (cmax M) none ∈ gT := List.mem_filter.mpr ⟨wd_in (ccw M h), rfl⟩
theorem cmet {l : Launch} {n d M pc' sz : Nat} {As ls9 : List Value} {cs cs' : List CE} {o' : Opn} {ad : Nat → Nat} {D : va_G} {dA : Nat → ClassId} (hN : CSnd l n) (hM : M < 13) (hc : cxr n d M 0 As [] cs = some (pc', ls9, [], cs')) (ho : clook (ctab M) pc' = some o') (ho2 : o'.1 = 55) (hAs : ∀ v ∈ As, c1 v = true) (hA : As.length = cn M 1) (hcl : cs'.length < 2900) (had : ∀ j, j < 3000 → ad j = sz + j) : Met l (cname M) (.code (cname M) (ccode M) (cmax M) none :: gT) (rmC d (cs'.length - cs.length) (czs cs' - czs cs)) (CPc sz ad D dA As cs) (CQc sz ad D dA cs') (cs'.length - cs.length) (czs cs' - czs cs) (fun q => sz ≤ q) := by
  obtain ⟨h1, h2, h3, h4, h5, h6, h7, h8, h9, h10⟩ := cM_spec hM
  refine Met.ofW (cc := ccode M) (maxL := cmax M) (ret := none) h2 rfl ?_
  intro p e s m args below meth c s₁ B hml hv
  obtain ⟨rfl, hsz, hP, hK, hnw⟩ := hv
  have hts := atoms_spec (ws := Jvm.Cond.code (cname M) (ccode M) (cmax M) none :: gT) B.pre
  have hlocks := B.notSynchronized
  have F : CFr sz ad D dA p s m (As.map (cv ad)).toArray meth c M := ⟨B.exec, B.bytes, by rw [h10]; exact B.returns, hml, findClass_of_methodNamed B.named, fun w hw => hts w (List.mem_cons_of_mem _ hw), hlocks, fun _ => (name_of_methodNamed B.named B.method).1.trans h6, hK, hnw, by omega, by omega, had⟩
  rw [lg_entry_eq]
  have q1 := cxr_mono _ _ _ _ _ _ _ _ hc
  refine (fun K => hN sz ad D dA p e (rmC d (cs'.length - cs.length) (czs cs' - czs cs)) s m _ below meth c cs.length (czs cs) _ d M 0 As [] cs pc' ls9 [] cs' hc F (Nat.le_refl _) (Nat.le_refl _) (Nat.le_refl _) (Nat.le_refl _) (Nat.le_refl _) (Nat.le_refl _) hcl K _ s.heap [] (Lh.entry (by rw [hA]; exact h8) hAs) hP hsz va_S.rf) ?_ |> cast (by rw [Nat.sub_self, Nat.sub_self]; rfl)
  intro lsA H locs hl hP' hH hS
  have hm := clook_mem _ _ _ ho
  obtain ⟨hd, -⟩ := cOK_spec (by omega) hm
  obtain ⟨k9, a9, r9⟩ := o'
  dsimp only at ho2
  subst ho2
  exact W.vret B.exec B.bytes B.returns (fun t ht _ => ⟨⟨(), rfl, trivial, by show t.heap.size = _ ∧ _; rw [ht]; exact ⟨hH, hP'⟩⟩, hS.F ht⟩) hS.2.2 hd
