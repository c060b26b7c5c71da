section CM
variable {sz : Nat} {ad : Nat → Nat} {D : va_G} {dA : Nat → ClassId} {p : Program} {l : Launch} {e : Env} {R : Room} {s : State} {m : MethodId} {args : Array Value} {below : List Frame} {meth : Method} {c : Code} {n0 z0 : Nat} {Q : State → Prop} {M pc : Nat} {o : Opn} {ls st ls' st' : List Value} {cs cs' : List CE}
theorem c_step (F : CFr sz ad D dA p s m args meth c M) (hm : (pc, o) ∈ ctab M) (hn0 : n0 ≤ cs.length) (hz0 : z0 ≤ czs cs) (hcell : cs'.length - n0 ≤ R.cells) (hslot : czs cs' - z0 ≤ R.slots) (hR : 1 ≤ R.frames ∧ 100 ≤ R.locals) (hcl : cs.length < 2900) (h : cstep o ls st cs = some (ls', st', cs')) (K : CKt sz ad D dA p l e R s m args below meth c n0 z0 Q M (pc + clen o) ls' st' cs') : CKt sz ad D dA p l e R s m args below meth c n0 z0 Q M pc ls st cs := by
  obtain ⟨k, a, b, w, u, z⟩ := o
  unfold cstep at h
  dsimp only at h
  split at h
  · exact c_op0 F hm hn0 hz0 hcell hslot hR hcl h K
  · exact c_op4 F hm hn0 hz0 hcell hslot hR hcl h K
  · exact c_op14 F hm hn0 hz0 hcell hslot hR hcl h K
  · exact c_op17 F hm hn0 hz0 hcell hslot hR hcl h K
  · exact c_op72 F hm hn0 hz0 hcell hslot hR hcl h K
  · exact c_op70 F hm hn0 hz0 hcell hslot hR hcl h K
  · exact c_op71 F hm hn0 hz0 hcell hslot hR hcl h K
  · split at h
    · next e1 => exact c_op73 F hm hn0 hz0 hcell hslot hR (by have := Nat.le_of_ble_eq_true e1; simp only [List.length_cons]; omega) hcl h K
    · cases h
  · exact c_op76 F hm hn0 hz0 hcell hslot hR hcl h K
  · cases h
theorem cstep_mono (h : cstep o ls st cs = some (ls', st', cs')) : cs.length ≤ cs'.length ∧ czs cs ≤ czs cs' := by
  obtain ⟨k, a, b, w, u, z⟩ := o
  unfold cstep at h
  dsimp only at h
  split at h
  · cases h; exact ⟨Nat.le_refl _, Nat.le_refl _⟩
  · split at h <;> cases h; exact ⟨Nat.le_refl _, Nat.le_refl _⟩
  · split at h <;> cases h; exact ⟨Nat.le_refl _, Nat.le_refl _⟩
  · split at h
    · split at h <;> cases h; exact ⟨Nat.le_refl _, Nat.le_refl _⟩
    · cases h
  · split at h
    · next q eq =>
      split at h
      · cases h
        exact ⟨by simp, by rw [czs_set eq (by simp [cz])]; exact Nat.le_refl _⟩
      · cases h
    · cases h
  · cases h; exact ⟨by simp, by rw [czs_app]; omega⟩
  · split at h
    · cases h
    · cases h; exact ⟨by simp, by rw [czs_app]; omega⟩
  · split at h <;> cases h; exact ⟨Nat.le_refl _, Nat.le_refl _⟩
  · split at h <;> cases h; exact ⟨Nat.le_refl _, Nat.le_refl _⟩
  · cases h
end CM
/-- a step of the constructors' machine: what it does at a row -/
theorem cxr_succ (n d M pc : Nat) (ls st : List Value) (cs : List CE) (r : Nat × List Value × List Value × List CE) (h : cxr (n + 1) d M pc ls st cs = some r) :
    ((∀ o, clook (ctab M) pc = some o → o.1 = 55 ∨ o.1 = 75) ∧ r = (pc, ls, st, cs)) ∨
    (∃ o ls' st' cs', clook (ctab M) pc = some o ∧ cstep o ls st cs = some (ls', st', cs') ∧ cxr n d M (pc + clen o) ls' st' cs' = some r) ∨
    (∃ o d' pc' ls9 cs' o', clook (ctab M) pc = some o ∧ o.1 = 74 ∧ d = d' + 1 ∧ o.2.2.1 ≤ st.length ∧ o.2.1 < 12 ∧ (st.drop o.2.2.1).length ≤ 4 ∧ (∀ v ∈ st.take o.2.2.1, c1 v = true) ∧ cxr n d' o.2.1 0 (st.take o.2.2.1).reverse [] cs = some (pc', ls9, [], cs') ∧ clook (ctab o.2.1) pc' = some o' ∧ o'.1 = 55 ∧ cxr n d M (pc + 3) ls (st.drop o.2.2.1) cs' = some r) := by
  unfold cxr at h
  split at h
  · next e => exact Or.inl ⟨fun o ho => by rw [e] at ho; cases ho, (Option.some.inj h).symm⟩
  · next o e =>
    split at h
    · next e1 => exact Or.inl ⟨fun o2 ho => by rw [e] at ho; cases ho; exact Or.inl e1, (Option.some.inj h).symm⟩
    · next e1 => exact Or.inl ⟨fun o2 ho => by rw [e] at ho; cases ho; exact Or.inr e1, (Option.some.inj h).symm⟩
    · next e1 =>
      split at h
      · cases h
      · split at h
        · next d' _ pc' ls9 cs' hc1 hc2 =>
          split at h
          · next o' ho' =>
            split at h
            · next h55 =>
              simp only [Bool.and_eq_true] at hc1
              obtain ⟨⟨⟨q1, q2⟩, q3⟩, q4⟩ := hc1
              exact Or.inr (Or.inr ⟨o, _, pc', ls9, cs', o', e, e1, rfl, Nat.le_of_ble_eq_true q1, Nat.blt_eq.mp q2, Nat.le_of_ble_eq_true q3, List.all_eq_true.mp q4, hc2, ho', Nat.eq_of_beq_eq_true h55, h⟩)
            · cases h
          · cases h
        · cases h
    · split at h
      · next ls' st' cs' hs => exact Or.inr (Or.inl ⟨o, ls', st', cs', e, hs, h⟩)
      · cases h
theorem cxr_mono : ∀ (n d M pc : Nat) (ls st : List Value) (cs : List CE) (r : Nat × List Value × List Value × List CE), cxr n d M pc ls st cs = some r → cs.length ≤ r.2.2.2.length ∧ czs cs ≤ czs r.2.2.2 := by
  intro n
  induction n with
  | zero => intro d M pc ls st cs r h; cases h
  | succ n ih =>
    intro d M pc ls st cs r h
    rcases cxr_succ n d M pc ls st cs r h with ⟨-, rfl⟩ | ⟨o, ls', st', cs', -, hs, h⟩ | ⟨o, d', pc', ls9, cs', o', -, -, -, -, -, -, -, hc, -, -, h⟩
    · exact ⟨Nat.le_refl _, Nat.le_refl _⟩
    · have q1 := cstep_mono hs
      have q2 := ih _ _ _ _ _ _ _ h
      exact ⟨Nat.le_trans q1.1 q2.1, Nat.le_trans q1.2 q2.2⟩
    · have q1 := ih _ _ _ _ _ _ _ hc
      have q2 := ih _ _ _ _ _ _ _ h
      exact ⟨Nat.le_trans q1.1 q2.1, Nat.le_trans q1.2 q2.2⟩
