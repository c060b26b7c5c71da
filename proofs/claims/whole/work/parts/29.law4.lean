/-! THE CLAIM OUT OF THE PURE CLAIM -/
def lsLaw : List Value := [.ref 3000, .ref 0, .ref 46, .ref 66, .int 0]
/-- what is left of the whole: the law's own loop over the pure machine comes to 1, whatever the script -/
def PureClaim : Prop := ∀ (L : Nat) (xf : Nat → Int32), L ≤ 3072 → ∃ S1 S', Ev 1900 0 161 0 [.ref 46] [] (Sini L xf) (.inl none) S1 ∧ Ev 2000 4096 288 23 lsLaw [] (setO S1 0) (.inl (some (.int 1))) S'
def R_law : String := "YesNoRaysLaw"
def lw_P (b : Addr) (xs : List Int32) (args : Array Value) (s : State) : Prop := args = #[.ref b] ∧ s.IntsAt b xs ∧ xs.length ≤ 3072 ∧ (Jvm.Cond.and given_1 narrow_1).before args s = true
def lw_Q (_ : Array Value) (s : State) (o : Outcome) (t : State) : Prop := o = .returned (some (.int 1)) ∧ Framed s o t [] 601024 7293034
def lw_Z (below : List Frame) (a : Array Value) (s : State) : State → Prop := fun t => ∃ o, t.status = .running ∧ Ended t below o ∧ lw_Q a s o t
theorem lw_ret {p : Program} {l : Launch} {e : Env} {s : State} {m : MethodId} {below : List Frame} {meth : Method} {c : Code} {b : Nat} (hx : p.tables.exec = Jvm.exec) (hb : c.code = code) (hr : meth.sig.returnType = ret) (hlocks : meth.locks = false) {pc : Nat} {H : Heap} {ls : Array Slot} (hdg : decode code pc = .ok (.ireturn, 1)) : W p l e room_1 s m #[Value.ref b] below meth c H [] 601024 7293034 (lw_Z below #[Value.ref b] s) (F0 m pc ls [.int 1]) := by
  intro T hT X
  obtain ⟨fs, hret, hrun, hended, hW, hframe⟩ := X.leave (v := some (.int 1)) (hlocks := hlocks) (fun h => by rw [hr] at h; cases h)
  have hmeth' : T.vm.method? m = some meth := X.method'
  refine ⟨T.setFrames fs, ?_, .returned (some (.int 1)), hrun, hended, rfl, ⟨_, rfl⟩, hW, hframe⟩
  jvm_step X.here [X.here.top, hx, hb, hdg, hmeth', hr, ret, narrow_b1]
  (try refine ⟨rfl, ?_⟩); (try refine ⟨rfl, ?_⟩)
  first | (intro acts; rw [hret _ acts rfl rfl rfl]) | rw [hret _ _ rfl rfl rfl]
  exact Steps.refl _
def lw_At (p : Program) (s : State) (m : MethodId) (meth : Method) (c : Code) (b L : Nat) (xs : Nat → Int32) : Prop :=
  p.tables.exec = Jvm.exec ∧ c.code = code ∧ meth.sig.returnType = ret ∧ c.maxLocals = 7 ∧ s.vm.findClass R_law = some m.cls ∧ (∀ w ∈ lw_tbl, w.before #[Value.ref b] s = true) ∧ va_X b L xs s s.heap ∧ b < s.heap.size ∧ meth.locks = false ∧ (Jvm.Cond.and given_1 narrow_1).before #[Value.ref b] s = true ∧ ∀ x ∈ c.exceptionTable.toList, False
theorem law_link : okW 6175 (.methodLink (cown 13) 93 (cname 12)) = true := by decide +kernel
theorem law_d12 : decode code 12 = .ok (.invokespecial 93, 3) := by decide +kernel
theorem law_d15 : decode code 15 = .ok (.astore_n 2, 1) := by decide +kernel
theorem law_d16 : decode code 16 = .ok (.iconst 1, 1) := by decide +kernel
theorem law_d17 : decode code 17 = .ok (.newarray .long, 2) := by decide +kernel
theorem law_d19 : decode code 19 = .ok (.astore_n 3, 1) := by decide +kernel
theorem law_d20 : decode code 20 = .ok (.iconst 0, 1) := by decide +kernel
theorem law_d21 : decode code 21 = .ok (.istore 4, 2) := by decide +kernel
theorem law_code : ccode 13 = code ∧ mcode 288 = code := ⟨rfl, rfl⟩
theorem law_ret : cret 13 = ret ∧ mret 288 = ret := ⟨rfl, rfl⟩
theorem law_own : cown 13 = R_law ∧ mown 288 = R_law := ⟨rfl, rfl⟩
theorem sh66 : shp.getD 66 (.inr (9, 0)) = .inr (2, 1) := by decide +kernel
theorem cB_A : czs cA1 ≤ czs cB1 := by
  have eB : cxr 2000 4 12 0 [.ref 46] [] cA1 = some (168, [.ref 46], [.ref 46], cB1) := cB_eq
  exact (cxr_mono _ _ _ _ _ _ _ _ eB).2
section LW4
variable {sz : Nat} {adK : Nat → Nat} {D : va_G} {dA : Nat → ClassId} {b L : Nat} {xf : Nat → Int32} {S : St}
/-- the law's own row comes to the picture -/
theorem ent_nw {j nw : Nat} (hj : j < 66) : ent (adG sz adK b nw) dA S j = ent (adG sz adK b 0) dA S j := by
  unfold ent
  cases e2 : shp.getD j (.inr (9, 0)) with
  | inr q =>
    obtain ⟨t, n⟩ := q
    match t with
    | 0 => rfl
    | 1 => rfl
    | t + 2 => rfl
  | inl ci =>
    refine congrArg (fun z => Sum.inr (ci, z)) (List.map_congr_left fun k hk => ?_)
    have h68 := fk_lt (show j < 67 by omega) e2 (List.mem_range.mp hk)
    show cv _ (fvi S j k) = cv _ (fvi S j k)
    unfold fvi
    cases e : fkd j k with
    | zero => rfl
    | succ r =>
      cases r with
      | zero => rfl
      | succ r =>
        show Value.ref (adG sz adK b nw r) = Value.ref (adG sz adK b 0 r)
        rw [adG_lo (by omega), adG_lo (by omega)]
theorem pic67 {H : Heap} {q : Nat} (h : va_P D clT (wsO (adG sz adK b 0) dA 66 S ++ [(q, .inl (dA 2, (1, .inr (.inl (fun _ => 0)))))]) H) : Pic (mkG sz adK D dA b L xf 67 q) (setO S 0) H := by
  intro k z hz
  have hz : (wsO (adG sz adK b q) dA 67 (setO S 0))[k]? = some z := hz
  have hk : k < 67 := by
    by_cases hk : k < 67
    · exact hk
    · simp [wsO, hk] at hz
  rw [wsO_at _ _ _ hk] at hz
  cases hz
  have hlen : (wsO (adG sz adK b 0) dA 66 S).length = 66 := by simp [wsO]
  by_cases h6 : k < 66
  · have h9 := h k (adG sz adK b 0 k, ent (adG sz adK b 0) dA S k) (by rw [List.getElem?_append_left (by omega), wsO_at _ _ _ h6])
    rw [ent_setO _ _ _ _ _ (by omega) hk, ent_nw h6, adG_lo h6, ← adG_lo (sz := sz) (adK := adK) (b := b) (nw := 0) h6]
    exact h9
  · have e : k = 66 := by omega
    subst e
    rw [ent_A2 _ _ _ sh66, adG_66]
    exact h 66 _ (by rw [List.getElem?_append_right (by omega), hlen]; rfl)
end LW4
