/-! THE PURE MACHINE'S ROWS HOLD ON THE MACHINE -/
/-- addresses of the cells; classes' numbers and slots; array classes; how many cells; the heap's size at the start; the script's length and numbers -/
abbrev Gp : Type := (Nat → Nat) × (Nat → ClassId) × (Nat → Nat → Nat) × (Nat → ClassId) × Nat × Nat × Nat × (Nat → Int32)
abbrev g_ad (G : Gp) : Nat → Nat := G.1
abbrev g_D (G : Gp) : va_G := (G.2.1, G.2.2.1)
abbrev g_dA (G : Gp) : Nat → ClassId := G.2.2.2.1
abbrev g_nc (G : Gp) : Nat := G.2.2.2.2.1
abbrev g_sz (G : Gp) : Nat := G.2.2.2.2.2.1
abbrev g_L (G : Gp) : Nat := G.2.2.2.2.2.2.1
abbrev g_xf (G : Gp) : Nat → Int32 := G.2.2.2.2.2.2.2
def gA (G : Gp) : Nat → Prop := fun q => (∃ j, j < g_nc G ∧ q = g_ad G j) ∨ g_sz G ≤ q
def g_ty (G : Gp) : List (ClassId × FieldType) := [(g_dA G 0, .int), (g_dA G 1, .byte), (g_dA G 2, .long)]
def sT0 : String × Nat × String × Nat := ("", 0, "", 0)
/-- what lies outside the picture and is read: texts, statics -/
def GH (G : Gp) (U : State) (H : Heap) : Prop :=
  (∀ i, i < 53 → ∃ v : Nat, vk_S 1 [(sByt.getD i []).length] [sByt.getD i []] (fun _ => g_ad G (2000 + i)) (fun _ => v) (gA G) U H) ∧
  vx_Zq Bundle.tN "UNASSIGNED_STACK" Bundle.steD (gA G) U H ∧ vx_Zq Bundle.tN "SUPPRESSED_SENTINEL" Bundle.listD (gA G) U H ∧
  va_Z "java/lang/String" "COMPACT_STRINGS" "Z" (.int 1) (gA G) U H ∧ va_Zq "jdk/internal/util/Preconditions" "SIOOBE_FORMATTER" "Ljava/util/function/BiFunction;" (gA G) U H ∧ va_Nc "java/lang/IllegalArgumentException" "java/util/NoSuchElementException" U
theorem GH.moved {G : Gp} {u U : State} {H : Heap} (hvm : u.vm.Alike U.vm) (h : GH G u H) : GH G U H :=
  ⟨fun i hi => (h.1 i hi).elim fun v q => ⟨v, q.moved hvm⟩, h.2.1.moved hvm, h.2.2.1.moved hvm, h.2.2.2.1.moved hvm, h.2.2.2.2.1.moved hvm, h.2.2.2.2.2.moved hvm⟩
theorem GH.kept {G : Gp} {U : State} {H H1 : Heap} (h : GH G U H) (hq : ∀ a : Nat, a < H.size → ¬ gA G a → H1[a]? = H[a]?) : GH G U H1 :=
  ⟨fun i hi => (h.1 i hi).elim fun v q => ⟨v, q.kept hq⟩, h.2.1.kept hq, h.2.2.1.kept hq, h.2.2.2.1.kept hq, h.2.2.2.2.1.kept hq, h.2.2.2.2.2⟩
def Good (G : Gp) (U : State) : Prop := g_sz G ≤ U.heap.size ∧ va_K (g_D G) clT (g_ty G) U ∧ (∀ w ∈ nT, va_Nw w U) ∧ (∀ i, i < 53 → vk_R (sTab.getD i sT0).1 (sTab.getD i sT0).2.1 (sTab.getD i sT0).2.2.1 (g_ad G (2000 + i)) U) ∧ GH G U U.heap
def Pur (G : Gp) : Prop := (∀ i j, i < g_nc G → j < g_nc G → g_ad G i = g_ad G j → i = j) ∧ 66 ≤ g_nc G ∧ g_nc G ≤ 67 ∧ g_L G ≤ 3072
def Pic (G : Gp) (S : St) (H : Heap) : Prop := va_P (g_D G) clT (wsO (g_ad G) (g_dA G) (g_nc G) S) H
/-- the script stands in the state as cell 3000 -/
def Scr (G : Gp) (S : St) : Prop := S.2.1 3000 = g_xf G ∧ S.1 3000 0 = Int32.ofNat (g_L G)
theorem gD {G : Gp} (h : Pur G) (S : St) : va_D (gA G) (wsO (g_ad G) (g_dA G) (g_nc G) S) := by
  have key : ∀ (k : Nat) (q : Nat × va_E), (wsO (g_ad G) (g_dA G) (g_nc G) S)[k]? = some q → k < g_nc G ∧ q.1 = g_ad G k := by
    intro k q hq
    by_cases hk : k < g_nc G
    · rw [wsO_at _ _ S hk] at hq
      cases hq
      exact ⟨hk, rfl⟩
    · simp [wsO, hk] at hq
  refine ⟨fun i j p q h1 h2 he => ?_, fun k q hq => Or.inl ⟨k, key k q hq⟩⟩
  obtain ⟨a1, a2⟩ := key i p h1
  obtain ⟨b1, b2⟩ := key j q h2
  exact h.1 i j a1 b1 (by rw [← a2, ← b2]; exact he)
def Lh (ad : Nat → Nat) (lsA : Array Slot) (n : Nat) (ls : List Value) : Prop := lsA.size = n ∧ lv_wf lsA ∧ ∀ (i : Nat) (v : Value), ls[i]? = some v → lsA[i]? = some (.val (cv ad v)) ∧ c1 v = true
theorem c1_cat {v : Value} (h : c1 v = true) : v.category = 1 := by cases v <;> first | rfl | cases h
theorem Lh.take {ad : Nat → Nat} {lsA : Array Slot} {n : Nat} {ls : List Value} (h : Lh ad lsA n ls) (k : Nat) : Lh ad lsA n (ls.take k) := by
  refine ⟨h.1, h.2.1, fun i v hv => h.2.2 i v ?_⟩
  rw [List.getElem?_take] at hv
  split at hv
  · exact hv
  · cases hv
theorem Lh.cut {ad : Nat → Nat} {lsA : Array Slot} {n : Nat} {ls : List Value} (h : Lh ad lsA n ls) (k : Nat) : Lh ad lsA n (cutL k ls) := by
  cases k with
  | zero => exact h
  | succ k => exact h.take k
def lvs (ad : Nat → Nat) (ls : List Value) : List (Nat × Value) := (List.range ls.length).filterMap (fun i => ls[i]?.map (fun v => (i, cv ad v)))
theorem lvs_mem {ad : Nat → Nat} {ls : List Value} {i : Nat} {v : Value} (h : ls[i]? = some v) : (i, cv ad v) ∈ lvs ad ls := by
  refine List.mem_filterMap.mpr ⟨i, List.mem_range.mpr (List.getElem?_eq_some_iff.mp h).1, ?_⟩
  rw [h]; rfl
theorem Lh.has {ad : Nat → Nat} {lsA : Array Slot} {n : Nat} {ls : List Value} (h : Lh ad lsA n ls) : lv_has lsA n (lvs ad ls) := by
  refine ⟨h.1, h.2.1, fun q hq => ?_⟩
  obtain ⟨i, -, hi⟩ := List.mem_filterMap.mp hq
  cases e : ls[i]? with
  | none => rw [e] at hi; cases hi
  | some v =>
    rw [e] at hi
    cases hi
    exact (h.2.2 i v e).1
theorem Lh.store {ad : Nat → Nat} {lsA lsB : Array Slot} {n a : Nat} {ls ls' : List Value} {v : Value} (h : Lh ad lsA n ls) (hs : stl ls a v = some ls') (hc : c1 v = true) (hb : lv_has lsB n ((a, cv ad v) :: (lvs ad ls).filter (fun q => !(q.1 == a) && !(q.1 + 1 == a && q.2.category == 2)))) : Lh ad lsB n ls' := by
  refine ⟨hb.1, hb.2.1, fun i w hw => ?_⟩
  have hv : (i = a ∧ w = v) ∨ (i ≠ a ∧ ls[i]? = some w) := by
    unfold stl at hs
    cases e : Nat.blt a ls.length with
    | true =>
      rw [e] at hs
      cases hs
      by_cases hi : i = a
      · subst hi
        rw [List.getElem?_set_self (Nat.blt_eq.mp e)] at hw
        cases hw
        exact Or.inl ⟨rfl, rfl⟩
      · rw [List.getElem?_set_ne (fun q => hi q.symm)] at hw
        exact Or.inr ⟨hi, hw⟩
    | false =>
      rw [e] at hs
      cases e2 : Nat.beq a ls.length with
      | true =>
        rw [e2] at hs
        cases hs
        have hl : a = ls.length := Nat.eq_of_beq_eq_true e2
        by_cases hi : i = a
        · subst hi
          rw [hl, List.getElem?_append_right (Nat.le_refl _)] at hw
          simp at hw
          exact Or.inl ⟨rfl, hw.symm⟩
        · by_cases hlt : i < ls.length
          · rw [List.getElem?_append_left hlt] at hw
            exact Or.inr ⟨hi, hw⟩
          · rw [List.getElem?_eq_none (by simp; omega)] at hw
            cases hw
      | false => rw [e2] at hs; cases hs
  rcases hv with ⟨rfl, rfl⟩ | ⟨hi, hw⟩
  · exact ⟨hb.2.2 _ List.mem_cons_self, hc⟩
  · have h1 := h.2.2 i w hw
    refine ⟨hb.2.2 (i, cv ad w) (List.mem_cons_of_mem _ (List.mem_filter.mpr ⟨lvs_mem hw, ?_⟩)), h1.2⟩
    have h2 : (cv ad w).category = 1 := by rw [cv_cat]; exact c1_cat h1.2
    simp [hi, h2]
/-- the frame of method M: what is known of it -/
def Fr (G : Gp) (p : Program) (l : Launch) (s : State) (m : MethodId) (args : Array Value) (meth : Method) (c : Code) (M : Nat) : Prop :=
  p.tables.exec = Jvm.exec ∧ c.code = mcode M ∧ meth.sig.returnType = mret M ∧ c.maxLocals = mmax M ∧ s.vm.findClass (mown M) = some m.cls ∧ (∀ w ∈ gT, w.before args s = true) ∧ meth.locks = false ∧ l.stackTraces = false ∧ Good G s ∧ Pur G ∧ M < 289 ∧ (264 ≤ M → g_nc G = 67) ∧
  (M = lawM → va_X (g_ad G 3000) (g_L G) (g_xf G) s s.heap ∧ g_ad G 3000 < s.heap.size ∧ ¬ gA G (g_ad G 3000))
def Kt (G : Gp) (p : Program) (l : Launch) (e : Env) (R : Room) (s : State) (m : MethodId) (args : Array Value) (below : List Frame) (meth : Method) (c : Code) (cells slots : Nat) (Q : State → Prop) (M pc : Nat) (ls st : List Value) (S : St) : Prop :=
  ∀ (lsA : Array Slot) (H : Heap) (locs : List Loc), Lh (g_ad G) lsA (mmax M) ls → Pic G S H → va_S (gA G) s.heap H locs → W p l e R s m args below meth c H locs cells slots Q (F0 m pc lsA (st.map (cv (g_ad G))))
theorem okRow_spec {M pc ct : Nat} {o : Opn} (h : okRow M (pc, ct, o) = true) : decode (mcode M) pc = .ok (rawOf o pc, lenR o) ∧ okL M pc o = true := by
  unfold okRow at h
  rw [Bool.and_eq_true] at h
  exact ⟨of_decide_eq_true h.1, h.2⟩
section SND
variable {G : Gp} {p : Program} {l : Launch} {e : Env} {R : Room} {s : State} {m : MethodId} {args : Array Value} {below : List Frame} {meth : Method} {c : Code} {cells slots : Nat} {Q : State → Prop} {M pc ct a b w u : Nat} {k : Int32} {ls st : List Value} {S : St}
theorem s_const (F : Fr G p l s m args meth c M) (hk : okRow M (pc, ct, 0, a, b, w, u, k) = true) (K : Kt G p l e R s m args below meth c cells slots Q M (pc + lenOf (0, a, b, w, u, k)) ls (.int k :: st) S) : Kt G p l e R s m args below meth c cells slots Q M pc ls st S := by
  intro lsA H locs hl hP hS
  obtain ⟨hx, hb, hr, hml, hown, hts, -⟩ := F
  obtain ⟨hd, hq⟩ := okRow_spec hk
  have K := K lsA H locs hl hP hS
  match a, hd, hq, K with
  | 0, hd, hq, K => exact lv_iconst hx hb hd (Int32.ofInt_toInt k) K
  | 1, hd, hq, K => exact lv_bipush hx hb hd (of_decide_eq_true hq) K
  | 2, hd, hq, K => exact lv_sipush hx hb hd (of_decide_eq_true hq) K
  | 3, hd, hq, K => exact lv_ldc hx hb hown (hts _ (okW_in hq)) hd K
  | 4, hd, hq, K => exact lv_ldcw hx hb hown (hts _ (okW_in hq)) hd K
  | n + 5, hd, hq, K => cases hq
theorem s_str (F : Fr G p l s m args meth c M) (hk : okRow M (pc, ct, 1, a, b, w, u, k) = true) (K : Kt G p l e R s m args below meth c cells slots Q M (pc + lenOf (1, a, b, w, u, k)) ls (.ref (2000 + b) :: st) S) : Kt G p l e R s m args below meth c cells slots Q M pc ls st S := by
  intro lsA H locs hl hP hS
  obtain ⟨hx, hb, hr, hml, hown, hts, hlk, htr, hG, -⟩ := F
  obtain ⟨hd, hq⟩ := okRow_spec hk
  have K := K lsA H locs hl hP hS
  have hq2 : (Nat.blt b 53 && decide ((sTab.getD b sT0).1 = mown M ∧ (sTab.getD b sT0).2.1 = w) && (Nat.beq a 3 || Nat.beq a 4)) = true := hq
  simp only [Bool.and_eq_true, Bool.or_eq_true, decide_eq_true_eq, Nat.blt_eq] at hq2
  obtain ⟨⟨h1, h2, h3⟩, h4⟩ := hq2
  have hZ := hG.2.2.2.1 b h1
  rw [h2, h3] at hZ
  rcases h4 with h4 | h4
  · have := Nat.eq_of_beq_eq_true h4
    subst this
    exact va_ldcS hx hb hown hZ hd K
  · have := Nat.eq_of_beq_eq_true h4
    subst this
    intro T hT X
    obtain ⟨t, a1, b1⟩ := K T hT X
    exact ⟨t, X.ldcStringW hx hown hZ.1 hZ.2 (g := F0 m pc lsA (st.map (cv (g_ad G)))) rfl (by rw [hb]; exact hd) t a1, b1⟩
theorem s_lconst (F : Fr G p l s m args meth c M) (hk : okRow M (pc, ct, 2, a, b, w, u, k) = true) (K : Kt G p l e R s m args below meth c cells slots Q M (pc + lenOf (2, a, b, w, u, k)) ls (.long k.toInt64 :: st) S) : Kt G p l e R s m args below meth c cells slots Q M pc ls st S := by
  intro lsA H locs hl hP hS
  obtain ⟨hx, hb, hr, hml, hown, hts, -⟩ := F
  obtain ⟨hd, hq⟩ := okRow_spec hk
  have K := K lsA H locs hl hP hS
  match a, hd, hq, K with
  | 0, hd, hq, K =>
    have hq2 : (Nat.blt 0 2 && decide (Int64.ofNat ((Fin.ofNat 2 0 : Fin 2) : Nat) = k.toInt64)) = true := hq
    exact lv_lconst hx hb hd (of_decide_eq_true (Bool.and_eq_true_iff.mp hq2).2) K
  | 1, hd, hq, K =>
    have hq2 : (Nat.blt 1 2 && decide (Int64.ofNat ((Fin.ofNat 2 1 : Fin 2) : Nat) = k.toInt64)) = true := hq
    exact lv_lconst hx hb hd (of_decide_eq_true (Bool.and_eq_true_iff.mp hq2).2) K
  | 2, hd, hq, K => exact lv_ldc2 hx hb hown (hts _ (okW_in hq)) hd K
  | n + 3, hd, hq, K =>
    have hq2 : (Nat.blt (n + 3) 2 && decide (Int64.ofNat ((Fin.ofNat 2 (n + 3) : Fin 2) : Nat) = k.toInt64)) = true := hq
    have h3 : n + 3 < 2 := Nat.blt_eq.mp (Bool.and_eq_true_iff.mp hq2).1
    omega
theorem f4_at {a : Nat} (h : Nat.blt a 4 = true) : ((f4 a : Fin 4) : Nat) = a := Nat.mod_eq_of_lt (Nat.blt_eq.mp h)
theorem s_iload (F : Fr G p l s m args meth c M) (hk : okRow M (pc, ct, 3, a, b, w, u, k) = true) {x : Int32} (hv : ls[a]? = some (.int x)) (K : Kt G p l e R s m args below meth c cells slots Q M (pc + lenOf (3, a, b, w, u, k)) ls (.int x :: st) S) : Kt G p l e R s m args below meth c cells slots Q M pc ls st S := by
  intro lsA H locs hl hP hS
  obtain ⟨hx, hb, -⟩ := F
  obtain ⟨hd, hq⟩ := okRow_spec hk
  have K := K lsA H locs hl hP hS
  match b, hd, hq, K with
  | 0, hd, hq, K => exact lv_iload_n hx hb hd (f4_at hq) (hl.2.2 a _ hv).1 K
  | 1, hd, hq, K => exact lv_iload hx hb hd (hl.2.2 a _ hv).1 K
  | n + 2, hd, hq, K => cases hq
theorem s_aload (F : Fr G p l s m args meth c M) (hk : okRow M (pc, ct, 4, a, b, w, u, k) = true) {x : Nat} (hv : ls[a]? = some (.ref x)) (K : Kt G p l e R s m args below meth c cells slots Q M (pc + lenOf (4, a, b, w, u, k)) ls (.ref x :: st) S) : Kt G p l e R s m args below meth c cells slots Q M pc ls st S := by
  intro lsA H locs hl hP hS
  obtain ⟨hx, hb, -⟩ := F
  obtain ⟨hd, hq⟩ := okRow_spec hk
  have K := K lsA H locs hl hP hS
  match b, hd, hq, K with
  | 0, hd, hq, K => exact lv_aload_n hx hb hd (f4_at hq) (hl.2.2 a _ hv).1 K
  | 1, hd, hq, K => exact lv_aload hx hb hd (hl.2.2 a _ hv).1 K
  | n + 2, hd, hq, K => cases hq
theorem s_istore (F : Fr G p l s m args meth c M) (hk : okRow M (pc, ct, 5, a, b, w, u, k) = true) {x : Int32} {ls' : List Value} (hv : stl ls a (.int x) = some ls') (K : Kt G p l e R s m args below meth c cells slots Q M (pc + lenOf (5, a, b, w, u, k)) ls' st S) : Kt G p l e R s m args below meth c cells slots Q M pc ls (.int x :: st) S := by
  intro lsA H locs hl hP hS
  obtain ⟨hx, hb, -⟩ := F
  obtain ⟨hd, hq⟩ := okRow_spec hk
  have hq2 := Bool.and_eq_true_iff.mp hq
  have hn : a < mmax M := Nat.blt_eq.mp hq2.1
  match b, hd, hq2.2, K with
  | 0, hd, h4, K => exact lv_istore_n hx hb hd (f4_at h4) hl.has hn rfl (fun lsB hB => K lsB H locs (hl.store hv rfl hB) hP hS)
  | 1, hd, h4, K => exact lv_istore hx hb hd hl.has hn rfl (fun lsB hB => K lsB H locs (hl.store hv rfl hB) hP hS)
  | n + 2, hd, h4, K => cases h4
theorem s_iinc (F : Fr G p l s m args meth c M) (hk : okRow M (pc, ct, 6, a, b, w, u, k) = true) {x : Int32} {ls' : List Value} (h0 : ls[a]? = some (.int x)) (hv : stl ls a (.int (x + k)) = some ls') (K : Kt G p l e R s m args below meth c cells slots Q M (pc + lenOf (6, a, b, w, u, k)) ls' st S) : Kt G p l e R s m args below meth c cells slots Q M pc ls st S := by
  intro lsA H locs hl hP hS
  obtain ⟨hx, hb, -⟩ := F
  obtain ⟨hd, hq⟩ := okRow_spec hk
  have hn : a < mmax M := Nat.blt_eq.mp hq
  obtain ⟨i, hi⟩ := List.getElem?_of_mem (lvs_mem (ad := g_ad G) h0)
  exact lv_iinc hx hb hd hl.has hi (by rw [Int32.ofInt_toInt]) hn rfl (fun lsB hB => K lsB H locs (hl.store hv rfl hB) hP hS)
theorem s_bin (F : Fr G p l s m args meth c M) (hk : okRow M (pc, ct, 7, a, b, w, u, k) = true) {x y : Int32} (K : Kt G p l e R s m args below meth c cells slots Q M (pc + lenOf (7, a, b, w, u, k)) ls (.int (binF a x y) :: st) S) : Kt G p l e R s m args below meth c cells slots Q M pc ls (.int y :: .int x :: st) S := by
  intro lsA H locs hl hP hS
  obtain ⟨hx, hb, -⟩ := F
  obtain ⟨hd, hq⟩ := okRow_spec hk
  have K := K lsA H locs hl hP hS
  match a, hd, hq, K with
  | 0, hd, hq, K => exact lv_iadd hx hb hd K
  | 1, hd, hq, K => exact lv_isub hx hb hd K
  | 2, hd, hq, K => exact lv_imul hx hb hd K
  | 3, hd, hq, K => exact lv_iand hx hb hd K
  | 4, hd, hq, K => exact lv_ior hx hb hd K
  | 5, hd, hq, K => exact lv_ixor hx hb hd K
  | 6, hd, hq, K => exact lv_ishl hx hb hd K
  | 7, hd, hq, K => exact lv_ishr hx hb hd K
  | 8, hd, hq, K => exact lv_iushr hx hb hd rfl K
  | n + 9, hd, hq, K =>
    have h3 : n + 9 < 9 := Nat.blt_eq.mp hq
    omega
theorem s_div0 (F : Fr G p l s m args meth c M) (hk : okRow M (pc, ct, 8, 0, b, w, u, k) = true) {x y : Int32} (hy : ¬ y = 0) (K : Kt G p l e R s m args below meth c cells slots Q M (pc + lenOf (8, 0, b, w, u, k)) ls (.int (x / y) :: st) S) : Kt G p l e R s m args below meth c cells slots Q M pc ls (.int y :: .int x :: st) S := by
  intro lsA H locs hl hP hS
  obtain ⟨hx, hb, -⟩ := F
  obtain ⟨hd, hq⟩ := okRow_spec hk
  exact lv_idiv hx hb hd hy (K lsA H locs hl hP hS)
theorem s_div1 (F : Fr G p l s m args meth c M) (hk : okRow M (pc, ct, 8, a + 1, b, w, u, k) = true) {x y : Int32} (hy : ¬ y = 0) (K : Kt G p l e R s m args below meth c cells slots Q M (pc + lenOf (8, a + 1, b, w, u, k)) ls (.int (x - x / y * y) :: st) S) : Kt G p l e R s m args below meth c cells slots Q M pc ls (.int y :: .int x :: st) S := by
  intro lsA H locs hl hP hS
  obtain ⟨hx, hb, -⟩ := F
  obtain ⟨hd, hq⟩ := okRow_spec hk
  exact lv_irem hx hb hd hy (K lsA H locs hl hP hS)
theorem s_ineg (F : Fr G p l s m args meth c M) (hk : okRow M (pc, ct, 9, a, b, w, u, k) = true) {x : Int32} (K : Kt G p l e R s m args below meth c cells slots Q M (pc + 1) ls (.int (-x) :: st) S) : Kt G p l e R s m args below meth c cells slots Q M pc ls (.int x :: st) S := fun lsA H locs hl hP hS => lv_ineg F.1 F.2.1 (okRow_spec hk).1 (K lsA H locs hl hP hS)
theorem s_i2l (F : Fr G p l s m args meth c M) (hk : okRow M (pc, ct, 10, a, b, w, u, k) = true) {x : Int32} (K : Kt G p l e R s m args below meth c cells slots Q M (pc + 1) ls (.long x.toInt64 :: st) S) : Kt G p l e R s m args below meth c cells slots Q M pc ls (.int x :: st) S := fun lsA H locs hl hP hS => lv_i2l F.1 F.2.1 (okRow_spec hk).1 rfl (K lsA H locs hl hP hS)
theorem s_i2b (F : Fr G p l s m args meth c M) (hk : okRow M (pc, ct, 11, a, b, w, u, k) = true) {x : Int32} (K : Kt G p l e R s m args below meth c cells slots Q M (pc + 1) ls (.int x.toInt8.toInt32 :: st) S) : Kt G p l e R s m args below meth c cells slots Q M pc ls (.int x :: st) S := fun lsA H locs hl hP hS => lv_i2b F.1 F.2.1 (okRow_spec hk).1 rfl (K lsA H locs hl hP hS)
theorem s_lcmp (F : Fr G p l s m args meth c M) (hk : okRow M (pc, ct, 12, a, b, w, u, k) = true) {x y : Int64} (K : Kt G p l e R s m args below meth c cells slots Q M (pc + 1) ls (.int (lg_cmp x y) :: st) S) : Kt G p l e R s m args below meth c cells slots Q M pc ls (.long y :: .long x :: st) S := fun lsA H locs hl hP hS => W.lcmp F.1 F.2.1 (okRow_spec hk).1 (K lsA H locs hl hP hS)
theorem s_ladd (F : Fr G p l s m args meth c M) (hk : okRow M (pc, ct, 13, 0, b, w, u, k) = true) {x y : Int64} (K : Kt G p l e R s m args below meth c cells slots Q M (pc + 1) ls (.long (x + y) :: st) S) : Kt G p l e R s m args below meth c cells slots Q M pc ls (.long y :: .long x :: st) S := fun lsA H locs hl hP hS => lv_ladd F.1 F.2.1 (okRow_spec hk).1 (K lsA H locs hl hP hS)
theorem s_lsub (F : Fr G p l s m args meth c M) (hk : okRow M (pc, ct, 13, a + 1, b, w, u, k) = true) {x y : Int64} (K : Kt G p l e R s m args below meth c cells slots Q M (pc + 1) ls (.long (x - y) :: st) S) : Kt G p l e R s m args below meth c cells slots Q M pc ls (.long y :: .long x :: st) S := fun lsA H locs hl hP hS => lv_lsub F.1 F.2.1 (okRow_spec hk).1 (K lsA H locs hl hP hS)
theorem s_dup (F : Fr G p l s m args meth c M) (hk : okRow M (pc, ct, 14, a, b, w, u, k) = true) {v : Value} (hv : c1 v = true) (K : Kt G p l e R s m args below meth c cells slots Q M (pc + 1) ls (v :: v :: st) S) : Kt G p l e R s m args below meth c cells slots Q M pc ls (v :: st) S := fun lsA H locs hl hP hS => lv_dup F.1 F.2.1 (okRow_spec hk).1 (by rw [cv_cat]; exact c1_cat hv) (K lsA H locs hl hP hS)
theorem s_dup2 (F : Fr G p l s m args meth c M) (hk : okRow M (pc, ct, 15, a, b, w, u, k) = true) {v z : Value} (hv : c1 v = true) (hz : c1 z = true) (K : Kt G p l e R s m args below meth c cells slots Q M (pc + 1) ls (v :: z :: v :: z :: st) S) : Kt G p l e R s m args below meth c cells slots Q M pc ls (v :: z :: st) S := fun lsA H locs hl hP hS => lv_dup2_11 F.1 F.2.1 (okRow_spec hk).1 (by rw [cv_cat]; exact c1_cat hv) (by rw [cv_cat]; exact c1_cat hz) (K lsA H locs hl hP hS)
theorem s_pop (F : Fr G p l s m args meth c M) (hk : okRow M (pc, ct, 16, a, b, w, u, k) = true) {v : Value} (hv : c1 v = true) (K : Kt G p l e R s m args below meth c cells slots Q M (pc + 1) ls st S) : Kt G p l e R s m args below meth c cells slots Q M pc ls (v :: st) S := fun lsA H locs hl hP hS => lv_pop F.1 F.2.1 (okRow_spec hk).1 (by rw [cv_cat]; exact c1_cat hv) (K lsA H locs hl hP hS)
end SND
