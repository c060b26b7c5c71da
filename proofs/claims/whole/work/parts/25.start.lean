/-! THE START: what the Statement gives, as the machine's rows want it -/
def nfl : List Jvm.Cond := flatC (.and given_1 narrow_1)
def sPos : List Nat := [39, 49, 54, 61, 66, 100, 109, 117, 134, 149, 167, 184, 202, 228, 250, 288, 311, 340, 360, 389, 418, 452, 478, 494, 526, 534, 543, 550, 559, 564, 569, 574, 579, 589, 598, 608, 615, 622, 628, 638, 648, 658, 667, 675, 681, 687, 693, 699, 710, 720, 731, 739, 747]
def sTm (i : Nat) : Term := .string (sTab.getD i sT0).1 (sTab.getD i sT0).2.1
def sLn (i : Nat) : Nat := (sByt.getD i []).length
def expW (i : Nat) : List Jvm.Cond := [.exactly (sTm i) "java/lang/String", .eq (.field (sTm i) "java/lang/String" "coder" "B") (.int 0), .arrayOf (.field (sTm i) "java/lang/String" "value" "[B") .byte, .eq (.length (.field (sTm i) "java/lang/String" "value" "[B")) (.int (Int32.ofNat (sLn i)))] ++ (List.range (sLn i)).map (fun j => .eq (.elem (.field (sTm i) "java/lang/String" "value" "[B") (.int (Int32.ofNat j))) (.int ((sByt.getD i []).getD j 0)))
def expB (i : Nat) : Bool := decide ((nfl.drop (sPos.getD i 0)).take (expW i).length = expW i)
theorem ex0 : ∀ k, k < 9 → expB (0 + k) = true := by decide +kernel
theorem ex1 : ∀ k, k < 9 → expB (9 + k) = true := by decide +kernel
theorem ex2 : ∀ k, k < 9 → expB (18 + k) = true := by decide +kernel
theorem ex3 : ∀ k, k < 9 → expB (27 + k) = true := by decide +kernel
theorem ex4 : ∀ k, k < 9 → expB (36 + k) = true := by decide +kernel
theorem ex5 : ∀ k, k < 8 → expB (45 + k) = true := by decide +kernel
theorem ex_all : ∀ i, i < 53 → expB i = true := by
  intro i h
  by_cases h0 : i < 9
  · have q := ex0 (i - 0) (by omega)
    rwa [show 0 + (i - 0) = i by omega] at q
  by_cases h1 : i < 18
  · have q := ex1 (i - 9) (by omega)
    rwa [show 9 + (i - 9) = i by omega] at q
  by_cases h2 : i < 27
  · have q := ex2 (i - 18) (by omega)
    rwa [show 18 + (i - 18) = i by omega] at q
  by_cases h3 : i < 36
  · have q := ex3 (i - 27) (by omega)
    rwa [show 27 + (i - 27) = i by omega] at q
  by_cases h4 : i < 45
  · have q := ex4 (i - 36) (by omega)
    rwa [show 36 + (i - 36) = i by omega] at q
  by_cases h5 : i < 53
  · have q := ex5 (i - 45) (by omega)
    rwa [show 45 + (i - 45) = i by omega] at q
  omega
theorem ex_in {i : Nat} (h : i < 53) {w : Jvm.Cond} (hw : w ∈ expW i) : w ∈ nfl := by
  have q : (nfl.drop (sPos.getD i 0)).take (expW i).length = expW i := of_decide_eq_true (ex_all i h)
  rw [← q] at hw
  exact List.mem_of_mem_drop (List.mem_of_mem_take hw)
def nfW : List (Nat × Jvm.Cond) := [(4, .eq (.static "java/lang/String" "COMPACT_STRINGS" "Z") (.int 1)), (5, .isRef (.static "jdk/internal/util/Preconditions" "SIOOBE_FORMATTER" "Ljava/util/function/BiFunction;")), (9, .isRef (.static Bundle.tN "UNASSIGNED_STACK" Bundle.steD)), (10, .isRef (.static Bundle.tN "SUPPRESSED_SENTINEL" Bundle.listD)), (38, .not (.castable "java/lang/IllegalArgumentException" "java/util/NoSuchElementException"))]
theorem nfW_ok : ∀ q ∈ nfW, nfl[q.1]? = some q.2 := by decide +kernel
theorem nfW_in (i : Nat) {q : Nat × Jvm.Cond} (h : nfW[i]? = some q) : q.2 ∈ nfl := List.mem_of_getElem? (nfW_ok q (List.mem_of_getElem? h))
theorem wdl {u : Nat} {x : Jvm.Cond} (h : wd u = some x) {args : Array Value} {s : State} (hts : ∀ w ∈ lw_tbl, w.before args s = true) : x.before args s = true := hts x (wd_in h)
def stW : List (Nat × Jvm.Cond) := [(3212, .laysStatic "java/lang/String" "COMPACT_STRINGS" "Z"), (3228, .laysStatic "jdk/internal/util/Preconditions" "SIOOBE_FORMATTER" "Ljava/util/function/BiFunction;"), (4087, .laysStatic Bundle.tN "UNASSIGNED_STACK" Bundle.steD), (4089, .laysStatic Bundle.tN "SUPPRESSED_SENTINEL" Bundle.listD), (1019, .initialized "java/lang/String"), (1021, .initialized "jdk/internal/util/Preconditions"), (1014, .initialized Bundle.tN)]
theorem stW_ok : ∀ q ∈ stW, wd q.1 = some q.2 := by decide +kernel
theorem stW_at (i : Nat) {q : Nat × Jvm.Cond} (h : stW[i]? = some q) {args : Array Value} {s : State} (hts : ∀ w ∈ lw_tbl, w.before args s = true) : q.2.before args s = true := wdl (stW_ok q (List.mem_of_getElem? h)) hts
theorem sT_words : ∀ i, i < 53 → wd (sTab.getD i sT0).2.2.2 = some (.stringRef (sTab.getD i sT0).1 (sTab.getD i sT0).2.1 (sTab.getD i sT0).2.2.1) := by decide +kernel
theorem trace_off {l : Launch} (h : l.flags = flags0) : l.stackTraces = false := by
  unfold Launch.stackTraces
  rw [h]
  decide +kernel
/-- texts and statics, as they are outside what is made -/
theorem start_H {args : Array Value} {s : State} (hts : ∀ w ∈ lw_tbl, w.before args s = true) (hgv : ∀ w ∈ nfl, w.before args s = true) : ∃ adK : Nat → Nat, (∀ i, i < 53 → vk_R (sTab.getD i sT0).1 (sTab.getD i sT0).2.1 (sTab.getD i sT0).2.2.1 (adK i) s) ∧
    (∀ i, i < 53 → ∃ v : Nat, vk_S 1 [(sByt.getD i []).length] [sByt.getD i []] (fun _ => adK i) (fun _ => v) (fun q => s.heap.size ≤ q) s s.heap) ∧
    vx_Zq Bundle.tN "UNASSIGNED_STACK" Bundle.steD (fun q => s.heap.size ≤ q) s s.heap ∧ vx_Zq Bundle.tN "SUPPRESSED_SENTINEL" Bundle.listD (fun q => s.heap.size ≤ q) s s.heap ∧
    va_Z "java/lang/String" "COMPACT_STRINGS" "Z" (.int 1) (fun q => s.heap.size ≤ q) s s.heap ∧ va_Zq "jdk/internal/util/Preconditions" "SIOOBE_FORMATTER" "Ljava/util/function/BiFunction;" (fun q => s.heap.size ≤ q) s s.heap ∧ va_Nc "java/lang/IllegalArgumentException" "java/util/NoSuchElementException" s := by
  have hA : ∀ a : Nat, a < s.heap.size → ¬ s.heap.size ≤ a := fun a h => Nat.not_le.mpr h
  have key : ∀ i, ∃ a : Nat, i < 53 → vk_R (sTab.getD i sT0).1 (sTab.getD i sT0).2.1 (sTab.getD i sT0).2.2.1 a s ∧ ∃ v : Nat, vk_S 1 [(sByt.getD i []).length] [sByt.getD i []] (fun _ => a) (fun _ => v) (fun q => s.heap.size ≤ q) s s.heap := by
    intro i
    by_cases hi : i < 53
    · have hw : ∀ w ∈ expW i, w.before args s = true := fun w h => hgv w (ex_in hi h)
      have hlen := sb_len i hi
      obtain ⟨adK, adV, hS, hev⟩ := vk_Sof (args := args) (s := s) (N := 1) (tm := fun _ => sTm i) (len := [(sByt.getD i []).length]) (byt := [sByt.getD i []]) (A := fun q => s.heap.size ≤ q)
        (fun j hj => by rw [show j = 0 by omega]; show (sByt.getD i []).length < _; omega)
        (fun j hj => hw _ (List.mem_append_left _ (List.mem_of_getElem? (i := 0) rfl)))
        (fun j hj => hw _ (List.mem_append_left _ (List.mem_of_getElem? (i := 1) rfl)))
        (fun j hj => hw _ (List.mem_append_left _ (List.mem_of_getElem? (i := 2) rfl)))
        (fun j hj => by rw [show j = 0 by omega]; exact hw _ (List.mem_append_left _ (List.mem_of_getElem? (i := 3) rfl)))
        (fun j hj q hq => by
          rw [show j = 0 by omega] at hq ⊢
          exact hw _ (List.mem_append_right _ (List.mem_map.mpr ⟨q, List.mem_range.mpr hq, rfl⟩)))
        (fun a b h1 h2 h3 => absurd (show a = b by omega) h3) hA
      refine ⟨adK 0, fun _ => ⟨vk_R.of (wdl (sT_words i hi) hts) (hev 0 (by omega)), adV 0, ?_⟩⟩
      refine ⟨fun j hj => ?_, fun a b h1 h2 _ => by omega⟩
      have h9 := hS.1 j hj
      rw [show j = 0 by omega] at h9 ⊢
      exact h9
    · exact ⟨0, fun h => absurd h hi⟩
  obtain ⟨adK, hK⟩ := Classical.axiomOfChoice key
  refine ⟨adK, fun i hi => (hK i hi).1, fun i hi => (hK i hi).2, ?_, ?_, ?_, ?_, ?_⟩
  · exact vx_Zqof (stW_at 2 rfl hts) (stW_at 6 rfl hts) (hgv _ (nfW_in 2 rfl)) hA
  · exact vx_Zqof (stW_at 3 rfl hts) (stW_at 6 rfl hts) (hgv _ (nfW_in 3 rfl)) hA
  · exact va_Zof (stW_at 0 rfl hts) (stW_at 4 rfl hts) (va_eqt (hgv _ (nfW_in 0 rfl))) hA
  · exact va_Zqof (stW_at 1 rfl hts) (stW_at 5 rfl hts) (hgv _ (nfW_in 1 rfl)) hA
  · exact va_Nc.of (hgv _ (nfW_in 4 rfl))
theorem cinst : ∀ ci, ci < 13 → okW (cn ci 8) (.instantiable (clG ci).1 (clG ci).2.2) = true := by decide +kernel
theorem start_K {args : Array Value} {s : State} (hts : ∀ w ∈ lw_tbl, w.before args s = true) : ∃ (D : va_G) (dA : Nat → ClassId), va_K D clT (tyD dA) s := by
  have hg : ∀ w ∈ gT, w.before args s = true := fun w hw => hts w (List.mem_filter.mp hw).1
  have key : ∀ ci, ∃ q : ClassId × (Nat → Nat), ci < 13 → u_Kn s (clG ci).1 (clG ci).2.1 (clG ci).2.2 q.1 q.2 := by
    intro ci
    by_cases hc : ci < 13
    · have hq := cinst ci hc
      obtain ⟨cC, iS, h⟩ := u_known (C := (clG ci).1) (T := (clG ci).2.1) (N := (clG ci).2.2) hg (cl_lay hc) (hg _ (okW_in hq))
      exact ⟨(cC, iS), fun _ => h⟩
    · exact ⟨(0, fun _ => 0), fun h => absurd h hc⟩
  obtain ⟨f, hf⟩ := Classical.axiomOfChoice key
  have arr : ∀ ty, (Jvm.Cond.arrayClass ty).before args s = true → (∀ C, ty ≠ .object C) → ∃ cA, ArrOfT s cA ty ∧ va_RA s cA ty := by
    intro ty h hno
    obtain ⟨cA, k, comp, h1, h2, h3⟩ := Cond.arrayClass_spec h
    refine ⟨cA, fun n z => ⟨fun k h => (by cases h), k, h2, comp, h3⟩, ?_⟩
    cases ty <;> first | exact absurd rfl (hno _) | exact h1
  obtain ⟨a0, h0, r0⟩ := arr .int (hg _ (jO_in 2 rfl)) (fun C h => by cases h)
  obtain ⟨a1, h1, r1⟩ := arr .byte (hg _ (jO_in 3 rfl)) (fun C h => by cases h)
  obtain ⟨a2, h2, r2⟩ := arr .long (hg _ (jO_in 4 rfl)) (fun C h => by cases h)
  refine ⟨(fun k => (f k).1, fun k => (f k).2), fun k => match k with | 0 => a0 | 1 => a1 | _ => a2, fun k q hq => ?_, fun k q hq => ?_⟩
  · have hk : k < 13 := (List.getElem?_eq_some_iff.mp hq).1
    rw [cl_get hk] at hq
    cases hq
    exact hf k hk
  · match k, hq with
    | 0, hq => cases hq; exact ⟨h0, r0⟩
    | 1, hq => cases hq; exact ⟨h1, r1⟩
    | 2, hq => cases hq; exact ⟨h2, r2⟩
    | n + 3, hq => simp at hq
