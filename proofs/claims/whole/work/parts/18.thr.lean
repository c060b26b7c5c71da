/-! throws, and what the law's helpers catch: owed below -/
section THR
variable {G : Gp} {p : Program} {l : Launch} {e : Env} {R : Room} {s : State} {m : MethodId} {args : Array Value} {below : List Frame} {meth : Method} {c : Code} {cells slots CB SB : Nat} {Q : State → Prop} {M pc ct a b w u d n : Nat} {k : Int32} {ls st As r : List Value} {S S' : St} {out : Out} {Qc : Array Value → State → Outcome → State → Prop}
theorem s_throw (F : Fr G p l s m args meth c M) (hexc : ∀ x ∈ c.exceptionTable.toList, False) (hR : 8 ≤ R.frames ∧ 300 ≤ R.locals) (hm : (pc, ct, 56, a, b, w, u, k) ∈ tab M) (hce : cells + 1 ≤ CB) (hsl : slots + 6 ≤ SB) (hCB : CB ≤ R.cells) (hSB : SB ≤ R.slots) (hst : st.length ≤ 4) : Kt G p l e R s m args below meth c cells slots (vx_MQ below Qc (Xcx G (.inr (exN a)) S) args s CB SB (gA G)) M pc ls st S := sorry
theorem s_catch (F : Fr G p l s m args meth c M) (hT : Tb M c) {o : Nat × Nat × Nat × Nat × Int32} (hm : (pc, ct, 57, o) ∈ tab M) {x t sl ln : Nat} (hh : (x, t, sl, ln) ∈ hdl M) (K : Kt G p l e R s m args below meth c cells slots Q M (t + ln) (ls.take sl) [] S) : ∀ (lsA : Array Slot) (rest : List Value) (H : Heap) (locs : List Loc) (q : Nat) (ce : Cell), Lh (g_ad G) lsA (mmax M) ls → Pic G S H → va_S (gA G) s.heap H locs → H[q]? = some ce → ce.vm = .none → s.vm.findClass (exN x) = some ce.cls → vx_W p l e R s m args below meth c H locs cells slots Q (F0 m pc lsA rest) q := sorry
theorem con_help (hN : SndN l n) (htr : l.stackTraces = false) (hM : 264 ≤ M) (hM2 : M < 288) (hE : EvN n d (cst M) M 0 As [] S out S') (hsc : Scr G S) (hPu : Pur G) (h67 : g_nc G = 67) (hc : ∀ v ∈ As, c1 v = true) (hA : As.length = mn M 1) : Con l G d M As S out S' := sorry
theorem run_help {lsA : Array Slot} {H : Heap} {locs : List Loc} (F : Fr G p l s m args meth c M) (hk : okRow M (pc, ct, 61, a, b, w, u, k) = true) (hA : As.length = b) (hrl : r.length ≤ 4) (hfr : d + 9 ≤ R.frames ∧ 40 * (d + 1) + 300 ≤ R.locals) (hce : cells + cst a ≤ R.cells ∧ slots + 6 * cst a ≤ R.slots) (hcon : Met l (mname a) (headW a :: gT) (rmM d a) (Pcx G As S) Qc (cst a) (6 * cst a) (gA G)) (ha : 264 ≤ a) (ha2 : a < 288) (hl : Lh (g_ad G) lsA (mmax M) ls) (hP : Pic G S H) (hS : va_S (gA G) s.heap H locs) :
    va_Run p l e R s m args below meth c H locs cells slots (cst a) (6 * cst a) (F0 m pc lsA ((As.reverse ++ r).map (cv (g_ad G)))) (r.map (cv (g_ad G))) (Qc (As.map (cv (g_ad G))).toArray) (gA G) := sorry
end THR
/-- calls go to the class's and the reference's methods; the law's helpers are called by the law alone -/
def callOK (M : Nat) (r : Row) : Bool := match r.2.2.1 with
  | 57 => Nat.blt r.2.2.2.1 264
  | 58 => Nat.blt r.2.2.2.1 264
  | 59 => Nat.blt r.2.2.2.1 264
  | 60 => Nat.blt r.2.2.2.1 264
  | 61 => Nat.beq M 288 && Nat.ble 264 r.2.2.2.1 && Nat.blt r.2.2.2.1 288
  | _ => true
theorem callOK_all : ∀ M, M < 289 → (tab M).all (callOK M) = true := by decide +kernel
