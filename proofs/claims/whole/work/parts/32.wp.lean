/-! LAYER 2: what a run of the pure machine comes to, said of its end -/
theorem stepR_mono {E E' : Nat → Nat → Nat → Nat → List Value → List Value → St → Out → St → Prop} {d d2 b b2 M pc : Nat} {ls st : List Value} {S S' : St} {o : Opn} {out : Out} (hE : ∀ d d2 b b2 M pc ls st S out S', d ≤ d2 → b ≤ b2 → E d b M pc ls st S out S' → E' d2 b2 M pc ls st S out S') (hd : d ≤ d2) (hb : b ≤ b2) (h : StepR E d b M pc ls st S o out S') : StepR E' d2 b2 M pc ls st S o out S' := by
  rcases h with ⟨hlt, ls', st', S1, P, he, hP0, h⟩ | ⟨ho, h⟩ | ⟨ho, x, r, rfl, h1, h2⟩ | ⟨ho, x, y, r, rfl, h1, h2⟩ | ⟨ho, x, r, rfl, h⟩ | ⟨ho, x, rfl, h01, hout, rfl⟩ | ⟨ho, rfl, hout, rfl⟩ | ⟨ho, hb1, hst, hout, rfl⟩ | ⟨ho1, ho2, As, r, d', o1, S1, rfl, hAl, hc1, hrv, hrl, rfl, hcst, hc, hz⟩
  · exact Or.inl ⟨hlt, ls', st', S1, P, he, hP0, hE _ _ _ _ _ _ _ _ _ _ _ hd hb h⟩
  · exact Or.inr (Or.inl ⟨ho, hE _ _ _ _ _ _ _ _ _ _ _ hd hb h⟩)
  · exact Or.inr (Or.inr (Or.inl ⟨ho, x, r, rfl, fun q => hE _ _ _ _ _ _ _ _ _ _ _ hd hb (h1 q), fun q => hE _ _ _ _ _ _ _ _ _ _ _ hd hb (h2 q)⟩))
  · exact Or.inr (Or.inr (Or.inr (Or.inl ⟨ho, x, y, r, rfl, fun q => hE _ _ _ _ _ _ _ _ _ _ _ hd hb (h1 q), fun q => hE _ _ _ _ _ _ _ _ _ _ _ hd hb (h2 q)⟩)))
  · exact Or.inr (Or.inr (Or.inr (Or.inr (Or.inl ⟨ho, x, r, rfl, hE _ _ _ _ _ _ _ _ _ _ _ hd hb h⟩))))
  · exact Or.inr (Or.inr (Or.inr (Or.inr (Or.inr (Or.inl ⟨ho, x, rfl, h01, hout, rfl⟩)))))
  · exact Or.inr (Or.inr (Or.inr (Or.inr (Or.inr (Or.inr (Or.inl ⟨ho, rfl, hout, rfl⟩))))))
  · exact Or.inr (Or.inr (Or.inr (Or.inr (Or.inr (Or.inr (Or.inr (Or.inl ⟨ho, by omega, hst, hout, rfl⟩)))))))
  · refine Or.inr (Or.inr (Or.inr (Or.inr (Or.inr (Or.inr (Or.inr (Or.inr ⟨ho1, ho2, As, r, d2 - 1, o1, S1, rfl, hAl, hc1, hrv, hrl, by omega, by omega, hE _ _ _ _ _ _ _ _ _ _ _ (by omega) (Nat.le_refl _) hc, ?_⟩)))))))
    rcases hz with ⟨v, hv, h⟩ | ⟨X, hX, h2, h3, h4, h5⟩ | ⟨k, t, sl, ln, h1, h2, h3, h⟩
    · exact Or.inl ⟨v, hv, hE _ _ _ _ _ _ _ _ _ _ _ hd (by omega) h⟩
    · exact Or.inr (Or.inl ⟨X, hX, h2, h3, h4, h5⟩)
    · exact Or.inr (Or.inr ⟨k, t, sl, ln, h1, h2, h3, hE _ _ _ _ _ _ _ _ _ _ _ hd (by omega) h⟩)
theorem evn_mono : ∀ (n n2 d d2 b b2 M pc : Nat) (ls st : List Value) (S : St) (out : Out) (S' : St), n ≤ n2 → d ≤ d2 → b ≤ b2 → EvN n d b M pc ls st S out S' → EvN n2 d2 b2 M pc ls st S out S' := by
  intro n
  induction n with
  | zero => intro n2 d d2 b b2 M pc ls st S out S' _ _ _ h; cases h
  | succ n ih =>
    intro n2 d d2 b b2 M pc ls st S out S' hn hd hb h
    obtain ⟨k, rfl⟩ : ∃ k, n2 = k + 1 := ⟨n2 - 1, by omega⟩
    obtain ⟨ct, o, h1, h2⟩ := h
    exact ⟨ct, o, h1, stepR_mono (fun d d2 b b2 M pc ls st S out S' q1 q2 h => ih k d d2 b b2 M pc ls st S out S' (by omega) q1 q2 h) hd hb h2⟩
/-- the run comes to an end of which Q holds -/
def Wp (d b M pc : Nat) (ls st : List Value) (S : St) (Q : Out → St → Prop) : Prop := ∃ out S', Ev d b M pc ls st S out S' ∧ Q out S'
section WP
variable {d b M pc : Nat} {ls st : List Value} {S : St} {Q : Out → St → Prop} {ct : Nat} {o : Opn}
theorem Wp.imp {Q' : Out → St → Prop} (h : Wp d b M pc ls st S Q) (k : ∀ out S', Q out S' → Q' out S') : Wp d b M pc ls st S Q' := by
  obtain ⟨out, S', h1, h2⟩ := h
  exact ⟨out, S', h1, k _ _ h2⟩
theorem Wp.up {d2 b2 : Nat} (h : Wp d b M pc ls st S Q) (hd : d ≤ d2) (hb : b ≤ b2) : Wp d2 b2 M pc ls st S Q := by
  obtain ⟨out, S', ⟨n, h1⟩, h2⟩ := h
  exact ⟨out, S', ⟨n, evn_mono n n d d2 b b2 _ _ _ _ _ _ _ (Nat.le_refl _) hd hb h1⟩, h2⟩
theorem wp_x {ls' st' : List Value} {S1 : St} {P : Prop} (hl : look (tab M) pc = some (ct, o)) (h50 : o.1 < 50) (he : exec1 o (cutL ct ls) st S True = some (ls', st', S1, P)) (hP : P) (k : Wp d b M (pc + lenOf o) ls' st' S1 Q) : Wp d b M pc ls st S Q := by
  obtain ⟨out, S', ⟨n, h1⟩, h2⟩ := k
  exact ⟨out, S', ⟨n + 1, ct, o, hl, Or.inl ⟨h50, ls', st', S1, P, he, hP, h1⟩⟩, h2⟩
def opB (r q : Nat × Opn) : Bool := Nat.beq r.1 q.1 && Nat.beq r.2.1 q.2.1 && Nat.beq r.2.2.1 q.2.2.1 && Nat.beq r.2.2.2.1 q.2.2.2.1 && Nat.beq r.2.2.2.2.1 q.2.2.2.2.1 && Nat.beq r.2.2.2.2.2.1 q.2.2.2.2.2.1 && (r.2.2.2.2.2.2 == q.2.2.2.2.2.2)
theorem opB_eq {r q : Nat × Opn} (h : opB r q = true) : r = q := by
  obtain ⟨a1, a2, a3, a4, a5, a6, a7⟩ := r
  obtain ⟨b1, b2, b3, b4, b5, b6, b7⟩ := q
  unfold opB at h
  simp only [Bool.and_eq_true, Nat.beq_eq, beq_iff_eq] at h
  obtain ⟨⟨⟨⟨⟨⟨h1, h2⟩, h3⟩, h4⟩, h5⟩, h6⟩, h7⟩ := h
  subst h1; subst h2; subst h3; subst h4; subst h5; subst h6; subst h7
  rfl
def rowIs (M pc : Nat) (r : Nat × Opn) : Bool := match look (tab M) pc with
  | some q => opB q r
  | none => false
theorem rowIs_eq {M pc : Nat} {r : Nat × Opn} (h : rowIs M pc r = true) : look (tab M) pc = some r := by
  unfold rowIs at h
  cases e : look (tab M) pc with
  | none => rw [e] at h; cases h
  | some q => rw [e] at h; rw [opB_eq h]
def seg (M : Nat) : Nat → List (Nat × Opn) → Nat → Bool
  | pc, [], pc' => Nat.beq pc pc'
  | pc, r :: t, pc' => rowIs M pc r && Nat.blt r.2.1 50 && seg M (pc + lenOf r.2) t pc'
def execL : List (Nat × Opn) → List Value → List Value → St → (List Value → List Value → St → Prop) → Prop
  | [], ls, st, S, K => K ls st S
  | r :: t, ls, st, S, K => match exec1 r.2 (cutL r.1 ls) st S True with
    | some (ls', st', S', P) => P ∧ execL t ls' st' S' K
    | none => False
theorem wp_blk : ∀ (rows : List (Nat × Opn)) {pc pc' : Nat} {ls st : List Value} {S : St}, seg M pc rows pc' = true → execL rows ls st S (fun ls' st' S' => Wp d b M pc' ls' st' S' Q) → Wp d b M pc ls st S Q := by
  intro rows
  induction rows with
  | nil =>
    intro pc pc' ls st S h k
    have e : pc = pc' := Nat.eq_of_beq_eq_true h
    subst e
    exact k
  | cons r t ih =>
    intro pc pc' ls st S h k
    unfold seg at h
    simp only [Bool.and_eq_true] at h
    unfold execL at k
    cases e : exec1 r.2 (cutL r.1 ls) st S True with
    | none => rw [e] at k; exact k.elim
    | some q =>
      rw [e] at k
      exact wp_x (ct := r.1) (o := r.2) (rowIs_eq h.1.1) (Nat.blt_eq.mp h.1.2) e k.1 (ih h.2 k.2)
theorem wp_goto {a x1 x2 x3 : Nat} {x4 : Int32} (hl : rowIs M pc (ct, 50, a, x1, x2, x3, x4) = true) (k : Wp d b M a (cutL ct ls) st S Q) : Wp d b M pc ls st S Q := by
  obtain ⟨out, S', ⟨n, h1⟩, h2⟩ := k
  exact ⟨out, S', ⟨n + 1, ct, _, rowIs_eq hl, Or.inr (Or.inl ⟨rfl, h1⟩)⟩, h2⟩
theorem wp_if {a c x2 x3 : Nat} {x4 x : Int32} (hl : rowIs M pc (ct, 51, a, c, x2, x3, x4) = true) (k1 : cnd c x 0 → Wp d b M a (cutL ct ls) st S Q) (k2 : ¬ cnd c x 0 → Wp d b M (pc + 3) (cutL ct ls) st S Q) : Wp d b M pc ls (.int x :: st) S Q := by
  by_cases h : cnd c x 0
  · obtain ⟨out, S', ⟨n, h1⟩, h2⟩ := k1 h
    exact ⟨out, S', ⟨n + 1, ct, _, rowIs_eq hl, Or.inr (Or.inr (Or.inl ⟨rfl, x, st, rfl, fun _ => h1, fun q => absurd h q⟩))⟩, h2⟩
  · obtain ⟨out, S', ⟨n, h1⟩, h2⟩ := k2 h
    exact ⟨out, S', ⟨n + 1, ct, _, rowIs_eq hl, Or.inr (Or.inr (Or.inl ⟨rfl, x, st, rfl, fun q => absurd q h, fun _ => h1⟩))⟩, h2⟩
theorem wp_icmp {a c x2 x3 : Nat} {x4 x y : Int32} (hl : rowIs M pc (ct, 52, a, c, x2, x3, x4) = true) (k1 : cnd c x y → Wp d b M a (cutL ct ls) st S Q) (k2 : ¬ cnd c x y → Wp d b M (pc + 3) (cutL ct ls) st S Q) : Wp d b M pc ls (.int y :: .int x :: st) S Q := by
  by_cases h : cnd c x y
  · obtain ⟨out, S', ⟨n, h1⟩, h2⟩ := k1 h
    exact ⟨out, S', ⟨n + 1, ct, _, rowIs_eq hl, Or.inr (Or.inr (Or.inr (Or.inl ⟨rfl, x, y, st, rfl, fun _ => h1, fun q => absurd h q⟩)))⟩, h2⟩
  · obtain ⟨out, S', ⟨n, h1⟩, h2⟩ := k2 h
    exact ⟨out, S', ⟨n + 1, ct, _, rowIs_eq hl, Or.inr (Or.inr (Or.inr (Or.inl ⟨rfl, x, y, st, rfl, fun q => absurd q h, fun _ => h1⟩)))⟩, h2⟩
theorem wp_sw {a x1 x2 x3 : Nat} {x4 x : Int32} (hl : rowIs M pc (ct, 53, a, x1, x2, x3, x4) = true) (k : Wp d b M (swT a x) (cutL ct ls) st S Q) : Wp d b M pc ls (.int x :: st) S Q := by
  obtain ⟨out, S', ⟨n, h1⟩, h2⟩ := k
  exact ⟨out, S', ⟨n + 1, ct, _, rowIs_eq hl, Or.inr (Or.inr (Or.inr (Or.inr (Or.inl ⟨rfl, x, st, rfl, h1⟩))))⟩, h2⟩
theorem wp_ret {a x1 x2 x3 : Nat} {x4 x : Int32} (hl : rowIs M pc (ct, 54, a, x1, x2, x3, x4) = true) (h01 : a = 1 → x = 0 ∨ x = 1) (k : Q (.inl (some (.int x))) S) : Wp d b M pc ls [.int x] S Q :=
  ⟨_, S, ⟨1, ct, _, rowIs_eq hl, Or.inr (Or.inr (Or.inr (Or.inr (Or.inr (Or.inl ⟨rfl, x, rfl, h01, rfl, rfl⟩)))))⟩, k⟩
theorem wp_vret {x0 x1 x2 x3 : Nat} {x4 : Int32} (hl : rowIs M pc (ct, 55, x0, x1, x2, x3, x4) = true) (k : Q (.inl none) S) : Wp d b M pc ls [] S Q :=
  ⟨_, S, ⟨1, ct, _, rowIs_eq hl, Or.inr (Or.inr (Or.inr (Or.inr (Or.inr (Or.inr (Or.inl ⟨rfl, rfl, rfl, rfl⟩))))))⟩, k⟩
theorem wp_throw {a x1 x2 x3 : Nat} {x4 : Int32} (hl : rowIs M pc (ct, 56, a, x1, x2, x3, x4) = true) (hb : 1 ≤ b) (hst : st.length ≤ 4) (k : Q (.inr (exN a)) S) : Wp d b M pc ls st S Q :=
  ⟨_, S, ⟨1, ct, _, rowIs_eq hl, Or.inr (Or.inr (Or.inr (Or.inr (Or.inr (Or.inr (Or.inr (Or.inl ⟨rfl, hb, hst, rfl, rfl⟩)))))))⟩, k⟩
theorem wp_call {k a n w u : Nat} {z : Int32} {As r : List Value} {R : Out → St → Prop} (hl : rowIs M pc (ct, k, a, n, w, u, z) = true) (hk : 57 ≤ k ∧ k ≤ 61) (hA : As.length = n) (hc : As.all c1 = true) (hr : rcv a As = true) (h4 : r.length ≤ 4) (hb : cst a ≤ b) (hs : Wp d (cst a) a 0 As [] S R)
    (K : ∀ v S1, R (.inl v) S1 → Wp (d + 1) (b - cst a) M (pc + 3) (cutL ct ls) (v.toList ++ r) S1 Q)
    (KX : ∀ X S1, R (.inr X) S1 → (hdl M = [] ∧ (k = 57 ∨ k = 58) ∧ Q (.inr X) S1) ∨ (∃ j t sl ln, X = exN j ∧ (j, t, sl, ln) ∈ hdl M ∧ k = 57 ∧ Wp (d + 1) (b - cst a) M (t + ln) ((cutL ct ls).take sl) [] S1 Q)) : Wp (d + 1) b M pc ls (As.reverse ++ r) S Q := by
  obtain ⟨o1, S1, ⟨n1, h1⟩, hR⟩ := hs
  have hc' : ∀ v ∈ As, c1 v = true := List.all_eq_true.mp hc
  cases o1 with
  | inl v =>
    obtain ⟨out, S', ⟨n2, h2⟩, hQ⟩ := K v S1 hR
    refine ⟨out, S', ⟨n1 + n2 + 1, ct, _, rowIs_eq hl, Or.inr (Or.inr (Or.inr (Or.inr (Or.inr (Or.inr (Or.inr (Or.inr ⟨hk.1, hk.2, As, r, d, _, S1, rfl, hA, hc', hr, h4, rfl, hb, evn_mono n1 _ d d _ _ _ _ _ _ _ _ _ (by omega) (Nat.le_refl _) (Nat.le_refl _) h1, Or.inl ⟨v, rfl, ?_⟩⟩)))))))⟩, hQ⟩
    exact evn_mono n2 _ _ _ _ _ _ _ _ _ _ _ _ (by omega) (Nat.le_refl _) (Nat.le_refl _) h2
  | inr X =>
    rcases KX X S1 hR with ⟨q1, q2, q3⟩ | ⟨j, t, sl, ln, rfl, q2, q3, out, S', ⟨n2, h2⟩, hQ⟩
    · exact ⟨_, S1, ⟨n1 + 1, ct, _, rowIs_eq hl, Or.inr (Or.inr (Or.inr (Or.inr (Or.inr (Or.inr (Or.inr (Or.inr ⟨hk.1, hk.2, As, r, d, _, S1, rfl, hA, hc', hr, h4, rfl, hb, h1, Or.inr (Or.inl ⟨X, rfl, q1, q2, rfl, rfl⟩)⟩)))))))⟩, q3⟩
    · refine ⟨out, S', ⟨n1 + n2 + 1, ct, _, rowIs_eq hl, Or.inr (Or.inr (Or.inr (Or.inr (Or.inr (Or.inr (Or.inr (Or.inr ⟨hk.1, hk.2, As, r, d, _, S1, rfl, hA, hc', hr, h4, rfl, hb, evn_mono n1 _ d d _ _ _ _ _ _ _ _ _ (by omega) (Nat.le_refl _) (Nat.le_refl _) h1, Or.inr (Or.inr ⟨j, t, sl, ln, rfl, q2, q3, ?_⟩)⟩)))))))⟩, hQ⟩
      exact evn_mono n2 _ _ _ _ _ _ _ _ _ _ _ _ (by omega) (Nat.le_refl _) (Nat.le_refl _) h2
end WP
theorem pure_of_wp (h : ∀ (L : Nat) (xf : Nat → Int32), L ≤ 3072 → Wp 1900 0 161 0 [.ref 46] [] (Sini L xf) (fun o S1 => o = .inl none ∧ Wp 2000 4096 288 23 lsLaw [] (setO S1 0) (fun o _ => o = .inl (some (.int 1))))) : PureClaim := by
  intro L xf hL
  obtain ⟨o, S1, h1, rfl, o2, S', h2, rfl⟩ := h L xf hL
  exact ⟨S1, S', h1, h2⟩
