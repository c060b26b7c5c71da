theorem look_mem : ∀ (t : List Row) (pc ct : Nat) (o : Opn), look t pc = some (ct, o) → (pc, ct, o) ∈ t := by
  intro t
  induction t with
  | nil => intro pc ct o h; cases h
  | cons r t ih =>
    intro pc ct o h
    unfold look at h
    cases e : Nat.beq r.1 pc with
    | true =>
      rw [e] at h
      have h1 : r.1 = pc := Nat.eq_of_beq_eq_true e
      have h2 : r.2 = (ct, o) := Option.some.inj h
      have h3 : r = (pc, ct, o) := by rw [← h1, ← h2]
      rw [h3]
      exact List.mem_cons_self
    | false => rw [e] at h; exact List.mem_cons_of_mem _ (ih pc ct o h)
theorem row_ok {M pc ct : Nat} {o : Opn} (hM : M < 289) (h : (pc, ct, o) ∈ tab M) : okRow M (pc, ct, o) = true := List.all_eq_true.mp (tk_all M hM) _ h
theorem no_long : ∀ M, M < 264 → (tab M).all (fun r => !(Nat.beq r.2.2.1 23) && !(Nat.beq r.2.2.1 26)) = true := by decide +kernel
theorem is_long {M pc ct k : Nat} {o : Nat × Nat × Nat × Nat × Int32} (h : (pc, ct, k, o) ∈ tab M) (hk : k = 23 ∨ k = 26) : 264 ≤ M := by
  rcases Nat.lt_or_ge M 264 with q | q
  · have h1 := List.all_eq_true.mp (no_long M q) _ h
    rcases hk with rfl | rfl <;> cases h1
  · exact q
section SND6
variable {G : Gp} {p : Program} {l : Launch} {e : Env} {R : Room} {s : State} {m : MethodId} {args : Array Value} {below : List Frame} {meth : Method} {c : Code} {cells slots : Nat} {Q : State → Prop} {M pc ct : Nat} {o : Opn} {ls st ls' st' : List Value} {S S1 : St} {P : Prop}
theorem s_exec (F : Fr G p l s m args meth c M) (hR : Rm R cells slots) (hsc : Scr G S) (hm : (pc, ct, o) ∈ tab M) (h : exec1 o ls st S True = some (ls', st', S1, P)) (hP : P) (K : Kt G p l e R s m args below meth c cells slots Q M (pc + lenOf o) ls' st' S1) : Kt G p l e R s m args below meth c cells slots Q M pc ls st S := by
  have hk := row_ok F.2.2.2.2.2.2.2.2.2.2.1 hm
  obtain ⟨k, a, b, w, u, z⟩ := o
  unfold exec1 at h
  dsimp only at h
  match k, h, hk, hm, K with
  | 0, h, hk, hm, K => cases h; exact s_const F hk K
  | 1, h, hk, hm, K => cases h; exact s_str F hk K
  | 2, h, hk, hm, K => cases h; exact s_lconst F hk K
  | 3, h, hk, hm, K =>
    change x_iload a b w u z ls st S True = _ at h; unfold x_iload at h; split at h
    · next e => cases h; exact s_iload F hk e K
    · cases h
  | 4, h, hk, hm, K =>
    change x_aload a b w u z ls st S True = _ at h; unfold x_aload at h; split at h
    · next e => cases h; exact s_aload F hk e K
    · cases h
  | 5, h, hk, hm, K =>
    change x_istore a b w u z ls st S True = _ at h; unfold x_istore at h; split at h
    · split at h
      · next e => cases h; exact s_istore F hk e K
      · cases h
    · cases h
  | 6, h, hk, hm, K =>
    change x_iinc a b w u z ls st S True = _ at h; unfold x_iinc at h; split at h
    · next e0 =>
      split at h
      · next e => cases h; exact s_iinc F hk e0 e K
      · cases h
    · cases h
  | 7, h, hk, hm, K =>
    change x_bin a b w u z ls st S True = _ at h; unfold x_bin at h; split at h
    · cases h; exact s_bin F hk K
    · cases h
  | 8, h, hk, hm, K =>
    change x_div a b w u z ls st S True = _ at h; unfold x_div at h; split at h
    · match a, h, hk, K with
      | 0, h, hk, K => cases h; exact s_div0 F hk hP.1 K
      | a + 1, h, hk, K => cases h; exact s_div1 F hk hP.1 K
    · cases h
  | 9, h, hk, hm, K =>
    change x_ineg a b w u z ls st S True = _ at h; unfold x_ineg at h; split at h
    · cases h; exact s_ineg F hk K
    · cases h
  | 10, h, hk, hm, K =>
    change x_i2l a b w u z ls st S True = _ at h; unfold x_i2l at h; split at h
    · cases h; exact s_i2l F hk K
    · cases h
  | 11, h, hk, hm, K =>
    change x_i2b a b w u z ls st S True = _ at h; unfold x_i2b at h; split at h
    · cases h; exact s_i2b F hk K
    · cases h
  | 12, h, hk, hm, K =>
    change x_lcmp a b w u z ls st S True = _ at h; unfold x_lcmp at h; split at h
    · cases h; exact s_lcmp F hk K
    · cases h
  | 13, h, hk, hm, K =>
    change x_ladd a b w u z ls st S True = _ at h; unfold x_ladd at h; split at h
    · match a, h, hk, K with
      | 0, h, hk, K => cases h; exact s_ladd F hk K
      | a + 1, h, hk, K => cases h; exact s_lsub F hk K
    · cases h
  | 14, h, hk, hm, K =>
    change x_dup a b w u z ls st S True = _ at h; unfold x_dup at h; split at h
    · split at h
      · next e => cases h; exact s_dup F hk e K
      · cases h
    · cases h
  | 15, h, hk, hm, K =>
    change x_dup2 a b w u z ls st S True = _ at h; unfold x_dup2 at h; split at h
    · split at h
      · next e1 e2 => cases h; exact s_dup2 F hk e1 e2 K
      · cases h
    · cases h
  | 16, h, hk, hm, K =>
    change x_pop a b w u z ls st S True = _ at h; unfold x_pop at h; split at h
    · split at h
      · next e => cases h; exact s_pop F hk e K
      · cases h
    · cases h
  | 17, h, hk, hm, K =>
    change x_get a b w u z ls st S True = _ at h; unfold x_get at h; split at h
    · split at h
      · next e => cases h; exact s_get F hk e K
      · cases h
    · cases h
  | 18, h, hk, hm, K =>
    change x_put a b w u z ls st S True = _ at h; unfold x_put at h; split at h
    · split at h
      · next e => cases h; exact s_put F hk e K
      · cases h
    · cases h
  | 19, h, hk, hm, K =>
    change x_putZ a b w u z ls st S True = _ at h; unfold x_putZ at h; split at h
    · split at h
      · next e => cases h; exact s_putZ F hk e hP.1 K
      · cases h
    · cases h
  | 20, h, hk, hm, K =>
    change x_putL a b w u z ls st S True = _ at h; unfold x_putL at h; split at h
    · split at h
      · next e => cases h; exact s_putL F hk e K
      · cases h
    · cases h
  | 21, h, hk, hm, K =>
    change x_iald a b w u z ls st S True = _ at h; unfold x_iald at h; split at h
    · split at h
      · next e => cases h; exact s_iald F hk e hP.1 K
      · cases h
    · cases h
  | 22, h, hk, hm, K =>
    change x_bald a b w u z ls st S True = _ at h; unfold x_bald at h; split at h
    · split at h
      · next e => cases h; exact s_bald F hk e hP.1 K
      · cases h
    · cases h
  | 23, h, hk, hm, K =>
    change x_lald a b w u z ls st S True = _ at h; unfold x_lald at h; split at h
    · split at h
      · next e => cases h; exact s_lald F (is_long hm (Or.inl rfl)) hk e hP.1 K
      · cases h
    · cases h
  | 24, h, hk, hm, K =>
    change x_iast a b w u z ls st S True = _ at h; unfold x_iast at h; split at h
    · split at h
      · next e => cases h; exact s_iast F hk e hP.1 K
      · cases h
    · cases h
  | 25, h, hk, hm, K =>
    change x_bast a b w u z ls st S True = _ at h; unfold x_bast at h; split at h
    · split at h
      · next e => cases h; exact s_bast F hk e hP.1 K
      · cases h
    · cases h
  | 26, h, hk, hm, K =>
    change x_last a b w u z ls st S True = _ at h; unfold x_last at h; split at h
    · split at h
      · next e => cases h; exact s_last F (is_long hm (Or.inr rfl)) hk e hP.1 K
      · cases h
    · cases h
  | 27, h, hk, hm, K =>
    change x_alen a b w u z ls st S True = _ at h; unfold x_alen at h; split at h
    · split at h
      · next e =>
        cases h
        unfold alenN at e
        split at e
        · next n e2 => cases e; exact s_alen F hk (t := 0) (by omega) e2 K
        · exact s_alen F hk (t := 1) (by omega) e K
      · cases h
    · cases h
  | 28, h, hk, hm, K =>
    change x_abs a b w u z ls st S True = _ at h; unfold x_abs at h; split at h
    · obtain ⟨h1, h2⟩ := few_spec h
      cases h2; exact s_abs F hR hk h1 K
    · cases h
  | 29, h, hk, hm, K =>
    change x_min a b w u z ls st S True = _ at h; unfold x_min at h; split at h
    · obtain ⟨h1, h2⟩ := few_spec h
      cases h2; exact s_min F hR hk h1 K
    · cases h
  | 30, h, hk, hm, K =>
    change x_max a b w u z ls st S True = _ at h; unfold x_max at h; split at h
    · obtain ⟨h1, h2⟩ := few_spec h
      cases h2; exact s_max F hR hk h1 K
    · cases h
  | 31, h, hk, hm, K =>
    change x_slen a b w u z ls st S True = _ at h; unfold x_slen at h; split at h
    · obtain ⟨h1, h2⟩ := few_spec h
      cases h2; exact s_slen F hR hk (by simp at h1; omega) hP.1 K
    · cases h
  | 32, h, hk, hm, K =>
    change x_schar a b w u z ls st S True = _ at h; unfold x_schar at h; split at h
    · obtain ⟨h1, h2⟩ := few_spec h
      cases h2; exact s_schar F hR hk (by simp at h1; omega) hP.1 hP.2.1 K
    · cases h
  | 33, h, hk, hm, K =>
    change x_copy a b w u z ls st S True = _ at h; unfold x_copy at h; split at h
    · split at h
      · next e0 e1 =>
        obtain ⟨h1, h2⟩ := few_spec h
        cases h2; exact s_copy F hR hk h1 e0 e1 hP.1 K
      · cases h
    · cases h
  | 34, h, hk, hm, K =>
    change x_sld a b w u z ls st S True = _ at h; unfold x_sld at h; split at h
    · cases h; exact s_sld F hsc hk hP.1 K
    · cases h
  | 35, h, hk, hm, K =>
    change x_slenS a b w u z ls st S True = _ at h; unfold x_slenS at h; split at h
    · cases h; exact s_slenS F hsc hk K
    · cases h
  | n + 36, h, hk, hm, K => cases h
end SND6
