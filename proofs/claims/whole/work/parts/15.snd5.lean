/-! the script stays as it is -/
theorem exec_scr {o : Opn} {ls st ls' st' : List Value} {S S' : St} {P P' : Prop} (h : exec1 o ls st S P = some (ls', st', S', P')) : S'.2.1 3000 = S.2.1 3000 ∧ S'.1 3000 = S.1 3000 := by
  obtain ⟨k, a, b, w, u, c⟩ := o
  have hI : ∀ (j x : Nat) (v : Int32), j < 3000 → (setI S j x v).2.1 3000 = S.2.1 3000 ∧ (setI S j x v).1 3000 = S.1 3000 := fun j x v hj => ⟨rfl, by funext q; simp [setI, show ¬ 3000 = j by omega]⟩
  have hA : ∀ (j x : Nat) (v : Int32), j < 3000 → (setA S j x v).2.1 3000 = S.2.1 3000 ∧ (setA S j x v).1 3000 = S.1 3000 := fun j x v hj => ⟨by funext q; simp [setA, show ¬ 3000 = j by omega], rfl⟩
  unfold exec1 at h
  dsimp only at h
  match k, h with
  | 0, h => cases h; exact ⟨rfl, rfl⟩
  | 1, h => cases h; exact ⟨rfl, rfl⟩
  | 2, h => cases h; exact ⟨rfl, rfl⟩
  | 3, h => change x_iload a b w u c ls st S P = _ at h; unfold x_iload at h; split at h <;> cases h; exact ⟨rfl, rfl⟩
  | 4, h => change x_aload a b w u c ls st S P = _ at h; unfold x_aload at h; split at h <;> cases h; exact ⟨rfl, rfl⟩
  | 5, h => change x_istore a b w u c ls st S P = _ at h; unfold x_istore at h; split at h <;> try cases h
            split at h <;> cases h; exact ⟨rfl, rfl⟩
  | 6, h => change x_iinc a b w u c ls st S P = _ at h; unfold x_iinc at h; split at h <;> try cases h
            split at h <;> cases h; exact ⟨rfl, rfl⟩
  | 7, h => change x_bin a b w u c ls st S P = _ at h; unfold x_bin at h; split at h <;> cases h; exact ⟨rfl, rfl⟩
  | 8, h => change x_div a b w u c ls st S P = _ at h; unfold x_div at h; split at h <;> try cases h
            split at h <;> cases h <;> exact ⟨rfl, rfl⟩
  | 9, h => change x_ineg a b w u c ls st S P = _ at h; unfold x_ineg at h; split at h <;> cases h; exact ⟨rfl, rfl⟩
  | 10, h => change x_i2l a b w u c ls st S P = _ at h; unfold x_i2l at h; split at h <;> cases h; exact ⟨rfl, rfl⟩
  | 11, h => change x_i2b a b w u c ls st S P = _ at h; unfold x_i2b at h; split at h <;> cases h; exact ⟨rfl, rfl⟩
  | 12, h => change x_lcmp a b w u c ls st S P = _ at h; unfold x_lcmp at h; split at h <;> cases h; exact ⟨rfl, rfl⟩
  | 13, h => change x_ladd a b w u c ls st S P = _ at h; unfold x_ladd at h; split at h <;> try cases h
             split at h <;> cases h <;> exact ⟨rfl, rfl⟩
  | 14, h => change x_dup a b w u c ls st S P = _ at h; unfold x_dup at h; split at h <;> try cases h
             split at h <;> cases h; exact ⟨rfl, rfl⟩
  | 15, h => change x_dup2 a b w u c ls st S P = _ at h; unfold x_dup2 at h; split at h <;> try cases h
             split at h <;> cases h; exact ⟨rfl, rfl⟩
  | 16, h => change x_pop a b w u c ls st S P = _ at h; unfold x_pop at h; split at h <;> try cases h
             split at h <;> cases h; exact ⟨rfl, rfl⟩
  | 17, h => change x_get a b w u c ls st S P = _ at h; unfold x_get at h; split at h <;> try cases h
             split at h <;> cases h; exact ⟨rfl, rfl⟩
  | 18, h => change x_put a b w u c ls st S P = _ at h; unfold x_put at h; split at h <;> try cases h
             split at h
             · next e => cases h; exact hI _ _ _ (by have := (isO_spec e).2.1; omega)
             · cases h
  | 19, h => change x_putZ a b w u c ls st S P = _ at h; unfold x_putZ at h; split at h <;> try cases h
             split at h
             · next e => cases h; exact hI _ _ _ (by have := (isO_spec e).2.1; omega)
             · cases h
  | 20, h => change x_putL a b w u c ls st S P = _ at h; unfold x_putL at h; split at h <;> try cases h
             split at h <;> cases h; exact ⟨rfl, rfl⟩
  | 21, h => change x_iald a b w u c ls st S P = _ at h; unfold x_iald at h; split at h <;> try cases h
             split at h <;> cases h; exact ⟨rfl, rfl⟩
  | 22, h => change x_bald a b w u c ls st S P = _ at h; unfold x_bald at h; split at h <;> try cases h
             split at h <;> cases h; exact ⟨rfl, rfl⟩
  | 23, h => change x_lald a b w u c ls st S P = _ at h; unfold x_lald at h; split at h <;> try cases h
             split at h <;> cases h; exact ⟨rfl, rfl⟩
  | 24, h => change x_iast a b w u c ls st S P = _ at h; unfold x_iast at h; split at h <;> try cases h
             split at h
             · next e => cases h; exact hA _ _ _ (by have := (isA_spec (by omega) e).2.2.1; omega)
             · cases h
  | 25, h => change x_bast a b w u c ls st S P = _ at h; unfold x_bast at h; split at h <;> try cases h
             split at h
             · next e => cases h; exact hA _ _ _ (by have := (isA_spec (by omega) e).2.2.1; omega)
             · cases h
  | 26, h => change x_last a b w u c ls st S P = _ at h; unfold x_last at h; split at h <;> try cases h
             split at h <;> cases h; exact ⟨rfl, rfl⟩
  | 27, h => change x_alen a b w u c ls st S P = _ at h; unfold x_alen at h; split at h <;> try cases h
             split at h <;> cases h; exact ⟨rfl, rfl⟩
  | 28, h => change x_abs a b w u c ls st S P = _ at h; unfold x_abs at h; split at h <;> try cases h
             cases (few_spec h).2; exact ⟨rfl, rfl⟩
  | 29, h => change x_min a b w u c ls st S P = _ at h; unfold x_min at h; split at h <;> try cases h
             cases (few_spec h).2; exact ⟨rfl, rfl⟩
  | 30, h => change x_max a b w u c ls st S P = _ at h; unfold x_max at h; split at h <;> try cases h
             cases (few_spec h).2; exact ⟨rfl, rfl⟩
  | 31, h => change x_slen a b w u c ls st S P = _ at h; unfold x_slen at h; split at h <;> try cases h
             cases (few_spec h).2; exact ⟨rfl, rfl⟩
  | 32, h => change x_schar a b w u c ls st S P = _ at h; unfold x_schar at h; split at h <;> try cases h
             cases (few_spec h).2; exact ⟨rfl, rfl⟩
  | 33, h => change x_copy a b w u c ls st S P = _ at h; unfold x_copy at h; split at h <;> try cases h
             split at h
             · next e =>
               cases (few_spec h).2
               refine ⟨?_, rfl⟩
               funext q
               have hj := (isA_spec (by omega) e).2.2.1
               simp only [setC]
               rw [if_neg (by omega)]
             · cases h
  | 34, h => change x_sld a b w u c ls st S P = _ at h; unfold x_sld at h; split at h <;> cases h; exact ⟨rfl, rfl⟩
  | 35, h => change x_slenS a b w u c ls st S P = _ at h; unfold x_slenS at h; split at h <;> cases h; exact ⟨rfl, rfl⟩
  | n + 36, h => cases h
theorem ev_scr : ∀ (n d b M pc : Nat) (ls st : List Value) (S : St) (out : Out) (S' : St), EvN n d b M pc ls st S out S' → S'.2.1 3000 = S.2.1 3000 ∧ S'.1 3000 = S.1 3000 := by
  intro n
  induction n with
  | zero => intro d b M pc ls st S out S' h; cases h
  | succ n ih =>
    intro d b M pc ls st S out S' h
    obtain ⟨ct, o, -, h⟩ := h
    rcases h with ⟨-, ls', st', S1, P, he, -, h⟩ | ⟨-, h⟩ | ⟨-, x, r, -, h1, h2⟩ | ⟨-, x, y, r, -, h1, h2⟩ | ⟨-, x, r, -, h⟩ | ⟨-, x, -, -, -, h⟩ | ⟨-, -, -, h⟩ | ⟨-, -, -, -, h⟩ | ⟨-, -, As, r, d', o1, S1, -, -, -, -, -, -, -, hc, hz⟩
    · have q1 := exec_scr he
      have q2 := ih _ _ _ _ _ _ _ _ _ h
      exact ⟨q2.1.trans q1.1, q2.2.trans q1.2⟩
    · exact ih _ _ _ _ _ _ _ _ _ h
    · by_cases hc : cnd o.2.2.1 x 0
      · exact ih _ _ _ _ _ _ _ _ _ (h1 hc)
      · exact ih _ _ _ _ _ _ _ _ _ (h2 hc)
    · by_cases hc : cnd o.2.2.1 x y
      · exact ih _ _ _ _ _ _ _ _ _ (h1 hc)
      · exact ih _ _ _ _ _ _ _ _ _ (h2 hc)
    · exact ih _ _ _ _ _ _ _ _ _ h
    · subst h; exact ⟨rfl, rfl⟩
    · subst h; exact ⟨rfl, rfl⟩
    · subst h; exact ⟨rfl, rfl⟩
    · have q1 := ih _ _ _ _ _ _ _ _ _ hc
      rcases hz with ⟨v, -, h⟩ | ⟨X, -, -, -, -, h⟩ | ⟨k, t, sl, ln, -, -, -, h⟩
      · have q2 := ih _ _ _ _ _ _ _ _ _ h
        exact ⟨q2.1.trans q1.1, q2.2.trans q1.2⟩
      · subst h; exact q1
      · have q2 := ih _ _ _ _ _ _ _ _ _ h
        exact ⟨q2.1.trans q1.1, q2.2.trans q1.2⟩
