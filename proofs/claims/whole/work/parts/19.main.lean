theorem retv {v : Option Value} {n d b M pc : Nat} {ls st : List Value} {S S' : St} (h : EvN n d b M pc ls st S (.inl v) S') : v = none ∨ ∃ x, v = some (.int x) := by
  have key : ∀ (n d b M pc : Nat) (ls st : List Value) (S : St) (out : Out) (S' : St), EvN n d b M pc ls st S out S' → ∀ v, out = .inl v → v = none ∨ ∃ x, v = some (.int x) := by
    intro n
    induction n with
    | zero => intro d b M pc ls st S out S' h; cases h
    | succ n ih =>
      intro d b M pc ls st S out S' h v hv
      obtain ⟨ct, o, -, h⟩ := h
      rcases h with ⟨-, ls', st', S1, P, he, -, h⟩ | ⟨-, h⟩ | ⟨-, x, r, -, h1, h2⟩ | ⟨-, x, y, r, -, h1, h2⟩ | ⟨-, x, r, -, h⟩ | ⟨-, x, -, -, h, -⟩ | ⟨-, -, h, -⟩ | ⟨-, -, -, h, -⟩ | ⟨-, -, As, r, d', o1, S1, -, -, -, -, -, -, -, hc, hz⟩
      · exact ih _ _ _ _ _ _ _ _ _ h v hv
      · exact ih _ _ _ _ _ _ _ _ _ h v hv
      · by_cases hc : cnd o.2.2.1 x 0
        · exact ih _ _ _ _ _ _ _ _ _ (h1 hc) v hv
        · exact ih _ _ _ _ _ _ _ _ _ (h2 hc) v hv
      · by_cases hc : cnd o.2.2.1 x y
        · exact ih _ _ _ _ _ _ _ _ _ (h1 hc) v hv
        · exact ih _ _ _ _ _ _ _ _ _ (h2 hc) v hv
      · exact ih _ _ _ _ _ _ _ _ _ h v hv
      · rw [h] at hv; cases hv; exact Or.inr ⟨x, rfl⟩
      · rw [h] at hv; cases hv; exact Or.inl rfl
      · rw [h] at hv; cases hv
      · rcases hz with ⟨v2, -, h⟩ | ⟨X, -, -, -, h, -⟩ | ⟨k, t, sl, ln, -, -, -, h⟩
        · exact ih _ _ _ _ _ _ _ _ _ h v hv
        · rw [h] at hv; cases hv
        · exact ih _ _ _ _ _ _ _ _ _ h v hv
  exact key n d b M pc ls st S _ S' h v rfl
set_option maxHeartbeats 4000000 in
theorem snd_all (l : Launch) (htr : l.stackTraces = false) : ∀ n, SndN l n := by
  intro n
  induction n with
  | zero => intro G p e R s m args below meth c cells slots CB SB d b M pc Q ls st S out S' h; cases h
  | succ n ih =>
    intro G p e R s m args below meth c cells slots CB SB d b M pc Q ls st S out S' h F hT hsc hRf hRl hce hsl hCB hSB KI KV KX KN
    obtain ⟨ct, o, hlook, h⟩ := h
    have hm := look_mem _ _ _ _ hlook
    have hM9 : M < 289 := F.2.2.2.2.2.2.2.2.2.2.1
    have hk := row_ok hM9 hm
    have hPu : Pur G := F.2.2.2.2.2.2.2.2.2.1
    have hRm : Rm R cells slots := ⟨by omega, by omega, by omega, by omega⟩
    suffices hh : Kt G p l e R s m args below meth c cells slots Q M pc (cutL ct ls) st S from fun lsA H locs hl hP hS => hh lsA H locs (hl.cut ct) hP hS
    generalize cutL ct ls = ls at h
    rcases h with ⟨hlt, ls', st', S1, P, he, hP0, h⟩ | ⟨ho, h⟩ | ⟨ho, x, r, rfl, h1, h2⟩ | ⟨ho, x, y, r, rfl, h1, h2⟩ | ⟨ho, x, r, rfl, h⟩ | ⟨ho, x, rfl, h01, hout, rfl⟩ | ⟨ho, rfl, hout, rfl⟩ | ⟨ho, hb1, hst, hout, rfl⟩ | ⟨ho1, ho2, As, r, d', o1, S1, rfl, hAl, hc1, hrv, hrl, rfl, hcst, hc, hz⟩
    · refine s_exec F hRm hsc hm he hP0 ?_
      have hsc1 : Scr G S1 := by
        have q := exec_scr he
        exact ⟨q.1.trans hsc.1, by rw [q.2]; exact hsc.2⟩
      exact ih G p e R s m args below meth c cells slots CB SB d b M _ Q ls' st' S1 out S' h F hT hsc1 hRf hRl hce hsl hCB hSB KI KV KX KN
    · obtain ⟨o1, a, bb, w, u, z⟩ := o
      dsimp only at ho h
      subst ho
      exact s_goto F hk (ih G p e R s m args below meth c cells slots CB SB d b M _ Q ls st S out S' h F hT hsc hRf hRl hce hsl hCB hSB KI KV KX KN)
    · obtain ⟨o1, a, bb, w, u, z⟩ := o
      dsimp only at ho h1 h2
      subst ho
      exact s_if F hk (fun q => ih G p e R s m args below meth c cells slots CB SB d b M _ Q ls r S out S' (h1 q) F hT hsc hRf hRl hce hsl hCB hSB KI KV KX KN) (fun q => ih G p e R s m args below meth c cells slots CB SB d b M _ Q ls r S out S' (h2 q) F hT hsc hRf hRl hce hsl hCB hSB KI KV KX KN)
    · obtain ⟨o1, a, bb, w, u, z⟩ := o
      dsimp only at ho h1 h2
      subst ho
      exact s_icmp F hk (fun q => ih G p e R s m args below meth c cells slots CB SB d b M _ Q ls r S out S' (h1 q) F hT hsc hRf hRl hce hsl hCB hSB KI KV KX KN) (fun q => ih G p e R s m args below meth c cells slots CB SB d b M _ Q ls r S out S' (h2 q) F hT hsc hRf hRl hce hsl hCB hSB KI KV KX KN)
    · obtain ⟨o1, a, bb, w, u, z⟩ := o
      dsimp only at ho h
      subst ho
      exact s_sw F hk (ih G p e R s m args below meth c cells slots CB SB d b M _ Q ls r S out S' h F hT hsc hRf hRl hce hsl hCB hSB KI KV KX KN)
    · obtain ⟨o1, a, bb, w, u, z⟩ := o
      dsimp only at ho h01
      subst ho
      obtain ⟨hd, hq⟩ := okRow_spec hk
      intro lsA H locs hl hP hS
      refine KI x hout pc lsA H locs cells slots hd ?_ hP hS (by omega) (by omega)
      match a, hq, h01 with
      | 0, hq, _ => exact Or.inl (of_decide_eq_true hq)
      | 1, hq, h01 =>
        have hq2 : (Nat.beq 1 1 && decide (mret M = some .boolean)) = true := hq
        exact Or.inr ⟨of_decide_eq_true (Bool.and_eq_true_iff.mp hq2).2, h01 rfl⟩
      | a + 2, hq, _ =>
        have hq2 : (Nat.beq (a + 2) 1 && decide (mret M = some .boolean)) = true := hq
        exact absurd (Nat.eq_of_beq_eq_true (Bool.and_eq_true_iff.mp hq2).1) (by omega)
    · obtain ⟨o1, a, bb, w, u, z⟩ := o
      dsimp only at ho
      subst ho
      obtain ⟨hd, hq⟩ := okRow_spec hk
      intro lsA H locs hl hP hS
      exact KV hout pc lsA H locs cells slots hd (of_decide_eq_true hq) hP hS (by omega) (by omega)
    · obtain ⟨o1, a, bb, w, u, z⟩ := o
      dsimp only at ho hout
      subst ho
      obtain ⟨hd, hq⟩ := okRow_spec hk
      unfold okL at hq
      simp only [Bool.and_eq_true] at hq
      have hlaw : M ≠ lawM := by
        intro q
        have q1 := hq.1.1
        rw [q] at q1
        exact absurd q1 (by decide)
      have hhd : hdl M = [] := List.isEmpty_iff.mp hq.1.2
      obtain ⟨Qc, rfl⟩ := KN hlaw hhd
      subst hout
      exact s_throw F (hT.1 hhd) ⟨by omega, by omega⟩ hm (by omega) (by omega) hCB hSB hst
    · obtain ⟨k1, a, bb, w, u, z⟩ := o
      dsimp only at ho1 ho2 hAl hrv hcst hc hz hm hk
      have hcok := List.all_eq_true.mp (callOK_all M hM9) _ hm
      have hfr : d' + 9 ≤ R.frames ∧ 40 * (d' + 1) + 300 ≤ R.locals := ⟨by omega, by omega⟩
      have hcc : cells + cst a ≤ R.cells ∧ slots + 6 * cst a ≤ R.slots := ⟨by omega, by omega⟩
      have hsc1 : Scr G S1 := by
        have q := ev_scr _ _ _ _ _ _ _ _ _ _ hc
        exact ⟨q.1.trans hsc.1, by rw [q.2]; exact hsc.2⟩
      have hAn : As.length = mn a 1 := by
        obtain ⟨hd, hq⟩ := okRow_spec hk
        have e1 : Nat.beq (mn a 1) bb = true := by
          rcases (show k1 = 57 ∨ k1 = 58 ∨ k1 = 59 ∨ k1 = 60 ∨ k1 = 61 by omega) with rfl | rfl | rfl | rfl | rfl <;> (unfold okL at hq; simp only [Bool.and_eq_true] at hq; exact hq.1.2)
        rw [hAl]; exact (Nat.eq_of_beq_eq_true e1).symm
      have hcon : (a < 264 ∨ (264 ≤ a ∧ a < 288)) ∧ Con l G d' a As S o1 S1 := by
        by_cases h61 : k1 = 61
        · subst h61
          have q : (Nat.beq M 288 && Nat.ble 264 a && Nat.blt a 288) = true := hcok
          simp only [Bool.and_eq_true] at q
          have hM : M = 288 := Nat.eq_of_beq_eq_true q.1.1
          have h1 : 264 ≤ a := Nat.le_of_ble_eq_true q.1.2
          have h2 : a < 288 := Nat.blt_eq.mp q.2
          exact ⟨Or.inr ⟨h1, h2⟩, con_help ih htr h1 h2 hc hsc hPu (F.2.2.2.2.2.2.2.2.2.2.2.1 (by omega)) hc1 hAn⟩
        · have q : a < 264 := by
            rcases (show k1 = 57 ∨ k1 = 58 ∨ k1 = 59 ∨ k1 = 60 by omega) with rfl | rfl | rfl | rfl <;> exact Nat.blt_eq.mp hcok
          exact ⟨Or.inl q, con_low ih htr q hc hsc hPu hc1 hAn⟩
      obtain ⟨hlow, hcon⟩ := hcon
      intro lsA H locs hl hP hS
      rcases hz with ⟨v, rfl, h⟩ | ⟨X, rfl, hhd, hk57, hout, rfl⟩ | ⟨kx, t, sl, ln, rfl, hhm, hk57, h⟩
      · have hmet := met_of hcon Xcx.no
        have hrun : va_Run p l e R s m args below meth c H locs cells slots (cst a) (6 * cst a) (F0 m pc lsA ((As.reverse ++ r).map (cv (g_ad G)))) (r.map (cv (g_ad G))) (Qcx G (.inl v) S1 (As.map (cv (g_ad G))).toArray) (gA G) := by
          by_cases h61 : k1 = 61
          · subst h61
            have q : (Nat.beq M 288 && Nat.ble 264 a && Nat.blt a 288) = true := hcok
            simp only [Bool.and_eq_true] at q
            exact run_help F hk hAl hrl hfr hcc hmet (Nat.le_of_ble_eq_true q.1.2) (Nat.blt_eq.mp q.2) hl hP hS
          · have q : a < 264 := by
              rcases (show k1 = 57 ∨ k1 = 58 ∨ k1 = 59 ∨ k1 = 60 by omega) with rfl | rfl | rfl | rfl <;> exact Nat.blt_eq.mp hcok
            exact run_ret F hk ⟨ho1, by omega⟩ hAl hrv hrl hfr hcc hmet q hl hP hS
        have KK := ih G p e R s m args below meth c (cells + cst a) (slots + 6 * cst a) CB SB (d' + 1) (b - cst a) M (pc + 3) Q ls (v.toList ++ r) S1 out S' h F hT hsc1 hRf hRl (by omega) (by omega) hCB hSB KI KV KX KN
        rcases retv hc with rfl | ⟨x, rfl⟩
        · refine va_callv (a := (As.map (cv (g_ad G))).toArray) (A1 := gA G) hrun hS (fun _ _ h => h) (fun _ h => h) (fun uu t H1 locs1 ht hvm hw hB hz1 hk1 hS1 => ?_)
          exact KK lsA H1 locs1 hl (by rw [← ht]; exact hB) hS1
        · refine va_calli (a := (As.map (cv (g_ad G))).toArray) (A1 := gA G) hrun hS (fun _ _ h => h) (fun _ h => h) (fun rr uu t H1 locs1 ht hvm hw hB hz1 hk1 hS1 => ?_)
          subst hw
          exact KK lsA H1 locs1 hl (by rw [← ht]; exact hB) hS1
      · have q : a < 264 := by
          rcases hk57 with rfl | rfl <;> exact Nat.blt_eq.mp hcok
        have hrun := run_thr (below := below) (e := e) F hk hk57 hAl hrv hrl hfr hcc hcon q hl hP hS
        intro T hT0 XX
        rcases hrun T hT0 XX with ⟨v9, st₀, t, T', LL, h0, X', hL, e1, e2, hbad, st⟩ | ⟨q9, st₀, t, T', LL, E, ce, h0, X', hL, e1, e2, ⟨uu, hp, ⟨hE, hPt⟩, hF⟩, hce9, hcv, hcl, st⟩
        · exact absurd hbad (fun z => z)
        · cases hE
          obtain ⟨k1', k2, k3⟩ := vx_keep h0 e1 hS (fun _ _ h => h) (fun _ h => h) hL hF
          obtain ⟨t2, a1, b1⟩ := KX X hout pc lsA (r.map (cv (g_ad G))) T'.heap (locs ++ LL) (cells + cst a) (slots + 6 * cst a) q9 ce (by rw [e1]; exact hPt) k3 (by rw [e1]; exact hce9) hcv hcl (by omega) (by omega) hhd T' rfl X'
          exact ⟨t2, st.trans a1, b1⟩
      · subst hk57
        have q : a < 264 := Nat.blt_eq.mp hcok
        have hrun := run_thr (below := below) (e := e) F hk (Or.inl rfl) hAl hrv hrl hfr hcc hcon q hl hP hS
        have KK := ih G p e R s m args below meth c (cells + cst a) (slots + 6 * cst a) CB SB (d' + 1) (b - cst a) M (t + ln) Q (ls.take sl) [] S1 out S' h F hT hsc1 hRf hRl (by omega) (by omega) hCB hSB KI KV KX KN
        intro T hT0 XX
        rcases hrun T hT0 XX with ⟨v9, st₀, t9, T', LL, h0, X', hL, e1, e2, hbad, st⟩ | ⟨q9, st₀, t9, T', LL, E, ce, h0, X', hL, e1, e2, ⟨uu, hp, ⟨hE, hPt⟩, hF⟩, hce9, hcv, hcl, st⟩
        · exact absurd hbad (fun z => z)
        · cases hE
          obtain ⟨k1', k2, k3⟩ := vx_keep h0 e1 hS (fun _ _ h => h) (fun _ h => h) hL hF
          obtain ⟨t2, a1, b1⟩ := s_catch F hT hm hhm KK lsA (r.map (cv (g_ad G))) T'.heap (locs ++ LL) q9 ce hl (by rw [e1]; exact hPt) k3 (by rw [e1]; exact hce9) hcv hcl T' rfl X'
          exact ⟨t2, st.trans a1, b1⟩
