set_option maxHeartbeats 2000000 in
theorem csnd_all (l : Launch) : ∀ n, CSnd l n := by
  intro n
  induction n with
  | zero => intro sz ad D dA p e R s m args below meth c n0 z0 Q d M pc ls st cs pc' ls' st' cs' h; cases h
  | succ n ih =>
    intro sz ad D dA p e R s m args below meth c n0 z0 Q d M pc ls st cs pc' ls' st' cs' h F hn0 hz0 hRc hRs hRf hRl hcl K
    have hM14 : M < 14 := F.2.2.2.2.2.2.2.2.2.2.2.1
    rcases cxr_succ n d M pc ls st cs _ h with ⟨-, hr⟩ | ⟨o, ls1, st1, cs1, ho, hs, h⟩ | ⟨o, d', pc1, ls9, cs1, o', ho, ho74, rfl, hb1, ha12, hdl, hc1, hr1, hc, ho', h55, h⟩
    · cases hr; exact K
    · have q1 := cstep_mono hs
      have q2 := cxr_mono _ _ _ _ _ _ _ _ h
      dsimp only at q2
      refine c_step F (clook_mem _ _ _ ho) hn0 hz0 (by omega) (by omega) ⟨by omega, by omega⟩ (by omega) hs ?_
      exact ih sz ad D dA p e R s m args below meth c n0 z0 Q d M _ ls1 st1 cs1 pc' ls' st' cs' h F (by omega) (by omega) hRc hRs hRf hRl hcl K
    · have q1 := cxr_mono _ _ _ _ _ _ _ _ hc
      have q2 := cxr_mono _ _ _ _ _ _ _ _ h
      dsimp only at q1 q2
      intro lsA H locs hl hP hH hS
      obtain ⟨hx, hb, hr, hml, hown, hts, hlk, hin, hK, hnT, hsz, -, had⟩ := id F
      obtain ⟨hd, hq⟩ := cOK_spec hM14 (clook_mem _ _ _ ho)
      obtain ⟨k, a, b, w, u, z⟩ := o
      dsimp only at ho74 hb1 ha12 hdl hc1 hr1 hc ho' h
      subst ho74
      have hq : (Nat.beq (cn a 1) b && (match z == 0 with
        | true => okW u (.methodLink (cown M) w (cname a))
        | false => okN u (.methodLinkNest (cown M) w (cname a) "YesNoRays"))) = true := hq
      rw [Bool.and_eq_true] at hq
      have hb9 : cn a 1 = b := Nat.eq_of_beq_eq_true hq.1
      obtain ⟨h1, h2, h3, h4, h5, h6, h7, h8, h9, h10⟩ := cM_spec (show a < 13 by omega)
      have hlenA : (st.take b).reverse.length = cn a 1 := by rw [hb9]; simp; omega
      have hcon := cmet (D := D) (dA := dA) ih (by omega) hc ho' h55 (fun v hv => hc1 v (List.mem_reverse.mp hv)) hlenA (by omega) had
      have hst : st.map (cv ad) = ((st.take b).reverse.map (cv ad)).reverse ++ (st.drop b).map (cv ad) := by
        rw [List.map_reverse, List.reverse_reverse, ← List.map_append, List.take_append_drop]
      generalize (st.take b).reverse = As at hcon hst hlenA hr1
      match As, hr1, hcon, hst, hlenA with
      | .ref j :: As', _, hcon, hst, hlenA =>
        have hn9 : (parseMethodDescriptor (cname a).desc).map (fun d => d.parameters.length) = some As'.length := desc1 (by rw [h7, ← hlenA]; rfl)
        have hpre : PreS s H (CPc sz ad D dA (.ref j :: As') cs) (.ref (ad j) :: As'.map (cv ad)) := ⟨CPc.blind sz ad D dA _ cs, fun U hU hW => ⟨rfl, by rw [hU]; exact hH, by rw [hU]; exact hP, hK.moved hW.alike, fun w hw => nest_warm hW (List.mem_filter.mp hw).2 (hnT w hw)⟩⟩
        have hroom : 2 * (F0 m pc lsA (st.map (cv ad))).monitorRoom + (((st.drop b).map (cv ad)).map fun v => v.category).sum ≤ 8 := lv_room (by have := cats ad (st.drop b); omega)
        have hrm : (rmC d' (cs1.length - cs.length) (czs cs1 - czs cs)).frames + 1 ≤ R.frames ∧ 8 + (cmax a + 11) + (rmC d' (cs1.length - cs.length) (czs cs1 - czs cs)).locals ≤ R.locals := ⟨hRf, loc_ok h5 hRl⟩
        have hrun : va_Run p l e R s m args below meth c H locs (cs.length - n0) (czs cs - z0) (cs1.length - cs.length) (czs cs1 - czs cs) (F0 m pc lsA (st.map (cv ad))) ((st.drop b).map (cv ad)) (CQc sz ad D dA cs1 (.ref (ad j) :: As'.map (cv ad)).toArray) (fun q => sz ≤ q) := by
          cases hz : (z == 0) with
          | true =>
            rw [hz] at hq
            exact va_runI ⟨hx, hb, hml, hown, hts⟩ hcon ⟨callB_of As'.length hts (jGI (ccode_in (by omega))) rfl rfl rfl (hts _ h3) (hts _ (okW_in hq.2)) ⟨h1.1, h1.2, hn9⟩ hrm, h6, hts _ h4⟩ hpre rfl (by simp) hl.1 (by show st.map (cv ad) = _; rw [hst]; simp [cv]) hroom hd ⟨by omega, by omega⟩
          | false =>
            rw [hz] at hq
            exact va_runIN ⟨hx, hb, hml, hown, hts⟩ hcon ⟨va_cnB As'.length hts (jGI (ccode_in (by omega))) rfl rfl rfl (hnT _ (okN_in hq.2)) (hts _ h3) ⟨h1.1, h1.2, hn9⟩ hrm, h6, hts _ h4⟩ hpre rfl (by simp) hl.1 (by show st.map (cv ad) = _; rw [hst]; simp [cv]) hroom hd ⟨by omega, by omega⟩
        have KK := ih sz ad D dA p e R s m args below meth c n0 z0 Q (d' + 1) M (pc + 3) ls (st.drop b) cs1 pc' ls' st' cs' h F (by omega) (by omega) hRc hRs hRf hRl hcl K
        refine va_callv (a := (.ref (ad j) :: As'.map (cv ad)).toArray) (A1 := fun q => sz ≤ q) hrun hS (fun _ _ h => h) (fun _ h => h) (fun uu t H1 locs1 ht hvm hw hB hz1 hk1 hS1 => ?_)
        have hB : t.heap.size = sz + cs1.length ∧ va_P D clT (wsC sz ad dA cs1) t.heap := hB
        rw [ht] at hB
        have K9 := KK lsA H1 locs1 hl hB.2 hB.1 hS1
        rw [show cs.length - n0 + (cs1.length - cs.length) = cs1.length - n0 by omega, show czs cs - z0 + (czs cs1 - czs cs) = czs cs1 - z0 by omega]
        exact K9
