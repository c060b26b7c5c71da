/-! fields and rows of numbers -/
section SND2
variable {G : Gp} {p : Program} {l : Launch} {e : Env} {R : Room} {s : State} {m : MethodId} {args : Array Value} {below : List Frame} {meth : Method} {c : Code} {cells slots : Nat} {Q : State → Prop} {M pc ct a b w u : Nat} {k : Int32} {ls st : List Value} {S : St}
theorem okF_spec {o : Opn} {ty : Option FieldType} (ha : o.2.1 < 13) (h : okF M o ty = true) : o.2.2.1 < (clG o.2.1).2.2 ∧ ((clG o.2.1).2.1 o.2.2.1).1 = (clG o.2.1).1 ∧ ((o.2.2.2.2.2 = 0 ∧ Jvm.Cond.fieldLink (mown M) o.2.2.2.1 (clG o.2.1).1 ((clG o.2.1).2.1 o.2.2.1).2.1 ((clG o.2.1).2.1 o.2.2.1).2.2.1 ∈ gT) ∨ (¬ o.2.2.2.2.2 = 0 ∧ Jvm.Cond.fieldLinkNest (mown M) o.2.2.2.1 (clG o.2.1).1 ((clG o.2.1).2.1 o.2.2.1).2.1 ((clG o.2.1).2.1 o.2.2.1).2.2.1 "YesNoRays" ∈ nT)) ∧ ∀ t, ty = some t → tyG o.2.1 o.2.2.1 = t ∧ ((clG o.2.1).2.1 o.2.2.1).2.2.2 = false := by
  unfold okF at h
  rw [cl_get ha] at h
  simp only [Bool.and_eq_true] at h
  obtain ⟨⟨⟨h1, h2⟩, h3⟩, h4⟩ := h
  have hb : o.2.2.1 < (clG o.2.1).2.2 := Nat.blt_eq.mp h1
  refine ⟨hb, of_decide_eq_true h2, ?_, ?_⟩
  · cases hn : (o.2.2.2.2.2 == 0) with
    | true => rw [hn] at h3; exact Or.inl ⟨eq_of_beq hn, okW_in h3⟩
    | false =>
      rw [hn] at h3
      refine Or.inr ⟨fun q => ?_, okN_in h3⟩
      rw [q] at hn
      exact absurd hn (by decide)
  · intro t ht
    subst ht
    simp only [Bool.and_eq_true, decide_eq_true_eq] at h4
    have h5 := cl_ty _ ha _ hb
    rw [h4.1] at h5
    exact ⟨(Option.some.inj h5).symm, h4.2⟩
theorem s_get (F : Fr G p l s m args meth c M) (hk : okRow M (pc, ct, 17, a, b, w, u, k) = true) {j : Nat} (hj : isO j a = true) (K : Kt G p l e R s m args below meth c cells slots Q M (pc + 3) ls (fvi S j b :: st) S) : Kt G p l e R s m args below meth c cells slots Q M pc ls (.ref j :: st) S := by
  intro lsA H locs hl hP hS
  obtain ⟨hx, hb, hr, hml, hown, hts, hlk, htr, hG, hPu, -⟩ := F
  obtain ⟨hd, hq⟩ := okRow_spec hk
  obtain ⟨hs, hj6, ha⟩ := isO_spec hj
  have hjn : j < g_nc G := by have := hPu.2.1; omega
  have he : (wsO (g_ad G) (g_dA G) (g_nc G) S)[j]? = some (g_ad G j, .inr (a, (List.range (nF a)).map (fun k => cv (g_ad G) (fvi S j k)))) := by rw [wsO_at _ _ S hjn, ent_O _ _ S hs]
  obtain ⟨hbN, href, hw, -⟩ := okF_spec (o := (17, a, b, w, u, k)) (ty := none) ha hq
  dsimp only at hbN href hw
  have hv : ((List.range (nF a)).map (fun k => cv (g_ad G) (fvi S j k)))[b]? = some (cv (g_ad G) (fvi S j b)) := by
    have : b < nF a := hbN
    simp [this]
  rcases hw with ⟨-, hw⟩ | ⟨-, hw⟩
  · exact va_get (C := (clG a).1) (T := (clG a).2.1) (N := (clG a).2.2) hx hb hts (cl_lay ha) hown hG.2.1 hP j he (cl_get ha) b hbN (hts _ hw) (fun x hx => by rw [href] at hx; exact hx) hv hd (K lsA H locs hl hP hS)
  · exact va_getN (C := (clG a).1) (T := (clG a).2.1) (N := (clG a).2.2) hx hb hts (cl_lay ha) hown hG.2.1 hP j he (cl_get ha) b hbN (va_Nw.use rfl (hG.2.2.1 _ hw)) (fun x hx => by rw [href] at hx; exact hx) hv hd (K lsA H locs hl hP hS)
theorem ent_putI {j ci x : Nat} {v : Int32} (hs : shp.getD j (.inr (9, 0)) = .inl ci) (hk : fkd j x = 0) : (g_ad G j, (Sum.inr (ci, ((List.range (nF ci)).map (fun k => cv (g_ad G) (fvi S j k))).set x (.int v)) : va_E)) = (g_ad G j, ent (g_ad G) (g_dA G) (setI S j x v) j) := by
  rw [ent_O _ _ _ hs, map_set (g := fun k => cv (g_ad G) (fvi (setI S j x v) j k))]
  · intro i _ hi
    rw [fvi_setI S j x v j i (fun q => hi q.2)]
  · unfold fvi
    rw [hk]
    simp [setI, cv]
theorem s_putI {ty : FieldType} {o1 : Nat} (F : Fr G p l s m args meth c M) (hd : decode (mcode M) pc = .ok (.putfield w, 3)) (hq : okF M (o1, a, b, w, u, k) (some ty) = true) {j : Nat} {x : Int32} (hj : isO j a = true) (hf : ∀ i, i < 67 → shp.getD i (.inr (9, 0)) = .inl a → tyG a b = ty → fkd i b = 0) (hn : narrow ty (.int x) = .int x) (hfit : fits ty (.int x) = true) (K : Kt G p l e R s m args below meth c cells slots Q M (pc + 3) ls st (setI S j b x)) : Kt G p l e R s m args below meth c cells slots Q M pc ls (.int x :: .ref j :: st) S := by
  intro lsA H locs hl hP hS
  obtain ⟨hx, hb, hr, hml, hown, hts, hlk, htr, hG, hPu, -⟩ := F
  obtain ⟨hs, hj6, ha⟩ := isO_spec hj
  have hjn : j < g_nc G := by have := hPu.2.1; omega
  have he : (wsO (g_ad G) (g_dA G) (g_nc G) S)[j]? = some (g_ad G j, .inr (a, (List.range (nF a)).map (fun k => cv (g_ad G) (fvi S j k)))) := by rw [wsO_at _ _ S hjn, ent_O _ _ S hs]
  obtain ⟨hbN, href, hw, hty⟩ := okF_spec (o := (o1, a, b, w, u, k)) (ty := some ty) ha hq
  dsimp only at hbN href hw hty
  obtain ⟨ht, hfin⟩ := hty ty rfl
  have hlen : b < ((List.range (nF a)).map (fun k => cv (g_ad G) (fvi S j k))).length := by
    have : b < nF a := hbN
    simpa using this
  have hset := wsO_set (g_ad G) (g_dA G) (nc := g_nc G) (j := j) S (setI S j b x) (fun i hi hin => ent_setI _ _ S j b x i hi (by have := hPu.2.2.1; omega))
  rw [← ent_putI (G := G) hs (hf j (by omega) hs ht)] at hset
  rcases hw with ⟨-, hw⟩ | ⟨-, hw⟩
  · refine va_put (C := (clG a).1) (T := (clG a).2.1) (N := (clG a).2.2) hx hb hts (cl_lay ha) (tyG a) (cl_ty a ha) (cl_nm a ha) hown hG.2.1 hP (gD hPu S) hS j he (cl_get ha) b hbN (hts _ hw) (fun x hx => by rw [href] at hx; exact hx) hfin (ty := ty) (by rw [cl_ty a ha b hbN, ht]) hn hfit hlen hd (fun H1 locs1 hP1 hD1 hS1 => ?_)
    exact K lsA H1 locs1 hl (by unfold Pic; rw [← hset]; exact hP1) hS1
  · refine va_putN (C := (clG a).1) (T := (clG a).2.1) (N := (clG a).2.2) hx hb hts (cl_lay ha) (tyG a) (cl_ty a ha) (cl_nm a ha) hown hG.2.1 hP (gD hPu S) hS j he (cl_get ha) b hbN (va_Nw.use rfl (hG.2.2.1 _ hw)) (fun x hx => by rw [href] at hx; exact hx) hfin (ty := ty) (by rw [cl_ty a ha b hbN, ht]) hn hfit hlen hd (fun H1 locs1 hP1 hD1 hS1 => ?_)
    exact K lsA H1 locs1 hl (by unfold Pic; rw [← hset]; exact hP1) hS1
theorem fk_int {j ci x : Nat} (hj : j < 67) (hs : shp.getD j (.inr (9, 0)) = .inl ci) (hx : x < nF ci) (ht : tyG ci x = .int ∨ tyG ci x = .boolean) : fkd j x = 0 := by
  have h := fk_at hj hs hx
  rcases ht with ht | ht <;> rw [ht] at h <;> exact Nat.eq_of_beq_eq_true h
theorem s_put (F : Fr G p l s m args meth c M) (hk : okRow M (pc, ct, 18, a, b, w, u, k) = true) {j : Nat} {x : Int32} (hj : isO j a = true) (K : Kt G p l e R s m args below meth c cells slots Q M (pc + 3) ls st (setI S j b x)) : Kt G p l e R s m args below meth c cells slots Q M pc ls (.int x :: .ref j :: st) S := by
  obtain ⟨hd, hq⟩ := okRow_spec hk
  have hbN := (okF_spec (o := (18, a, b, w, u, k)) (ty := some .int) (isO_spec hj).2.2 hq).1
  exact s_putI F hd hq hj (fun i hi hs ht => fk_int hi hs hbN (Or.inl ht)) rfl rfl K
theorem s_putZ (F : Fr G p l s m args meth c M) (hk : okRow M (pc, ct, 19, a, b, w, u, k) = true) {j : Nat} {x : Int32} (hj : isO j a = true) (h01 : x = 0 ∨ x = 1) (K : Kt G p l e R s m args below meth c cells slots Q M (pc + 3) ls st (setI S j b x)) : Kt G p l e R s m args below meth c cells slots Q M pc ls (.int x :: .ref j :: st) S := by
  obtain ⟨hd, hq⟩ := okRow_spec hk
  have hbN := (okF_spec (o := (19, a, b, w, u, k)) (ty := some .boolean) (isO_spec hj).2.2 hq).1
  exact s_putI F hd hq hj (fun i hi hs ht => fk_int hi hs hbN (Or.inr ht)) (by rcases h01 with rfl | rfl <;> decide +kernel) (by rcases h01 with rfl | rfl <;> decide +kernel) K
theorem ent_putL {j ci x : Nat} {v : Int64} (hj : j < 67) (hs : shp.getD j (.inr (9, 0)) = .inl ci) (hc : ci < 13) (hx : x < nF ci) (hk : fkd j x = 1) : (g_ad G j, (Sum.inr (ci, ((List.range (nF ci)).map (fun k => cv (g_ad G) (fvi S j k))).set x (.long v)) : va_E)) = (g_ad G j, ent (g_ad G) (g_dA G) (setL S v) j) := by
  rw [ent_O _ _ _ hs, map_set (g := fun k => cv (g_ad G) (fvi (setL S v) j k))]
  · intro i hi hne
    rw [fvi_setL S v j i (fun q => hne ?_)]
    have h1 := (lg_one j hj i (Nat.lt_of_lt_of_le hi (nF_le ci hc)) q).2
    have h2 := (lg_one j hj x (Nat.lt_of_lt_of_le hx (nF_le ci hc)) hk).2
    rw [h1, h2]
  · unfold fvi
    rw [hk]
    simp [setL, cv]
theorem s_putL (F : Fr G p l s m args meth c M) (hk : okRow M (pc, ct, 20, a, b, w, u, k) = true) {j : Nat} {x : Int64} (hj : isO j a = true) (K : Kt G p l e R s m args below meth c cells slots Q M (pc + 3) ls st (setL S x)) : Kt G p l e R s m args below meth c cells slots Q M pc ls (.long x :: .ref j :: st) S := by
  intro lsA H locs hl hP hS
  obtain ⟨hx, hb, hr, hml, hown, hts, hlk, htr, hG, hPu, -⟩ := F
  obtain ⟨hd, hq⟩ := okRow_spec hk
  obtain ⟨hs, hj6, ha⟩ := isO_spec hj
  have hjn : j < g_nc G := by have := hPu.2.1; omega
  have he : (wsO (g_ad G) (g_dA G) (g_nc G) S)[j]? = some (g_ad G j, .inr (a, (List.range (nF a)).map (fun k => cv (g_ad G) (fvi S j k)))) := by rw [wsO_at _ _ S hjn, ent_O _ _ S hs]
  obtain ⟨hbN, href, hw, hty⟩ := okF_spec (o := (20, a, b, w, u, k)) (ty := some .long) ha hq
  dsimp only at hbN href hw hty
  obtain ⟨ht, hfin⟩ := hty .long rfl
  have hfk : fkd j b = 1 := by
    have h := fk_at (by omega) hs (show b < nF a from hbN)
    rw [ht] at h
    exact Nat.eq_of_beq_eq_true h
  have h46 : j = 46 := (lg_one j (by omega) b (Nat.lt_of_lt_of_le hbN (nF_le a ha)) hfk).1
  have hlen : b < ((List.range (nF a)).map (fun k => cv (g_ad G) (fvi S j k))).length := by
    have : b < nF a := hbN
    simpa using this
  have hset := wsO_set (g_ad G) (g_dA G) (nc := g_nc G) (j := j) S (setL S x) (fun i hi hin => ent_setL _ _ S x i (by omega) (by have := hPu.2.2.1; omega))
  rw [← ent_putL (G := G) (by omega) hs ha hbN hfk] at hset
  rcases hw with ⟨-, hw⟩ | ⟨-, hw⟩
  · refine va_put (C := (clG a).1) (T := (clG a).2.1) (N := (clG a).2.2) hx hb hts (cl_lay ha) (tyG a) (cl_ty a ha) (cl_nm a ha) hown hG.2.1 hP (gD hPu S) hS j he (cl_get ha) b hbN (hts _ hw) (fun x hx => by rw [href] at hx; exact hx) hfin (ty := .long) (by rw [cl_ty a ha b hbN, ht]) rfl rfl hlen hd (fun H1 locs1 hP1 hD1 hS1 => ?_)
    exact K lsA H1 locs1 hl (by unfold Pic; rw [← hset]; exact hP1) hS1
  · refine va_putN (C := (clG a).1) (T := (clG a).2.1) (N := (clG a).2.2) hx hb hts (cl_lay ha) (tyG a) (cl_ty a ha) (cl_nm a ha) hown hG.2.1 hP (gD hPu S) hS j he (cl_get ha) b hbN (va_Nw.use rfl (hG.2.2.1 _ hw)) (fun x hx => by rw [href] at hx; exact hx) hfin (ty := .long) (by rw [cl_ty a ha b hbN, ht]) rfl rfl hlen hd (fun H1 locs1 hP1 hD1 hS1 => ?_)
    exact K lsA H1 locs1 hl (by unfold Pic; rw [← hset]; exact hP1) hS1
theorem w_A0 {j n : Nat} (hPu : Pur G) (hj : isA j 0 = some n) : (wsO (g_ad G) (g_dA G) (g_nc G) S)[j]? = some (g_ad G j, .inl (g_dA G 0, (n, .inl (S.2.1 j)))) := by
  obtain ⟨hs, -, -, h6, -⟩ := isA_spec (by omega) hj
  have := hPu.2.1
  rw [wsO_at _ _ S (by have := h6 (by omega); omega), ent_A0 _ _ S hs]
theorem w_A1 {j n : Nat} (hPu : Pur G) (hj : isA j 1 = some n) : (wsO (g_ad G) (g_dA G) (g_nc G) S)[j]? = some (g_ad G j, .inl (g_dA G 1, (n, .inl (S.2.1 j)))) := by
  obtain ⟨hs, -, -, h6, -⟩ := isA_spec (by omega) hj
  have := hPu.2.1
  rw [wsO_at _ _ S (by have := h6 (by omega); omega), ent_A1 _ _ S hs]
theorem s_iald (F : Fr G p l s m args meth c M) (hk : okRow M (pc, ct, 21, a, b, w, u, k) = true) {j n : Nat} {i : Int32} (hj : isA j 0 = some n) (hi : vp_in i n) (K : Kt G p l e R s m args below meth c cells slots Q M (pc + 1) ls (.int (S.2.1 j i.toNatClampNeg) :: st) S) : Kt G p l e R s m args below meth c cells slots Q M pc ls (.int i :: .ref j :: st) S := by
  intro lsA H locs hl hP hS
  obtain ⟨hx, hb, hr, hml, hown, hts, hlk, htr, hG, hPu, -⟩ := F
  exact va_iald hx hb hG.2.1 hP j 0 (w_A0 hPu hj) rfl hi (okRow_spec hk).1 (K lsA H locs hl hP hS)
theorem s_bald (F : Fr G p l s m args meth c M) (hk : okRow M (pc, ct, 22, a, b, w, u, k) = true) {j n : Nat} {i : Int32} (hj : isA j 1 = some n) (hi : vp_in i n) (K : Kt G p l e R s m args below meth c cells slots Q M (pc + 1) ls (.int (S.2.1 j i.toNatClampNeg) :: st) S) : Kt G p l e R s m args below meth c cells slots Q M pc ls (.int i :: .ref j :: st) S := by
  intro lsA H locs hl hP hS
  obtain ⟨hx, hb, hr, hml, hown, hts, hlk, htr, hG, hPu, -⟩ := F
  exact va_bald hx hb hG.2.1 hP j 1 (w_A1 hPu hj) rfl hi (okRow_spec hk).1 (K lsA H locs hl hP hS)
theorem set_A {j n i : Nat} {x : Int32} (hPu : Pur G) (t : Nat) (ht : t = 0 ∨ t = 1) (hs : shp.getD j (.inr (9, 0)) = .inr (t, n)) : (wsO (g_ad G) (g_dA G) (g_nc G) S).set j (g_ad G j, .inl (g_dA G t, (n, .inl (upd (S.2.1 j) i x)))) = wsO (g_ad G) (g_dA G) (g_nc G) (setA S j i x) := by
  rw [← wsO_set (g_ad G) (g_dA G) (nc := g_nc G) (j := j) S (setA S j i x) (fun q hq hin => ent_setA _ _ S j i x q hq (by have := hPu.2.2.1; omega))]
  have e : (setA S j i x).2.1 j = upd (S.2.1 j) i x := by
    funext q
    simp [setA, upd]
  rcases ht with rfl | rfl
  · rw [ent_A0 _ _ _ hs, e]
  · rw [ent_A1 _ _ _ hs, e]
theorem s_iast (F : Fr G p l s m args meth c M) (hk : okRow M (pc, ct, 24, a, b, w, u, k) = true) {j n : Nat} {i x : Int32} (hj : isA j 0 = some n) (hi : vp_in i n) (K : Kt G p l e R s m args below meth c cells slots Q M (pc + 1) ls st (setA S j i.toNatClampNeg x)) : Kt G p l e R s m args below meth c cells slots Q M pc ls (.int x :: .int i :: .ref j :: st) S := by
  intro lsA H locs hl hP hS
  obtain ⟨hx, hb, hr, hml, hown, hts, hlk, htr, hG, hPu, -⟩ := F
  refine va_iast hx hb hG.2.1 hP (gD hPu S) hS j 0 (w_A0 hPu hj) rfl hi (okRow_spec hk).1 (fun H1 locs1 hP1 hD1 hS1 => ?_)
  rw [set_A hPu 0 (Or.inl rfl) (isA_spec (by omega) hj).1] at hP1
  exact K lsA H1 locs1 hl hP1 hS1
theorem s_bast (F : Fr G p l s m args meth c M) (hk : okRow M (pc, ct, 25, a, b, w, u, k) = true) {j n : Nat} {i x : Int32} (hj : isA j 1 = some n) (hi : vp_in i n) (K : Kt G p l e R s m args below meth c cells slots Q M (pc + 1) ls st (setA S j i.toNatClampNeg x.toInt8.toInt32)) : Kt G p l e R s m args below meth c cells slots Q M pc ls (.int x :: .int i :: .ref j :: st) S := by
  intro lsA H locs hl hP hS
  obtain ⟨hx, hb, hr, hml, hown, hts, hlk, htr, hG, hPu, -⟩ := F
  refine va_bast hx hb hG.2.1 hP (gD hPu S) hS j 1 (w_A1 hPu hj) rfl hi (okRow_spec hk).1 (fun H1 locs1 hP1 hD1 hS1 => ?_)
  rw [vp_nar_byte, set_A hPu 1 (Or.inr rfl) (isA_spec (by omega) hj).1] at hP1
  exact K lsA H1 locs1 hl hP1 hS1
theorem s_alen (F : Fr G p l s m args meth c M) (hk : okRow M (pc, ct, 27, a, b, w, u, k) = true) {j n t : Nat} (ht : t < 2) (hj : isA j t = some n) (K : Kt G p l e R s m args below meth c cells slots Q M (pc + 1) ls (.int (Int32.ofNat n) :: st) S) : Kt G p l e R s m args below meth c cells slots Q M pc ls (.ref j :: st) S := by
  intro lsA H locs hl hP hS
  obtain ⟨hx, hb, hr, hml, hown, hts, hlk, htr, hG, hPu, -⟩ := F
  match t, ht, hj with
  | 0, _, hj => exact va_alen hx hb hG.2.1 hP j 0 (w_A0 hPu hj) rfl rfl (okRow_spec hk).1 (K lsA H locs hl hP hS)
  | 1, _, hj => exact va_alen hx hb hG.2.1 hP j 1 (w_A1 hPu hj) rfl rfl (okRow_spec hk).1 (K lsA H locs hl hP hS)
theorem w_A2 {j n : Nat} (h67 : g_nc G = 67) (hj : isA j 2 = some n) : j = 66 ∧ n = 1 ∧ (wsO (g_ad G) (g_dA G) (g_nc G) S)[j]? = some (g_ad G j, .inl (g_dA G 2, (1, .inr (.inl (fun _ => S.2.2.2))))) := by
  obtain ⟨hs, -, h6, -, h2⟩ := isA_spec (by omega) hj
  have e := h2 rfl
  subst e
  have e2 : shp.getD 66 (.inr (9, 0)) = .inr (2, 1) := rfl
  rw [e2] at hs
  cases hs
  refine ⟨rfl, rfl, ?_⟩
  rw [wsO_at _ _ S (by omega), ent_A2 _ _ S e2]
theorem s_lald (F : Fr G p l s m args meth c M) (hM : 264 ≤ M) (hk : okRow M (pc, ct, 23, a, b, w, u, k) = true) {j n : Nat} {i : Int32} (hj : isA j 2 = some n) (hi : vp_in i n) (K : Kt G p l e R s m args below meth c cells slots Q M (pc + 1) ls (.long S.2.2.2 :: st) S) : Kt G p l e R s m args below meth c cells slots Q M pc ls (.int i :: .ref j :: st) S := by
  intro lsA H locs hl hP hS
  obtain ⟨hx, hb, hr, hml, hown, hts, hlk, htr, hG, hPu, -, h67, -⟩ := F
  obtain ⟨rfl, rfl, hw⟩ := w_A2 (S := S) (h67 hM) hj
  exact va_lald hx hb hG.2.1 hP 66 2 hw rfl hi (okRow_spec hk).1 (K lsA H locs hl hP hS)
theorem s_last (F : Fr G p l s m args meth c M) (hM : 264 ≤ M) (hk : okRow M (pc, ct, 26, a, b, w, u, k) = true) {j n : Nat} {i : Int32} {x : Int64} (hj : isA j 2 = some n) (hi : vp_in i n) (K : Kt G p l e R s m args below meth c cells slots Q M (pc + 1) ls st (setO S x)) : Kt G p l e R s m args below meth c cells slots Q M pc ls (.long x :: .int i :: .ref j :: st) S := by
  intro lsA H locs hl hP hS
  obtain ⟨hx, hb, hr, hml, hown, hts, hlk, htr, hG, hPu, -, h67, -⟩ := F
  obtain ⟨rfl, rfl, hw⟩ := w_A2 (S := S) (h67 hM) hj
  refine va_last hx hb hG.2.1 hP (gD hPu S) hS 66 2 hw rfl hi (okRow_spec hk).1 (fun H1 locs1 hP1 hD1 hS1 => K lsA H1 locs1 hl ?_ hS1)
  have hset := wsO_set (g_ad G) (g_dA G) (nc := g_nc G) (j := 66) S (setO S x) (fun q hq hin => ent_setO _ _ S x q hq (by have := hPu.2.2.1; omega))
  show va_P _ _ _ _
  rw [← hset, ent_A2 _ _ _ (show shp.getD 66 (.inr (9, 0)) = .inr (2, 1) from rfl)]
  intro q y hy
  by_cases hq : q = 66
  · subst hq
    have h9 : (66 : Nat) < (wsO (g_ad G) (g_dA G) (g_nc G) S).length := by simp [wsO]; have := h67 hM; omega
    rw [List.getElem?_set_self h9] at hy
    cases hy
    have h10 := hP1 66 _ (List.getElem?_set_self h9)
    have hi0 : i.toNatClampNeg = 0 := by
      have := (vp_in_iff.mp hi)
      obtain ⟨z, hz, rfl⟩ := vp_in_of hi (by omega)
      have : z = 0 := by omega
      subst this
      rfl
    rw [hi0] at h10
    have e9 : vp_cell (g_dA G 2) (1, .inr (.inl (vp_updL (fun _ => S.2.2.2) 0 x))) = vp_cell (g_dA G 2) (1, .inr (.inl (fun _ => (setO S x).2.2.2))) := by
      rw [vp_cell_l, vp_cell_l]
      unfold arrV
      congr 1
    show _ = some (vp_cell _ _)
    rw [← e9]
    exact h10
  · rw [List.getElem?_set_ne (fun z => hq z.symm)] at hy
    exact hP1 q y (by rw [List.getElem?_set_ne (fun z => hq z.symm)]; exact hy)
end SND2
