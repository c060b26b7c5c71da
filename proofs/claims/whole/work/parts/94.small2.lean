/-! FEW RAYS ARE NEVER REFUSED: the rays -/
section SMALL2
variable {D m rl : Nat} {ins : Int32} {nu : Nat → Nat → Int} {up : Nat → Int32} {F : List Int32}
/-- the remainder of a frame that hasn't v -/
def RMv (D : Nat) (ins : Int32) (up : Nat → Int32) (X : Int32) (v : Nat) (T : Int32) : Prop := ∃ f, Frm D ins up f ∧ sb f X ∧ tb f v = false ∧ T = f &&& (up v ^^^ -1)
noncomputable def Rv0 (D : Nat) (ins : Int32) (up : Nat → Int32) (X : Int32) (v : Nat) : Int32 := mk (fun k => @decide (∃ f, Frm D ins up f ∧ sb f X ∧ tb f v = false ∧ tb f k = true ∧ tb (up v) k = false) (Classical.propDecidable _)) 20
theorem rv0_mem (hm : m ≤ 20) (hl : Low m ins) {X : Int32} {v k : Nat} : tb (Rv0 D ins up X v) k = true ↔ ∃ f, Frm D ins up f ∧ sb f X ∧ tb f v = false ∧ tb f k = true ∧ tb (up v) k = false := by
  unfold Rv0
  rw [tb_mk _ (by omega), Bool.and_eq_true]
  constructor
  · exact fun h => @of_decide_eq_true _ (Classical.propDecidable _) h.2
  · intro h
    refine ⟨?_, @decide_eq_true _ (Classical.propDecidable _) h⟩
    obtain ⟨f, hf, _, _, hk, _⟩ := h
    have := hl k (hf.1 k hk)
    exact decide_eq_true (by omega)
theorem rems_ok (hD : D = 3 ∨ D = 4) (hm : m ≤ 20) (hl : Low m ins) (hR : RWd D m nu) (hud : UD m ins nu up) {X : Int32} {v : Nat} (hv : tb ins v = true) : Rems up (Rv0 D ins up X v) (RMv D ins up X v) := by
  have vm := hl v hv
  obtain ⟨_, vz, v3⟩ := hR.1 v vm
  have v3' : D = 3 → nu v 3 = 0 := fun e => v3 3 (by omega)
  have dv : ∀ k, tb (up v) k = true → dt (nu v) (nu k) = 0 := fun k h => ((hud v k).1 h).2.2.2.2.2
  have ndv : ∀ f k, Frm D ins up f → tb f v = false → tb f k = true → tb (up v) k = false → ¬ dt (nu v) (nu k) = 0 := fun f k hf hfv hk hn z => by
    have : tb (up v) k = true := (hud v k).2 ⟨vm, hl k (hf.1 k hk), (fun e => by rw [e, hk] at hfv; cases hfv), hv, hf.1 k hk, z⟩
    rw [this] at hn
    cases hn
  refine ⟨?_, ?_, ?_⟩
  · rintro T ⟨f, hf, hfX, hfv, rfl⟩
    refine ⟨fun k hk => (rv0_mem hm hl).2 ⟨f, hf, hfX, hfv, (dif_t.1 hk).1, (dif_t.1 hk).2⟩, fun i j hi hj ne => hf.2.2 i j (dif_t.1 hi).1 (dif_t.1 hj).1 ne, ?_⟩
    obtain ⟨t, t', ne, ht, ht', hu, hu'⟩ := two_left hD hm hl hR hud hf hv hfv
    exact pcn_two (dif_t.2 ⟨ht, hu⟩) (dif_t.2 ⟨ht', hu'⟩) ne
  · rintro T ⟨f, hf, hfX, hfv, rfl⟩ c hc
    obtain ⟨g, hg, _, hgv, hgc, hcv⟩ := (rv0_mem hm hl).1 hc
    refine Classical.byContradiction (fun q => ndv g c hg hgv hgc hcv ?_)
    refine parsF hD hm hl hR hud hf v3' (fun u hu => ?_)
    by_cases e : tb (up v) u = true
    · exact Or.inl (dv u e)
    · refine Or.inr ?_
      have : tb (up c) u = true := Classical.byContradiction (fun z => q ⟨u, dif_t.2 ⟨hu, Bool.eq_false_iff.2 e⟩, Bool.eq_false_iff.2 z⟩)
      rw [dt_comm]
      exact ((hud c u).1 this).2.2.2.2.2
  · rintro T T' c ⟨f, hf, hfX, hfv, rfl⟩ ⟨g, hg, hgX, hgv, rfl⟩ p1 p2 c1 c2
    obtain ⟨d, hd, hd1, hd2⟩ := pcn_pair p1 c1
    obtain ⟨e, he, he1, he2⟩ := pcn_pair p2 c2
    obtain ⟨fc, vc⟩ := dif_t.1 c1
    obtain ⟨fd, vd⟩ := dif_t.1 hd1
    obtain ⟨gc', _⟩ := dif_t.1 c2
    obtain ⟨ge, ve⟩ := dif_t.1 he1
    have dm := hl d (hf.1 d fd)
    have em := hl e (hg.1 e ge)
    have cd : dt (nu c) (nu d) = 0 := ((hud c d).1 (hf.2.2 c d fc fd (fun q => hd q.symm))).2.2.2.2.2
    have ce : dt (nu c) (nu e) = 0 := ((hud c e).1 (hg.2.2 c e gc' ge (fun q => he q.symm))).2.2.2.2.2
    have sp : ∀ f d, Frm D ins up f → (∀ k, tb (f &&& (up v ^^^ -1)) k = true → k = c ∨ k = d) → ∀ x, dt (nu c) x = 0 → dt (nu d) x = 0 → dt (nu v) x = 0 := fun f d hf h x hx hy => parsF hD hm hl hR hud hf v3' (fun u hu => by
      by_cases q : tb (up v) u = true
      · exact Or.inl (dv u q)
      · refine Or.inr ?_
        rcases h u (dif_t.2 ⟨hu, Bool.eq_false_iff.2 q⟩) with rfl | rfl
        · exact hx
        · exact hy)
    have par := plane_one (hR.1 d dm).2.1 cd ce (ndv f d hf hfv fd vd) (ndv g e hg hgv ge ve) (sp f d hf hd2) (sp g e hg he2)
    have ede := hR.2 d e dm em par
    refine sb_anti (fun k hk => ?_) (fun k hk => ?_)
    · rcases hd2 k hk with rfl | rfl
      · exact c2
      · rw [ede]; exact he1
    · rcases he2 k hk with rfl | rfl
      · exact c1
      · rw [← ede]; exact hd1
theorem c4_ok (hl : Low m ins) (hR : RWd 3 m nu) (hud : UD m ins nu up) (R : Int32) : C4f up R := by
  intro u w x y _ _ _ _ huw hxy ux uy wx wy
  obtain ⟨um, xm, _, _, _, d1⟩ := (hud u x).1 ux
  obtain ⟨_, ym, _, _, _, d2⟩ := (hud u y).1 uy
  obtain ⟨wm, _, _, _, _, d3⟩ := (hud w x).1 wx
  obtain ⟨_, _, _, _, _, d4⟩ := (hud w y).1 wy
  obtain ⟨_, uz, u3⟩ := hR.1 u um
  obtain ⟨_, _, w3⟩ := hR.1 w wm
  obtain ⟨_, xz, x3⟩ := hR.1 x xm
  obtain ⟨_, _, y3⟩ := hR.1 y ym
  rcases c4_free uz xz (u3 3 (by omega)) (w3 3 (by omega)) (x3 3 (by omega)) (y3 3 (by omega)) d1 d2 d3 d4 with h | h
  · exact huw (hR.2 u w um wm h)
  · exact hxy (hR.2 x y xm ym h)
theorem rv0_small (hD : D = 3 ∨ D = 4) (hm : m ≤ 20) (hl : Low m ins) (hR : RWd D m nu) (hud : UD m ins nu up) {X : Int32} (hX : pcn X ≤ 11) (h1 : ∃ f, Frm D ins up f ∧ sb f X) : ∃ v, tb X v = true ∧ tb ins v = true ∧ pcn (Rv0 D ins up X v) + D ≤ 9 := by
  have inX : ∀ v k, tb (Rv0 D ins up X v) k = true → tb X k = true := fun v k hk => by
    obtain ⟨g, _, hgX, _, hgk, _⟩ := (rv0_mem hm hl).1 hk
    exact hgX k hgk
  -- a frame with v has nothing of the rest
  have off : ∀ v f, Frm D ins up f → tb f v = true → ∀ k, ¬ (tb (Rv0 D ins up X v) k = true ∧ tb f k = true) := fun v f hf hv k h => by
    obtain ⟨g, _, _, hgv, hgk, hn⟩ := (rv0_mem hm hl).1 h.1
    by_cases e : v = k
    · rw [e, hgk] at hgv; cases hgv
    · rw [hf.2.2 v k hv h.2 e] at hn; cases hn
  by_cases hA : ∃ f g v, Frm D ins up f ∧ Frm D ins up g ∧ sb f X ∧ sb g X ∧ ¬ f = g ∧ tb f v = true ∧ tb g v = true
  · obtain ⟨f, g, v, hf, hg, fX, gX, ne, fv, gv⟩ := hA
    refine ⟨v, fX v fv, hf.1 v fv, ?_⟩
    have hm' := frm_meet hD hm hl hR hud hf hg ne
    have s1 := pcn_split (T := f &&& g) (R := g) (fun k hk => (and_t.1 hk).2)
    have z1 : f &&& (g &&& ((f &&& g) ^^^ -1)) = 0 := and0.2 (fun k _ h => by
      have h2 := dif_t.1 h.2
      rw [tb_and, h.1, h2.1] at h2
      exact absurd h2.2 (by decide))
    have p1 := pcn_or z1
    have z2 : Rv0 D ins up X v &&& (f ||| (g &&& ((f &&& g) ^^^ -1))) = 0 := and0.2 (fun k _ h => by
      rcases or_t.1 h.2 with q | q
      · exact off v f hf fv k ⟨h.1, q⟩
      · exact off v g hg gv k ⟨h.1, (dif_t.1 q).1⟩)
    have p2 := pcn_or z2
    have le := pcn_mono (s := Rv0 D ins up X v ||| (f ||| (g &&& ((f &&& g) ^^^ -1)))) (t := X) (fun k hk => by
      rcases or_t.1 hk with h | h
      · exact inX v k h
      · rcases or_t.1 h with q | q
        · exact fX k q
        · exact gX k (dif_t.1 q).1)
    have e1 := hf.2.1
    have e2 := hg.2.1
    omega
  · have dj : ∀ f g, Frm D ins up f → Frm D ins up g → sb f X → sb g X → ¬ f = g → f &&& g = 0 := fun f g hf hg fX gX ne => and0.2 (fun k _ h => hA ⟨f, g, k, hf, hg, fX, gX, ne, h.1, h.2⟩)
    obtain ⟨f, hf, fX⟩ := h1
    obtain ⟨v, fv⟩ := pcn_pos (T := f) (by rw [hf.2.1]; omega)
    refine ⟨v, fX v fv, hf.1 v fv, ?_⟩
    have e1 := hf.2.1
    -- the others
    have oth : ∀ g, tb g v = false → ¬ f = g := fun g h e => by rw [← e, fv] at h; cases h
    by_cases hg : ∃ g, Frm D ins up g ∧ sb g X ∧ ¬ f = g
    · obtain ⟨g, hg, gX, ng⟩ := hg
      have e2 := hg.2.1
      have dfg := dj f g hf hg fX gX ng
      have pfg := pcn_or dfg
      by_cases hh : ∃ h, Frm D ins up h ∧ sb h X ∧ ¬ f = h ∧ ¬ g = h
      · obtain ⟨h, hh, hX', nf, ng'⟩ := hh
        have e3 := hh.2.1
        have d1 := dj f h hf hh fX hX' nf
        have d2 := dj g h hg hh gX hX' ng'
        have z : (f ||| g) &&& h = 0 := and0.2 (fun k hk q => by
          rcases or_t.1 q.1 with w | w
          · exact and0.1 d1 k hk ⟨w, q.2⟩
          · exact and0.1 d2 k hk ⟨w, q.2⟩)
        have pz := pcn_or z
        have le := pcn_mono (s := (f ||| g) ||| h) (t := X) (fun k hk => by
          rcases or_t.1 hk with w | w
          · rcases or_t.1 w with w | w
            · exact fX k w
            · exact gX k w
          · exact hX' k w)
        have d3 : D = 3 := by omega
        have pgh := pcn_or d2
        have all : ∀ a, Frm D ins up a → sb a X → a = f ∨ a = g ∨ a = h := fun a ha aX => Classical.byContradiction (fun q => by
          have q1 := dj a f ha hf aX fX (fun e => q (Or.inl e))
          have q2 := dj a g ha hg aX gX (fun e => q (Or.inr (Or.inl e)))
          have q3 := dj a h ha hh aX hX' (fun e => q (Or.inr (Or.inr e)))
          have z' : ((f ||| g) ||| h) &&& a = 0 := and0.2 (fun k hk w => by
            rcases or_t.1 w.1 with w' | w'
            · rcases or_t.1 w' with w' | w'
              · exact and0.1 q1 k hk ⟨w.2, w'⟩
              · exact and0.1 q2 k hk ⟨w.2, w'⟩
            · exact and0.1 q3 k hk ⟨w.2, w'⟩)
          have p' := pcn_or z'
          have le' := pcn_mono (s := ((f ||| g) ||| h) ||| a) (t := X) (fun k hk => by
            rcases or_t.1 hk with w | w
            · rcases or_t.1 w with w | w
              · rcases or_t.1 w with w | w
                · exact fX k w
                · exact gX k w
              · exact hX' k w
            · exact aX k w)
          have ea := ha.2.1
          omega)
        have := pcn_mono (s := Rv0 D ins up X v) (t := g ||| h) (fun k hk => by
          obtain ⟨a, ha, aX, av, ak, _⟩ := (rv0_mem hm hl).1 hk
          rcases all a ha aX with rfl | rfl | rfl
          · exact absurd rfl (oth _ av)
          · exact or_t.2 (Or.inl ak)
          · exact or_t.2 (Or.inr ak))
        omega
      · have := pcn_mono (s := Rv0 D ins up X v) (t := g) (fun k hk => by
          obtain ⟨a, ha, aX, av, ak, _⟩ := (rv0_mem hm hl).1 hk
          have : g = a := Classical.byContradiction (fun q => hh ⟨a, ha, aX, oth a av, q⟩)
          rw [this]
          exact ak)
        have le := pcn_mono (s := f ||| g) (t := X) (fun k hk => by
          rcases or_t.1 hk with w | w
          · exact fX k w
          · exact gX k w)
        omega
    · have : Rv0 D ins up X v = 0 := Classical.byContradiction (fun q => by
        obtain ⟨k, hk⟩ := ne0 q
        obtain ⟨a, ha, aX, av, _, _⟩ := (rv0_mem hm hl).1 hk
        exact hg ⟨a, ha, aX, oth a av⟩)
      rw [this, pcn_zero]
      omega
theorem small_has (hD : D = 3 ∨ D = 4) (hm : m ≤ 20) (hl : Low m ins) (hR : RWd D m nu) (hud : UD m ins nu up) {X : Int32} (hX : pcn X ≤ 11) : ∃ P : Nat → Prop, (∀ k, P k → tb X k = true) ∧ (∀ i j, P i → P j → tb (up i) j = false) ∧ ∀ f, Frm D ins up f → sb f X → ∃ k, tb f k = true ∧ P k := by
  obtain ⟨hsym, hirr, _⟩ := ud_facts hud
  by_cases h1 : ∃ f, Frm D ins up f ∧ sb f X
  · obtain ⟨v, vX, vi, hn⟩ := rv0_small hD hm hl hR hud hX h1
    have hn' : pcn (Rv0 D ins up X v) ≤ 5 ∨ (pcn (Rv0 D ins up X v) ≤ 6 ∧ C4f up (Rv0 D ins up X v)) := by
      rcases hD with rfl | rfl
      · exact Or.inr ⟨by omega, c4_ok hl hR hud _⟩
      · exact Or.inl (by omega)
    obtain ⟨P, p1, p2, p3⟩ := hit_all hsym hirr (rems_ok hD hm hl hR hud (X := X) vi) hn'
    have pv : ∀ k, P k → tb (up v) k = false := fun k hk => by
      obtain ⟨_, _, _, _, _, h⟩ := (rv0_mem hm hl).1 (p1 k hk)
      exact h
    refine ⟨fun k => k = v ∨ P k, ?_, ?_, ?_⟩
    · rintro k (rfl | h)
      · exact vX
      · obtain ⟨g, _, gX, _, gk, _⟩ := (rv0_mem hm hl).1 (p1 k h)
        exact gX k gk
    · rintro i j (rfl | h) (rfl | h')
      · exact hirr _
      · exact pv j h'
      · rw [hsym]; exact pv i h
      · exact p2 i j h h'
    · intro f hf fX
      by_cases fv : tb f v = true
      · exact ⟨v, fv, Or.inl rfl⟩
      · obtain ⟨k, hk, hp⟩ := p3 _ ⟨f, hf, fX, Bool.eq_false_iff.2 fv, rfl⟩
        exact ⟨k, (dif_t.1 hk).1, Or.inr hp⟩
  · exact ⟨fun _ => False, (fun k q => q.elim), (fun i j q => q.elim), fun f hf fX => absurd ⟨f, hf, fX⟩ h1⟩
/-- what the reference's rows ask -/
theorem few_ok (hD : D = 3 ∨ D = 4) (hR : RWd D m nu) (hud : UD m ins nu up) (hF : FS D ins up F) (hU : UW m rl ins up F) : ∀ X, sb X ins → rfB m rl up F X = true → 12 ≤ pcn X := by
  intro X hX hr
  obtain ⟨hm, hrl, hl, hsym, hirr, _⟩ := id hU
  refine Classical.byContradiction (fun q => ?_)
  obtain ⟨P, p1, p2, p3⟩ := small_has hD hm hl hR hud (X := X) (by omega)
  have mem : ∀ k, tb (mk (fun k => @decide (P k) (Classical.propDecidable _)) 20) k = true ↔ P k := by
    intro k
    rw [tb_mk _ (by omega), Bool.and_eq_true]
    constructor
    · exact fun h => @of_decide_eq_true _ (Classical.propDecidable _) h.2
    · intro h
      have := hl k (hX k (p1 k h))
      exact ⟨decide_eq_true (by omega), @decide_eq_true _ (Classical.propDecidable _) h⟩
  refine (ref_iff hm hrl (fun k hk => hl k (hX k hk)) hsym hirr).1 hr ⟨mk (fun k => @decide (P k) (Classical.propDecidable _)) 20, ?_, ?_, ?_⟩
  · intro k hk
    exact hl k (hX k (p1 k ((mem k).1 hk)))
  · intro r hr hY j h
    have hr' := (mem r).1 hY
    have hj := (mem j).1 h.2
    have no := p2 r j hr' hj
    have : tb (up r) j = true := by
      have hb := h.1
      unfold bsS bes at hb
      by_cases e : rl = 0
      · rw [if_pos e] at hb
        exact (and_t.1 hb).1
      · rw [if_neg e] at hb
        obtain ⟨ne, f, hf, fr, fj⟩ := (tb_mates _ (by omega) j).1 hb
        have hf := (List.mem_filter.1 hf).1
        exact ((hF.2 f).1 hf).2.2 r j fr fj (fun e => ne e.symm)
    rw [this] at no
    cases no
  · intro f hf
    obtain ⟨h1, h2⟩ := List.mem_filter.1 hf
    obtain ⟨k, hk, hp⟩ := p3 f ((hF.2 f).1 h1) (sub0.1 (of_decide_eq_true h2))
    intro z
    exact and0.1 z k (tb_lt hk) ⟨hk, (mem k).2 hp⟩
end SMALL2
