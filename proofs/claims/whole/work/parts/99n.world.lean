/-! THE WORLD, and what stands between the calls -/
section WORLD
variable {b D m rl : Nat} {ins : Int32} {nu : Nat → Nat → Int}
def WN (D m rl : Nat) (ins : Int32) (nu : Nat → Nat → Int) : Prop := (D = 3 ∨ D = 4) ∧ m ≤ 20 ∧ rl ≤ 1 ∧ Low m ins ∧ RWd D m nu
def upN (m : Nat) (ins : Int32) (nu : Nat → Nat → Int) (r : Nat) : Int32 := mk (fun o => decide (r < m) && (!decide (r = o) && (tb ins r && (tb ins o && decide (dt (nu r) (nu o) = 0))))) m
def frN (D m : Nat) (ins : Int32) (nu : Nat → Nat → Int) : List Int32 := ff (upN m ins nu) ins m m D 0
theorem ud_upN (hm : m ≤ 20) : UD m ins nu (upN m ins nu) := by
  intro r o
  unfold upN
  rw [tb_mk _ (by omega)]
  simp only [Bool.and_eq_true, Bool.not_eq_true', decide_eq_true_eq, decide_eq_false_iff_not]
  constructor
  · rintro ⟨a1, a2, a3, a4, a5, a6⟩
    exact ⟨a2, a1, a3, a4, a5, a6⟩
  · rintro ⟨a1, a2, a3, a4, a5, a6⟩
    exact ⟨a2, a1, a3, a4, a5, a6⟩
theorem ud_uniq {up up' : Nat → Int32} (h : UD m ins nu up) (h' : UD m ins nu up') : up = up' := by
  funext r
  refine tb_ext (fun o _ => ?_)
  rw [Bool.eq_iff_iff, h, h']
theorem wn_ud (h : WN D m rl ins nu) : UD m ins nu (upN m ins nu) := ud_upN h.2.1
theorem wn_fs (h : WN D m rl ins nu) : FS D ins (upN m ins nu) (frN D m ins nu) := fs_ff h.2.1 h.2.2.2.1 (ud_facts (wn_ud h)).1
theorem wn_uw (h : WN D m rl ins nu) : UW m rl ins (upN m ins nu) (frN D m ins nu) := uw_of h.1 h.2.1 h.2.2.1 h.2.2.2.1 h.2.2.2.2 (wn_ud h) (wn_fs h)
theorem wn_few (h : WN D m rl ins nu) : ∀ X, sb X ins → rfB m rl (upN m ins nu) (frN D m ins nu) X = true → 12 ≤ pcn X := few_ok h.1 h.2.2.2.2 (wn_ud h) (wn_fs h) (wn_uw h)
theorem wn_hue (h : WN D m rl ins nu) : ∀ k, Col (upN m ins nu) ins k → (0 < (frN D m ins nu).length → D ≤ k) ∧ (0 < sumN (fun r => pcn (upN m ins nu r)) 20 / 2 → 2 ≤ k) := hue_low h.1 (wn_uw h) (wn_fs h)
theorem wn_frm (h : WN D m rl ins nu) {f : Int32} (hf : f ∈ frN D m ins nu) : Low 20 f ∧ pcn f = D := by
  have hf := ((wn_fs h).2 f).1 hf
  exact ⟨fun k hk => by have := h.2.2.2.1 k (hf.1 k hk); have := h.2.1; omega, hf.2.1⟩
/-- the choices in their order -/
theorem wn_cho (h : WN D m rl ins nu) : Cho (bes rl (upN m ins nu) (frN D m ins nu)) (frN D m ins nu) ins (chs m rl (upN m ins nu) (frN D m ins nu) ins) := by
  have hU := wn_uw h
  generalize upN m ins nu = up at *
  generalize frN D m ins nu = F at *
  obtain ⟨hm, hrl, hl, hsym, hirr, hin, hFi, _⟩ := id hU
  refine ⟨chl_sorted m 0 (by omega) (fun k _ => tb_zero k), fun Y => ?_⟩
  rw [chs_mem hm hrl hl hsym hirr]
  have eF : inF ins F = F := List.filter_eq_self.2 (fun f hf => decide_eq_true (sub0.2 (hFi f hf)))
  rw [eF]
  have eb : ∀ r, r < m → bsS rl up F ins r = bes rl up F r := fun r hr => (bsS_ins hU r hr).1
  unfold LV Valid
  constructor
  · rintro ⟨h1, h2, h3, h4⟩
    refine ⟨h1, fun r hr j => ?_, fun f hf _ _ => and_e (h4 f hf)⟩
    have := h3 r (h2 r hr) hr j
    rw [eb r (h2 r hr)] at this
    exact this
  · rintro ⟨h1, h2, h3⟩
    refine ⟨h1, fun k hk => hl k (h1 k hk), fun r hr hY j => ?_, fun f hf z => ?_⟩
    · rw [eb r hr]
      exact h2 r hY j
    · have hz : f &&& 0 = 0 := and0.2 (fun k _ q => by rw [tb_zero] at q; exact absurd q.2 (by decide))
      have hne : ∃ k, tb f k = true ∧ tb ins k = true := by
        have hp := (hU.2.2.2.2.2.2.2.2.1 f hf).1
        obtain ⟨k, hk⟩ := pcn_pos (T := f) (by omega)
        exact ⟨k, hk, hFi f hf k hk⟩
      obtain ⟨k, k1, k2⟩ := h3 f hf hz hne
      exact and0.1 z k (tb_lt k1) ⟨k1, k2⟩
theorem wn_clen (h : WN D m rl ins nu) : (chs m rl (upN m ins nu) (frN D m ins nu) ins).length ≤ 1048576 := by
  have hC := wn_cho h
  generalize chs m rl (upN m ins nu) (frN D m ins nu) ins = C at *
  have := nodup_len C univ hC.nodup (fun Y hY => mem_univ.2 (fun k hk => by
    have := h.2.2.2.1 k (((hC.2 Y).1 hY).1 k hk)
    have := h.2.1
    omega))
  have : univ.length ≤ 1048576 := by
    have h2 := chl_len (rl := 0) (up := fun _ => 0) (F := []) 20 0 (-1)
    exact h2
  omega
end WORLD
