/-! THE REFERENCE: frames, and with whom a ray may not be yes -/
def ch : Nat → Nat → Nat
  | _, 0 => 1
  | 0, _ + 1 => 0
  | n + 1, k + 1 => ch n k + ch n (k + 1)
/-- frames that have a set, of s rays more, of the last k rays of m -/
def ff (up : Nat → Int32) (ins : Int32) (m : Nat) : Nat → Nat → Int32 → List Int32
  | 0, s, set => if s = 0 then [set] else []
  | k + 1, s, set => if s = 0 then [set] else (if tb ins (m - (k + 1)) = true ∧ set &&& (up (m - (k + 1)) ^^^ -1) = 0 then ff up ins m k (s - 1) (set ||| bit (m - (k + 1))) else []) ++ ff up ins m k s set
theorem ff_zero (up : Nat → Int32) (ins : Int32) (m k : Nat) (set : Int32) : ff up ins m k 0 set = [set] := by
  cases k <;> rfl
theorem ff_len (up : Nat → Int32) (ins : Int32) (m : Nat) : ∀ (k s : Nat) (set : Int32), (ff up ins m k s set).length ≤ ch k s := by
  intro k
  induction k with
  | zero =>
    intro s set
    cases s with
    | zero => exact Nat.le_refl _
    | succ s => exact Nat.le_refl _
  | succ k ih =>
    intro s set
    cases s with
    | zero => exact Nat.le_refl _
    | succ s =>
      show (_ ++ _ : List Int32).length ≤ ch k s + ch k (s + 1)
      rw [List.length_append]
      have h1 := ih (s + 1) set
      split
      · have h2 := ih s (set ||| bit (m - (k + 1)))
        show (ff up ins m k s _).length + _ ≤ _
        omega
      · show 0 + _ ≤ _
        omega
/-- the frames as they stand -/
def FL (S : St) (L : List Int32) : Prop := S.1 46 9 = Int32.ofNat L.length ∧ ∀ i, i < L.length → S.2.1 50 i = L.getD i 0
theorem FL.of {fs : List (Nat × Nat)} {as : List Nat} {S S1 : St} {L : List Int32} (h : FL S L) (hF : Fz fs as S S1) (n : (46, 9) ∉ fs) (na : 50 ∉ as) : FL S1 L := ⟨(hF.f n).trans h.1, fun i hi => (hF.a na i).trans (h.2 i hi)⟩
theorem getD_app {L : List Int32} {x : Int32} {i : Nat} (h : i < L.length) : (L ++ [x]).getD i 0 = L.getD i 0 := by
  rw [List.getD_eq_getElem?_getD, List.getD_eq_getElem?_getD, List.getElem?_append_left h]
theorem getD_app2 {L : List Int32} {x : Int32} : (L ++ [x]).getD L.length 0 = x := by
  rw [List.getD_eq_getElem?_getD, List.getElem?_append_right (Nat.le_refl _)]
  simp
theorem FL.push {S : St} {L : List Int32} (h : FL S L) (x : Int32) : FL (setI (setA S 50 L.length x) 46 9 (Int32.ofNat (L.length + 1))) (L ++ [x]) := by
  constructor
  · rw [seti_same, List.length_append]; rfl
  · intro i hi
    rw [List.length_append] at hi
    have hi : i < L.length + 1 := hi
    show (setA S 50 L.length x).2.1 50 i = _
    by_cases e : i = L.length
    · subst e; rw [seta_same, getD_app2]
    · rw [seta_ne (by omega), getD_app (by omega)]; exact h.2 i (by omega)
theorem take_suc {L : List Int32} {i : Nat} (h : i < L.length) : L.take (i + 1) = L.take i ++ [L.getD i 0] := by
  rw [List.take_succ, List.getD_eq_getElem?_getD, List.getElem?_eq_getElem h]
  rfl
section MOD2
variable {b : Nat} {D m : Nat} {ins : Int32} {up : Nat → Int32}
theorem w163 : ∀ (s k dd : Nat) (S : St) (set : Int32) (L : List Int32) (Q : Out → St → Prop), s + 3 ≤ dd → MB D m ins S → (∀ r, r < m → S.2.1 48 r = up r) → FL S L → k ≤ m → s ≤ D → L.length + ch k s ≤ 4845 →
    (∀ S1, Fz [(46, 9)] [50] S S1 → FL S1 (L ++ ff up ins m k s set) → Q (.inl none) S1) → Wp dd 0 163 0 [.ref 46, .int set, .int (Int32.ofNat (m - k)), .int (Int32.ofNat (D - s))] [] S Q := by
  intro s
  induction s with
  | zero =>
    intro k dd S set L Q hdd hB hup hL hk hs hlen K
    obtain ⟨hD, hd, hm, h20, hi, hlow⟩ := hB
    have hc : ch k 0 = 1 := by cases k <;> rfl
    rw [hc] at hlen
    refine b163_0 (fun h => absurd hD.symm h) (fun _ => b163_8 ?_ ?_)
    · rw [hL.1]; exact i_vp (by omega) (by omega)
    · show Q _ (setI (setA S 50 (S.1 46 9).toNatClampNeg set) 46 9 (S.1 46 9 + 1))
      rw [hL.1, i_cl (by omega), i_suc]
      refine K _ ((Fz.refl.seta (by decide)).seti (by decide)) ?_
      rw [ff_zero]
      exact hL.push set
  | succ s ih =>
    intro k0 dd S set L Q hdd hB hup hL hk0 hs hlen K
    obtain ⟨e, rfl⟩ : ∃ e, dd = e + 3 := ⟨dd - 3, by omega⟩
    obtain ⟨hD, hd, hm, h20, hi, hlow⟩ := id hB
    have loop : ∀ (k : Nat) (S' : St) (L' : List Int32) (f0 : Int32), k ≤ m → Fz [(46, 9)] [50] S S' → FL S' L' → L'.length + ch k (s + 1) ≤ 4845 → (∀ S1, Fz [(46, 9)] [50] S S1 → FL S1 (L' ++ ff up ins m k (s + 1) set) → Q (.inl none) S1) → Wp (e + 3) 0 163 32 [.ref 46, .int set, .int f0, .int (Int32.ofNat (D - (s + 1))), .int (Int32.ofNat (m - k))] [] S' Q := by
      intro k
      induction k with
      | zero =>
        intro S' L' f0 hk hF hL' hlen' K'
        refine b163_32 (fun _ => b163_87 (K' S' hF ?_)) (fun h => ?_)
        · show FL S' (L' ++ [])
          rw [List.append_nil]
          exact hL'
        · rw [hF.f (by decide), hm] at h
          exact absurd ((i_le (by omega) (by omega)).2 (by omega)) h
      | succ k ihk =>
        intro S' L' f0 hk hF hL' hlen' K'
        have hB' : MB D m ins S' := hB.of hF (by decide) (by decide) (by decide)
        obtain ⟨_, _, hm', _, hi', _⟩ := id hB'
        have hc : ch (k + 1) (s + 1) = ch k s + ch k (s + 1) := rfl
        have er : m - (k + 1) + 1 = m - k := by omega
        have skip : ¬ (tb ins (m - (k + 1)) = true ∧ set &&& (up (m - (k + 1)) ^^^ -1) = 0) → Wp (e + 3) 0 163 81 [.ref 46, .int set, .int f0, .int (Int32.ofNat (D - (s + 1))), .int (Int32.ofNat (m - (k + 1)))] [] S' Q := by
          intro hn
          refine b163_81 ?_
          rw [i_suc, er]
          refine ihk S' L' f0 (by omega) hF hL' (by omega) (fun S1 h1 h2 => K' S1 h1 ?_)
          have : ff up ins m (k + 1) (s + 1) set = ff up ins m k (s + 1) set := by
            show (if _ then _ else _) ++ _ = _
            rw [if_neg hn]; rfl
          rw [this]
          exact h2
        refine b163_32 (fun h => ?_) (fun _ => b163_41 (s159n (by omega) hm' h20 hi') ?_)
        · rw [hm'] at h
          have := (i_le (by omega) (by omega)).1 h
          omega
        · rintro _ _ ⟨rfl, rfl⟩
          refine b163_47 (fun h => skip (by rw [bi0.1 h]; simp)) (fun h1 => b163_50 (i_vp (by omega) (by omega)) ?_ ?_)
          · rw [i_cl (by omega), hF.a (by decide), hup _ (by omega)]
            exact fun h => skip (fun q => h q.2)
          · rw [i_cl (by omega), hF.a (by decide), hup _ (by omega)]
            intro h2
            have hy : tb ins (m - (k + 1)) = true ∧ set &&& (up (m - (k + 1)) ^^^ -1) = 0 := ⟨bi1.1 h1, Classical.not_not.1 h2⟩
            have eff : ff up ins m (k + 1) (s + 1) set = ff up ins m k s (set ||| bit (m - (k + 1))) ++ ff up ins m k (s + 1) set := by
              show (if _ then _ else _) ++ _ = _
              rw [if_pos hy]; rfl
            refine b163_64 (P := fun S1 => Fz [(46, 9)] [50] S' S1 ∧ FL S1 (L' ++ ff up ins m k s (set ||| bit (m - (k + 1))))) ?_ ?_
            · rw [i_suc, i_suc, er, show D - (s + 1) + 1 = D - s by omega]
              refine ih k (e + 2) S' (set ||| bit (m - (k + 1))) L' _ (by omega) hB' (fun r hr => (hF.a (by decide) r).trans (hup r hr)) hL' (by omega) (by omega) (by omega) (fun S1 h1 h2 => ⟨rfl, h1, h2⟩)
            · rintro S1 ⟨h3, h4⟩
              refine b163_81 ?_
              rw [i_suc, er]
              have hl := ff_len up ins m k s (set ||| bit (m - (k + 1)))
              refine ihk S1 _ f0 (by omega) (hF.trans h3) h4 (by rw [List.length_append]; omega) (fun S2 h5 h6 => K' S2 h5 ?_)
              rw [eff, ← List.append_assoc]
              exact h6
    refine b163_0 (fun _ => b163_29 (loop k0 S L _ hk0 Fz.refl hL hlen K)) (fun h => ?_)
    have h := Classical.not_not.1 h
    rw [hD] at h
    have := (i_inj (by omega) (by omega)).1 h
    omega
/-- the rays of a frame with a ray, that ray aside -/
def mateStep (r : Nat) (acc f : Int32) : Int32 := if tb f r = true then acc ||| (f &&& (bit r ^^^ -1)) else acc
def matesL (F : List Int32) (r : Nat) : Int32 := F.foldl (mateStep r) 0
def bes (rl : Nat) (up : Nat → Int32) (F : List Int32) (r : Nat) : Int32 := if rl = 0 then up r else matesL F r
theorem w164 {d rl : Nat} {S : St} {F : List Int32} {Q : Out → St → Prop} (hB : MB D m ins S) (hup : ∀ r, r < m → S.2.1 48 r = up r) (hL : FL S F) (hlen : F.length ≤ 4845) (hrl : S.1 46 3 = Int32.ofNat rl) (h1 : rl ≤ 1) (K : ∀ S1, Fz [] [49] S S1 → (∀ r, r < m → S1.2.1 49 r = bes rl up F r) → Q (.inl none) S1) : Wp (d + 1) b 164 0 [.ref 46] [] S Q := by
  obtain ⟨hD, hd, hm, h20, hi, hlow⟩ := id hB
  have L2 : ∀ k f r S', r < m → f + k = F.length → Fz [] [49] S S' → (∀ q, q < r → S'.2.1 49 q = bes rl up F q) → S'.2.1 49 r = (if rl = 0 then up r else (F.take f).foldl (mateStep r) 0) →
      (∀ S'', Fz [] [49] S S'' → (∀ q, q < r + 1 → S''.2.1 49 q = bes rl up F q) → Wp (d + 1) b 164 2 [.ref 46, .int (Int32.ofNat (r + 1))] [] S'' Q) →
      Wp (d + 1) b 164 35 [.ref 46, .int (Int32.ofNat r), .int (Int32.ofNat f)] [] S' Q := by
    intro k
    induction k with
    | zero =>
      intro f r S' hr hf hF hq hx K'
      have ef : F.take f = F := List.take_of_length_le (by omega)
      refine b164_35 (fun _ => b164_91 ?_) (fun h => ?_)
      · rw [i_suc]
        refine K' S' hF (fun q hq' => ?_)
        by_cases e : q = r
        · subst e
          rw [hx, ef]
          rfl
        · exact hq q (by omega)
      · rw [hF.f (by decide), hL.1] at h
        exact absurd ((i_le (by omega) (by omega)).2 (by omega)) h
    | succ k ih =>
      intro f r S' hr hf hF hq hx K'
      refine b164_35 (fun h => ?_) (fun _ => b164_43 (fun h => b164_91 ?_) (fun h => ?_))
      · rw [hF.f (by decide), hL.1] at h
        have := (i_le (by omega) (by omega)).1 h
        omega
      · rw [hF.f (by decide), hrl] at h
        have r0 : rl = 0 := by
          by_cases e : rl = 1
          · subst e; exact absurd rfl h
          · omega
        rw [i_suc]
        refine K' S' hF (fun q hq' => ?_)
        by_cases e : q = r
        · subst e
          rw [hx]
          unfold bes
          rw [if_pos r0, if_pos r0]
        · exact hq q (by omega)
      · have h := Classical.not_not.1 h
        rw [hF.f (by decide), hrl] at h
        have r1 : rl = 1 := (i_inj (by omega) (by omega)).1 h
        have r0 : ¬ rl = 0 := by omega
        rw [if_neg r0] at hx
        have e50 : S'.2.1 50 f = F.getD f 0 := (hF.a (by decide) f).trans (hL.2 f (by omega))
        refine b164_51 (i_vp (by omega) (by omega)) (P := Vx (bi (tb (F.getD f 0) r)) S') ?_ ?_
        · rw [i_cl (by omega), e50]
          exact s154 _ (by omega)
        · rintro _ _ ⟨rfl, rfl⟩
          refine b164_61 (fun h => b164_85 ?_) (fun h => b164_64 (i_vp (by omega) (by omega)) (i_vp (by omega) (by omega)) (i_vp (by omega) (by omega)) (b164_85 ?_))
          · rw [i_suc]
            refine ih (f + 1) r S' hr (by omega) hF hq ?_ K'
            rw [if_neg r0, take_suc (by omega), List.foldl_append, hx]
            show _ = mateStep r _ _
            unfold mateStep
            rw [bi0.1 h]
            rfl
          · rw [i_suc, i_cl (by omega), i_cl (by omega), e50]
            refine ih (f + 1) r _ hr (by omega) (hF.seta (by decide)) (fun q hq' => ?_) ?_ K'
            · rw [seta_ne (by omega)]; exact hq q hq'
            · rw [seta_same, if_neg r0, take_suc (by omega), List.foldl_append, hx]
              show _ = mateStep r _ _
              unfold mateStep
              rw [bi1.1 h]
              rfl
  have L1 : ∀ k r S', r + k = m → Fz [] [49] S S' → (∀ q, q < r → S'.2.1 49 q = bes rl up F q) → Wp (d + 1) b 164 2 [.ref 46, .int (Int32.ofNat r)] [] S' Q := by
    intro k
    induction k with
    | zero =>
      intro r S' hr hF hq
      refine b164_2 (fun _ => b164_97 (K S' hF (fun q hq' => hq q (by omega)))) (fun h => ?_)
      rw [hF.f (by decide), hm] at h
      exact absurd ((i_le (by omega) (by omega)).2 (by omega)) h
    | succ k ih =>
      intro r S' hr hF hq
      have go : ∀ v, v = (if rl = 0 then up r else 0) → Wp (d + 1) b 164 32 [.ref 46, .int (Int32.ofNat r)] [.int v, .int (Int32.ofNat r), .ref 49] S' Q := by
        intro v hv
        refine b164_32 (i_vp (by omega) (by omega)) ?_
        rw [i_cl (by omega)]
        refine L2 F.length 0 r _ (by omega) (by omega) (hF.seta (by decide)) (fun q hq' => ?_) (by rw [seta_same, hv]; rfl) (fun S'' hF' hq' => ih (r + 1) S'' (by omega) hF' hq')
        rw [seta_ne (by omega)]
        exact hq q hq'
      refine b164_2 (fun h => ?_) (fun _ => b164_10 (fun h => b164_31 (go 0 ?_)) (fun h => b164_22 (i_vp (by omega) (by omega)) (go _ ?_)))
      · rw [hF.f (by decide), hm] at h
        have := (i_le (by omega) (by omega)).1 h
        omega
      · rw [hF.f (by decide), hrl] at h
        rw [if_neg]
        rintro rfl
        exact h rfl
      · have h := Classical.not_not.1 h
        rw [hF.f (by decide), hrl] at h
        have r0 : rl = 0 := (i_inj (by omega) (by omega)).1 h
        rw [if_pos r0, i_cl (by omega), hF.a (by decide)]
        exact hup r (by omega)
  exact b164_0 (L1 m 0 S (by omega) Fz.refl (fun q h => absurd h (by omega)))
/-- all that the reference lays -/
def frS (num : Nat → Int32) (D m : Nat) (ins : Int32) : List Int32 := ff (upS num D m ins) ins m m D 0
/-- the reference, laid -/
def ML (D m rl : Nat) (ins : Int32) (S : St) : Prop := MB D m ins S ∧ S.1 46 3 = Int32.ofNat rl ∧ rl ≤ 1 ∧ (∀ r, r < m → S.2.1 48 r = upS (S.2.1 47) D m ins r) ∧ FL S (frS (S.2.1 47) D m ins) ∧ (∀ r, r < m → S.2.1 49 r = bes rl (upS (S.2.1 47) D m ins) (frS (S.2.1 47) D m ins) r)
theorem ch_mono (n k : Nat) : ch n k ≤ ch (n + 1) k := by
  cases k with
  | zero => cases n <;> exact Nat.le_refl _
  | succ k => show _ ≤ ch n k + ch n (k + 1); omega
theorem ch_le {n n' : Nat} (k : Nat) (h : n ≤ n') : ch n k ≤ ch n' k := by
  induction h with
  | refl => exact Nat.le_refl _
  | step _ ih => exact Nat.le_trans ih (ch_mono _ k)
theorem frS_len (num : Nat → Int32) {D m : Nat} (ins : Int32) (hD : D = 3 ∨ D = 4) (hm : m ≤ 20) : (frS num D m ins).length ≤ 4845 := by
  refine Nat.le_trans (ff_len _ _ _ _ _ _) (Nat.le_trans (ch_le D hm) ?_)
  rcases hD with rfl | rfl
  · decide +kernel
  · decide +kernel
theorem w161 {d rl : Nat} {S : St} {Q : Out → St → Prop} (hB : MB D m ins S) (hrl : S.1 46 3 = Int32.ofNat rl) (h1 : rl ≤ 1) (K : ∀ S1, Fz [(46, 9), (46, 10), (46, 11)] [48, 49, 50] S S1 → ML D m rl ins S1 → S1.1 46 10 = 0 → S1.1 46 11 = 0 → Q (.inl none) S1) : Wp (d + 8) b 161 0 [.ref 46] [] S Q := by
  obtain ⟨hD, hd, hm, h20, hi, hlow⟩ := id hB
  refine b161_0 (s162 hB) ?_
  rintro S1 ⟨hF1, hu⟩
  have hB1 : MB D m ins S1 := hB.of hF1 (by decide) (by decide) (by decide)
  have hc : ch m D ≤ 4845 := by
    refine Nat.le_trans (ch_le D h20) ?_
    rcases hd with rfl | rfl
    · decide +kernel
    · decide +kernel
  have F0 : Fz [(46, 9)] [50] S1 (setI S1 46 9 0) := Fz.refl.seti (by decide)
  refine b161_4 (P := fun S2 => Fz [(46, 9)] [50] (setI S1 46 9 0) S2 ∧ FL S2 (frS (S.2.1 47) D m ins)) ?_ ?_
  · have := w163 (D := D) (m := m) (ins := ins) (up := upS (S.2.1 47) D m ins) D m (d + 7) (setI S1 46 9 0) 0 [] (Rv fun S2 => Fz [(46, 9)] [50] (setI S1 46 9 0) S2 ∧ FL S2 (frS (S.2.1 47) D m ins)) (by omega) ⟨hB1.1, hd, hB1.2.2.1, h20, hB1.2.2.2.2.1, hlow⟩ hu ⟨rfl, fun i h => absurd h (Nat.not_lt_zero i)⟩ (Nat.le_refl _) (Nat.le_refl _) (by show 0 + _ ≤ _; omega) (fun S2 h1 h2 => ⟨rfl, h1, h2⟩)
    rw [Nat.sub_self, Nat.sub_self] at this
    exact this
  · rintro S2 ⟨hF2, hL2⟩
    have hF12 : Fz [(46, 9)] [48, 50] S S2 := ((hF1.mono (by decide) (by decide)).trans (F0.mono (by decide) (by decide))).trans (hF2.mono (by decide) (by decide))
    have hB2 : MB D m ins S2 := hB.of hF12 (by decide) (by decide) (by decide)
    have hu2 : ∀ r, r < m → S2.2.1 48 r = upS (S.2.1 47) D m ins r := fun r hr => (hF2.a (by decide) r).trans (hu r hr)
    refine b161_16 (P := fun S3 => Fz [] [49] S2 S3 ∧ (∀ r, r < m → S3.2.1 49 r = bes rl (upS (S.2.1 47) D m ins) (frS (S.2.1 47) D m ins) r)) ?_ ?_
    · exact w164 hB2 hu2 hL2 (frS_len _ _ hd h20) ((hF12.f (by decide)).trans hrl) h1 (fun S3 h1 h2 => ⟨rfl, h1, h2⟩)
    · rintro S3 ⟨hF3, hb3⟩
      have hF13 : Fz [(46, 9), (46, 10), (46, 11)] [48, 49, 50] S S3 := (hF12.mono (by decide) (by decide)).trans (hF3.mono (by decide) (by decide))
      have e47 : S3.2.1 47 = S.2.1 47 := hF13.ar (by decide)
      refine b161_20 (Or.inl rfl) (Or.inl rfl) (K _ ((hF13.seti (by decide)).seti (by decide)) ?_ rfl rfl)
      refine ⟨hB.of ((hF13.seti (by decide)).seti (by decide)) (by decide) (by decide) (by decide), (hF13.f (by decide)).trans hrl, h1, ?_, ?_, ?_⟩
      · show ∀ r, r < m → S3.2.1 48 r = upS (S3.2.1 47) D m ins r
        rw [e47]
        exact fun r hr => (hF3.a (by decide) r).trans (hu2 r hr)
      · show FL _ (frS (S3.2.1 47) D m ins)
        rw [e47]
        exact hL2.of ((hF3.mono (fs' := [(46, 10), (46, 11)]) (as' := [49]) (by decide) (by decide)).seti (by decide) |>.seti (by decide)) (by decide) (by decide)
      · show ∀ r, r < m → S3.2.1 49 r = bes rl (upS (S3.2.1 47) D m ins) (frS (S3.2.1 47) D m ins) r
        rw [e47]
        exact hb3
end MOD2
