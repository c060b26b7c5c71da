/-! THE WHOLE -/
section FIN
theorem obs_all (L : Nat) : Obs (J L) := ⟨o100, o101, o102, o103, o104, o105, o106, o107, o108, o109, o110, o111, o112, o113, o114, o115, o116, o117, o118, o119, o120, o121, o122, o123, o124, o125, o126, o127, o128, o129, o130, o131, o132, o133, o134⟩
theorem j_start (L : Nat) (xf : Nat → Int32) : Wp 1900 0 161 0 [.ref 46] [] (Sini L xf) (fun o S1 => o = .inl none ∧ J L (setO S1 0)) := by
  have e : ∀ j k, ¬ j = 3000 → (Sini L xf).1 j k = ini j k := fun j k h => if_neg h
  have hN : WN 3 0 0 0 (fun _ _ => 0) := ⟨Or.inl rfl, by omega, by omega, low_zero 0, fun r hr => by omega, fun r o hr => by omega⟩
  refine chg hN ((e 46 0 (by decide)).trans (by decide)) ((e 46 1 (by decide)).trans (by decide)) ((e 46 2 (by decide)).trans (by decide)) ((e 46 3 (by decide)).trans (by decide)) (fun r k hr => by omega) (fun S1 a1 b1 b2 b3 b4 b5 => ⟨rfl, ?_⟩)
  have f : ∀ j k v, ¬ j = 3000 → (j, k) ∉ [(46, 9), (46, 10), (46, 11)] → ini j k = v → S1.1 j k = v := fun j k v h1 h2 h3 => (a1.f h2).trans ((e j k h1).trans h3)
  have hL : S1.1 3000 0 = Int32.ofNat L := (a1.f (by decide)).trans (show (if (3000 : Nat) = 3000 then Int32.ofNat L else ini 3000 0) = Int32.ofNat L from if_pos rfl)
  have x1 : JT 3 0 0 0 (fun _ _ => 0) S1 := ⟨⟨f 2 0 _ (by decide) (by decide) (by decide), f 2 1 _ (by decide) (by decide) (by decide), fun r k hr => by omega, fun r hr => by omega, fun r hr => by omega⟩, fun r hr => by omega, f 0 14 _ (by decide) (by decide) (by decide), f 0 15 _ (by decide) (by decide) (by decide), b1, b2, b3, fun c _ => (a1.a (by decide) c).trans (show (if (60 : Nat) = 3000 then xf c else 0) = 0 from if_neg (by decide))⟩
  have x2 : JF S1 := (f 0 16 _ (by decide) (by decide) (by decide : ini 0 16 = ini 46 51)).trans (f 46 51 _ (by decide) (by decide) rfl).symm
  have x3 : JP 0 (fun _ => 0) S1 := ⟨⟨f 1 1 _ (by decide) (by decide) (by decide), by omega, fun i hi => by omega⟩, ⟨f 46 43 _ (by decide) (by decide) (by decide), by omega, fun i hi => by omega⟩⟩
  have x4 : JA 0 0 (fun _ => (0, 0)) S1 := ⟨⟨f 12 3 _ (by decide) (by decide) (by decide), by omega, 0, by omega, f 12 2 _ (by decide) (by decide) (by decide), fun i hi => by omega⟩, ⟨f 46 40 _ (by decide) (by decide) (by decide), by omega, fun i hi => by omega⟩, fun i hi => by omega⟩
  have x5 : JY [] S1 := ⟨⟨f 0 13 _ (by decide) (by decide) (by decide), by decide, fun i hi => absurd hi (Nat.not_lt_zero i)⟩, ⟨f 46 37 _ (by decide) (by decide) (by decide), by decide, fun i hi => absurd hi (Nat.not_lt_zero i)⟩⟩
  have j1 : J L S1 := ⟨hL, 3, 0, 0, 0, fun _ _ => 0, 0, fun _ => 0, 0, fun _ => (0, 0), [], hN, x1, x2, x3, x4, x5, Or.inl (f 0 17 _ (by decide) (by decide) (by decide)), Or.inl b4, Or.inl b5⟩
  exact j1
theorem pure_claim : PureClaim := pure_of_obs J (fun _ _ h => h.1) (fun L _ => obs_all L) (fun L xf _ => j_start L xf)
end FIN
