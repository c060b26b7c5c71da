/-! THE LAW from obligations, printed by wip/whole/emit_law.py -/
/-- the script stays -/
def Sc (S S1 : St) : Prop := S1.1 3000 0 = S.1 3000 0 ∧ S1.2.1 3000 = S.2.1 3000
/-- a call of both that does not throw -/
def ObA (I : St → Prop) (Mx Mm : Nat) (as : List Value) : Prop := ∀ S, I S → Wp 1999 0 Mx 0 (.ref 0 :: as) [] S (Ri fun v S1 => Sc S S1 ∧ Wp 1999 0 Mm 0 (.ref 46 :: as) [] S1 (Ri fun w S2 => w = v ∧ I S2))
/-- one that may throw: j the exception, k its code -/
def ObB (I : St → Prop) (c Mx Mm : Nat) (hc : List (Nat × Nat)) (as : List Value) : Prop := ∀ S, I S → Wp 1998 c Mx 0 (.ref 0 :: as) [] S (Rit (fun v S1 => Sc S S1 ∧ Wp 1999 0 Mm 0 (.ref 46 :: as) [] (setO S1 v.toInt64) (Ri fun w S2 => S2.1 46 4 = 0 ∧ S2.2.2.2 = v.toInt64 ∧ w = v ∧ I S2)) (fun X S1 => Sc S S1 ∧ ∃ j k, X = exN j ∧ (j, k) ∈ hc ∧ Wp 1999 0 Mm 0 (.ref 46 :: as) [] S1 (Ri fun w S2 => S2.1 46 4 = Int32.ofNat k ∧ I S2)))
/-- the same of a yes or no -/
def ObC (I : St → Prop) (c Mx Mm : Nat) (hc : List (Nat × Nat)) (as : List Value) : Prop := ∀ S, I S → Wp 1998 c Mx 0 (.ref 0 :: as) [] S (Rit (fun v S1 => Sc S S1 ∧ Wp 1999 0 Mm 0 (.ref 46 :: as) [] (setO S1 (if v = 0 then ((0 : Int32)).toInt64 else ((1 : Int32)).toInt64)) (Ri fun w S2 => S2.1 46 4 = 0 ∧ S2.2.2.2 = (if v = 0 then ((0 : Int32)).toInt64 else ((1 : Int32)).toInt64) ∧ w = v ∧ I S2)) (fun X S1 => Sc S S1 ∧ ∃ j k, X = exN j ∧ (j, k) ∈ hc ∧ Wp 1999 0 Mm 0 (.ref 46 :: as) [] S1 (Ri fun w S2 => S2.1 46 4 = Int32.ofNat k ∧ I S2)))
def HB (I : St → Prop) (Mm : Nat) (as : List Value) (S : St) : Int32 → St → Prop := fun k S1 => Sc S S1 ∧ Wp 1999 0 Mm 0 (.ref 46 :: as) [] S1 (Ri fun w S2 => S2.1 46 4 = k ∧ (k = 0 → S2.2.2.2 = w.toInt64) ∧ I S2)
def HC (I : St → Prop) (Mm : Nat) (as : List Value) (S : St) : Int32 → St → Prop := fun k S1 => Sc S S1 ∧ Wp 1999 0 Mm 0 (.ref 46 :: as) [] S1 (Ri fun w S2 => S2.1 46 4 = k ∧ (k = 0 → S2.2.2.2 = (if w = 0 then ((0 : Int32)).toInt64 else ((1 : Int32)).toInt64)) ∧ I S2)
theorem vp01 : vp_in (0 : Int32) 1 := i_vp (k := 0) (by omega) (by omega)
theorem lg_self (x : Int64) : lg_cmp x x = 0 := by
  unfold lg_cmp
  rw [if_neg (by rw [gt_iff_lt, Int64.lt_iff_toInt_lt]; omega), if_pos rfl]
theorem h264 {I : St → Prop} {Mm : Nat} {S : St} {a1 : Int32} (ob : ObB I 1 101 Mm [(0, 1)] [.int a1]) (hS : I S) : Wp 1999 1 264 0 [.ref 0, .int a1, .ref 66] [] S (Ri (HB I Mm [.int a1] S)) := by
  refine b264_0 (by decide) (ob S hS) ?_ ?_
  · rintro v S1 ⟨hs, hw⟩
    refine b264_7 vp01 (b264_15 ⟨_, rfl, hs, hw.imp ?_⟩)
    rintro _ S2 ⟨w, rfl, e1, e2, rfl, e4⟩
    exact ⟨_, rfl, e1, fun _ => e2, e4⟩
  · rintro X S1 ⟨hs, j, k, rfl, hm, hw⟩
    have hm := List.mem_singleton.1 hm
    cases hm
    refine ⟨0, 12, 3, 1, rfl, by decide +kernel, b264_13 ⟨_, rfl, hs, hw.imp ?_⟩⟩
    rintro _ S2 ⟨w, rfl, e1, e2⟩
    exact ⟨_, rfl, e1, fun q => absurd q (by decide), e2⟩
theorem h265 {I : St → Prop} {Mm : Nat} {S : St} {a1 : Int32} (ob : ObB I 1 103 Mm [(1, 1)] [.int a1]) (hS : I S) : Wp 1999 1 265 0 [.ref 0, .int a1, .ref 66] [] S (Ri (HB I Mm [.int a1] S)) := by
  refine b265_0 (by decide) (ob S hS) ?_ ?_
  · rintro v S1 ⟨hs, hw⟩
    refine b265_7 vp01 (b265_15 ⟨_, rfl, hs, hw.imp ?_⟩)
    rintro _ S2 ⟨w, rfl, e1, e2, rfl, e4⟩
    exact ⟨_, rfl, e1, fun _ => e2, e4⟩
  · rintro X S1 ⟨hs, j, k, rfl, hm, hw⟩
    have hm := List.mem_singleton.1 hm
    cases hm
    refine ⟨1, 12, 3, 1, rfl, by decide +kernel, b265_13 ⟨_, rfl, hs, hw.imp ?_⟩⟩
    rintro _ S2 ⟨w, rfl, e1, e2⟩
    exact ⟨_, rfl, e1, fun q => absurd q (by decide), e2⟩
theorem h266 {I : St → Prop} {Mm : Nat} {S : St} {a1 a2 : Int32} (ob : ObB I 2 104 Mm [(1, 1)] [.int a1, .int a2]) (hS : I S) : Wp 1999 2 266 0 [.ref 0, .int a1, .int a2, .ref 66] [] S (Ri (HB I Mm [.int a1, .int a2] S)) := by
  refine b266_0 (by decide) (ob S hS) ?_ ?_
  · rintro v S1 ⟨hs, hw⟩
    refine b266_8 vp01 (b266_17 ⟨_, rfl, hs, hw.imp ?_⟩)
    rintro _ S2 ⟨w, rfl, e1, e2, rfl, e4⟩
    exact ⟨_, rfl, e1, fun _ => e2, e4⟩
  · rintro X S1 ⟨hs, j, k, rfl, hm, hw⟩
    have hm := List.mem_singleton.1 hm
    cases hm
    refine ⟨1, 13, 4, 2, rfl, by decide +kernel, b266_15 ⟨_, rfl, hs, hw.imp ?_⟩⟩
    rintro _ S2 ⟨w, rfl, e1, e2⟩
    exact ⟨_, rfl, e1, fun q => absurd q (by decide), e2⟩
theorem h267 {I : St → Prop} {Mm : Nat} {S : St} {a1 : Int32} (ob : ObC I 1 105 Mm [(1, 1)] [.int a1]) (hS : I S) : Wp 1999 1 267 0 [.ref 0, .int a1, .ref 66] [] S (Ri (HC I Mm [.int a1] S)) := by
  refine b267_0 (by decide) (ob S hS) ?_ ?_
  · rintro v S1 ⟨hs, hw⟩
    refine b267_7 (fun h => b267_14 (b267_15 vp01 (b267_22 ⟨_, rfl, hs, ?_⟩))) (fun h => b267_10 (b267_15 vp01 (b267_22 ⟨_, rfl, hs, ?_⟩)))
    · rw [if_pos h] at hw
      refine hw.imp ?_
      rintro _ S2 ⟨w, rfl, e1, e2, rfl, e4⟩
      exact ⟨_, rfl, e1, fun _ => by rw [e2, if_pos h], e4⟩
    · rw [if_neg h] at hw
      refine hw.imp ?_
      rintro _ S2 ⟨w, rfl, e1, e2, rfl, e4⟩
      exact ⟨_, rfl, e1, fun _ => by rw [e2, if_neg h], e4⟩
  · rintro X S1 ⟨hs, j, k, rfl, hm, hw⟩
    have hm := List.mem_singleton.1 hm
    cases hm
    refine ⟨1, 19, 3, 1, rfl, by decide +kernel, b267_20 ⟨_, rfl, hs, hw.imp ?_⟩⟩
    rintro _ S2 ⟨w, rfl, e1, e2⟩
    exact ⟨_, rfl, e1, fun q => absurd q (by decide), e2⟩
theorem h268 {I : St → Prop} {Mm : Nat} {S : St} {a1 a2 : Int32} (ob : ObB I 2 106 Mm [(1, 1)] [.int a1, .int a2]) (hS : I S) : Wp 1999 2 268 0 [.ref 0, .int a1, .int a2, .ref 66] [] S (Ri (HB I Mm [.int a1, .int a2] S)) := by
  refine b268_0 (by decide) (ob S hS) ?_ ?_
  · rintro v S1 ⟨hs, hw⟩
    refine b268_8 vp01 (b268_17 ⟨_, rfl, hs, hw.imp ?_⟩)
    rintro _ S2 ⟨w, rfl, e1, e2, rfl, e4⟩
    exact ⟨_, rfl, e1, fun _ => e2, e4⟩
  · rintro X S1 ⟨hs, j, k, rfl, hm, hw⟩
    have hm := List.mem_singleton.1 hm
    cases hm
    refine ⟨1, 13, 4, 2, rfl, by decide +kernel, b268_15 ⟨_, rfl, hs, hw.imp ?_⟩⟩
    rintro _ S2 ⟨w, rfl, e1, e2⟩
    exact ⟨_, rfl, e1, fun q => absurd q (by decide), e2⟩
theorem h269 {I : St → Prop} {Mm : Nat} {S : St} {a1 : Int32} (ob : ObB I 1 107 Mm [(1, 1)] [.int a1]) (hS : I S) : Wp 1999 1 269 0 [.ref 0, .int a1, .ref 66] [] S (Ri (HB I Mm [.int a1] S)) := by
  refine b269_0 (by decide) (ob S hS) ?_ ?_
  · rintro v S1 ⟨hs, hw⟩
    refine b269_7 vp01 (b269_15 ⟨_, rfl, hs, hw.imp ?_⟩)
    rintro _ S2 ⟨w, rfl, e1, e2, rfl, e4⟩
    exact ⟨_, rfl, e1, fun _ => e2, e4⟩
  · rintro X S1 ⟨hs, j, k, rfl, hm, hw⟩
    have hm := List.mem_singleton.1 hm
    cases hm
    refine ⟨1, 12, 3, 1, rfl, by decide +kernel, b269_13 ⟨_, rfl, hs, hw.imp ?_⟩⟩
    rintro _ S2 ⟨w, rfl, e1, e2⟩
    exact ⟨_, rfl, e1, fun q => absurd q (by decide), e2⟩
theorem h270 {I : St → Prop} {Mm : Nat} {S : St} {a1 : Int32} (ob : ObB I 1 108 Mm [(1, 1)] [.int a1]) (hS : I S) : Wp 1999 1 270 0 [.ref 0, .int a1, .ref 66] [] S (Ri (HB I Mm [.int a1] S)) := by
  refine b270_0 (by decide) (ob S hS) ?_ ?_
  · rintro v S1 ⟨hs, hw⟩
    refine b270_7 vp01 (b270_15 ⟨_, rfl, hs, hw.imp ?_⟩)
    rintro _ S2 ⟨w, rfl, e1, e2, rfl, e4⟩
    exact ⟨_, rfl, e1, fun _ => e2, e4⟩
  · rintro X S1 ⟨hs, j, k, rfl, hm, hw⟩
    have hm := List.mem_singleton.1 hm
    cases hm
    refine ⟨1, 12, 3, 1, rfl, by decide +kernel, b270_13 ⟨_, rfl, hs, hw.imp ?_⟩⟩
    rintro _ S2 ⟨w, rfl, e1, e2⟩
    exact ⟨_, rfl, e1, fun q => absurd q (by decide), e2⟩
theorem h271 {I : St → Prop} {Mm : Nat} {S : St} {a1 : Int32} (ob : ObB I 1 109 Mm [(1, 1)] [.int a1]) (hS : I S) : Wp 1999 1 271 0 [.ref 0, .int a1, .ref 66] [] S (Ri (HB I Mm [.int a1] S)) := by
  refine b271_0 (by decide) (ob S hS) ?_ ?_
  · rintro v S1 ⟨hs, hw⟩
    refine b271_7 vp01 (b271_15 ⟨_, rfl, hs, hw.imp ?_⟩)
    rintro _ S2 ⟨w, rfl, e1, e2, rfl, e4⟩
    exact ⟨_, rfl, e1, fun _ => e2, e4⟩
  · rintro X S1 ⟨hs, j, k, rfl, hm, hw⟩
    have hm := List.mem_singleton.1 hm
    cases hm
    refine ⟨1, 12, 3, 1, rfl, by decide +kernel, b271_13 ⟨_, rfl, hs, hw.imp ?_⟩⟩
    rintro _ S2 ⟨w, rfl, e1, e2⟩
    exact ⟨_, rfl, e1, fun q => absurd q (by decide), e2⟩
theorem h272 {I : St → Prop} {Mm : Nat} {S : St} {a1 a2 : Int32} (ob : ObB I 2 110 Mm [(1, 1)] [.int a1, .int a2]) (hS : I S) : Wp 1999 2 272 0 [.ref 0, .int a1, .int a2, .ref 66] [] S (Ri (HB I Mm [.int a1, .int a2] S)) := by
  refine b272_0 (by decide) (ob S hS) ?_ ?_
  · rintro v S1 ⟨hs, hw⟩
    refine b272_8 vp01 (b272_17 ⟨_, rfl, hs, hw.imp ?_⟩)
    rintro _ S2 ⟨w, rfl, e1, e2, rfl, e4⟩
    exact ⟨_, rfl, e1, fun _ => e2, e4⟩
  · rintro X S1 ⟨hs, j, k, rfl, hm, hw⟩
    have hm := List.mem_singleton.1 hm
    cases hm
    refine ⟨1, 13, 4, 2, rfl, by decide +kernel, b272_15 ⟨_, rfl, hs, hw.imp ?_⟩⟩
    rintro _ S2 ⟨w, rfl, e1, e2⟩
    exact ⟨_, rfl, e1, fun q => absurd q (by decide), e2⟩
theorem h273 {I : St → Prop} {Mm : Nat} {S : St} {a1 a2 a3 : Int32} (ob : ObB I 3 111 Mm [(1, 1), (0, 2)] [.int a1, .int a2, .int a3]) (hS : I S) : Wp 1999 3 273 0 [.ref 0, .int a1, .int a2, .int a3, .ref 66] [] S (Ri (HB I Mm [.int a1, .int a2, .int a3] S)) := by
  refine b273_0 (by decide) (ob S hS) ?_ ?_
  · rintro v S1 ⟨hs, hw⟩
    refine b273_10 vp01 (b273_23 ⟨_, rfl, hs, hw.imp ?_⟩)
    rintro _ S2 ⟨w, rfl, e1, e2, rfl, e4⟩
    exact ⟨_, rfl, e1, fun _ => e2, e4⟩
  · rintro X S1 ⟨hs, j, k, rfl, hm, hw⟩
    have hm : (j, k) = (1, 1) ∨ (j, k) = (0, 2) := by simpa using hm
    rcases hm with hm | hm
    · cases hm
      refine ⟨1, 15, 5, 2, rfl, by decide +kernel, b273_17 ⟨_, rfl, hs, hw.imp ?_⟩⟩
      rintro _ S2 ⟨w, rfl, e1, e2⟩
      exact ⟨_, rfl, e1, fun q => absurd q (by decide), e2⟩
    · cases hm
      refine ⟨0, 19, 5, 2, rfl, by decide +kernel, b273_21 ⟨_, rfl, hs, hw.imp ?_⟩⟩
      rintro _ S2 ⟨w, rfl, e1, e2⟩
      exact ⟨_, rfl, e1, fun q => absurd q (by decide), e2⟩
theorem h274 {I : St → Prop} {Mm : Nat} {S : St} {a1 : Int32} (ob : ObB I 1 112 Mm [(1, 1)] [.int a1]) (hS : I S) : Wp 1999 1 274 0 [.ref 0, .int a1, .ref 66] [] S (Ri (HB I Mm [.int a1] S)) := by
  refine b274_0 (by decide) (ob S hS) ?_ ?_
  · rintro v S1 ⟨hs, hw⟩
    refine b274_7 vp01 (b274_15 ⟨_, rfl, hs, hw.imp ?_⟩)
    rintro _ S2 ⟨w, rfl, e1, e2, rfl, e4⟩
    exact ⟨_, rfl, e1, fun _ => e2, e4⟩
  · rintro X S1 ⟨hs, j, k, rfl, hm, hw⟩
    have hm := List.mem_singleton.1 hm
    cases hm
    refine ⟨1, 12, 3, 1, rfl, by decide +kernel, b274_13 ⟨_, rfl, hs, hw.imp ?_⟩⟩
    rintro _ S2 ⟨w, rfl, e1, e2⟩
    exact ⟨_, rfl, e1, fun q => absurd q (by decide), e2⟩
theorem h275 {I : St → Prop} {Mm : Nat} {S : St} {a1 : Int32} (ob : ObC I 1 115 Mm [(0, 1)] [.int a1]) (hS : I S) : Wp 1999 1 275 0 [.ref 0, .int a1, .ref 66] [] S (Ri (HC I Mm [.int a1] S)) := by
  refine b275_0 (by decide) (ob S hS) ?_ ?_
  · rintro v S1 ⟨hs, hw⟩
    refine b275_7 (fun h => b275_14 (b275_15 vp01 (b275_22 ⟨_, rfl, hs, ?_⟩))) (fun h => b275_10 (b275_15 vp01 (b275_22 ⟨_, rfl, hs, ?_⟩)))
    · rw [if_pos h] at hw
      refine hw.imp ?_
      rintro _ S2 ⟨w, rfl, e1, e2, rfl, e4⟩
      exact ⟨_, rfl, e1, fun _ => by rw [e2, if_pos h], e4⟩
    · rw [if_neg h] at hw
      refine hw.imp ?_
      rintro _ S2 ⟨w, rfl, e1, e2, rfl, e4⟩
      exact ⟨_, rfl, e1, fun _ => by rw [e2, if_neg h], e4⟩
  · rintro X S1 ⟨hs, j, k, rfl, hm, hw⟩
    have hm := List.mem_singleton.1 hm
    cases hm
    refine ⟨0, 19, 3, 1, rfl, by decide +kernel, b275_20 ⟨_, rfl, hs, hw.imp ?_⟩⟩
    rintro _ S2 ⟨w, rfl, e1, e2⟩
    exact ⟨_, rfl, e1, fun q => absurd q (by decide), e2⟩
theorem h276 {I : St → Prop} {Mm : Nat} {S : St} {a1 : Int32} (ob : ObB I 1 116 Mm [(1, 1)] [.int a1]) (hS : I S) : Wp 1999 1 276 0 [.ref 0, .int a1, .ref 66] [] S (Ri (HB I Mm [.int a1] S)) := by
  refine b276_0 (by decide) (ob S hS) ?_ ?_
  · rintro v S1 ⟨hs, hw⟩
    refine b276_7 vp01 (b276_15 ⟨_, rfl, hs, hw.imp ?_⟩)
    rintro _ S2 ⟨w, rfl, e1, e2, rfl, e4⟩
    exact ⟨_, rfl, e1, fun _ => e2, e4⟩
  · rintro X S1 ⟨hs, j, k, rfl, hm, hw⟩
    have hm := List.mem_singleton.1 hm
    cases hm
    refine ⟨1, 12, 3, 1, rfl, by decide +kernel, b276_13 ⟨_, rfl, hs, hw.imp ?_⟩⟩
    rintro _ S2 ⟨w, rfl, e1, e2⟩
    exact ⟨_, rfl, e1, fun q => absurd q (by decide), e2⟩
theorem h277 {I : St → Prop} {Mm : Nat} {S : St} {a1 : Int32} (ob : ObB I 1 118 Mm [(1, 1)] [.int a1]) (hS : I S) : Wp 1999 1 277 0 [.ref 0, .int a1, .ref 66] [] S (Ri (HB I Mm [.int a1] S)) := by
  refine b277_0 (by decide) (ob S hS) ?_ ?_
  · rintro v S1 ⟨hs, hw⟩
    refine b277_7 vp01 (b277_15 ⟨_, rfl, hs, hw.imp ?_⟩)
    rintro _ S2 ⟨w, rfl, e1, e2, rfl, e4⟩
    exact ⟨_, rfl, e1, fun _ => e2, e4⟩
  · rintro X S1 ⟨hs, j, k, rfl, hm, hw⟩
    have hm := List.mem_singleton.1 hm
    cases hm
    refine ⟨1, 12, 3, 1, rfl, by decide +kernel, b277_13 ⟨_, rfl, hs, hw.imp ?_⟩⟩
    rintro _ S2 ⟨w, rfl, e1, e2⟩
    exact ⟨_, rfl, e1, fun q => absurd q (by decide), e2⟩
theorem h278 {I : St → Prop} {Mm : Nat} {S : St} {a1 : Int32} (ob : ObB I 1 120 Mm [(1, 1)] [.int a1]) (hS : I S) : Wp 1999 1 278 0 [.ref 0, .int a1, .ref 66] [] S (Ri (HB I Mm [.int a1] S)) := by
  refine b278_0 (by decide) (ob S hS) ?_ ?_
  · rintro v S1 ⟨hs, hw⟩
    refine b278_7 vp01 (b278_15 ⟨_, rfl, hs, hw.imp ?_⟩)
    rintro _ S2 ⟨w, rfl, e1, e2, rfl, e4⟩
    exact ⟨_, rfl, e1, fun _ => e2, e4⟩
  · rintro X S1 ⟨hs, j, k, rfl, hm, hw⟩
    have hm := List.mem_singleton.1 hm
    cases hm
    refine ⟨1, 12, 3, 1, rfl, by decide +kernel, b278_13 ⟨_, rfl, hs, hw.imp ?_⟩⟩
    rintro _ S2 ⟨w, rfl, e1, e2⟩
    exact ⟨_, rfl, e1, fun q => absurd q (by decide), e2⟩
theorem h279 {I : St → Prop} {Mm : Nat} {S : St} {a1 : Int32} (ob : ObB I 1 121 Mm [(1, 1)] [.int a1]) (hS : I S) : Wp 1999 1 279 0 [.ref 0, .int a1, .ref 66] [] S (Ri (HB I Mm [.int a1] S)) := by
  refine b279_0 (by decide) (ob S hS) ?_ ?_
  · rintro v S1 ⟨hs, hw⟩
    refine b279_7 vp01 (b279_15 ⟨_, rfl, hs, hw.imp ?_⟩)
    rintro _ S2 ⟨w, rfl, e1, e2, rfl, e4⟩
    exact ⟨_, rfl, e1, fun _ => e2, e4⟩
  · rintro X S1 ⟨hs, j, k, rfl, hm, hw⟩
    have hm := List.mem_singleton.1 hm
    cases hm
    refine ⟨1, 12, 3, 1, rfl, by decide +kernel, b279_13 ⟨_, rfl, hs, hw.imp ?_⟩⟩
    rintro _ S2 ⟨w, rfl, e1, e2⟩
    exact ⟨_, rfl, e1, fun q => absurd q (by decide), e2⟩
theorem h280 {I : St → Prop} {Mm : Nat} {S : St} {a1 a2 a3 : Int32} (ob : ObB I 3 122 Mm [(1, 1)] [.int a1, .int a2, .int a3]) (hS : I S) : Wp 1999 3 280 0 [.ref 0, .int a1, .int a2, .int a3, .ref 66] [] S (Ri (HB I Mm [.int a1, .int a2, .int a3] S)) := by
  refine b280_0 (by decide) (ob S hS) ?_ ?_
  · rintro v S1 ⟨hs, hw⟩
    refine b280_10 vp01 (b280_19 ⟨_, rfl, hs, hw.imp ?_⟩)
    rintro _ S2 ⟨w, rfl, e1, e2, rfl, e4⟩
    exact ⟨_, rfl, e1, fun _ => e2, e4⟩
  · rintro X S1 ⟨hs, j, k, rfl, hm, hw⟩
    have hm := List.mem_singleton.1 hm
    cases hm
    refine ⟨1, 15, 5, 2, rfl, by decide +kernel, b280_17 ⟨_, rfl, hs, hw.imp ?_⟩⟩
    rintro _ S2 ⟨w, rfl, e1, e2⟩
    exact ⟨_, rfl, e1, fun q => absurd q (by decide), e2⟩
theorem h281 {I : St → Prop} {Mm : Nat} {S : St} {a1 : Int32} (ob : ObB I 1 123 Mm [(1, 1)] [.int a1]) (hS : I S) : Wp 1999 1 281 0 [.ref 0, .int a1, .ref 66] [] S (Ri (HB I Mm [.int a1] S)) := by
  refine b281_0 (by decide) (ob S hS) ?_ ?_
  · rintro v S1 ⟨hs, hw⟩
    refine b281_7 vp01 (b281_15 ⟨_, rfl, hs, hw.imp ?_⟩)
    rintro _ S2 ⟨w, rfl, e1, e2, rfl, e4⟩
    exact ⟨_, rfl, e1, fun _ => e2, e4⟩
  · rintro X S1 ⟨hs, j, k, rfl, hm, hw⟩
    have hm := List.mem_singleton.1 hm
    cases hm
    refine ⟨1, 12, 3, 1, rfl, by decide +kernel, b281_13 ⟨_, rfl, hs, hw.imp ?_⟩⟩
    rintro _ S2 ⟨w, rfl, e1, e2⟩
    exact ⟨_, rfl, e1, fun q => absurd q (by decide), e2⟩
theorem h282 {I : St → Prop} {Mm : Nat} {S : St} {a1 a2 : Int32} (ob : ObB I 2 125 Mm [(1, 1)] [.int a1, .int a2]) (hS : I S) : Wp 1999 2 282 0 [.ref 0, .int a1, .int a2, .ref 66] [] S (Ri (HB I Mm [.int a1, .int a2] S)) := by
  refine b282_0 (by decide) (ob S hS) ?_ ?_
  · rintro v S1 ⟨hs, hw⟩
    refine b282_8 vp01 (b282_17 ⟨_, rfl, hs, hw.imp ?_⟩)
    rintro _ S2 ⟨w, rfl, e1, e2, rfl, e4⟩
    exact ⟨_, rfl, e1, fun _ => e2, e4⟩
  · rintro X S1 ⟨hs, j, k, rfl, hm, hw⟩
    have hm := List.mem_singleton.1 hm
    cases hm
    refine ⟨1, 13, 4, 2, rfl, by decide +kernel, b282_15 ⟨_, rfl, hs, hw.imp ?_⟩⟩
    rintro _ S2 ⟨w, rfl, e1, e2⟩
    exact ⟨_, rfl, e1, fun q => absurd q (by decide), e2⟩
theorem h283 {I : St → Prop} {Mm : Nat} {S : St} {a1 : Int32} (ob : ObB I 1 126 Mm [(1, 1)] [.int a1]) (hS : I S) : Wp 1999 1 283 0 [.ref 0, .int a1, .ref 66] [] S (Ri (HB I Mm [.int a1] S)) := by
  refine b283_0 (by decide) (ob S hS) ?_ ?_
  · rintro v S1 ⟨hs, hw⟩
    refine b283_7 vp01 (b283_15 ⟨_, rfl, hs, hw.imp ?_⟩)
    rintro _ S2 ⟨w, rfl, e1, e2, rfl, e4⟩
    exact ⟨_, rfl, e1, fun _ => e2, e4⟩
  · rintro X S1 ⟨hs, j, k, rfl, hm, hw⟩
    have hm := List.mem_singleton.1 hm
    cases hm
    refine ⟨1, 12, 3, 1, rfl, by decide +kernel, b283_13 ⟨_, rfl, hs, hw.imp ?_⟩⟩
    rintro _ S2 ⟨w, rfl, e1, e2⟩
    exact ⟨_, rfl, e1, fun q => absurd q (by decide), e2⟩
theorem h284 {I : St → Prop} {Mm : Nat} {S : St} {a1 a2 : Int32} (ob : ObC I 1 130 Mm [(1, 1)] [.int a1, .int a2]) (hS : I S) : Wp 1999 1 284 0 [.ref 0, .int a1, .int a2, .ref 66] [] S (Ri (HC I Mm [.int a1, .int a2] S)) := by
  refine b284_0 (by decide) (ob S hS) ?_ ?_
  · rintro v S1 ⟨hs, hw⟩
    refine b284_8 (fun h => b284_15 (b284_16 vp01 (b284_24 ⟨_, rfl, hs, ?_⟩))) (fun h => b284_11 (b284_16 vp01 (b284_24 ⟨_, rfl, hs, ?_⟩)))
    · rw [if_pos h] at hw
      refine hw.imp ?_
      rintro _ S2 ⟨w, rfl, e1, e2, rfl, e4⟩
      exact ⟨_, rfl, e1, fun _ => by rw [e2, if_pos h], e4⟩
    · rw [if_neg h] at hw
      refine hw.imp ?_
      rintro _ S2 ⟨w, rfl, e1, e2, rfl, e4⟩
      exact ⟨_, rfl, e1, fun _ => by rw [e2, if_neg h], e4⟩
  · rintro X S1 ⟨hs, j, k, rfl, hm, hw⟩
    have hm := List.mem_singleton.1 hm
    cases hm
    refine ⟨1, 20, 4, 2, rfl, by decide +kernel, b284_22 ⟨_, rfl, hs, hw.imp ?_⟩⟩
    rintro _ S2 ⟨w, rfl, e1, e2⟩
    exact ⟨_, rfl, e1, fun q => absurd q (by decide), e2⟩
theorem h285 {I : St → Prop} {Mm : Nat} {S : St} {a1 : Int32} (ob : ObB I 1 131 Mm [(0, 1)] [.int a1]) (hS : I S) : Wp 1999 1 285 0 [.ref 0, .int a1, .ref 66] [] S (Ri (HB I Mm [.int a1] S)) := by
  refine b285_0 (by decide) (ob S hS) ?_ ?_
  · rintro v S1 ⟨hs, hw⟩
    refine b285_7 vp01 (b285_15 ⟨_, rfl, hs, hw.imp ?_⟩)
    rintro _ S2 ⟨w, rfl, e1, e2, rfl, e4⟩
    exact ⟨_, rfl, e1, fun _ => e2, e4⟩
  · rintro X S1 ⟨hs, j, k, rfl, hm, hw⟩
    have hm := List.mem_singleton.1 hm
    cases hm
    refine ⟨0, 12, 3, 1, rfl, by decide +kernel, b285_13 ⟨_, rfl, hs, hw.imp ?_⟩⟩
    rintro _ S2 ⟨w, rfl, e1, e2⟩
    exact ⟨_, rfl, e1, fun q => absurd q (by decide), e2⟩
theorem h286 {I : St → Prop} {Mm : Nat} {S : St} {a1 : Int32} (ob : ObB I 1 132 Mm [(0, 1)] [.int a1]) (hS : I S) : Wp 1999 1 286 0 [.ref 0, .int a1, .ref 66] [] S (Ri (HB I Mm [.int a1] S)) := by
  refine b286_0 (by decide) (ob S hS) ?_ ?_
  · rintro v S1 ⟨hs, hw⟩
    refine b286_7 vp01 (b286_15 ⟨_, rfl, hs, hw.imp ?_⟩)
    rintro _ S2 ⟨w, rfl, e1, e2, rfl, e4⟩
    exact ⟨_, rfl, e1, fun _ => e2, e4⟩
  · rintro X S1 ⟨hs, j, k, rfl, hm, hw⟩
    have hm := List.mem_singleton.1 hm
    cases hm
    refine ⟨0, 12, 3, 1, rfl, by decide +kernel, b286_13 ⟨_, rfl, hs, hw.imp ?_⟩⟩
    rintro _ S2 ⟨w, rfl, e1, e2⟩
    exact ⟨_, rfl, e1, fun q => absurd q (by decide), e2⟩
theorem h287 {I : St → Prop} {Mm : Nat} {S : St} {a1 : Int32} (ob : ObB I 1 134 Mm [(0, 1)] [.int a1]) (hS : I S) : Wp 1999 1 287 0 [.ref 0, .int a1, .ref 66] [] S (Ri (HB I Mm [.int a1] S)) := by
  refine b287_0 (by decide) (ob S hS) ?_ ?_
  · rintro v S1 ⟨hs, hw⟩
    refine b287_7 vp01 (b287_15 ⟨_, rfl, hs, hw.imp ?_⟩)
    rintro _ S2 ⟨w, rfl, e1, e2, rfl, e4⟩
    exact ⟨_, rfl, e1, fun _ => e2, e4⟩
  · rintro X S1 ⟨hs, j, k, rfl, hm, hw⟩
    have hm := List.mem_singleton.1 hm
    cases hm
    refine ⟨0, 12, 3, 1, rfl, by decide +kernel, b287_13 ⟨_, rfl, hs, hw.imp ?_⟩⟩
    rintro _ S2 ⟨w, rfl, e1, e2⟩
    exact ⟨_, rfl, e1, fun q => absurd q (by decide), e2⟩
section LAW
variable {I : St → Prop} {Q : Out → St → Prop} {b i L : Nat} {S : St}
theorem vps {k : Nat} (hS : S.1 3000 0 = Int32.ofNat L) (hL : L ≤ 3072) (hi : i + 6 ≤ L) (hk : k ≤ 5) : vp_in (Int32.ofNat i + Int32.ofNat k) (S.1 3000 0).toNatClampNeg := by
  rw [hS, i_cl (by omega), i_add]
  exact i_vp (by omega) (by omega)
theorem lc0 (hI : ∀ S, I S → S.1 3000 0 = Int32.ofNat L) (hL : L ≤ 3072) (hi : i + 6 ≤ L) (hS : I S) (ob : ∀ a1 a2 a3 a4 a5, ObA I 100 234 [.int a1, .int a2, .int a3, .int a4, .int a5]) (hn : ∀ S', I S' → Wp 2000 b 288 1928 [.ref 3000, .ref 0, .ref 46, .ref 66, .int (Int32.ofNat i)] [] S' Q) : Wp 2000 b 288 196 [.ref 3000, .ref 0, .ref 46, .ref 66, .int (Int32.ofNat i)] [] S Q := by
  have h3 := hI S hS
  refine b288_196 (vps (k := 1) h3 hL hi (by omega)) (vps (k := 2) h3 hL hi (by omega)) (vps (k := 3) h3 hL hi (by omega)) (b288_220 (vps (k := 4) h3 hL hi (by omega)) (vps (k := 5) h3 hL hi (by omega)) (ob _ _ _ _ _ S hS) ?_)
  rintro v S1 ⟨hs, hw⟩
  have h4 := hs.1.trans h3
  refine b288_230 (vps (k := 1) h4 hL hi (by omega)) (vps (k := 2) h4 hL hi (by omega)) (vps (k := 3) h4 hL hi (by omega)) (b288_254 (vps (k := 4) h4 hL hi (by omega)) (vps (k := 5) h4 hL hi (by omega)) (by rw [hs.2]; exact hw) ?_)
  rintro _ S2 ⟨rfl, hI2⟩
  exact b288_264 (fun _ => hn S2 hI2) (fun h => absurd rfl h)
theorem lc1 (hI : ∀ S, I S → S.1 3000 0 = Int32.ofNat L) (hL : L ≤ 3072) (hi : i + 6 ≤ L) (hS : I S) (hb : 1 ≤ b) (ob : ∀ a1, ObB I 1 101 253 [(0, 1)] [.int a1]) (hn : ∀ S', I S' → Wp 2000 (b - 1) 288 1928 [.ref 3000, .ref 0, .ref 46, .ref 66, .int (Int32.ofNat i)] [] S' Q) : Wp 2000 b 288 269 [.ref 3000, .ref 0, .ref 46, .ref 66, .int (Int32.ofNat i)] [] S Q := by
  have h3 := hI S hS
  refine b288_269 (vps (k := 1) h3 hL hi (by omega)) hb (h264 (ob _) hS) ?_
  rintro k S1 ⟨hs, hw⟩
  have h4 := hs.1.trans h3
  refine b288_280 (vps (k := 1) h4 hL hi (by omega)) (by rw [hs.2]; exact hw) ?_
  rintro w S2 ⟨e1, e2, hI2⟩
  refine b288_292 (P := Vx (S2.1 46 4) S2) (b151_0 ⟨_, rfl, rfl, rfl⟩) ?_
  rintro _ _ ⟨rfl, rfl⟩
  refine b288_298 (fun _ => b288_305 (fun _ => b288_322 (hn S2 hI2)) (fun h => ?_)) (fun h => absurd e1 h)
  have e3 := e2 (Classical.not_not.1 h)
  refine b288_310 vp01 (fun _ => b288_322 (hn S2 hI2)) (fun q => ?_)
  rw [e3] at q; exact absurd (lg_self _) q
theorem lc2 (hI : ∀ S, I S → S.1 3000 0 = Int32.ofNat L) (hL : L ≤ 3072) (hi : i + 6 ≤ L) (hS : I S) (ob : ObA I 102 235 []) (hn : ∀ S', I S' → Wp 2000 b 288 1928 [.ref 3000, .ref 0, .ref 46, .ref 66, .int (Int32.ofNat i)] [] S' Q) : Wp 2000 b 288 325 [.ref 3000, .ref 0, .ref 46, .ref 66, .int (Int32.ofNat i)] [] S Q := by
  have h3 := hI S hS
  refine b288_325  (ob  S hS) ?_
  rintro v S1 ⟨hs, hw⟩
  have h4 := hs.1.trans h3
  refine b288_329  (by exact hw) ?_
  rintro _ S2 ⟨rfl, hI2⟩
  exact b288_333 (fun _ => hn S2 hI2) (fun h => absurd rfl h)
theorem lc3 (hI : ∀ S, I S → S.1 3000 0 = Int32.ofNat L) (hL : L ≤ 3072) (hi : i + 6 ≤ L) (hS : I S) (hb : 1 ≤ b) (ob : ∀ a1, ObB I 1 103 178 [(1, 1)] [.int a1]) (hn : ∀ S', I S' → Wp 2000 (b - 1) 288 1928 [.ref 3000, .ref 0, .ref 46, .ref 66, .int (Int32.ofNat i)] [] S' Q) : Wp 2000 b 288 338 [.ref 3000, .ref 0, .ref 46, .ref 66, .int (Int32.ofNat i)] [] S Q := by
  have h3 := hI S hS
  refine b288_338 (vps (k := 1) h3 hL hi (by omega)) hb (h265 (ob _) hS) ?_
  rintro k S1 ⟨hs, hw⟩
  have h4 := hs.1.trans h3
  refine b288_349 (vps (k := 1) h4 hL hi (by omega)) (by rw [hs.2]; exact hw) ?_
  rintro w S2 ⟨e1, e2, hI2⟩
  refine b288_361 (P := Vx (S2.1 46 4) S2) (b151_0 ⟨_, rfl, rfl, rfl⟩) ?_
  rintro _ _ ⟨rfl, rfl⟩
  refine b288_367 (fun _ => b288_374 (fun _ => b288_391 (hn S2 hI2)) (fun h => ?_)) (fun h => absurd e1 h)
  have e3 := e2 (Classical.not_not.1 h)
  refine b288_379 vp01 (fun _ => b288_391 (hn S2 hI2)) (fun q => ?_)
  rw [e3] at q; exact absurd (lg_self _) q
theorem lc4 (hI : ∀ S, I S → S.1 3000 0 = Int32.ofNat L) (hL : L ≤ 3072) (hi : i + 6 ≤ L) (hS : I S) (hb : 2 ≤ b) (ob : ∀ a1 a2, ObB I 2 104 179 [(1, 1)] [.int a1, .int a2]) (hn : ∀ S', I S' → Wp 2000 (b - 2) 288 1928 [.ref 3000, .ref 0, .ref 46, .ref 66, .int (Int32.ofNat i)] [] S' Q) : Wp 2000 b 288 394 [.ref 3000, .ref 0, .ref 46, .ref 66, .int (Int32.ofNat i)] [] S Q := by
  have h3 := hI S hS
  refine b288_394 (vps (k := 1) h3 hL hi (by omega)) (vps (k := 2) h3 hL hi (by omega)) hb (h266 (ob _ _) hS) ?_
  rintro k S1 ⟨hs, hw⟩
  have h4 := hs.1.trans h3
  refine b288_411 (vps (k := 1) h4 hL hi (by omega)) (vps (k := 2) h4 hL hi (by omega)) (by rw [hs.2]; exact hw) ?_
  rintro w S2 ⟨e1, e2, hI2⟩
  refine b288_429 (P := Vx (S2.1 46 4) S2) (b151_0 ⟨_, rfl, rfl, rfl⟩) ?_
  rintro _ _ ⟨rfl, rfl⟩
  refine b288_435 (fun _ => b288_442 (fun _ => b288_459 (hn S2 hI2)) (fun h => ?_)) (fun h => absurd e1 h)
  have e3 := e2 (Classical.not_not.1 h)
  refine b288_447 vp01 (fun _ => b288_459 (hn S2 hI2)) (fun q => ?_)
  rw [e3] at q; exact absurd (lg_self _) q
theorem lc5 (hI : ∀ S, I S → S.1 3000 0 = Int32.ofNat L) (hL : L ≤ 3072) (hi : i + 6 ≤ L) (hS : I S) (hb : 1 ≤ b) (ob : ∀ a1, ObC I 1 105 180 [(1, 1)] [.int a1]) (hn : ∀ S', I S' → Wp 2000 (b - 1) 288 1928 [.ref 3000, .ref 0, .ref 46, .ref 66, .int (Int32.ofNat i)] [] S' Q) : Wp 2000 b 288 462 [.ref 3000, .ref 0, .ref 46, .ref 66, .int (Int32.ofNat i)] [] S Q := by
  have h3 := hI S hS
  refine b288_462 (vps (k := 1) h3 hL hi (by omega)) hb (h267 (ob _) hS) ?_
  rintro k S1 ⟨hs, hw⟩
  have h4 := hs.1.trans h3
  refine b288_473 (vps (k := 1) h4 hL hi (by omega)) (by rw [hs.2]; exact hw) ?_
  rintro w S2 ⟨e1, e2, hI2⟩
  refine b288_485 (P := Vx (S2.1 46 4) S2) (b151_0 ⟨_, rfl, rfl, rfl⟩) ?_
  rintro _ _ ⟨rfl, rfl⟩
  refine b288_491 (fun _ => b288_498 (fun _ => b288_522 (hn S2 hI2)) (fun h => ?_)) (fun h => absurd e1 h)
  have e3 := e2 (Classical.not_not.1 h)
  refine b288_503 vp01 (fun h => b288_515 (b288_516 (fun _ => b288_522 (hn S2 hI2)) (fun q => ?_))) (fun h => b288_511 (b288_516 (fun _ => b288_522 (hn S2 hI2)) (fun q => ?_)))
  · rw [e3, if_pos h] at q; exact absurd (lg_self _) q
  · rw [e3, if_neg h] at q; exact absurd (lg_self _) q
theorem lc6 (hI : ∀ S, I S → S.1 3000 0 = Int32.ofNat L) (hL : L ≤ 3072) (hi : i + 6 ≤ L) (hS : I S) (hb : 2 ≤ b) (ob : ∀ a1 a2, ObB I 2 106 181 [(1, 1)] [.int a1, .int a2]) (hn : ∀ S', I S' → Wp 2000 (b - 2) 288 1928 [.ref 3000, .ref 0, .ref 46, .ref 66, .int (Int32.ofNat i)] [] S' Q) : Wp 2000 b 288 525 [.ref 3000, .ref 0, .ref 46, .ref 66, .int (Int32.ofNat i)] [] S Q := by
  have h3 := hI S hS
  refine b288_525 (vps (k := 1) h3 hL hi (by omega)) (vps (k := 2) h3 hL hi (by omega)) hb (h268 (ob _ _) hS) ?_
  rintro k S1 ⟨hs, hw⟩
  have h4 := hs.1.trans h3
  refine b288_542 (vps (k := 1) h4 hL hi (by omega)) (vps (k := 2) h4 hL hi (by omega)) (by rw [hs.2]; exact hw) ?_
  rintro w S2 ⟨e1, e2, hI2⟩
  refine b288_560 (P := Vx (S2.1 46 4) S2) (b151_0 ⟨_, rfl, rfl, rfl⟩) ?_
  rintro _ _ ⟨rfl, rfl⟩
  refine b288_566 (fun _ => b288_573 (fun _ => b288_590 (hn S2 hI2)) (fun h => ?_)) (fun h => absurd e1 h)
  have e3 := e2 (Classical.not_not.1 h)
  refine b288_578 vp01 (fun _ => b288_590 (hn S2 hI2)) (fun q => ?_)
  rw [e3] at q; exact absurd (lg_self _) q
theorem lc7 (hI : ∀ S, I S → S.1 3000 0 = Int32.ofNat L) (hL : L ≤ 3072) (hi : i + 6 ≤ L) (hS : I S) (hb : 1 ≤ b) (ob : ∀ a1, ObB I 1 107 182 [(1, 1)] [.int a1]) (hn : ∀ S', I S' → Wp 2000 (b - 1) 288 1928 [.ref 3000, .ref 0, .ref 46, .ref 66, .int (Int32.ofNat i)] [] S' Q) : Wp 2000 b 288 593 [.ref 3000, .ref 0, .ref 46, .ref 66, .int (Int32.ofNat i)] [] S Q := by
  have h3 := hI S hS
  refine b288_593 (vps (k := 1) h3 hL hi (by omega)) hb (h269 (ob _) hS) ?_
  rintro k S1 ⟨hs, hw⟩
  have h4 := hs.1.trans h3
  refine b288_604 (vps (k := 1) h4 hL hi (by omega)) (by rw [hs.2]; exact hw) ?_
  rintro w S2 ⟨e1, e2, hI2⟩
  refine b288_616 (P := Vx (S2.1 46 4) S2) (b151_0 ⟨_, rfl, rfl, rfl⟩) ?_
  rintro _ _ ⟨rfl, rfl⟩
  refine b288_622 (fun _ => b288_629 (fun _ => b288_646 (hn S2 hI2)) (fun h => ?_)) (fun h => absurd e1 h)
  have e3 := e2 (Classical.not_not.1 h)
  refine b288_634 vp01 (fun _ => b288_646 (hn S2 hI2)) (fun q => ?_)
  rw [e3] at q; exact absurd (lg_self _) q
theorem lc8 (hI : ∀ S, I S → S.1 3000 0 = Int32.ofNat L) (hL : L ≤ 3072) (hi : i + 6 ≤ L) (hS : I S) (hb : 1 ≤ b) (ob : ∀ a1, ObB I 1 108 183 [(1, 1)] [.int a1]) (hn : ∀ S', I S' → Wp 2000 (b - 1) 288 1928 [.ref 3000, .ref 0, .ref 46, .ref 66, .int (Int32.ofNat i)] [] S' Q) : Wp 2000 b 288 649 [.ref 3000, .ref 0, .ref 46, .ref 66, .int (Int32.ofNat i)] [] S Q := by
  have h3 := hI S hS
  refine b288_649 (vps (k := 1) h3 hL hi (by omega)) hb (h270 (ob _) hS) ?_
  rintro k S1 ⟨hs, hw⟩
  have h4 := hs.1.trans h3
  refine b288_660 (vps (k := 1) h4 hL hi (by omega)) (by rw [hs.2]; exact hw) ?_
  rintro w S2 ⟨e1, e2, hI2⟩
  refine b288_672 (P := Vx (S2.1 46 4) S2) (b151_0 ⟨_, rfl, rfl, rfl⟩) ?_
  rintro _ _ ⟨rfl, rfl⟩
  refine b288_678 (fun _ => b288_685 (fun _ => b288_702 (hn S2 hI2)) (fun h => ?_)) (fun h => absurd e1 h)
  have e3 := e2 (Classical.not_not.1 h)
  refine b288_690 vp01 (fun _ => b288_702 (hn S2 hI2)) (fun q => ?_)
  rw [e3] at q; exact absurd (lg_self _) q
theorem lc9 (hI : ∀ S, I S → S.1 3000 0 = Int32.ofNat L) (hL : L ≤ 3072) (hi : i + 6 ≤ L) (hS : I S) (hb : 1 ≤ b) (ob : ∀ a1, ObB I 1 109 184 [(1, 1)] [.int a1]) (hn : ∀ S', I S' → Wp 2000 (b - 1) 288 1928 [.ref 3000, .ref 0, .ref 46, .ref 66, .int (Int32.ofNat i)] [] S' Q) : Wp 2000 b 288 705 [.ref 3000, .ref 0, .ref 46, .ref 66, .int (Int32.ofNat i)] [] S Q := by
  have h3 := hI S hS
  refine b288_705 (vps (k := 1) h3 hL hi (by omega)) hb (h271 (ob _) hS) ?_
  rintro k S1 ⟨hs, hw⟩
  have h4 := hs.1.trans h3
  refine b288_716 (vps (k := 1) h4 hL hi (by omega)) (by rw [hs.2]; exact hw) ?_
  rintro w S2 ⟨e1, e2, hI2⟩
  refine b288_728 (P := Vx (S2.1 46 4) S2) (b151_0 ⟨_, rfl, rfl, rfl⟩) ?_
  rintro _ _ ⟨rfl, rfl⟩
  refine b288_734 (fun _ => b288_741 (fun _ => b288_758 (hn S2 hI2)) (fun h => ?_)) (fun h => absurd e1 h)
  have e3 := e2 (Classical.not_not.1 h)
  refine b288_746 vp01 (fun _ => b288_758 (hn S2 hI2)) (fun q => ?_)
  rw [e3] at q; exact absurd (lg_self _) q
theorem lc10 (hI : ∀ S, I S → S.1 3000 0 = Int32.ofNat L) (hL : L ≤ 3072) (hi : i + 6 ≤ L) (hS : I S) (hb : 2 ≤ b) (ob : ∀ a1 a2, ObB I 2 110 185 [(1, 1)] [.int a1, .int a2]) (hn : ∀ S', I S' → Wp 2000 (b - 2) 288 1928 [.ref 3000, .ref 0, .ref 46, .ref 66, .int (Int32.ofNat i)] [] S' Q) : Wp 2000 b 288 761 [.ref 3000, .ref 0, .ref 46, .ref 66, .int (Int32.ofNat i)] [] S Q := by
  have h3 := hI S hS
  refine b288_761 (vps (k := 1) h3 hL hi (by omega)) (vps (k := 2) h3 hL hi (by omega)) hb (h272 (ob _ _) hS) ?_
  rintro k S1 ⟨hs, hw⟩
  have h4 := hs.1.trans h3
  refine b288_778 (vps (k := 1) h4 hL hi (by omega)) (vps (k := 2) h4 hL hi (by omega)) (by rw [hs.2]; exact hw) ?_
  rintro w S2 ⟨e1, e2, hI2⟩
  refine b288_796 (P := Vx (S2.1 46 4) S2) (b151_0 ⟨_, rfl, rfl, rfl⟩) ?_
  rintro _ _ ⟨rfl, rfl⟩
  refine b288_802 (fun _ => b288_809 (fun _ => b288_826 (hn S2 hI2)) (fun h => ?_)) (fun h => absurd e1 h)
  have e3 := e2 (Classical.not_not.1 h)
  refine b288_814 vp01 (fun _ => b288_826 (hn S2 hI2)) (fun q => ?_)
  rw [e3] at q; exact absurd (lg_self _) q
theorem lc11 (hI : ∀ S, I S → S.1 3000 0 = Int32.ofNat L) (hL : L ≤ 3072) (hi : i + 6 ≤ L) (hS : I S) (hb : 3 ≤ b) (ob : ∀ a1 a2 a3, ObB I 3 111 176 [(1, 1), (0, 2)] [.int a1, .int a2, .int a3]) (hn : ∀ S', I S' → Wp 2000 (b - 3) 288 1928 [.ref 3000, .ref 0, .ref 46, .ref 66, .int (Int32.ofNat i)] [] S' Q) : Wp 2000 b 288 829 [.ref 3000, .ref 0, .ref 46, .ref 66, .int (Int32.ofNat i)] [] S Q := by
  have h3 := hI S hS
  refine b288_829 (vps (k := 1) h3 hL hi (by omega)) (vps (k := 2) h3 hL hi (by omega)) (vps (k := 3) h3 hL hi (by omega)) hb (h273 (ob _ _ _) hS) ?_
  rintro k S1 ⟨hs, hw⟩
  have h4 := hs.1.trans h3
  refine b288_852 (vps (k := 1) h4 hL hi (by omega)) (vps (k := 2) h4 hL hi (by omega)) (vps (k := 3) h4 hL hi (by omega)) (by rw [hs.2]; exact hw) ?_
  rintro w S2 ⟨e1, e2, hI2⟩
  refine b288_876 (P := Vx (S2.1 46 4) S2) (b151_0 ⟨_, rfl, rfl, rfl⟩) ?_
  rintro _ _ ⟨rfl, rfl⟩
  refine b288_882 (fun _ => b288_889 (fun _ => b288_906 (hn S2 hI2)) (fun h => ?_)) (fun h => absurd e1 h)
  have e3 := e2 (Classical.not_not.1 h)
  refine b288_894 vp01 (fun _ => b288_906 (hn S2 hI2)) (fun q => ?_)
  rw [e3] at q; exact absurd (lg_self _) q
theorem lc12 (hI : ∀ S, I S → S.1 3000 0 = Int32.ofNat L) (hL : L ≤ 3072) (hi : i + 6 ≤ L) (hS : I S) (hb : 1 ≤ b) (ob : ∀ a1, ObB I 1 112 175 [(1, 1)] [.int a1]) (hn : ∀ S', I S' → Wp 2000 (b - 1) 288 1928 [.ref 3000, .ref 0, .ref 46, .ref 66, .int (Int32.ofNat i)] [] S' Q) : Wp 2000 b 288 909 [.ref 3000, .ref 0, .ref 46, .ref 66, .int (Int32.ofNat i)] [] S Q := by
  have h3 := hI S hS
  refine b288_909 (vps (k := 1) h3 hL hi (by omega)) hb (h274 (ob _) hS) ?_
  rintro k S1 ⟨hs, hw⟩
  have h4 := hs.1.trans h3
  refine b288_920 (vps (k := 1) h4 hL hi (by omega)) (by rw [hs.2]; exact hw) ?_
  rintro w S2 ⟨e1, e2, hI2⟩
  refine b288_932 (P := Vx (S2.1 46 4) S2) (b151_0 ⟨_, rfl, rfl, rfl⟩) ?_
  rintro _ _ ⟨rfl, rfl⟩
  refine b288_938 (fun _ => b288_945 (fun _ => b288_962 (hn S2 hI2)) (fun h => ?_)) (fun h => absurd e1 h)
  have e3 := e2 (Classical.not_not.1 h)
  refine b288_950 vp01 (fun _ => b288_962 (hn S2 hI2)) (fun q => ?_)
  rw [e3] at q; exact absurd (lg_self _) q
theorem lc13 (hI : ∀ S, I S → S.1 3000 0 = Int32.ofNat L) (hL : L ≤ 3072) (hi : i + 6 ≤ L) (hS : I S) (ob : ∀ p, ObA I 113 187 [.int (bi p)]) (hn : ∀ S', I S' → Wp 2000 b 288 1928 [.ref 3000, .ref 0, .ref 46, .ref 66, .int (Int32.ofNat i)] [] S' Q) : Wp 2000 b 288 965 [.ref 3000, .ref 0, .ref 46, .ref 66, .int (Int32.ofNat i)] [] S Q := by
  have h3 := hI S hS
  have go : ∀ p : Bool, (∀ S1, Sc S S1 → ∀ v, (Wp 1999 0 187 0 [.ref 46, .int (bi p)] [] S1 (Ri fun w S2 => w = v ∧ I S2)) → Wp 2000 b 288 983 [.ref 3000, .ref 0, .ref 46, .ref 66, .int (Int32.ofNat i)] [.int v] S1 Q) → Wp 2000 b 288 980 [.ref 3000, .ref 0, .ref 46, .ref 66, .int (Int32.ofNat i)] [.int (bi p), .ref 0] S Q := by
    intro p k
    refine b288_980 (ob p S hS) ?_
    rintro v S1 ⟨hs, hw⟩
    exact k S1 hs v hw
  have fin : ∀ p S1 v, (Wp 1999 0 187 0 [.ref 46, .int (bi p)] [] S1 (Ri fun w S2 => w = v ∧ I S2)) → Wp 2000 b 288 998 [.ref 3000, .ref 0, .ref 46, .ref 66, .int (Int32.ofNat i)] [.int (bi p), .ref 46, .int v] S1 Q := by
    intro p S1 v hw
    refine b288_998 hw ?_
    rintro _ S2 ⟨rfl, hI2⟩
    exact b288_1001 (fun _ => hn S2 hI2) (fun h => absurd rfl h)
  refine b288_965 (vps (k := 1) h3 hL hi (by omega)) (fun h => b288_979 (go false ?_)) (fun h => b288_975 (go true ?_))
  · intro S1 hs v hw
    refine b288_983 (vps (k := 1) (hs.1.trans h3) hL hi (by omega)) (fun _ => b288_997 (fin false S1 v hw)) (fun q => ?_)
    rw [hs.2] at q; exact absurd h q
  · intro S1 hs v hw
    refine b288_983 (vps (k := 1) (hs.1.trans h3) hL hi (by omega)) (fun q => ?_) (fun _ => b288_993 (fin true S1 v hw))
    rw [hs.2] at q; exact absurd q h
theorem lc14 (hI : ∀ S, I S → S.1 3000 0 = Int32.ofNat L) (hL : L ≤ 3072) (hi : i + 6 ≤ L) (hS : I S) (ob : ObA I 114 191 []) (hn : ∀ S', I S' → Wp 2000 b 288 1928 [.ref 3000, .ref 0, .ref 46, .ref 66, .int (Int32.ofNat i)] [] S' Q) : Wp 2000 b 288 1006 [.ref 3000, .ref 0, .ref 46, .ref 66, .int (Int32.ofNat i)] [] S Q := by
  have h3 := hI S hS
  refine b288_1006  (ob  S hS) ?_
  rintro v S1 ⟨hs, hw⟩
  have h4 := hs.1.trans h3
  refine b288_1010  (by exact hw) ?_
  rintro _ S2 ⟨rfl, hI2⟩
  exact b288_1014 (fun _ => hn S2 hI2) (fun h => absurd rfl h)
theorem lc15 (hI : ∀ S, I S → S.1 3000 0 = Int32.ofNat L) (hL : L ≤ 3072) (hi : i + 6 ≤ L) (hS : I S) (hb : 1 ≤ b) (ob : ∀ a1, ObC I 1 115 186 [(0, 1)] [.int a1]) (hn : ∀ S', I S' → Wp 2000 (b - 1) 288 1928 [.ref 3000, .ref 0, .ref 46, .ref 66, .int (Int32.ofNat i)] [] S' Q) : Wp 2000 b 288 1019 [.ref 3000, .ref 0, .ref 46, .ref 66, .int (Int32.ofNat i)] [] S Q := by
  have h3 := hI S hS
  refine b288_1019 (vps (k := 1) h3 hL hi (by omega)) hb (h275 (ob _) hS) ?_
  rintro k S1 ⟨hs, hw⟩
  have h4 := hs.1.trans h3
  refine b288_1030 (vps (k := 1) h4 hL hi (by omega)) (by rw [hs.2]; exact hw) ?_
  rintro w S2 ⟨e1, e2, hI2⟩
  refine b288_1042 (P := Vx (S2.1 46 4) S2) (b151_0 ⟨_, rfl, rfl, rfl⟩) ?_
  rintro _ _ ⟨rfl, rfl⟩
  refine b288_1048 (fun _ => b288_1055 (fun _ => b288_1079 (hn S2 hI2)) (fun h => ?_)) (fun h => absurd e1 h)
  have e3 := e2 (Classical.not_not.1 h)
  refine b288_1060 vp01 (fun h => b288_1072 (b288_1073 (fun _ => b288_1079 (hn S2 hI2)) (fun q => ?_))) (fun h => b288_1068 (b288_1073 (fun _ => b288_1079 (hn S2 hI2)) (fun q => ?_)))
  · rw [e3, if_pos h] at q; exact absurd (lg_self _) q
  · rw [e3, if_neg h] at q; exact absurd (lg_self _) q
theorem lc16 (hI : ∀ S, I S → S.1 3000 0 = Int32.ofNat L) (hL : L ≤ 3072) (hi : i + 6 ≤ L) (hS : I S) (hb : 1 ≤ b) (ob : ∀ a1, ObB I 1 116 194 [(1, 1)] [.int a1]) (hn : ∀ S', I S' → Wp 2000 (b - 1) 288 1928 [.ref 3000, .ref 0, .ref 46, .ref 66, .int (Int32.ofNat i)] [] S' Q) : Wp 2000 b 288 1082 [.ref 3000, .ref 0, .ref 46, .ref 66, .int (Int32.ofNat i)] [] S Q := by
  have h3 := hI S hS
  refine b288_1082 (vps (k := 1) h3 hL hi (by omega)) hb (h276 (ob _) hS) ?_
  rintro k S1 ⟨hs, hw⟩
  have h4 := hs.1.trans h3
  refine b288_1093 (vps (k := 1) h4 hL hi (by omega)) (by rw [hs.2]; exact hw) ?_
  rintro w S2 ⟨e1, e2, hI2⟩
  refine b288_1105 (P := Vx (S2.1 46 4) S2) (b151_0 ⟨_, rfl, rfl, rfl⟩) ?_
  rintro _ _ ⟨rfl, rfl⟩
  refine b288_1111 (fun _ => b288_1118 (fun _ => b288_1135 (hn S2 hI2)) (fun h => ?_)) (fun h => absurd e1 h)
  have e3 := e2 (Classical.not_not.1 h)
  refine b288_1123 vp01 (fun _ => b288_1135 (hn S2 hI2)) (fun q => ?_)
  rw [e3] at q; exact absurd (lg_self _) q
theorem lc17 (hI : ∀ S, I S → S.1 3000 0 = Int32.ofNat L) (hL : L ≤ 3072) (hi : i + 6 ≤ L) (hS : I S) (ob : ObA I 117 198 []) (hn : ∀ S', I S' → Wp 2000 b 288 1928 [.ref 3000, .ref 0, .ref 46, .ref 66, .int (Int32.ofNat i)] [] S' Q) : Wp 2000 b 288 1138 [.ref 3000, .ref 0, .ref 46, .ref 66, .int (Int32.ofNat i)] [] S Q := by
  have h3 := hI S hS
  refine b288_1138  (ob  S hS) ?_
  rintro v S1 ⟨hs, hw⟩
  have h4 := hs.1.trans h3
  refine b288_1142  (by exact hw) ?_
  rintro _ S2 ⟨rfl, hI2⟩
  exact b288_1146 (fun _ => hn S2 hI2) (fun h => absurd rfl h)
theorem lc18 (hI : ∀ S, I S → S.1 3000 0 = Int32.ofNat L) (hL : L ≤ 3072) (hi : i + 6 ≤ L) (hS : I S) (hb : 1 ≤ b) (ob : ∀ a1, ObB I 1 118 199 [(1, 1)] [.int a1]) (hn : ∀ S', I S' → Wp 2000 (b - 1) 288 1928 [.ref 3000, .ref 0, .ref 46, .ref 66, .int (Int32.ofNat i)] [] S' Q) : Wp 2000 b 288 1151 [.ref 3000, .ref 0, .ref 46, .ref 66, .int (Int32.ofNat i)] [] S Q := by
  have h3 := hI S hS
  refine b288_1151 (vps (k := 1) h3 hL hi (by omega)) hb (h277 (ob _) hS) ?_
  rintro k S1 ⟨hs, hw⟩
  have h4 := hs.1.trans h3
  refine b288_1162 (vps (k := 1) h4 hL hi (by omega)) (by rw [hs.2]; exact hw) ?_
  rintro w S2 ⟨e1, e2, hI2⟩
  refine b288_1174 (P := Vx (S2.1 46 4) S2) (b151_0 ⟨_, rfl, rfl, rfl⟩) ?_
  rintro _ _ ⟨rfl, rfl⟩
  refine b288_1180 (fun _ => b288_1187 (fun _ => b288_1204 (hn S2 hI2)) (fun h => ?_)) (fun h => absurd e1 h)
  have e3 := e2 (Classical.not_not.1 h)
  refine b288_1192 vp01 (fun _ => b288_1204 (hn S2 hI2)) (fun q => ?_)
  rw [e3] at q; exact absurd (lg_self _) q
theorem lc19 (hI : ∀ S, I S → S.1 3000 0 = Int32.ofNat L) (hL : L ≤ 3072) (hi : i + 6 ≤ L) (hS : I S) (ob : ObA I 119 200 []) (hn : ∀ S', I S' → Wp 2000 b 288 1928 [.ref 3000, .ref 0, .ref 46, .ref 66, .int (Int32.ofNat i)] [] S' Q) : Wp 2000 b 288 1207 [.ref 3000, .ref 0, .ref 46, .ref 66, .int (Int32.ofNat i)] [] S Q := by
  have h3 := hI S hS
  refine b288_1207  (ob  S hS) ?_
  rintro v S1 ⟨hs, hw⟩
  have h4 := hs.1.trans h3
  refine b288_1211  (by exact hw) ?_
  rintro _ S2 ⟨rfl, hI2⟩
  exact b288_1215 (fun _ => hn S2 hI2) (fun h => absurd rfl h)
theorem lc20 (hI : ∀ S, I S → S.1 3000 0 = Int32.ofNat L) (hL : L ≤ 3072) (hi : i + 6 ≤ L) (hS : I S) (hb : 1 ≤ b) (ob : ∀ a1, ObB I 1 120 207 [(1, 1)] [.int a1]) (hn : ∀ S', I S' → Wp 2000 (b - 1) 288 1928 [.ref 3000, .ref 0, .ref 46, .ref 66, .int (Int32.ofNat i)] [] S' Q) : Wp 2000 b 288 1220 [.ref 3000, .ref 0, .ref 46, .ref 66, .int (Int32.ofNat i)] [] S Q := by
  have h3 := hI S hS
  refine b288_1220 (vps (k := 1) h3 hL hi (by omega)) hb (h278 (ob _) hS) ?_
  rintro k S1 ⟨hs, hw⟩
  have h4 := hs.1.trans h3
  refine b288_1231 (vps (k := 1) h4 hL hi (by omega)) (by rw [hs.2]; exact hw) ?_
  rintro w S2 ⟨e1, e2, hI2⟩
  refine b288_1243 (P := Vx (S2.1 46 4) S2) (b151_0 ⟨_, rfl, rfl, rfl⟩) ?_
  rintro _ _ ⟨rfl, rfl⟩
  refine b288_1249 (fun _ => b288_1256 (fun _ => b288_1273 (hn S2 hI2)) (fun h => ?_)) (fun h => absurd e1 h)
  have e3 := e2 (Classical.not_not.1 h)
  refine b288_1261 vp01 (fun _ => b288_1273 (hn S2 hI2)) (fun q => ?_)
  rw [e3] at q; exact absurd (lg_self _) q
theorem lc21 (hI : ∀ S, I S → S.1 3000 0 = Int32.ofNat L) (hL : L ≤ 3072) (hi : i + 6 ≤ L) (hS : I S) (hb : 1 ≤ b) (ob : ∀ a1, ObB I 1 121 208 [(1, 1)] [.int a1]) (hn : ∀ S', I S' → Wp 2000 (b - 1) 288 1928 [.ref 3000, .ref 0, .ref 46, .ref 66, .int (Int32.ofNat i)] [] S' Q) : Wp 2000 b 288 1276 [.ref 3000, .ref 0, .ref 46, .ref 66, .int (Int32.ofNat i)] [] S Q := by
  have h3 := hI S hS
  refine b288_1276 (vps (k := 1) h3 hL hi (by omega)) hb (h279 (ob _) hS) ?_
  rintro k S1 ⟨hs, hw⟩
  have h4 := hs.1.trans h3
  refine b288_1287 (vps (k := 1) h4 hL hi (by omega)) (by rw [hs.2]; exact hw) ?_
  rintro w S2 ⟨e1, e2, hI2⟩
  refine b288_1299 (P := Vx (S2.1 46 4) S2) (b151_0 ⟨_, rfl, rfl, rfl⟩) ?_
  rintro _ _ ⟨rfl, rfl⟩
  refine b288_1305 (fun _ => b288_1312 (fun _ => b288_1329 (hn S2 hI2)) (fun h => ?_)) (fun h => absurd e1 h)
  have e3 := e2 (Classical.not_not.1 h)
  refine b288_1317 vp01 (fun _ => b288_1329 (hn S2 hI2)) (fun q => ?_)
  rw [e3] at q; exact absurd (lg_self _) q
theorem lc22 (hI : ∀ S, I S → S.1 3000 0 = Int32.ofNat L) (hL : L ≤ 3072) (hi : i + 6 ≤ L) (hS : I S) (hb : 3 ≤ b) (ob : ∀ a1 a2 a3, ObB I 3 122 212 [(1, 1)] [.int a1, .int a2, .int a3]) (hn : ∀ S', I S' → Wp 2000 (b - 3) 288 1928 [.ref 3000, .ref 0, .ref 46, .ref 66, .int (Int32.ofNat i)] [] S' Q) : Wp 2000 b 288 1332 [.ref 3000, .ref 0, .ref 46, .ref 66, .int (Int32.ofNat i)] [] S Q := by
  have h3 := hI S hS
  refine b288_1332 (vps (k := 1) h3 hL hi (by omega)) (vps (k := 2) h3 hL hi (by omega)) (vps (k := 3) h3 hL hi (by omega)) hb (h280 (ob _ _ _) hS) ?_
  rintro k S1 ⟨hs, hw⟩
  have h4 := hs.1.trans h3
  refine b288_1355 (vps (k := 1) h4 hL hi (by omega)) (vps (k := 2) h4 hL hi (by omega)) (vps (k := 3) h4 hL hi (by omega)) (by rw [hs.2]; exact hw) ?_
  rintro w S2 ⟨e1, e2, hI2⟩
  refine b288_1379 (P := Vx (S2.1 46 4) S2) (b151_0 ⟨_, rfl, rfl, rfl⟩) ?_
  rintro _ _ ⟨rfl, rfl⟩
  refine b288_1385 (fun _ => b288_1392 (fun _ => b288_1409 (hn S2 hI2)) (fun h => ?_)) (fun h => absurd e1 h)
  have e3 := e2 (Classical.not_not.1 h)
  refine b288_1397 vp01 (fun _ => b288_1409 (hn S2 hI2)) (fun q => ?_)
  rw [e3] at q; exact absurd (lg_self _) q
theorem lc23 (hI : ∀ S, I S → S.1 3000 0 = Int32.ofNat L) (hL : L ≤ 3072) (hi : i + 6 ≤ L) (hS : I S) (hb : 1 ≤ b) (ob : ∀ a1, ObB I 1 123 215 [(1, 1)] [.int a1]) (hn : ∀ S', I S' → Wp 2000 (b - 1) 288 1928 [.ref 3000, .ref 0, .ref 46, .ref 66, .int (Int32.ofNat i)] [] S' Q) : Wp 2000 b 288 1412 [.ref 3000, .ref 0, .ref 46, .ref 66, .int (Int32.ofNat i)] [] S Q := by
  have h3 := hI S hS
  refine b288_1412 (vps (k := 1) h3 hL hi (by omega)) hb (h281 (ob _) hS) ?_
  rintro k S1 ⟨hs, hw⟩
  have h4 := hs.1.trans h3
  refine b288_1423 (vps (k := 1) h4 hL hi (by omega)) (by rw [hs.2]; exact hw) ?_
  rintro w S2 ⟨e1, e2, hI2⟩
  refine b288_1435 (P := Vx (S2.1 46 4) S2) (b151_0 ⟨_, rfl, rfl, rfl⟩) ?_
  rintro _ _ ⟨rfl, rfl⟩
  refine b288_1441 (fun _ => b288_1448 (fun _ => b288_1465 (hn S2 hI2)) (fun h => ?_)) (fun h => absurd e1 h)
  have e3 := e2 (Classical.not_not.1 h)
  refine b288_1453 vp01 (fun _ => b288_1465 (hn S2 hI2)) (fun q => ?_)
  rw [e3] at q; exact absurd (lg_self _) q
theorem lc24 (hI : ∀ S, I S → S.1 3000 0 = Int32.ofNat L) (hL : L ≤ 3072) (hi : i + 6 ≤ L) (hS : I S) (ob : ObA I 124 218 []) (hn : ∀ S', I S' → Wp 2000 b 288 1928 [.ref 3000, .ref 0, .ref 46, .ref 66, .int (Int32.ofNat i)] [] S' Q) : Wp 2000 b 288 1468 [.ref 3000, .ref 0, .ref 46, .ref 66, .int (Int32.ofNat i)] [] S Q := by
  have h3 := hI S hS
  refine b288_1468  (ob  S hS) ?_
  rintro v S1 ⟨hs, hw⟩
  have h4 := hs.1.trans h3
  refine b288_1472  (by exact hw) ?_
  rintro _ S2 ⟨rfl, hI2⟩
  exact b288_1476 (fun _ => hn S2 hI2) (fun h => absurd rfl h)
theorem lc25 (hI : ∀ S, I S → S.1 3000 0 = Int32.ofNat L) (hL : L ≤ 3072) (hi : i + 6 ≤ L) (hS : I S) (hb : 2 ≤ b) (ob : ∀ a1 a2, ObB I 2 125 219 [(1, 1)] [.int a1, .int a2]) (hn : ∀ S', I S' → Wp 2000 (b - 2) 288 1928 [.ref 3000, .ref 0, .ref 46, .ref 66, .int (Int32.ofNat i)] [] S' Q) : Wp 2000 b 288 1481 [.ref 3000, .ref 0, .ref 46, .ref 66, .int (Int32.ofNat i)] [] S Q := by
  have h3 := hI S hS
  refine b288_1481 (vps (k := 1) h3 hL hi (by omega)) (vps (k := 2) h3 hL hi (by omega)) hb (h282 (ob _ _) hS) ?_
  rintro k S1 ⟨hs, hw⟩
  have h4 := hs.1.trans h3
  refine b288_1498 (vps (k := 1) h4 hL hi (by omega)) (vps (k := 2) h4 hL hi (by omega)) (by rw [hs.2]; exact hw) ?_
  rintro w S2 ⟨e1, e2, hI2⟩
  refine b288_1516 (P := Vx (S2.1 46 4) S2) (b151_0 ⟨_, rfl, rfl, rfl⟩) ?_
  rintro _ _ ⟨rfl, rfl⟩
  refine b288_1522 (fun _ => b288_1529 (fun _ => b288_1546 (hn S2 hI2)) (fun h => ?_)) (fun h => absurd e1 h)
  have e3 := e2 (Classical.not_not.1 h)
  refine b288_1534 vp01 (fun _ => b288_1546 (hn S2 hI2)) (fun q => ?_)
  rw [e3] at q; exact absurd (lg_self _) q
theorem lc26 (hI : ∀ S, I S → S.1 3000 0 = Int32.ofNat L) (hL : L ≤ 3072) (hi : i + 6 ≤ L) (hS : I S) (hb : 1 ≤ b) (ob : ∀ a1, ObB I 1 126 221 [(1, 1)] [.int a1]) (hn : ∀ S', I S' → Wp 2000 (b - 1) 288 1928 [.ref 3000, .ref 0, .ref 46, .ref 66, .int (Int32.ofNat i)] [] S' Q) : Wp 2000 b 288 1549 [.ref 3000, .ref 0, .ref 46, .ref 66, .int (Int32.ofNat i)] [] S Q := by
  have h3 := hI S hS
  refine b288_1549 (vps (k := 1) h3 hL hi (by omega)) hb (h283 (ob _) hS) ?_
  rintro k S1 ⟨hs, hw⟩
  have h4 := hs.1.trans h3
  refine b288_1560 (vps (k := 1) h4 hL hi (by omega)) (by rw [hs.2]; exact hw) ?_
  rintro w S2 ⟨e1, e2, hI2⟩
  refine b288_1572 (P := Vx (S2.1 46 4) S2) (b151_0 ⟨_, rfl, rfl, rfl⟩) ?_
  rintro _ _ ⟨rfl, rfl⟩
  refine b288_1578 (fun _ => b288_1585 (fun _ => b288_1602 (hn S2 hI2)) (fun h => ?_)) (fun h => absurd e1 h)
  have e3 := e2 (Classical.not_not.1 h)
  refine b288_1590 vp01 (fun _ => b288_1602 (hn S2 hI2)) (fun q => ?_)
  rw [e3] at q; exact absurd (lg_self _) q
theorem lc27 (hI : ∀ S, I S → S.1 3000 0 = Int32.ofNat L) (hL : L ≤ 3072) (hi : i + 6 ≤ L) (hS : I S) (ob : ObA I 127 223 []) (hn : ∀ S', I S' → Wp 2000 b 288 1928 [.ref 3000, .ref 0, .ref 46, .ref 66, .int (Int32.ofNat i)] [] S' Q) : Wp 2000 b 288 1605 [.ref 3000, .ref 0, .ref 46, .ref 66, .int (Int32.ofNat i)] [] S Q := by
  have h3 := hI S hS
  refine b288_1605  (ob  S hS) ?_
  rintro v S1 ⟨hs, hw⟩
  have h4 := hs.1.trans h3
  refine b288_1609  (by exact hw) ?_
  rintro _ S2 ⟨rfl, hI2⟩
  exact b288_1613 (fun _ => hn S2 hI2) (fun h => absurd rfl h)
theorem lc28 (hI : ∀ S, I S → S.1 3000 0 = Int32.ofNat L) (hL : L ≤ 3072) (hi : i + 6 ≤ L) (hS : I S) (ob : ObA I 128 227 []) (hn : ∀ S', I S' → Wp 2000 b 288 1928 [.ref 3000, .ref 0, .ref 46, .ref 66, .int (Int32.ofNat i)] [] S' Q) : Wp 2000 b 288 1618 [.ref 3000, .ref 0, .ref 46, .ref 66, .int (Int32.ofNat i)] [] S Q := by
  have h3 := hI S hS
  refine b288_1618  (ob  S hS) ?_
  rintro v S1 ⟨hs, hw⟩
  have h4 := hs.1.trans h3
  refine b288_1622  (by exact hw) ?_
  rintro _ S2 ⟨rfl, hI2⟩
  exact b288_1626 (fun _ => hn S2 hI2) (fun h => absurd rfl h)
theorem lc29 (hI : ∀ S, I S → S.1 3000 0 = Int32.ofNat L) (hL : L ≤ 3072) (hi : i + 6 ≤ L) (hS : I S) (ob : ∀ a1, ObA I 129 228 [.int a1]) (hn : ∀ S', I S' → Wp 2000 b 288 1928 [.ref 3000, .ref 0, .ref 46, .ref 66, .int (Int32.ofNat i)] [] S' Q) : Wp 2000 b 288 1631 [.ref 3000, .ref 0, .ref 46, .ref 66, .int (Int32.ofNat i)] [] S Q := by
  have h3 := hI S hS
  refine b288_1631 (vps (k := 1) h3 hL hi (by omega)) (ob _ S hS) ?_
  rintro v S1 ⟨hs, hw⟩
  have h4 := hs.1.trans h3
  refine b288_1641 (vps (k := 1) h4 hL hi (by omega)) (by rw [hs.2]; exact hw) ?_
  rintro _ S2 ⟨rfl, hI2⟩
  exact b288_1651 (fun _ => hn S2 hI2) (fun h => absurd rfl h)
theorem lc30 (hI : ∀ S, I S → S.1 3000 0 = Int32.ofNat L) (hL : L ≤ 3072) (hi : i + 6 ≤ L) (hS : I S) (hb : 1 ≤ b) (ob : ∀ a1 p, ObC I 1 130 230 [(1, 1)] [.int a1, .int (bi p)]) (hn : ∀ S', I S' → Wp 2000 (b - 1) 288 1928 [.ref 3000, .ref 0, .ref 46, .ref 66, .int (Int32.ofNat i)] [] S' Q) : Wp 2000 b 288 1656 [.ref 3000, .ref 0, .ref 46, .ref 66, .int (Int32.ofNat i)] [] S Q := by
  have h3 := hI S hS
  have fin : ∀ a1 p S1 k, (Wp 1999 0 230 0 [.ref 46, .int a1, .int (bi p)] [] S1 (Ri fun w S2 => S2.1 46 4 = k ∧ (k = 0 → S2.2.2.2 = (if w = 0 then ((0 : Int32)).toInt64 else ((1 : Int32)).toInt64)) ∧ I S2)) → Wp 2000 (b - 1) 288 1704 [.ref 3000, .ref 0, .ref 46, .ref 66, .int (Int32.ofNat i), .int k] [.int (bi p), .int a1, .ref 46] S1 Q := by
    intro a1 p S1 k hw
    refine b288_1704 hw ?_
    rintro w S2 ⟨e1, e2, hI2⟩
    refine b288_1707 (P := Vx (S2.1 46 4) S2) (b151_0 ⟨_, rfl, rfl, rfl⟩) ?_
    rintro _ _ ⟨rfl, rfl⟩
    refine b288_1713 (fun _ => b288_1720 (fun _ => b288_1744 (hn S2 hI2)) (fun h => ?_)) (fun h => absurd e1 h)
    have e3 := e2 (Classical.not_not.1 h)
    refine b288_1725 vp01 (fun h => b288_1737 (b288_1738 (fun _ => b288_1744 (hn S2 hI2)) (fun q => ?_))) (fun h => b288_1733 (b288_1738 (fun _ => b288_1744 (hn S2 hI2)) (fun q => ?_)))
    · rw [e3, if_pos h] at q; exact absurd (lg_self _) q
    · rw [e3, if_neg h] at q; exact absurd (lg_self _) q
  have go : ∀ a1 p, (∀ S1, Sc S S1 → ∀ k, (Wp 1999 0 230 0 [.ref 46, .int a1, .int (bi p)] [] S1 (Ri fun w S2 => S2.1 46 4 = k ∧ (k = 0 → S2.2.2.2 = (if w = 0 then ((0 : Int32)).toInt64 else ((1 : Int32)).toInt64)) ∧ I S2)) → Wp 2000 (b - 1) 288 1681 [.ref 3000, .ref 0, .ref 46, .ref 66, .int (Int32.ofNat i)] [.int k] S1 Q) → Wp 2000 b 288 1677 [.ref 3000, .ref 0, .ref 46, .ref 66, .int (Int32.ofNat i)] [.int (bi p), .int a1, .ref 0] S Q := by
    intro a1 p k
    refine b288_1677 hb (h284 (ob a1 p) hS) ?_
    rintro v S1 ⟨hs, hw⟩
    exact k S1 hs v hw
  refine b288_1656 (vps (k := 1) h3 hL hi (by omega)) (vps (k := 2) h3 hL hi (by omega)) (fun h => b288_1676 (go _ false ?_)) (fun h => b288_1672 (go _ true ?_))
  · intro S1 hs v hw
    refine b288_1681 (vps (k := 1) (hs.1.trans h3) hL hi (by omega)) (vps (k := 2) (hs.1.trans h3) hL hi (by omega)) (fun _ => b288_1703 (fin _ false S1 v (by rw [hs.2]; exact hw))) (fun q => ?_)
    rw [hs.2] at q; exact absurd h q
  · intro S1 hs v hw
    refine b288_1681 (vps (k := 1) (hs.1.trans h3) hL hi (by omega)) (vps (k := 2) (hs.1.trans h3) hL hi (by omega)) (fun q => ?_) (fun _ => b288_1699 (fin _ true S1 v (by rw [hs.2]; exact hw)))
    rw [hs.2] at q; exact absurd q h
theorem lc31 (hI : ∀ S, I S → S.1 3000 0 = Int32.ofNat L) (hL : L ≤ 3072) (hi : i + 6 ≤ L) (hS : I S) (hb : 1 ≤ b) (ob : ∀ a1, ObB I 1 131 231 [(0, 1)] [.int a1]) (hn : ∀ S', I S' → Wp 2000 (b - 1) 288 1928 [.ref 3000, .ref 0, .ref 46, .ref 66, .int (Int32.ofNat i)] [] S' Q) : Wp 2000 b 288 1747 [.ref 3000, .ref 0, .ref 46, .ref 66, .int (Int32.ofNat i)] [] S Q := by
  have h3 := hI S hS
  refine b288_1747 (vps (k := 1) h3 hL hi (by omega)) hb (h285 (ob _) hS) ?_
  rintro k S1 ⟨hs, hw⟩
  have h4 := hs.1.trans h3
  refine b288_1758 (vps (k := 1) h4 hL hi (by omega)) (by rw [hs.2]; exact hw) ?_
  rintro w S2 ⟨e1, e2, hI2⟩
  refine b288_1770 (P := Vx (S2.1 46 4) S2) (b151_0 ⟨_, rfl, rfl, rfl⟩) ?_
  rintro _ _ ⟨rfl, rfl⟩
  refine b288_1776 (fun _ => b288_1783 (fun _ => b288_1800 (hn S2 hI2)) (fun h => ?_)) (fun h => absurd e1 h)
  have e3 := e2 (Classical.not_not.1 h)
  refine b288_1788 vp01 (fun _ => b288_1800 (hn S2 hI2)) (fun q => ?_)
  rw [e3] at q; exact absurd (lg_self _) q
theorem lc32 (hI : ∀ S, I S → S.1 3000 0 = Int32.ofNat L) (hL : L ≤ 3072) (hi : i + 6 ≤ L) (hS : I S) (hb : 1 ≤ b) (ob : ∀ a1, ObB I 1 132 232 [(0, 1)] [.int a1]) (hn : ∀ S', I S' → Wp 2000 (b - 1) 288 1928 [.ref 3000, .ref 0, .ref 46, .ref 66, .int (Int32.ofNat i)] [] S' Q) : Wp 2000 b 288 1803 [.ref 3000, .ref 0, .ref 46, .ref 66, .int (Int32.ofNat i)] [] S Q := by
  have h3 := hI S hS
  refine b288_1803 (vps (k := 1) h3 hL hi (by omega)) hb (h286 (ob _) hS) ?_
  rintro k S1 ⟨hs, hw⟩
  have h4 := hs.1.trans h3
  refine b288_1814 (vps (k := 1) h4 hL hi (by omega)) (by rw [hs.2]; exact hw) ?_
  rintro w S2 ⟨e1, e2, hI2⟩
  refine b288_1826 (P := Vx (S2.1 46 4) S2) (b151_0 ⟨_, rfl, rfl, rfl⟩) ?_
  rintro _ _ ⟨rfl, rfl⟩
  refine b288_1832 (fun _ => b288_1839 (fun _ => b288_1856 (hn S2 hI2)) (fun h => ?_)) (fun h => absurd e1 h)
  have e3 := e2 (Classical.not_not.1 h)
  refine b288_1844 vp01 (fun _ => b288_1856 (hn S2 hI2)) (fun q => ?_)
  rw [e3] at q; exact absurd (lg_self _) q
theorem lc33 (hI : ∀ S, I S → S.1 3000 0 = Int32.ofNat L) (hL : L ≤ 3072) (hi : i + 6 ≤ L) (hS : I S) (ob : ObA I 133 233 []) (hn : ∀ S', I S' → Wp 2000 b 288 1928 [.ref 3000, .ref 0, .ref 46, .ref 66, .int (Int32.ofNat i)] [] S' Q) : Wp 2000 b 288 1859 [.ref 3000, .ref 0, .ref 46, .ref 66, .int (Int32.ofNat i)] [] S Q := by
  have h3 := hI S hS
  refine b288_1859  (ob  S hS) ?_
  rintro v S1 ⟨hs, hw⟩
  have h4 := hs.1.trans h3
  refine b288_1863  (by exact hw) ?_
  rintro _ S2 ⟨rfl, hI2⟩
  exact b288_1867 (fun _ => hn S2 hI2) (fun h => absurd rfl h)
theorem lc34 (hI : ∀ S, I S → S.1 3000 0 = Int32.ofNat L) (hL : L ≤ 3072) (hi : i + 6 ≤ L) (hS : I S) (hb : 1 ≤ b) (ob : ∀ a1, ObB I 1 134 263 [(0, 1)] [.int a1]) (hn : ∀ S', I S' → Wp 2000 (b - 1) 288 1928 [.ref 3000, .ref 0, .ref 46, .ref 66, .int (Int32.ofNat i)] [] S' Q) : Wp 2000 b 288 1872 [.ref 3000, .ref 0, .ref 46, .ref 66, .int (Int32.ofNat i)] [] S Q := by
  have h3 := hI S hS
  refine b288_1872 (vps (k := 1) h3 hL hi (by omega)) hb (h287 (ob _) hS) ?_
  rintro k S1 ⟨hs, hw⟩
  have h4 := hs.1.trans h3
  refine b288_1883 (vps (k := 1) h4 hL hi (by omega)) (by rw [hs.2]; exact hw) ?_
  rintro w S2 ⟨e1, e2, hI2⟩
  refine b288_1895 (P := Vx (S2.1 46 4) S2) (b151_0 ⟨_, rfl, rfl, rfl⟩) ?_
  rintro _ _ ⟨rfl, rfl⟩
  refine b288_1901 (fun _ => b288_1908 (fun _ => b288_1925 (hn S2 hI2)) (fun h => ?_)) (fun h => absurd e1 h)
  have e3 := e2 (Classical.not_not.1 h)
  refine b288_1913 vp01 (fun _ => b288_1925 (hn S2 hI2)) (fun q => ?_)
  rw [e3] at q; exact absurd (lg_self _) q
end LAW
theorem sw5 (y : Int32) : ∃ v : Fin 64, y &&& 63 = Int32.ofNat v.val := by
  refine ⟨⟨tn y % 64, Nat.mod_lt _ (by omega)⟩, tn_inj ?_⟩
  have m4 : tn 63 = 2 ^ 6 - 1 := by decide +kernel
  show _ = tn (Int32.ofNat (tn y % 64))
  rw [tn_and, m4, Nat.and_two_pow_sub_one_eq_mod, tn_of (by omega)]
def swL : List Nat := [196, 269, 325, 338, 394, 462, 525, 593, 649, 705, 761, 829, 909, 965, 1006, 1019, 1082, 1138, 1151, 1207, 1220, 1276, 1332, 1412, 1468, 1481, 1549, 1605, 1618, 1631, 1656, 1747, 1803, 1859, 1872, 1928]
theorem sw5L (v : Fin 64) : (swT 5 (Int32.ofNat v.val)) ∈ swL := by
  have h : ∀ v : Fin 64, swL.contains (swT 5 (Int32.ofNat v.val)) = true := by decide +kernel
  exact List.contains_iff_mem.1 (h v)
/-- what each call must keep -/
def Obs (I : St → Prop) : Prop := (∀ a1 a2 a3 a4 a5, ObA I 100 234 [.int a1, .int a2, .int a3, .int a4, .int a5]) ∧ (∀ a1, ObB I 1 101 253 [(0, 1)] [.int a1]) ∧ (ObA I 102 235 []) ∧ (∀ a1, ObB I 1 103 178 [(1, 1)] [.int a1]) ∧ (∀ a1 a2, ObB I 2 104 179 [(1, 1)] [.int a1, .int a2]) ∧ (∀ a1, ObC I 1 105 180 [(1, 1)] [.int a1]) ∧ (∀ a1 a2, ObB I 2 106 181 [(1, 1)] [.int a1, .int a2]) ∧ (∀ a1, ObB I 1 107 182 [(1, 1)] [.int a1]) ∧ (∀ a1, ObB I 1 108 183 [(1, 1)] [.int a1]) ∧ (∀ a1, ObB I 1 109 184 [(1, 1)] [.int a1]) ∧ (∀ a1 a2, ObB I 2 110 185 [(1, 1)] [.int a1, .int a2]) ∧ (∀ a1 a2 a3, ObB I 3 111 176 [(1, 1), (0, 2)] [.int a1, .int a2, .int a3]) ∧ (∀ a1, ObB I 1 112 175 [(1, 1)] [.int a1]) ∧ (∀ p, ObA I 113 187 [.int (bi p)]) ∧ (ObA I 114 191 []) ∧ (∀ a1, ObC I 1 115 186 [(0, 1)] [.int a1]) ∧ (∀ a1, ObB I 1 116 194 [(1, 1)] [.int a1]) ∧ (ObA I 117 198 []) ∧ (∀ a1, ObB I 1 118 199 [(1, 1)] [.int a1]) ∧ (ObA I 119 200 []) ∧ (∀ a1, ObB I 1 120 207 [(1, 1)] [.int a1]) ∧ (∀ a1, ObB I 1 121 208 [(1, 1)] [.int a1]) ∧ (∀ a1 a2 a3, ObB I 3 122 212 [(1, 1)] [.int a1, .int a2, .int a3]) ∧ (∀ a1, ObB I 1 123 215 [(1, 1)] [.int a1]) ∧ (ObA I 124 218 []) ∧ (∀ a1 a2, ObB I 2 125 219 [(1, 1)] [.int a1, .int a2]) ∧ (∀ a1, ObB I 1 126 221 [(1, 1)] [.int a1]) ∧ (ObA I 127 223 []) ∧ (ObA I 128 227 []) ∧ (∀ a1, ObA I 129 228 [.int a1]) ∧ (∀ a1 p, ObC I 1 130 230 [(1, 1)] [.int a1, .int (bi p)]) ∧ (∀ a1, ObB I 1 131 231 [(0, 1)] [.int a1]) ∧ (∀ a1, ObB I 1 132 232 [(0, 1)] [.int a1]) ∧ (ObA I 133 233 []) ∧ (∀ a1, ObB I 1 134 263 [(0, 1)] [.int a1])
theorem law_step {I : St → Prop} {Q : Out → St → Prop} {b i L : Nat} {S : St} (hI : ∀ S, I S → S.1 3000 0 = Int32.ofNat L) (hL : L ≤ 3072) (hi : i + 6 ≤ L) (hS : I S) (hb : 3 ≤ b) (ob : Obs I) (hn : ∀ S', I S' → Wp 2000 (b - 3) 288 1928 [.ref 3000, .ref 0, .ref 46, .ref 66, .int (Int32.ofNat i)] [] S' Q) : Wp 2000 b 288 33 [.ref 3000, .ref 0, .ref 46, .ref 66, .int (Int32.ofNat i)] [] S Q := by
  have up : ∀ c, c ≤ 3 → ∀ S', I S' → Wp 2000 (b - c) 288 1928 [.ref 3000, .ref 0, .ref 46, .ref 66, .int (Int32.ofNat i)] [] S' Q := fun c hc S' h => (hn S' h).up (Nat.le_refl _) (by omega)
  have hs3 := hI S hS
  obtain ⟨h0, h1, h2, h3, h4, h5, h6, h7, h8, h9, h10, h11, h12, h13, h14, h15, h16, h17, h18, h19, h20, h21, h22, h23, h24, h25, h26, h27, h28, h29, h30, h31, h32, h33, h34⟩ := ob
  refine b288_33 (by have := vps (k := 0) hs3 hL hi (by omega); rw [i_add] at this; exact this) ?_
  obtain ⟨v, hv⟩ := sw5 (S.2.1 3000 (Int32.ofNat i).toNatClampNeg)
  rw [hv]
  have hm := sw5L v
  generalize swT 5 (Int32.ofNat v.val) = pc at hm
  unfold swL at hm
  simp only [List.mem_cons, List.not_mem_nil, or_false] at hm
  rcases hm with rfl | rfl | rfl | rfl | rfl | rfl | rfl | rfl | rfl | rfl | rfl | rfl | rfl | rfl | rfl | rfl | rfl | rfl | rfl | rfl | rfl | rfl | rfl | rfl | rfl | rfl | rfl | rfl | rfl | rfl | rfl | rfl | rfl | rfl | rfl | rfl
  · exact lc0 hI hL hi hS h0 (up 0 (by omega))
  · exact lc1 hI hL hi hS (by omega) h1 (up 1 (by omega))
  · exact lc2 hI hL hi hS h2 (up 0 (by omega))
  · exact lc3 hI hL hi hS (by omega) h3 (up 1 (by omega))
  · exact lc4 hI hL hi hS (by omega) h4 (up 2 (by omega))
  · exact lc5 hI hL hi hS (by omega) h5 (up 1 (by omega))
  · exact lc6 hI hL hi hS (by omega) h6 (up 2 (by omega))
  · exact lc7 hI hL hi hS (by omega) h7 (up 1 (by omega))
  · exact lc8 hI hL hi hS (by omega) h8 (up 1 (by omega))
  · exact lc9 hI hL hi hS (by omega) h9 (up 1 (by omega))
  · exact lc10 hI hL hi hS (by omega) h10 (up 2 (by omega))
  · exact lc11 hI hL hi hS (by omega) h11 (up 3 (by omega))
  · exact lc12 hI hL hi hS (by omega) h12 (up 1 (by omega))
  · exact lc13 hI hL hi hS h13 (up 0 (by omega))
  · exact lc14 hI hL hi hS h14 (up 0 (by omega))
  · exact lc15 hI hL hi hS (by omega) h15 (up 1 (by omega))
  · exact lc16 hI hL hi hS (by omega) h16 (up 1 (by omega))
  · exact lc17 hI hL hi hS h17 (up 0 (by omega))
  · exact lc18 hI hL hi hS (by omega) h18 (up 1 (by omega))
  · exact lc19 hI hL hi hS h19 (up 0 (by omega))
  · exact lc20 hI hL hi hS (by omega) h20 (up 1 (by omega))
  · exact lc21 hI hL hi hS (by omega) h21 (up 1 (by omega))
  · exact lc22 hI hL hi hS (by omega) h22 (up 3 (by omega))
  · exact lc23 hI hL hi hS (by omega) h23 (up 1 (by omega))
  · exact lc24 hI hL hi hS h24 (up 0 (by omega))
  · exact lc25 hI hL hi hS (by omega) h25 (up 2 (by omega))
  · exact lc26 hI hL hi hS (by omega) h26 (up 1 (by omega))
  · exact lc27 hI hL hi hS h27 (up 0 (by omega))
  · exact lc28 hI hL hi hS h28 (up 0 (by omega))
  · exact lc29 hI hL hi hS h29 (up 0 (by omega))
  · exact lc30 hI hL hi hS (by omega) h30 (up 1 (by omega))
  · exact lc31 hI hL hi hS (by omega) h31 (up 1 (by omega))
  · exact lc32 hI hL hi hS (by omega) h32 (up 1 (by omega))
  · exact lc33 hI hL hi hS h33 (up 0 (by omega))
  · exact lc34 hI hL hi hS (by omega) h34 (up 1 (by omega))
  · exact up 0 (by omega) S hS
theorem law_loop {I : St → Prop} {Q : Out → St → Prop} {L : Nat} (hI : ∀ S, I S → S.1 3000 0 = Int32.ofNat L) (hL : L ≤ 3072) (ob : Obs I) (hQ : ∀ S, Q (.inl (some (.int 1))) S) : ∀ (k i b : Nat) (S : St), i + 6 * k ≤ L → L < i + 6 * k + 6 → 3 * k ≤ b → I S → Wp 2000 b 288 23 [.ref 3000, .ref 0, .ref 46, .ref 66, .int (Int32.ofNat i)] [] S Q := by
  have e6 : ∀ {L : Nat}, L ≤ 3072 → (Int32.ofNat L - 6).toInt = (L : Int) - 6 := by
    intro L hL
    rw [Int32.toInt_sub, i_toInt (by omega)]
    have : (6 : Int32).toInt = 6 := by decide
    rw [this]
    apply Int.bmod_eq_of_le <;> omega
  intro k
  induction k with
  | zero =>
    intro i b S h1 h2 h3 hS
    refine b288_23 (fun _ => b288_1934 (Or.inr rfl) (hQ S)) (fun h => ?_)
    rw [hI S hS, Int32.lt_iff_toInt_lt, e6 hL, i_toInt (by omega)] at h
    omega
  | succ k ih =>
    intro i b S h1 h2 h3 hS
    refine b288_23 (fun h => ?_) (fun _ => law_step hI hL (by omega) hS (by omega) ob (fun S' hS' => b288_1928 ?_))
    · rw [hI S hS, Int32.lt_iff_toInt_lt, e6 hL, i_toInt (by omega)] at h
      omega
    · rw [show (6 : Int32) = Int32.ofNat 6 from rfl, i_add]
      exact ih (i + 6) (b - 3) S' (by omega) (by omega) (by omega) hS'
/-- the whole, out of what each call must keep -/
theorem pure_of_obs (J : Nat → St → Prop) (hI : ∀ L S, J L S → S.1 3000 0 = Int32.ofNat L) (ob : ∀ L, L ≤ 3072 → Obs (J L)) (h0 : ∀ (L : Nat) (xf : Nat → Int32), L ≤ 3072 → Wp 1900 0 161 0 [.ref 46] [] (Sini L xf) (fun o S1 => o = .inl none ∧ J L (setO S1 0))) : PureClaim := by
  apply pure_of_wp
  intro L xf hL
  refine (h0 L xf hL).imp ?_
  rintro o S1 ⟨rfl, hJ⟩
  refine ⟨rfl, ?_⟩
  exact law_loop (hI L) hL (ob L hL) (fun _ => rfl) (L / 6) 0 4096 _ (by omega) (by omega) (by omega) hJ
