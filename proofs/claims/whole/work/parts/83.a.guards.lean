theorem has_eq {v : Int32} {c : Nat} (hc : c < 2 ^ 31) : (if v < 0 then (0 : Int32) else (if nI c ≤ v then (0 : Int32) else (1 : Int32))) = 0 ↔ ¬ isN v c := by
  rw [isN_iff hc]
  by_cases h1 : v < 0
  · rw [if_pos h1]; exact ⟨fun _ q => q.1 h1, fun _ => rfl⟩
  · rw [if_neg h1]
    by_cases h2 : nI c ≤ v
    · rw [if_pos h2]
      refine ⟨fun _ q => ?_, fun _ => rfl⟩
      have := q.2
      rw [Int32.lt_iff_toInt_lt] at this
      rw [Int32.le_iff_toInt_le] at h2
      omega
    · rw [if_neg h2]
      refine ⟨fun q => absurd q (by decide), fun q => absurd ⟨h1, ?_⟩ q⟩
      rw [Int32.lt_iff_toInt_lt]
      rw [Int32.le_iff_toInt_le] at h2
      omega
section GD
variable {f h : xM} {v v2 : Int32} {c r w : Nat}
theorem hasC (hc : c ≤ 3) (e : f 2 4 = nI c) : pX6_hasCompositor f v = 0 ↔ ¬ isN v c := by unfold pX6_hasCompositor; rw [e]; exact has_eq (by omega)
theorem hasR (hc : r ≤ 4) (e : f 2 5 = nI r) : pX6_hasReader f v = 0 ↔ ¬ isN v r := by unfold pX6_hasReader; rw [e]; exact has_eq (by omega)
theorem hasP (hc : w ≤ 5) (e : f 10 0 = nI w) : pX8_hasPlace f v = 0 ↔ ¬ isN v w := by unfold pX8_hasPlace; rw [e]; exact has_eq (by omega)
theorem isNot (hc : w ≤ 5) (e : f 10 0 = nI w) : pX6_isNoticeFor f v v2 = 0 ↔ ¬ (isN v w ∧ isN v2 4) := by
  unfold pX6_isNoticeFor
  by_cases h1 : isN v w
  · rw [if_neg (fun q => (hasP hc e).mp q h1)]
    have := has_eq (v := v2) (c := 4) (by omega)
    rw [show nI 4 = (4 : Int32) from rfl] at this
    rw [this]
    exact ⟨fun q z => q z.2, fun q z => q ⟨h1, z⟩⟩
  · rw [if_pos ((hasP hc e).mpr h1)]
    exact ⟨fun _ z => h1 z.1, fun _ => rfl⟩
theorem noC (hc : c ≤ 3) (e : h 0 6 = nI c) : pX12_noCompositor h v = 0 ↔ isN v c := by
  unfold pX12_noCompositor
  by_cases q : isN v c
  · rw [if_neg (fun z => (in1_eq (by omega) e).mp z q)]; exact ⟨fun _ => q, fun _ => rfl⟩
  · rw [if_pos ((in1_eq (by omega) e).mpr q)]; exact ⟨fun z => absurd z (by decide), fun z => absurd z q⟩
theorem noR (hc : r ≤ 4) (e : h 0 7 = nI r) : pX12_noReader h v = 0 ↔ isN v r := by
  unfold pX12_noReader
  by_cases q : isN v r
  · rw [if_neg (fun z => (in1_eq (by omega) e).mp z q)]; exact ⟨fun _ => q, fun _ => rfl⟩
  · rw [if_pos ((in1_eq (by omega) e).mpr q)]; exact ⟨fun z => absurd z (by decide), fun z => absurd z q⟩
theorem noPl (hc : w ≤ 5) (e : h 0 4 = nI w) : pX12_noPlace h v = 0 ↔ isN v w := by
  unfold pX12_noPlace
  by_cases q : isN v w
  · rw [if_neg (fun z => (in1_eq (by omega) e).mp z q)]; exact ⟨fun _ => q, fun _ => rfl⟩
  · rw [if_pos ((in1_eq (by omega) e).mpr q)]; exact ⟨fun z => absurd z (by decide), fun z => absurd z q⟩
theorem noLe : pX12_noLetter v = 0 ↔ isN v 4 := by
  unfold pX12_noLetter
  have e := in0_eq (v := v) (m := 3) (by omega) (c := 3) rfl
  by_cases q : isN v 4
  · rw [if_neg (fun z => e.mp z q)]; exact ⟨fun _ => q, fun _ => rfl⟩
  · rw [if_pos (e.mpr q)]; exact ⟨fun z => absurd z (by decide), fun z => absurd z q⟩
end GD
theorem ad2 (j : Nat) : (2 : Int32) + nI j = nI (2 + j) := nI_add 2 j
theorem ad5 (j : Nat) : (5 : Int32) + nI j = nI (5 + j) := nI_add 5 j
theorem kindOf_eq {f : xM} {j : Nat} (hj : j < 3) : pX9_kindOf f (nI j) = some (f 19 (2 + j)) := by
  unfold pX9_kindOf
  rw [if_neg (nI_pos (by omega)), if_neg (show ¬ (3 : Int32) ≤ nI j from nI_ge (b := 3) hj (by omega)), ad2, if_pos (xin_of (by omega) (by omega)), nI_clamp (by omega)]
theorem beliefOf_eq {f : xM} {j : Nat} (hj : j < 4) : pX9_beliefOf f (nI j) = some (f 19 (5 + j)) := by
  unfold pX9_beliefOf
  rw [if_neg (nI_pos (by omega)), if_neg (show ¬ (4 : Int32) ≤ nI j from nI_ge (b := 4) hj (by omega)), ad5, if_pos (xin_of (by omega) (by omega)), nI_clamp (by omega)]
theorem periodOf_eq {f : xM} {j : Nat} (hj : j < 4) : pX6_periodOf f (nI j) = some (f 17 j) := by
  unfold pX6_periodOf
  rw [if_neg (nI_pos (by omega)), if_neg (show ¬ (4 : Int32) ≤ nI j from nI_ge (b := 4) hj (by omega)), if_pos (xin_of (by omega) (by omega)), nI_clamp (by omega)]
theorem leftOf_eq {f : xM} {j : Nat} (hj : j < 4) : pX6_leftOf f (nI j) = some (f 18 j) := by
  unfold pX6_leftOf
  rw [if_neg (nI_pos (by omega)), if_neg (show ¬ (4 : Int32) ≤ nI j from nI_ge (b := 4) hj (by omega)), if_pos (xin_of (by omega) (by omega)), nI_clamp (by omega)]
/-- does a reader of period pe and rest le read on the day: as an int -/
def rdI (day : Int32) (pe le : Nat) : Int32 := if (day - day / nI pe * nI pe) = nI le then 1 else 0
theorem readsOn_eq {f : xM} {j pe le : Nat} {day : Int32} (hj : j < 4) (h1 : 1 ≤ pe) (h2 : pe ≤ 4) (ep : f 17 j = nI pe) (el : f 18 j = nI le) : pX6_readsOn f (nI j) day = some (rdI day pe le) := by
  unfold pX6_readsOn rdI
  rw [periodOf_eq hj, Option.bind_some, ep, if_neg (nI_nle (by omega) (by omega)), if_neg (nI_ne0 (by omega) (by omega)), leftOf_eq hj, Option.bind_some, el]
  split <;> rfl
theorem doesRead7_eq {h : xM} {j pe le : Nat} (hj : j < 4) (h1 : 1 ≤ pe) (h2 : pe ≤ 4) (ep : h 2 j = nI pe) (el : h 3 j = nI le) : pX12_doesRead_7 h (nI j) = some (rdI (h 7 1) pe le) := by
  unfold pX12_doesRead_7 rdI
  simp only [if_pos (xin_of (n := 4) hj (by omega)), nI_clamp (show j < 2 ^ 31 by omega), ep, if_neg (nI_ne0 (n := pe) (by omega) (by omega)), el]
  split <;> rfl
theorem doesRead8_eq {h : xM} {j pe le : Nat} (hj : j < 4) (h1 : 1 ≤ pe) (h2 : pe ≤ 4) (ep : h 2 j = nI pe) (el : h 3 j = nI le) : pX12_doesRead_8 h (nI j) = some (rdI (h 8 1) pe le) := by
  unfold pX12_doesRead_8 rdI
  simp only [if_pos (xin_of (n := 4) hj (by omega)), nI_clamp (show j < 2 ^ 31 by omega), ep, if_neg (nI_ne0 (n := pe) (by omega) (by omega)), el]
  split <;> rfl
theorem e_kind {n : Nat} {f : xM} {g : xN} {h : xM} {k : xN} (hn : n ≤ 100) (hR : Rel n f g h k) (v1 : Int32) : ∃ (F : Nat) (a : Int32) (b : Int32 × xM), pX11_kind f v1 = some a ∧ pX12_kind v1 h = some b ∧ a = b.1 ∧ Rel (n + 1) f g b.2 k := by
  obtain ⟨w, c, r, t, A0, A, b0, b1, hT, ⟨p1, p2, p3, p4, p5, p6, p7, p8, p9, p10, p11, p12, p13⟩, hD, ⟨hp1, hp2, hp3, hp4⟩, hA, hK, hs⟩ := id hR
  have hR2 : Rel (n + 1) f g (xu h 0 0 0) k := Rel_ok hR (by omega) okC.r0 (okM_t 0) hs
  have e6 : xu h 0 0 (0 : Int32) 0 6 = nI c := by rw [xu_neK (by decide)]; exact p11
  by_cases hv : isN v1 c
  · obtain ⟨j, hj, rfl⟩ := hv
    obtain ⟨q, hq, u1, u2⟩ := hp3 j hj
    have e7 : xu h 0 0 (0 : Int32) 7 (2 + j) = nI q := by rw [xu_ne (by decide)]; exact u2
    refine ⟨0, nI q, (nI q, xu h 0 0 0), ?_, ?_, rfl, hR2⟩
    · unfold pX11_kind
      rw [if_neg (fun z => (hasC p3 p10).mp z ⟨j, hj, rfl⟩), kindOf_eq (by omega), Option.bind_some, u1]
    · unfold pX12_kind
      rw [if_pos ((noC p3 e6).mpr ⟨j, hj, rfl⟩), ad2, if_pos (xin_of (by omega) (by omega)), nI_clamp (by omega), e7]
  · refine ⟨0, -1, (-1, xu h 0 0 0), ?_, ?_, rfl, hR2⟩
    · unfold pX11_kind
      rw [if_pos ((hasC p3 p10).mpr hv)]
    · unfold pX12_kind
      rw [if_neg (fun z => hv ((noC p3 e6).mp z))]
theorem e_reader {n : Nat} {f : xM} {g : xN} {h : xM} {k : xN} (hn : n ≤ 100) (hR : Rel n f g h k) (v1 : Int32) (v2 : Int32) : ∃ (F : Nat) (a : Int32) (b : Int32 × xM), pX11_reader F f v1 v2 = some a ∧ pX12_reader F v1 v2 h = some b ∧ a = b.1 ∧ Rel (n + 1) f g b.2 k := by
  obtain ⟨w, c, r, t, A0, A, b0, b1, hT, ⟨p1, p2, p3, p4, p5, p6, p7, p8, p9, p10, p11, p12, p13⟩, hD, ⟨hp1, hp2, hp3, hp4⟩, hA, hK, hs⟩ := id hR
  have hR2 : Rel (n + 1) f g (xu h 0 0 0) k := Rel_ok hR (by omega) okC.r0 (okM_t 0) hs
  have hb := p4_le p2
  generalize hh : xu h 0 0 (0 : Int32) = h2 at hR2
  have e7 : h2 0 7 = nI r := by rw [← hh, xu_neK (by decide)]; exact p13
  have e4 : h2 0 4 = nI w := by rw [← hh, xu_neK (by decide)]; exact p7
  have e5 : h2 0 5 = nI t := by rw [← hh, xu_neK (by decide)]; exact p9
  have m7 : h2 7 = h 7 := by rw [← hh]; exact xu_ne (by decide)
  have m2 : h2 2 = h 2 := by rw [← hh]; exact xu_ne (by decide)
  have m3 : h2 3 = h 3 := by rw [← hh]; exact xu_ne (by decide)
  by_cases hv : isN v1 r
  · obtain ⟨j, hj, rfl⟩ := hv
    obtain ⟨q, hq, u1, u2⟩ := hp4 j hj
    obtain ⟨pe, le, d1, d2, d3, d4, d5, d6, d7⟩ := hD j hj
    obtain ⟨tr, ht1, ht2⟩ := told_eq (F := 10) (f := f) (h := h2) (w := w) (s := q) (by omega) p2 e4 p6 (by omega)
    have c0 : ¬ pX6_hasReader f (nI j) = 0 := fun z => (hasR p4 p12).mp z ⟨j, hj, rfl⟩
    have c1 := (noR p4 e7 (v := nI j)).mpr ⟨j, hj, rfl⟩
    have i4 : xin (nI j) 4 := xin_of (by omega) (by omega)
    have i9 : xin (nI (5 + j)) 9 := xin_of (by omega) (by omega)
    have j1 : (nI j).toNatClampNeg = j := nI_clamp (by omega)
    have j2 : (nI (5 + j)).toNatClampNeg = 5 + j := nI_clamp (by omega)
    unfold pX11_reader pX12_reader
    simp only [hh, if_neg c0, if_pos c1, periodOf_eq (f := f) (show j < 4 by omega), leftOf_eq (f := f) (show j < 4 by omega), beliefOf_eq (f := f) (show j < 4 by omega), Option.bind_some, ad5, if_pos i4, if_pos i9, j1, j2, m7, m2, m3, u1, u2, d4, d5, d6, d7]
    by_cases z0 : v2 = (0 : Int32)
    · exact ⟨10, nI pe, (nI pe, h2), by rw [if_pos z0], by rw [if_pos z0], rfl, hR2⟩
    by_cases z1 : v2 = (1 : Int32)
    · exact ⟨10, nI le, (nI le, h2), by rw [if_neg z0, if_pos z1], by rw [if_neg z0, if_pos z1], rfl, hR2⟩
    by_cases z2 : v2 = (2 : Int32)
    · exact ⟨10, tr, (tr, h2), by rw [if_neg z0, if_neg z1, if_pos z2, ht2]; rfl, by rw [if_neg z0, if_neg z1, if_pos z2, ht1]; rfl, rfl, hR2⟩
    by_cases z3 : v2 = (3 : Int32)
    · refine ⟨10, nI (rgt w q t), (nI (rgt w q t), h2), ?_, ?_, rfl, hR2⟩
      · rw [if_neg z0, if_neg z1, if_neg z2, if_pos z3, rightOf6_eq p1 p2 p6 p8 hq p5]
      · rw [if_neg z0, if_neg z1, if_neg z2, if_pos z3, rightOf_eq (by omega) p2 e4 e5 (by omega) (by omega)]; rfl
    · exact ⟨10, -2, (-2, h2), by rw [if_neg z0, if_neg z1, if_neg z2, if_neg z3], by rw [if_neg z0, if_neg z1, if_neg z2, if_neg z3], rfl, hR2⟩
  · refine ⟨0, -1, (-1, h2), ?_, ?_, rfl, hR2⟩
    · unfold pX11_reader
      rw [if_pos ((hasR p4 p12).mpr hv)]
    · unfold pX12_reader
      rw [hh, if_neg (fun z => hv ((noR p4 e7).mp z))]
