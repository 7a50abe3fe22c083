theorem nn {P : Prop} (h : P) : ¬ ¬ P := fun q => q h
set_option maxHeartbeats 1000000 in
theorem e_write {n : Nat} {f : xM} {g : xN} {h : xM} {k : xN} (hn : n ≤ 100) (hR : Rel n f g h k) (v1 : Int32) : ∃ (F : Nat) (a : Int32 × xM) (b : Int32 × xM), pX11_write v1 f = some a ∧ pX12_write v1 h = some b ∧ a.1 = b.1 ∧ Rel (n + 1) a.2 g b.2 k := by
  obtain ⟨w, c, r, t, A0, A, b0, b1, ⟨tl, tx, t1, t2, t3, t4⟩, hP, hD, hp, hA, hK, hs⟩ := id hR
  have e2 : xu h 0 0 (0 : Int32) 0 2 = nI tl := by rw [xu_neK (by decide)]; exact t3
  refine ⟨0, ?_⟩
  by_cases hv : isN v1 256
  · obtain ⟨b, hb, rfl⟩ := hv
    have c1 : ¬ nI b < 0 := nI_pos (by omega)
    have c2 : nI b ≤ (255 : Int32) := nI_le (b := 255) (by omega) (by omega)
    have c3 : ¬ pX12_in (nI b).toInt64 0 255 = 0 := by rw [in0_eq (m := 255) (by omega) rfl]; exact nn ⟨b, hb, rfl⟩
    have d1 : ¬ nI tl < 0 := nI_pos (by omega)
    by_cases h40 : tl = 40
    · subst h40
      have d2 : ¬ nI 40 < (40 : Int32) := by decide
      have d3 : nI 40 = (40 : Int32) := rfl
      refine ⟨(-4, f), (-4, xu h 0 0 0), ?_, ?_, rfl, Rel_ok hR (by omega) okC.r0 (okM_t 0) hs⟩
      · simp only [pX11_write, pX10_add, c1, c2, t2, d1, d2, ↓reduceIte, Option.bind_some]
      · simp only [pX12_write, c3, e2, d3, ↓reduceIte]
    · have d2 : nI tl < (40 : Int32) := nI_lt (b := 40) (by omega) (by omega)
      have d3 : ¬ nI tl = (40 : Int32) := fun q => h40 (nI_inj (by omega) (by omega) q)
      have d4 : xin (nI tl) 40 := xin_of (by omega) (by omega)
      have d5 : (nI tl).toNatClampNeg = tl := nI_clamp (by omega)
      refine ⟨(nI (tl + 1), xu (xu f 13 tl (nI b)) 1 4 (nI (tl + 1))), (nI (tl + 1), xu (xu (xu h 0 0 0) 1 tl (nI b)) 0 2 (nI (tl + 1))), ?_, ?_, rfl, ?_⟩
      · have e4 : xu f 13 tl (nI b) 1 4 = nI tl := by rw [xu_ne (by decide)]; exact t2
        simp only [pX11_write, pX10_add, c1, c2, t2, d1, d2, if_pos d4, d5, ↓reduceIte, Option.bind_some, e4]
        rw [if_neg (by decide)]
        rw [show nI tl + (1 : Int32) = nI (tl + 1) from nI_1 tl, xu_same]
      · have e4 : xu (xu h 0 0 (0 : Int32)) 1 tl (nI b) 0 2 = nI tl := by rw [xu_ne (by decide)]; exact e2
        simp only [pX12_write, c3, e2, d3, if_pos d4, d5, ↓reduceIte, e4]
        rw [show nI tl + (1 : Int32) = nI (tl + 1) from nI_1 tl, xu_same]
      · obtain ⟨p1, p2, p3, p4, p5, p6, p7, p8, p9, p10, p11, p12, p13⟩ := hP
        obtain ⟨q1, q2, q3, q4, q5, q6, q7⟩ := hA
        show Rel (n + 1) (xu (xu f 13 tl (nI b)) 1 4 (nI (tl + 1))) g (xu (xu (xu h 0 0 0) 1 tl (nI b)) 0 2 (nI (tl + 1))) k
        refine ⟨w, c, r, t, A0, A, b0, b1, ⟨tl + 1, fun j => if j = tl then b else tx j, by omega, xu_same, xu_same, fun j hj => ?_⟩, ⟨p1, p2, p3, p4, p5, p6, p7, p8, p9, p10, p11, p12, p13⟩, hD, hp, ⟨q1, q2, by omega, q4, q5, q6, q7⟩, hK, hs⟩
        dsimp only
        by_cases hj2 : j = tl
        · subst hj2
          rw [if_pos rfl]
          refine ⟨hb, ?_, ?_⟩
          · rw [show xu (xu f 13 j (nI b)) 1 4 (nI (j + 1)) 13 j = xu f 13 j (nI b) 13 j by rw [xu_ne (by decide)], xu_same]
          · rw [show xu (xu (xu h 0 0 0) 1 j (nI b)) 0 2 (nI (j + 1)) 1 j = xu (xu h 0 0 0) 1 j (nI b) 1 j by rw [xu_ne (by decide)], xu_same]
        · rw [if_neg hj2]
          obtain ⟨s1, s2, s3⟩ := t4 j (by omega)
          refine ⟨s1, ?_, ?_⟩
          · rw [show xu (xu f 13 tl (nI b)) 1 4 (nI (tl + 1)) 13 j = xu f 13 tl (nI b) 13 j by rw [xu_ne (by decide)], xu_neK hj2]; exact s2
          · rw [show xu (xu (xu h 0 0 0) 1 tl (nI b)) 0 2 (nI (tl + 1)) 1 j = xu (xu h 0 0 0) 1 tl (nI b) 1 j by rw [xu_ne (by decide)], xu_neK hj2, xu_ne (by decide)]; exact s3
  · have c3 : pX12_in v1.toInt64 0 255 = 0 := by rw [in0_eq (m := 255) (by omega) rfl]; exact hv
    refine ⟨(-2, f), (-2, xu h 0 0 0), ?_, ?_, rfl, Rel_ok hR (by omega) okC.r0 (okM_t 0) hs⟩
    · unfold pX11_write
      by_cases c1 : v1 < 0
      · rw [if_pos c1]
      · rw [if_neg c1, if_neg]
        intro c2
        apply hv
        rw [isN_iff (by omega)]
        refine ⟨c1, ?_⟩
        rw [Int32.lt_iff_toInt_lt, nI_toInt (by omega)]
        rw [Int32.le_iff_toInt_le, show (255 : Int32).toInt = 255 from rfl] at c2
        omega
    · simp only [pX12_write, c3, ↓reduceIte]
theorem e_wipe {n : Nat} {f : xM} {g : xN} {h : xM} {k : xN} (hn : n ≤ 100) (hR : Rel n f g h k) : ∃ (F : Nat) (a : Int32 × xM) (b : Int32 × xM), pX11_wipe f = a ∧ pX12_wipe h = b ∧ a.1 = b.1 ∧ Rel (n + 1) a.2 g b.2 k := by
  obtain ⟨w, c, r, t, A0, A, b0, b1, ⟨tl, tx, t1, t2, t3, t4⟩, hP, hD, hp, hA, hK, hs⟩ := id hR
  obtain ⟨q1, q2, q3, q4, q5, q6, q7⟩ := hA
  refine ⟨0, _, _, rfl, rfl, ?_, w, c, r, t, A0, A, b0, b1, ⟨0, tx, by omega, ?_, ?_, fun j hj => by omega⟩, hP, hD, hp, ⟨q1, q2, by omega, q4, q5, q6, q7⟩, hK, hs⟩
  · show f 1 4 = xu h 0 0 (0 : Int32) 0 2
    rw [xu_neK (by decide), t2, t3]
  · show xu f 1 4 (0 : Int32) 1 4 = nI 0
    rw [xu_same]; rfl
  · show xu (xu h 0 0 (0 : Int32)) 0 2 (0 : Int32) 0 2 = nI 0
    rw [xu_same]; rfl
theorem e_seed {n : Nat} {f : xM} {g : xN} {h : xM} {k : xN} (hn : n ≤ 100) (hR : Rel n f g h k) (v1 : Int64) : ∃ (F : Nat) (a : Int64 × xN) (b : Int64 × xM × xN), pX11_seed v1 g = a ∧ pX12_seed v1 h k = b ∧ a.1 = b.1 ∧ Rel (n + 1) f a.2 b.2.1 b.2.2 := by
  refine ⟨0, _, _, rfl, rfl, Rel_g hR, Rel_ok hR (by omega) okC.r0 (okM_t 0) ?_⟩
  show xu g 0 10 v1 0 10 = xu k 0 24 v1 0 24
  rw [xu_same, xu_same]
