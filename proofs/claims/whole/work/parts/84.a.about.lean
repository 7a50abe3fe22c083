theorem or0 (a : Int32) : a ||| (0 : Int32) = a := by simp
theorem about_loop {F w c r t : Nat} {f h : xM} {v1 : Int32} (hr : r ≤ 4) (f5 : f 2 5 = nI r) (h7 : h 0 7 = nI r) (f6 : f 2 6 = nI t) (h5 : h 0 5 = nI t) (hD : rD r f h) (hpg : pgR w c r (f 19) (h 7)) : ∀ (n j : Nat) (a b : Int32), j ≤ r → r < j + n → ∃ ra rb, pX6_readingToday_b4 F f n a (nI j) = some ra ∧ pX6_believingTruth_b4 F f n b (nI j) = some rb ∧ pX12_about_b12 F n v1 a b (nI j) h = pX12_about_b12 F 1 v1 ra rb (nI r) h := by
  intro n
  induction n with
  | zero => intro j a b h1 h2; omega
  | succ n ih =>
    intro j a b h1 h2
    rw [pX6_readingToday_b4, pX6_believingTruth_b4, f5]
    by_cases hj : r ≤ j
    · have e : j = r := by omega
      subst e
      rw [if_pos (nI_le hj (by omega)), if_pos (nI_le hj (by omega))]
      refine ⟨a, b, rfl, rfl, ?_⟩
      rw [pX12_about_b12, pX12_about_b12, h7, if_pos (nI_le hj (by omega)), if_pos (nI_le hj (by omega))]
    · obtain ⟨pe, le, d1, d2, d3, d4, d5, d6, d7⟩ := hD j (by omega)
      obtain ⟨q, q1, q2, q3⟩ := hpg.2.2.2 j (by omega)
      have x1 : xin (nI (5 + j)) 9 := xin_of (by omega) (by omega)
      have y1 : (nI (5 + j)).toNatClampNeg = 5 + j := nI_clamp (by omega)
      have ng : ¬ nI r ≤ nI j := nI_ge (by omega) (by omega)
      have ej : nI j + (1 : Int32) = nI (j + 1) := nI_1 j
      rw [if_neg ng, if_neg ng, show pX9_day f = h 7 1 from hpg.2.1, readsOn_eq (show j < 4 by omega) d1 d2 d4 d6, beliefOf_eq (show j < 4 by omega)]
      rw [pX12_about_b12, h7, if_neg ng, doesRead7_eq (show j < 4 by omega) d1 d2 d5 d7]
      simp only [Option.bind_some, pX12_about_b43, ad5, if_pos x1, y1, q2, q3, f6, h5, or0, ej]
      rcases rdI_cases (h 7 1) pe le with hz | hz
      · simp only [hz, ↓reduceIte]
        by_cases hq : nI q = nI t
        · simp only [if_pos hq]
          exact ih (j + 1) _ _ (by omega) (by omega)
        · simp only [if_neg hq]
          exact ih (j + 1) _ _ (by omega) (by omega)
      · simp only [hz, if_neg (show ¬ (1 : Int32) = 0 by decide)]
        by_cases hq : nI q = nI t
        · simp only [if_pos hq]
          exact ih (j + 1) _ _ (by omega) (by omega)
        · simp only [if_neg hq]
          exact ih (j + 1) _ _ (by omega) (by omega)
set_option maxHeartbeats 1000000 in
theorem e_about {n : Nat} {f : xM} {g : xN} {h : xM} {k : xN} (hn : n ≤ 100) (hR : Rel n f g h k) (v1 : Int32) : ∃ (F : Nat) (a : Int32) (b : Int32 × xM), pX11_about F f v1 = some a ∧ pX12_about F v1 h = some b ∧ a = b.1 ∧ Rel (n + 1) f g b.2 k := by
  have hR2 : Rel (n + 1) f g (xu h 0 0 0) k := Rel_ok hR (by omega) okC.r0 (okM_t 0) (Rel_g hR)
  obtain ⟨w, c, r, t, hW⟩ := Rel_W hR2
  generalize hh : xu h 0 0 (0 : Int32) = h2 at hR2 hW
  obtain ⟨p1, p2, p3, p4, p5, p6, p7, p8, p9, p10, p11, p12, p13⟩ := RelW_P hW
  have hb := p4_le p2
  have hp := RelW_pg hW
  obtain ⟨s, s1, s2, s3⟩ := hp.1
  obtain ⟨ra, rb, l1, l2, l3⟩ := about_loop (F := 10) (v1 := v1) p4 p12 p13 p8 p9 (RelW_D hW) hp 10 0 0 0 (by omega) (by omega)
  obtain ⟨tr, ht1, ht2⟩ := told_eq (F := 10) (f := f) (h := h2) (w := w) (s := t) (by omega) p2 p7 p6 (by omega)
  obtain ⟨sr, hs1, hs2⟩ := told_eq (F := 10) (f := f) (h := h2) (w := w) (s := s) (by omega) p2 p7 p6 (by omega)
  have hA : f 3 2 = h2 0 21 := by obtain ⟨a, A, b0, b1, -, -, -, -, hA, -⟩ := hW; rw [hA.2.2.2.1, hA.2.2.2.2.2.1]
  have hT : f 1 4 = h2 0 2 := by obtain ⟨a, A, b0, b1, ⟨tl, tx, t1, t2, t3, -⟩, -⟩ := hW; rw [t2, t3]
  refine ⟨10, ?_⟩
  have l3' : pX12_about_b12 10 10 v1 0 0 0 h2 = pX12_about_b12 10 1 v1 ra rb (nI r) h2 := l3
  have l1' : pX6_readingToday 10 f = some ra := l1
  have l2' : pX6_believingTruth 10 f = some rb := l2
  unfold pX11_about pX12_about
  rw [hh, l3', pX12_about_b12, p13, if_pos (nI_le (Nat.le_refl r) (by omega)), p9, s3, ht1, hs1, rightOf_eq (by omega) p2 p7 p9 (by omega) (by omega), p8, show pX9_said f = nI s from s2, ht2, hs2, l1', l2', rightOf6_eq p1 p2 p6 p8 s1 p5, p10, p11, p12, p6, p7, hA, hT, show pX9_day f = h2 7 1 from hp.2.1]
  simp only [Option.bind_some]
  by_cases z0 : v1 = (0 : Int32)
  · exact ⟨nI c, (nI c, h2), by rw [if_pos z0], by rw [if_pos z0], rfl, hR2⟩
  by_cases z1 : v1 = (1 : Int32)
  · exact ⟨nI r, (nI r, h2), by rw [if_neg z0, if_pos z1], by rw [if_neg z0, if_pos z1], rfl, hR2⟩
  by_cases z2 : v1 = (2 : Int32)
  · exact ⟨nI w, (nI w, h2), by rw [if_neg z0, if_neg z1, if_pos z2], by rw [if_neg z0, if_neg z1, if_pos z2], rfl, hR2⟩
  by_cases z3 : v1 = (3 : Int32)
  · exact ⟨tr, (tr, h2), by rw [if_neg z0, if_neg z1, if_neg z2, if_pos z3], by rw [if_neg z0, if_neg z1, if_neg z2, if_pos z3], rfl, hR2⟩
  by_cases z4 : v1 = (4 : Int32)
  · exact ⟨sr, (sr, h2), by rw [if_neg z0, if_neg z1, if_neg z2, if_neg z3, if_pos z4], by rw [if_neg z0, if_neg z1, if_neg z2, if_neg z3, if_pos z4], rfl, hR2⟩
  by_cases z5 : v1 = (5 : Int32)
  · exact ⟨nI (rgt w s t), (nI (rgt w s t), h2), by rw [if_neg z0, if_neg z1, if_neg z2, if_neg z3, if_neg z4, if_pos z5], by rw [if_neg z0, if_neg z1, if_neg z2, if_neg z3, if_neg z4, if_pos z5], rfl, hR2⟩
  by_cases z6 : v1 = (6 : Int32)
  · exact ⟨h2 7 1, (h2 7 1, h2), by rw [if_neg z0, if_neg z1, if_neg z2, if_neg z3, if_neg z4, if_neg z5, if_pos z6], by rw [if_neg z0, if_neg z1, if_neg z2, if_neg z3, if_neg z4, if_neg z5, if_pos z6], rfl, hR2⟩
  by_cases z7 : v1 = (7 : Int32)
  · exact ⟨ra, (ra, h2), by rw [if_neg z0, if_neg z1, if_neg z2, if_neg z3, if_neg z4, if_neg z5, if_neg z6, if_pos z7], by rw [if_neg z0, if_neg z1, if_neg z2, if_neg z3, if_neg z4, if_neg z5, if_neg z6, if_pos z7], rfl, hR2⟩
  by_cases z8 : v1 = (8 : Int32)
  · exact ⟨rb, (rb, h2), by rw [if_neg z0, if_neg z1, if_neg z2, if_neg z3, if_neg z4, if_neg z5, if_neg z6, if_neg z7, if_pos z8], by rw [if_neg z0, if_neg z1, if_neg z2, if_neg z3, if_neg z4, if_neg z5, if_neg z6, if_neg z7, if_pos z8], rfl, hR2⟩
  by_cases z9 : v1 = (9 : Int32)
  · exact ⟨h2 0 21, (h2 0 21, h2), by rw [if_neg z0, if_neg z1, if_neg z2, if_neg z3, if_neg z4, if_neg z5, if_neg z6, if_neg z7, if_neg z8, if_pos z9], by rw [if_neg z0, if_neg z1, if_neg z2, if_neg z3, if_neg z4, if_neg z5, if_neg z6, if_neg z7, if_neg z8, if_pos z9], rfl, hR2⟩
  by_cases z10 : v1 = (10 : Int32)
  · exact ⟨h2 0 2, (h2 0 2, h2), by rw [if_neg z0, if_neg z1, if_neg z2, if_neg z3, if_neg z4, if_neg z5, if_neg z6, if_neg z7, if_neg z8, if_neg z9, if_pos z10], by rw [if_neg z0, if_neg z1, if_neg z2, if_neg z3, if_neg z4, if_neg z5, if_neg z6, if_neg z7, if_neg z8, if_neg z9, if_pos z10], rfl, hR2⟩
  exact ⟨-2, (-2, h2), by rw [if_neg z0, if_neg z1, if_neg z2, if_neg z3, if_neg z4, if_neg z5, if_neg z6, if_neg z7, if_neg z8, if_neg z9, if_neg z10], by rw [if_neg z0, if_neg z1, if_neg z2, if_neg z3, if_neg z4, if_neg z5, if_neg z6, if_neg z7, if_neg z8, if_neg z9, if_neg z10], rfl, hR2⟩
