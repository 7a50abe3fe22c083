/-! ===== paper ===== -/
def mk0 (f : xM) : xM :=
  xu (xu (cpy2 (cpy2 (xu (xu (xu (xu f 10 0 (f 1 7)) 2 6 (f 1 9)) 2 4 (f 1 5)) 2 5 (f 1 6)) 17 0 15 0 4) 18 0 16 0 4) 19 0 (f 1 10)) 19 1 (0 : Int32)
theorem mk0_eq {F : Nat} {f : xM} : pX6_makeAnew F f = pX6_makeAnew_b83 F F (0 : Int32) (mk0 f) := by
  unfold pX6_makeAnew pX9_startDays pX9_setSaid mk0
  have e1 : (xu f 10 0 (f 1 7)) 1 9 = f 1 9 := by rw [xu_ne (by decide)]
  rw [e1]
  have e2 : (xu (xu f 10 0 (f 1 7)) 2 6 (f 1 9)) 1 5 = f 1 5 := by rw [xu_ne (by decide), xu_ne (by decide)]
  rw [e2]
  have e3 : (xu (xu (xu f 10 0 (f 1 7)) 2 6 (f 1 9)) 2 4 (f 1 5)) 1 6 = f 1 6 := by rw [xu_ne (by decide), xu_ne (by decide), xu_ne (by decide)]
  rw [e3]
  have e4 : ∀ y, (xu (xu (xu (xu f 10 0 (f 1 7)) 2 6 (f 1 9)) 2 4 (f 1 5)) 2 5 (f 1 6)) 1 y = f 1 y := fun y => by rw [xu_ne (by decide), xu_ne (by decide), xu_ne (by decide), xu_ne (by decide)]
  generalize xu (xu (xu (xu f 10 0 (f 1 7)) 2 6 (f 1 9)) 2 4 (f 1 5)) 2 5 (f 1 6) = g at e4
  rw [show (0 : Int32).toNatClampNeg = 0 from rfl, show (4 : Int32).toNatClampNeg = 4 from rfl, xrow_cpy, xrow_cpy, cpy2_ne (show (1 : Nat) ≠ 18 by decide), cpy2_ne (show (1 : Nat) ≠ 17 by decide), e4]
theorem mk0_o {f : xM} {z : Nat} (h1 : z ≠ 10) (h2 : z ≠ 2) (h3 : z ≠ 17) (h4 : z ≠ 18) (h5 : z ≠ 19) : mk0 f z = f z := by
  unfold mk0
  rw [xu_ne h5, xu_ne h5, cpy2_ne h4, cpy2_ne h3, xu_ne h2, xu_ne h2, xu_ne h2, xu_ne h1]
theorem mk0_17 {f : xM} {j : Nat} (hj : j < 4) : mk0 f 17 j = f 15 j := by
  unfold mk0
  rw [xu_ne (by decide), xu_ne (by decide), cpy2_ne (by decide), cpy2_in (by omega) (by omega), xu_ne (by decide), xu_ne (by decide), xu_ne (by decide), xu_ne (by decide)]
  congr 1
  omega
theorem mk0_18 {f : xM} {j : Nat} (hj : j < 4) : mk0 f 18 j = f 16 j := by
  unfold mk0
  rw [xu_ne (by decide), xu_ne (by decide), cpy2_in (by omega) (by omega), cpy2_ne (by decide), xu_ne (by decide), xu_ne (by decide), xu_ne (by decide), xu_ne (by decide)]
  congr 1
  omega
theorem mk0_2 {f : xM} : mk0 f 2 6 = f 1 9 ∧ mk0 f 2 4 = f 1 5 ∧ mk0 f 2 5 = f 1 6 := by
  unfold mk0
  rw [xu_ne (by decide), xu_ne (by decide), cpy2_ne (by decide), cpy2_ne (by decide)]
  exact ⟨by rw [xu_neK (by decide), xu_neK (by decide), xu_same], by rw [xu_neK (by decide), xu_same], by rw [xu_same]⟩
theorem mk0_10 {f : xM} : mk0 f 10 0 = f 1 7 := by
  unfold mk0
  rw [xu_ne (by decide), xu_ne (by decide), cpy2_ne (by decide), cpy2_ne (by decide), xu_ne (by decide), xu_ne (by decide), xu_ne (by decide), xu_same]
theorem mk0_19 {f : xM} : mk0 f 19 0 = f 1 10 ∧ mk0 f 19 1 = 0 := by
  unfold mk0
  exact ⟨by rw [xu_neK (by decide), xu_same], by rw [xu_same]⟩
theorem b122p {F r : Nat} {v : Int32} (hr : r ≤ 4) : ∀ (n j : Nat) (f : xM), f 2 5 = nI r → f 1 10 = v → j ≤ r → r < j + n → ∃ f', pX6_makeAnew_b122 F n (nI j) f = some f' ∧ (∀ z, z ≠ 19 → f' z = f z) ∧ (∀ y, y < 5 → f' 19 y = f 19 y) ∧ (∀ i, i < j → f' 19 (5 + i) = f 19 (5 + i)) ∧ ∀ i, j ≤ i → i < r → f' 19 (5 + i) = v := by
  intro n
  induction n with
  | zero => intro j f _ _ z1 z2; omega
  | succ n ih =>
    intro j f f25 fv z1 z2
    rw [pX6_makeAnew_b122, f25]
    by_cases hj : r ≤ j
    · rw [if_pos (nI_le hj (by omega))]
      exact ⟨f, rfl, fun _ _ => rfl, fun _ _ => rfl, fun _ _ => rfl, fun i q1 q2 => by omega⟩
    · rw [if_neg (nI_ge (by omega) (by omega)), fv, setBelief_eq (show j < 4 by omega), Option.bind_some, show nI j + (1 : Int32) = nI (j + 1) from nI_1 j]
      obtain ⟨f', g1, g2, g3, g4, g5⟩ := ih (j + 1) (xu f 19 (5 + j) v) (by rw [xu_ne (by decide)]; exact f25) (by rw [xu_ne (by decide)]; exact fv) (by omega) (by omega)
      refine ⟨f', g1, fun z hz => by rw [g2 z hz, xu_ne hz], fun y hy => by rw [g3 y hy, xu_neK (by omega)], fun i hi => by rw [g4 i (by omega), xu_neK (by omega)], fun i q1 q2 => ?_⟩
      by_cases e : i = j
      · subst e; rw [g4 i (by omega), xu_same]
      · exact g5 i (by omega) q2
theorem b83p {F c r : Nat} {v : Int32} (hF : 10 < F) (hc : c ≤ 3) (hr : r ≤ 4) : ∀ (n a : Nat) (f : xM), f 2 4 = nI c → f 2 5 = nI r → f 1 10 = v → a ≤ c → c < a + n → (∀ i, i < a → f 19 (2 + i) = f 14 i) → ∃ f', pX6_makeAnew_b83 F n (nI a) f = some f' ∧ (∀ z, z ≠ 19 → f' z = f z) ∧ f' 19 0 = f 19 0 ∧ f' 19 1 = f 19 1 ∧ (∀ i, i < c → f' 19 (2 + i) = f 14 i) ∧ ∀ i, i < r → f' 19 (5 + i) = v := by
  intro n
  induction n with
  | zero => intro a f _ _ _ z1 z2; omega
  | succ n ih =>
    intro a f f24 f25 fv z1 z2 hi
    rw [pX6_makeAnew_b83, f24]
    by_cases ha : c ≤ a
    · rw [if_pos (nI_le ha (by omega))]
      obtain ⟨f', g1, g2, g3, g4, g5⟩ := b122p (F := F) (v := v) hr F 0 f f25 fv (by omega) (by omega)
      exact ⟨f', g1, g2, g3 0 (by omega), g3 1 (by omega), fun i q => by rw [g3 (2 + i) (by omega)]; exact hi i (by omega), fun i q => g5 i (by omega) q⟩
    · rw [if_neg (nI_ge (by omega) (by omega)), if_neg (show ¬ (3 : Int32) ≤ nI a from nI_ge (b := 3) (by omega) (by omega)), if_pos (xin_of (show a < 3 by omega) (by omega)), nI_clamp (by omega), setKind_eq (show a < 3 by omega), Option.bind_some, show nI a + (1 : Int32) = nI (a + 1) from nI_1 a]
      obtain ⟨f', g1, g2, g3, g4, g5, g6⟩ := ih (a + 1) (xu f 19 (2 + a) (f 14 a)) (by rw [xu_ne (by decide)]; exact f24) (by rw [xu_ne (by decide)]; exact f25) (by rw [xu_ne (by decide)]; exact fv) (by omega) (by omega) (fun i q => by
        rw [xu_ne (show (14 : Nat) ≠ 19 by decide)]
        by_cases e : i = a
        · subst e; rw [xu_same]
        · rw [xu_neK (by omega)]; exact hi i (by omega))
      refine ⟨f', g1, fun z hz => by rw [g2 z hz, xu_ne hz], by rw [g3, xu_neK (by omega)], by rw [g4, xu_neK (by omega)], fun i q => ?_, g6⟩
      rw [g5 i q, xu_ne (by decide)]
/-! the reference -/
def pm0 (h : xM) : xM := xu (xu (xu (xu h 0 4 (h 0 10)) 0 5 (h 0 11)) 0 6 (h 0 13)) 0 7 (h 0 14)
theorem b112p {F c r : Nat} {v : Int32} (hr : r ≤ 4) : ∀ (n j : Nat) (h : xM), h 0 7 = nI r → h 0 6 = nI c → h 0 12 = v → j ≤ r → r < j + n → (∀ i, i < j → h 2 i = h 5 i ∧ h 3 i = h 6 i ∧ h 7 (5 + i) = v) → ∃ h', pX12_paper_b112 F n (nI j) h = some ((10 : Int32) * nI c + nI r, h') ∧ (∀ z, z ≠ 0 → z ≠ 2 → z ≠ 3 → z ≠ 7 → z ≠ 11 → h' z = h z) ∧ (∀ y, y ≠ 21 → h' 0 y = h 0 y) ∧ h' 0 21 = 0 ∧ h' 11 0 = 0 ∧ h' 11 1 = 0 ∧ (∀ y, y < 5 → h' 7 y = h 7 y) ∧ ∀ i, i < r → h' 2 i = h 5 i ∧ h' 3 i = h 6 i ∧ h' 7 (5 + i) = v := by
  intro n
  induction n with
  | zero => intro j h _ _ _ z1 z2; omega
  | succ n ih =>
    intro j h h07 h06 hv z1 z2 hi
    rw [pX12_paper_b112]
    by_cases hj : r ≤ j
    · rw [h07, if_pos (nI_le hj (by omega)), show xu (xu (xu h 0 21 (0 : Int32)) 11 0 (0 : Int32)) 11 1 (0 : Int32) 0 6 = nI c by rw [xu_ne (by decide), xu_ne (by decide), xu_neK (by decide)]; exact h06, show xu (xu (xu h 0 21 (0 : Int32)) 11 0 (0 : Int32)) 11 1 (0 : Int32) 0 7 = nI r by rw [xu_ne (by decide), xu_ne (by decide), xu_neK (by decide)]; exact h07]
      refine ⟨_, rfl, fun z y1 y2 y3 y4 y5 => by rw [xu_ne y5, xu_ne y5, xu_ne y1], fun y y1 => by rw [xu_ne (by decide), xu_ne (by decide), xu_neK y1], by rw [xu_ne (by decide), xu_ne (by decide), xu_same], by rw [xu_neK (by decide), xu_same], xu_same, fun y y1 => by rw [xu_ne (by decide), xu_ne (by decide), xu_ne (by decide)], fun i q => ?_⟩
      have := hi i (by omega)
      rw [xu_ne (by decide), xu_ne (by decide), xu_ne (by decide), xu_ne (by decide), xu_ne (by decide), xu_ne (by decide), xu_ne (by decide), xu_ne (by decide), xu_ne (by decide)]
      exact this
    · have x4 : xin (nI j) 4 := xin_of (show j < 4 by omega) (by omega)
      have x9 : xin (nI (5 + j)) 9 := xin_of (show 5 + j < 9 by omega) (by omega)
      have e0 : xu (xu h 2 j (h 5 j)) 3 j (xu h 2 j (h 5 j) 6 j) 0 12 = v := by rw [xu_ne (by decide), xu_ne (by decide)]; exact hv
      have e6 : xu h 2 j (h 5 j) 6 j = h 6 j := by rw [xu_ne (by decide)]
      rw [e6] at e0
      simp only [h07, if_neg (nI_ge (show j < r by omega) (by omega)), if_pos x4, ad5, if_pos x9, nI_clamp (show j < 2 ^ 31 by omega), nI_clamp (show 5 + j < 2 ^ 31 by omega), show nI j + (1 : Int32) = nI (j + 1) from nI_1 j, e6, e0]
      obtain ⟨h', g1, g2, g3, g4, g5, g6, g7, g8⟩ := ih (j + 1) (xu (xu (xu h 2 j (h 5 j)) 3 j (h 6 j)) 7 (5 + j) v) (by rw [xu_ne (by decide), xu_ne (by decide), xu_ne (by decide)]; exact h07) (by rw [xu_ne (by decide), xu_ne (by decide), xu_ne (by decide)]; exact h06) (by rw [xu_ne (by decide), xu_ne (by decide), xu_ne (by decide)]; exact hv) (by omega) (by omega) (fun i q => by
        by_cases e : i = j
        · subst e
          simp [xu_at]
        · have := hi i (by omega)
          have e5 : ¬ 5 + i = 5 + j := by omega
          simpa [xu_at, e] using this)
      refine ⟨h', g1, fun z y1 y2 y3 y4 y5 => by rw [g2 z y1 y2 y3 y4 y5, xu_ne y4, xu_ne y3, xu_ne y2], fun y y1 => by rw [g3 y y1, xu_ne (by decide), xu_ne (by decide), xu_ne (by decide)], g4, g5, g6, fun y y1 => by rw [g7 y y1, xu_neK (by omega), xu_ne (by decide), xu_ne (by decide)], fun i q => ?_⟩
      have := g8 i q
      rw [xu_ne (show (5 : Nat) ≠ 7 by decide), xu_ne (show (5 : Nat) ≠ 3 by decide), xu_ne (show (5 : Nat) ≠ 2 by decide), xu_ne (show (6 : Nat) ≠ 7 by decide), xu_ne (show (6 : Nat) ≠ 3 by decide), xu_ne (show (6 : Nat) ≠ 2 by decide)] at this
      exact this
theorem b82p {F c : Nat} (hc : c ≤ 3) : ∀ (n a : Nat) (h : xM), h 0 6 = nI c → a ≤ c → c < a + n → (∀ i, i < a → h 7 (2 + i) = h 4 i) → ∃ h', pX12_paper_b82 F n (nI a) h = pX12_paper_b112 F F (nI 0) h' ∧ (∀ z, z ≠ 7 → h' z = h z) ∧ h' 7 0 = h 7 0 ∧ h' 7 1 = h 7 1 ∧ ∀ i, i < c → h' 7 (2 + i) = h 4 i := by
  intro n
  induction n with
  | zero => intro a h _ z1 z2; omega
  | succ n ih =>
    intro a h h06 z1 z2 hi
    rw [pX12_paper_b82, h06]
    by_cases ha : c ≤ a
    · rw [if_pos (nI_le ha (by omega))]
      exact ⟨h, rfl, fun _ _ => rfl, rfl, rfl, fun i q => hi i (by omega)⟩
    · rw [if_neg (nI_ge (by omega) (by omega)), if_pos (xin_of (show a < 3 by omega) (by omega)), ad2, if_pos (xin_of (show 2 + a < 9 by omega) (by omega)), nI_clamp (by omega), nI_clamp (by omega), show nI a + (1 : Int32) = nI (a + 1) from nI_1 a]
      obtain ⟨h', g1, g2, g3, g4, g5⟩ := ih (a + 1) (xu h 7 (2 + a) (h 4 a)) (by rw [xu_ne (by decide)]; exact h06) (by omega) (by omega) (fun i q => by
        rw [xu_ne (show (4 : Nat) ≠ 7 by decide)]
        by_cases e : i = a
        · subst e; rw [xu_same]
        · rw [xu_neK (by omega)]; exact hi i (by omega))
      refine ⟨h', g1, fun z hz => by rw [g2 z hz, xu_ne hz], by rw [g3, xu_neK (by omega)], by rw [g4, xu_neK (by omega)], fun i q => ?_⟩
      rw [g5 i q, xu_ne (by decide)]
theorem b51p {F : Nat} : ∀ (n a : Nat) (h : xM), a ≤ 9 → 9 < a + n → (∀ i, i < a → h 7 i = 0) → ∃ h', pX12_paper_b51 F n (nI a) h = pX12_paper_b82 F F (nI 0) h' ∧ (∀ z, z ≠ 7 → h' z = h z) ∧ h' 7 0 = h 0 12 ∧ h' 7 1 = 0 := by
  intro n
  induction n with
  | zero => intro a h z1 z2; omega
  | succ n ih =>
    intro a h z1 z2 hi
    rw [pX12_paper_b51]
    by_cases ha : 9 ≤ a
    · rw [if_pos (show (9 : Int32) ≤ nI a from nI_le (a := 9) ha (by omega))]
      exact ⟨_, rfl, fun z hz => xu_ne hz, xu_same, by rw [xu_neK (by decide)]; exact hi 1 (by omega)⟩
    · rw [if_neg (show ¬ (9 : Int32) ≤ nI a from nI_ge (b := 9) (by omega) (by omega)), if_pos (xin_of (show a < 9 by omega) (by omega)), nI_clamp (by omega), show nI a + (1 : Int32) = nI (a + 1) from nI_1 a]
      obtain ⟨h', g1, g2, g3, g4⟩ := ih (a + 1) (xu h 7 a (0 : Int32)) (by omega) (by omega) (fun i q => by
        by_cases e : i = a
        · subst e; exact xu_same
        · rw [xu_neK e]; exact hi i (by omega))
      exact ⟨h', g1, fun z hz => by rw [g2 z hz, xu_ne hz], by rw [g3, xu_ne (by decide)], g4⟩
theorem e_paper {n : Nat} {f : xM} {g : xN} {h : xM} {k : xN} (hn : n ≤ 100) (hR : Rel n f g h k) : ∃ (F : Nat) (a : Int32 × xM) (b : Int32 × xM), pX11_paper F f = some a ∧ pX12_paper F h = some b ∧ a.1 = b.1 ∧ Rel (n + 1) a.2 g b.2 k := by
  obtain ⟨w0, c0, r0, t0, hW⟩ := Rel_open hR
  have hR2 := hW.rel
  generalize hh : xu h 0 0 (0 : Int32) = h2 at hW hR2
  obtain ⟨tl, tx, hB⟩ := RelW_T hW
  obtain ⟨q, f', h', r1, r2, r3, r4, r5⟩ := reads_eq (F := 100) (by omega) hB
  refine ⟨100, ?_⟩
  unfold pX11_paper pX12_paper
  rw [hh, r1, r2, Option.bind_some, Option.bind_some]
  dsimp only
  by_cases hq : q = -9
  · rw [if_pos hq, if_pos hq]
    obtain ⟨w, t, s, c, r, ⟨n1, n2, n3, n4, n5, n6, n7, n8, n9, n10⟩, p1, p2, p3, p4, p5, p6, p7, p8⟩ := r5 hq
    have hB' := tB_of hB r3 r4
    obtain ⟨b1, b2, b3, b4⟩ := hB'
    -- the class
    have fo : ∀ z, z ≠ 10 → z ≠ 2 → z ≠ 17 → z ≠ 18 → z ≠ 19 → mk0 f' z = f' z := fun z a1 a2 a3 a4 a5 => mk0_o a1 a2 a3 a4 a5
    obtain ⟨m6, m4, m5⟩ := mk0_2 (f := f')
    obtain ⟨m190, m191⟩ := mk0_19 (f := f')
    obtain ⟨f3, g1, g2, g3, g4, g5, g6⟩ := b83p (F := 100) (c := c) (r := r) (v := nI s) (by omega) p1 p2 100 0 (mk0 f') (by rw [m4]; exact p3) (by rw [m5]; exact p5) (by rw [fo 1 (by decide) (by decide) (by decide) (by decide) (by decide)]; exact n9) (by omega) (by omega) (fun i hi => by omega)
    have g1' : pX6_makeAnew 100 f' = some f3 := by rw [mk0_eq]; exact g1
    rw [g1', Option.bind_some]
    have k24 : (xu (pX3_forget f3) 0 9 (0 : Int32)) 2 4 = nI c := by unfold pX3_forget; rw [xu_ne (by decide), xu_ne (by decide), xu_ne (by decide), g2 2 (by decide), m4]; exact p3
    have k25 : (xu (pX3_forget f3) 0 9 (0 : Int32)) 2 5 = nI r := by unfold pX3_forget; rw [xu_ne (by decide), xu_ne (by decide), xu_ne (by decide), g2 2 (by decide), m5]; exact p5
    rw [k24, k25]
    -- the reference
    have e1 : (xu h' 0 4 (h' 0 10)) 0 11 = h' 0 11 := by rw [xu_neK (by decide)]
    rw [e1]
    have e2 : (xu (xu h' 0 4 (h' 0 10)) 0 5 (h' 0 11)) 0 13 = h' 0 13 := by rw [xu_neK (by decide), xu_neK (by decide)]
    rw [e2]
    have e3 : (xu (xu (xu h' 0 4 (h' 0 10)) 0 5 (h' 0 11)) 0 6 (h' 0 13)) 0 14 = h' 0 14 := by rw [xu_neK (by decide), xu_neK (by decide), xu_neK (by decide)]
    rw [e3]
    have o1 : ∀ z, z ≠ 0 → xu (xu (xu (xu h' 0 4 (h' 0 10)) 0 5 (h' 0 11)) 0 6 (h' 0 13)) 0 7 (h' 0 14) z = h' z := fun z hz => by rw [xu_ne hz, xu_ne hz, xu_ne hz, xu_ne hz]
    have o2 : ∀ y, y ≠ 4 → y ≠ 5 → y ≠ 6 → y ≠ 7 → xu (xu (xu (xu h' 0 4 (h' 0 10)) 0 5 (h' 0 11)) 0 6 (h' 0 13)) 0 7 (h' 0 14) 0 y = h' 0 y := fun y y1 y2 y3 y4 => by rw [xu_neK y4, xu_neK y3, xu_neK y2, xu_neK y1]
    have o4 : xu (xu (xu (xu h' 0 4 (h' 0 10)) 0 5 (h' 0 11)) 0 6 (h' 0 13)) 0 7 (h' 0 14) 0 4 = nI w := by rw [xu_neK (by decide), xu_neK (by decide), xu_neK (by decide), xu_same]; exact n6
    have o5 : xu (xu (xu (xu h' 0 4 (h' 0 10)) 0 5 (h' 0 11)) 0 6 (h' 0 13)) 0 7 (h' 0 14) 0 5 = nI t := by rw [xu_neK (by decide), xu_neK (by decide), xu_same]; exact n8
    have o6 : xu (xu (xu (xu h' 0 4 (h' 0 10)) 0 5 (h' 0 11)) 0 6 (h' 0 13)) 0 7 (h' 0 14) 0 6 = nI c := by rw [xu_neK (by decide), xu_same]; exact p4
    have o7 : xu (xu (xu (xu h' 0 4 (h' 0 10)) 0 5 (h' 0 11)) 0 6 (h' 0 13)) 0 7 (h' 0 14) 0 7 = nI r := by rw [xu_same]; exact p6
    generalize xu (xu (xu (xu h' 0 4 (h' 0 10)) 0 5 (h' 0 11)) 0 6 (h' 0 13)) 0 7 (h' 0 14) = hA at o1 o2 o4 o5 o6 o7
    obtain ⟨hb, q1, q2, q3, q4⟩ := b51p (F := 100) 100 0 hA (by omega) (by omega) (fun i hi => by omega)
    have q1' : pX12_paper_b51 100 100 (0 : Int32) hA = _ := q1
    obtain ⟨hc, u1, u2, u3, u4, u5⟩ := b82p (F := 100) (c := c) p1 100 0 hb (by rw [q2 0 (by decide)]; exact o6) (by omega) (by omega) (fun i hi => by omega)
    obtain ⟨hd, v1, v2, v3, v4, v5, v6, v7, v8⟩ := b112p (F := 100) (c := c) (r := r) (v := nI s) p2 100 0 hc (by rw [u2 0 (by decide), q2 0 (by decide)]; exact o7) (by rw [u2 0 (by decide), q2 0 (by decide)]; exact o6) (by rw [u2 0 (by decide), q2 0 (by decide), o2 12 (by decide) (by decide) (by decide) (by decide)]; exact n10) (by omega) (by omega) (fun i hi => by omega)
    rw [q1', u1, v1]
    refine ⟨_, _, rfl, rfl, rfl, ?_⟩
    dsimp only
    have ff : ∀ z, z ≠ 0 → z ≠ 3 → xu (pX3_forget f3) 0 9 (0 : Int32) z = f3 z := fun z z1 z2 => by unfold pX3_forget; rw [xu_ne z1, xu_ne z2, xu_ne z2]
    have hcz : ∀ z, z ≠ 7 → z ≠ 0 → hc z = h' z := fun z z1 z2 => by rw [u2 z z1, q2 z z1, o1 z z2]
    have hd0 : ∀ y, y ≠ 21 → hd 0 y = hA 0 y := fun y y1 => by rw [v3 y y1, u2 0 (by decide), q2 0 (by decide)]
    refine ⟨w, c, r, t, 0, 0, false, false, ⟨tl, tx, b1, ?_, ?_, fun j hj => ?_⟩, ⟨n1, n2, p1, p2, n3, ?_, ?_, ?_, ?_, k24, ?_, k25, ?_⟩, fun j hj => ?_, ⟨⟨s, n4, ?_, ?_⟩, ?_, fun i hi => ?_, fun i hi => ?_⟩, ⟨by omega, by omega, by omega, ?_, ?_, ?_, fun i hi => by omega⟩, ⟨?_, ?_, ?_, fun z => absurd z (by decide), fun z => absurd z (by decide)⟩, RelW_g hW⟩
    · rw [ff 1 (by decide) (by decide), g2 1 (by decide), fo 1 (by decide) (by decide) (by decide) (by decide) (by decide)]; exact b2
    · rw [hd0 2 (by decide), o2 2 (by decide) (by decide) (by decide) (by decide)]; exact b3
    · rw [ff 13 (by decide) (by decide), g2 13 (by decide), fo 13 (by decide) (by decide) (by decide) (by decide) (by decide), v2 1 (by decide) (by decide) (by decide) (by decide) (by decide), hcz 1 (by decide) (by decide)]; exact b4 j hj
    · rw [ff 10 (by decide) (by decide), g2 10 (by decide), mk0_10]; exact n5
    · rw [hd0 4 (by decide)]; exact o4
    · rw [ff 2 (by decide) (by decide), g2 2 (by decide), m6]; exact n7
    · rw [hd0 5 (by decide)]; exact o5
    · rw [hd0 6 (by decide)]; exact o6
    · rw [hd0 7 (by decide)]; exact o7
    · obtain ⟨pe, le, d1, d2, d3, d4, d5, d6, d7⟩ := p8 j hj
      obtain ⟨w1, w2, w3⟩ := v8 j hj
      refine ⟨pe, le, d1, d2, d3, ?_, ?_, ?_, ?_⟩
      · rw [ff 17 (by decide) (by decide), g2 17 (by decide), mk0_17 (by omega)]; exact d4
      · rw [w1, hcz 5 (by decide) (by decide)]; exact d5
      · rw [ff 18 (by decide) (by decide), g2 18 (by decide), mk0_18 (by omega)]; exact d6
      · rw [w2, hcz 6 (by decide) (by decide)]; exact d7
    · rw [ff 19 (by decide) (by decide), g3, m190]; exact n9
    · rw [v7 0 (by decide), u3, q3, o2 12 (by decide) (by decide) (by decide) (by decide)]; exact n10
    · rw [ff 19 (by decide) (by decide), g4, m191, v7 1 (by decide), u4, q4]
    · obtain ⟨kk, d1, d2, d3⟩ := p7 i hi
      refine ⟨kk, d1, ?_, ?_⟩
      · rw [ff 19 (by decide) (by decide), g5 i hi, fo 14 (by decide) (by decide) (by decide) (by decide) (by decide)]; exact d2
      · rw [v7 (2 + i) (by omega), u5 i hi, q2 4 (by decide), o1 4 (by decide)]; exact d3
    · refine ⟨s, n4, ?_, ?_⟩
      · rw [ff 19 (by decide) (by decide)]; exact g6 i hi
      · exact (v8 i hi).2.2
    · unfold pX3_forget; rw [xu_ne (by decide), xu_same]; rfl
    · unfold pX3_forget; rw [xu_ne (by decide), xu_neK (by decide), xu_same]; rfl
    · rw [v4]; rfl
    · rw [xu_same]; rfl
    · rw [v5]; rfl
    · rw [v6]; rfl
  · rw [if_neg hq, if_neg hq]
    exact ⟨_, _, rfl, rfl, rfl, Rel_ok hR2 (Nat.le_refl _) (okC_tx r3) (okM_tx r4) (RelW_g hW)⟩
