theorem noticed6_eq {f : xM} {w kd i s p x : Nat} (hw : w ≤ 5) (h4 : f 10 0 = nI w) (hi : i < 3) (hk : kd < 4) (ek : f 19 (2 + i) = nI kd) (hp : p < w) (hs : s < 4 ^ w) (hx : x < 4) : pX6_noticed f (nI i) (nI s) (nI p) (nI x) = some (nI (nt4 w kd s p x)) := by
  unfold pX6_noticed
  rw [kindOf_eq hi, Option.bind_some, ek, noticed8_eq hw h4 hk hp hs hx]
theorem rdI_cases (d : Int32) (pe le : Nat) : rdI d pe le = 0 ∨ rdI d pe le = 1 := by unfold rdI; split <;> simp
theorem print_loop {F w c r i p x kd : Nat} (hF : 5 < F) (h1 : 1 ≤ w) (hw : w ≤ 5) (hc : c ≤ 3) (hr : r ≤ 4) (hi : i < c) (hk : kd < 4) (hp : p < w) (hx : x < 4) : ∀ (n j : Nat) (f h : xM), f 10 0 = nI w → h 0 4 = nI w → f 2 5 = nI r → h 0 7 = nI r → rD r f h → f 19 (2 + i) = nI kd → h 7 (2 + i) = nI kd → pgR w c r (f 19) (h 7) → j ≤ r → r < j + n → ∃ f' h', pX6_printNotice_b24 F n (nI i) (nI p) (nI x) (nI j) f = some f' ∧ pX12_goPrint_7_b21 F n (nI i) (nI p) (nI x) (nI j) h = some h' ∧ (∀ z, z ≠ 19 → f' z = f z) ∧ (∀ z, z ≠ 7 → h' z = h z) ∧ pgR w c r (f' 19) (h' 7) := by
  intro n
  induction n with
  | zero => intro j f h _ _ _ _ _ _ _ _ z1 z2; omega
  | succ n ih =>
    intro j f h f4 h4 f5 h7 hD ek ek2 hpg z1 z2
    have hb := p4_le hw
    rw [pX6_printNotice_b24, pX12_goPrint_7_b21, f5, h7]
    by_cases hj : r ≤ j
    · rw [if_pos (nI_le hj (by omega)), if_pos (nI_le hj (by omega))]
      refine ⟨_, _, rfl, rfl, fun z hz => xu_ne hz, fun z hz => xu_ne hz, ?_⟩
      show pgR w c r (xu f 19 1 (f 19 1 + 1) 19) (xu h 7 1 (h 7 1 + 1) 7)
      rw [xu_row, xu_row, hpg.2.1]
      exact pgR_day hpg
    · obtain ⟨pe, le, d1, d2, d3, d4, d5, d6, d7⟩ := hD j (by omega)
      obtain ⟨q, q1, q2, q3⟩ := hpg.2.2.2 j (by omega)
      rw [if_neg (nI_ge (by omega) (by omega)), if_neg (nI_ge (by omega) (by omega)), show pX9_day f = h 7 1 from hpg.2.1, readsOn_eq (show j < 4 by omega) d1 d2 d4 d6, doesRead7_eq (show j < 4 by omega) d1 d2 d5 d7]
      simp only [Option.bind_some, show nI j + (1 : Int32) = nI (j + 1) from nI_1 j]
      rcases rdI_cases (h 7 1) pe le with hz | hz
      · simp only [hz, ↓reduceIte]
        exact ih (j + 1) f h f4 h4 f5 h7 hD ek ek2 hpg (by omega) (by omega)
      · have x1 : xin (nI (5 + j)) 9 := xin_of (by omega) (by omega)
        have x2 : xin (nI (2 + i)) 9 := xin_of (by omega) (by omega)
        have y1 : (nI (5 + j)).toNatClampNeg = 5 + j := nI_clamp (by omega)
        have y2 : (nI (2 + i)).toNatClampNeg = 2 + i := nI_clamp (by omega)
        have hq := nt4_lt (kd := kd) hw hp q1 hx
        simp only [hz, if_neg (show ¬ (1 : Int32) = 0 by decide), beliefOf_eq (f := f) (show j < 4 by omega), Option.bind_some, q2, noticed6_eq hw f4 (show i < 3 by omega) hk ek hp q1 hx, setBelief_eq (f := f) (show j < 4 by omega), ad5, ad2, if_pos x1, if_pos x2, y1, y2, q3, ek2, notice_eq hF h1 hw h4 hk hp q1 hx]
        obtain ⟨f', h', r1, r2, r3, r4, r5⟩ := ih (j + 1) (xu f 19 (5 + j) (nI (nt4 w kd q p x))) (xu h 7 (5 + j) (nI (nt4 w kd q p x))) (by rw [xu_ne (by decide)]; exact f4) (by rw [xu_ne (by decide)]; exact h4) (by rw [xu_ne (by decide)]; exact f5) (by rw [xu_ne (by decide)]; exact h7) (by unfold rD; rw [xu_ne (by decide), xu_ne (by decide), xu_ne (by decide), xu_ne (by decide)]; exact hD) (by rw [xu_neK (by omega)]; exact ek) (by rw [xu_neK (by omega)]; exact ek2) (by rw [xu_row, xu_row]; exact pgR_belief hc hpg hq) (by omega) (by omega)
        exact ⟨f', h', r1, r2, fun z hz => by rw [r3 z hz, xu_ne hz], fun z hz => by rw [r4 z hz, xu_ne hz], r5⟩
theorem e_print {n : Nat} {f : xM} {g : xN} {h : xM} {k : xN} (hn : n ≤ 100) (hR : Rel n f g h k) (v1 : Int32) (v2 : Int32) (v3 : Int32) : ∃ (F : Nat) (a : Int32 × xM) (b : Int32 × xM), pX11_print F v1 v2 v3 f = some a ∧ pX12_print F v1 v2 v3 h = some b ∧ a.1 = b.1 ∧ Rel (n + 1) a.2 g b.2 k := by
  obtain ⟨w, c, r, t, hW⟩ := Rel_W hR
  obtain ⟨p1, p2, p3, p4, p5, p6, p7, p8, p9, p10, p11, p12, p13⟩ := RelW_P hW
  have hb := p4_le p2
  have hR2 : Rel (n + 1) f g (xu h 0 0 0) k := Rel_ok hR (by omega) okC.r0 (okM_t 0) (RelW_g hW)
  obtain ⟨f', h', n1, n2, hW', ef, eh⟩ := note_Rel (F := 140) hn (by omega) hW
  obtain ⟨-, -, -, -, -, p6', p7', p8', p9', p10', p11', p12', p13'⟩ := RelW_P hW'
  have hD' := RelW_D hW'
  have hp' := RelW_pg hW'
  generalize hh : xu h 0 0 (0 : Int32) = h2 at hR2 n2
  have e6 : h2 0 6 = nI c := by rw [← hh, xu_neK (by decide)]; exact p11
  have e4 : h2 0 4 = nI w := by rw [← hh, xu_neK (by decide)]; exact p7
  refine ⟨140, ?_⟩
  unfold pX11_print pX12_print
  simp only [hh]
  by_cases u1 : isN v1 c
  · rw [if_neg (fun z => (hasC p3 p10).mp z u1), if_pos ((noC p3 e6).mpr u1)]
    by_cases u2 : isN v2 w
    · rw [if_pos ((noPl p2 e4).mpr u2)]
      by_cases u3 : isN v3 4
      · rw [if_pos (noLe.mpr u3), if_neg (fun z => (isNot p2 p6).mp z ⟨u2, u3⟩), n1, n2]
        obtain ⟨i, hi, rfl⟩ := u1
        obtain ⟨p, hp, rfl⟩ := u2
        obtain ⟨x, hx, rfl⟩ := u3
        obtain ⟨kd, k1, k2, k3⟩ := hp'.2.2.1 i hi
        obtain ⟨s, s1, s2, s3⟩ := hp'.1
        have hq := nt4_lt (kd := kd) p2 hp s1 hx
        have x2 : xin (nI (2 + i)) 9 := xin_of (by omega) (by omega)
        have y2 : (nI (2 + i)).toNatClampNeg = 2 + i := nI_clamp (by omega)
        obtain ⟨f'', h'', r1, r2, r3, r4, r5⟩ := print_loop (F := 140) (c := c) (i := i) (p := p) (x := x) (kd := kd) (by omega) p1 p2 p3 p4 hi k1 hp hx 140 0 (xu f' 19 0 (nI (nt4 w kd s p x))) (xu h' 7 0 (nI (nt4 w kd s p x))) (by rw [xu_ne (by decide)]; exact p6') (by rw [xu_ne (by decide)]; exact p7') (by rw [xu_ne (by decide)]; exact p12') (by rw [xu_ne (by decide)]; exact p13') (by unfold rD; rw [xu_ne (by decide), xu_ne (by decide), xu_ne (by decide), xu_ne (by decide)]; exact hD') (by rw [xu_neK (by omega)]; exact k2) (by rw [xu_neK (by omega)]; exact k3) (by rw [xu_row, xu_row]; exact pgR_said hp' hq) (by omega) (by omega)
        have g1 : pX6_printNotice 140 (nI i) (nI p) (nI x) f' = some f'' := by
          unfold pX6_printNotice
          rw [show pX9_said f' = nI s from s2, noticed6_eq p2 p6' (show i < 3 by omega) k1 k2 hp s1 hx, Option.bind_some]
          exact r1
        have g2 : pX12_goPrint_7 140 (nI i) (nI p) (nI x) h' = some h'' := by
          unfold pX12_goPrint_7
          rw [ad2, if_pos x2, y2, s3, k3, notice_eq (by omega) p1 p2 p7' k1 hp s1 hx, Option.bind_some]
          exact r2
        have q10 : ∀ z, z ≠ 19 → f'' z = f' z := fun z hz => by rw [r3 z hz, xu_ne hz]
        have q11 : ∀ z, z ≠ 7 → h'' z = h' z := fun z hz => by rw [r4 z hz, xu_ne hz]
        obtain ⟨s', t1, t2, t3⟩ := r5.1
        obtain ⟨tr, ht1, ht2⟩ := told_eq (F := 140) (f := f'') (h := h'') (w := w) (s := s') (by omega) p2 (by rw [q11 0 (by decide)]; exact p7') (by rw [q10 10 (by decide)]; exact p6') (by omega)
        simp only [Option.bind_some, g1, g2, show pX9_said f'' = nI s' from t2, t3, ht1, ht2]
        exact ⟨_, _, rfl, rfl, rfl, (RelW_page hW' q10 q11 r5).rel⟩
      · rw [if_neg (fun z => u3 (noLe.mp z)), if_pos ((isNot p2 p6).mpr (fun z => u3 z.2))]
        exact ⟨_, _, rfl, rfl, rfl, hR2⟩
    · rw [if_neg (fun z => u2 ((noPl p2 e4).mp z)), if_pos ((isNot p2 p6).mpr (fun z => u2 z.1))]
      exact ⟨_, _, rfl, rfl, rfl, hR2⟩
  · rw [if_pos ((hasC p3 p10).mpr u1), if_neg (fun z => u1 ((noC p3 e6).mp z))]
    exact ⟨_, _, rfl, rfl, rfl, hR2⟩
/-! ===== undo ===== -/
theorem undo_b27_eq {F a : Nat} {h : xM} (ha : a ≤ 13) (e : h 0 21 = nI a) : ∀ (n j : Nat), j ≤ 9 → 9 < j + n → pX12_undo_b27 F n (nI j) (cpy2 h 7 0 9 (9 * a) j) = some (nI a, cpy2 h 7 0 9 (9 * a) 9) := by
  intro n
  induction n with
  | zero => intro j h1 h2; omega
  | succ n ih =>
    intro j h1 h2
    have e1 : cpy2 h 7 0 9 (9 * a) j 0 21 = nI a := by rw [cpy2_ne (by decide)]; exact e
    have e2 : cpy2 h 7 0 9 (9 * a) j 9 (9 * a + j) = h 9 (9 * a + j) := by rw [cpy2_ne (by decide)]
    rw [pX12_undo_b27]
    by_cases hj : 9 ≤ j
    · rw [if_pos (show (9 : Int32) ≤ nI j from nI_le (a := 9) hj (by omega)), e1, show j = 9 by omega]
    · simp only [if_neg (show ¬ (9 : Int32) ≤ nI j from nI_ge (b := 9) (by omega) (by omega)), if_pos (xin_of (k := j) (n := 9) (by omega) (by omega)), e1, ix9, if_pos (xin_of (k := 9 * a + j) (n := 126) (by omega) (by omega)), nI_clamp (show 9 * a + j < 2 ^ 31 by omega), nI_clamp (show j < 2 ^ 31 by omega), e2, show nI j + (1 : Int32) = nI (j + 1) from nI_1 j]
      have := cpy2_s (h := h) (d := 7) (od := 0) (s := 9) (os := 9 * a) (n := j) (by decide)
      rw [Nat.zero_add] at this
      rw [this]
      exact ih (j + 1) (by omega) (by omega)
theorem e_undo {n : Nat} {f : xM} {g : xN} {h : xM} {k : xN} (hn : n ≤ 100) (hR : Rel n f g h k) : ∃ (F : Nat) (a : Int32 × xM) (b : Int32 × xM), pX11_undo f = some a ∧ pX12_undo F h = some b ∧ a.1 = b.1 ∧ Rel (n + 1) a.2 g b.2 k := by
  have hR2 : Rel (n + 1) f g (xu h 0 0 0) k := Rel_ok hR (by omega) okC.r0 (okM_t 0) (Rel_g hR)
  obtain ⟨w, c, r, t, a, A, b0, b1, hT, hP, hD, hp, ⟨q1, q2, q3, q4, q5, q6, q7⟩, hK, hs⟩ := hR
  have c3 : c ≤ 3 := hP.2.2.1
  have r4 : r ≤ 4 := hP.2.2.2.1
  have e21 : xu h 0 0 (0 : Int32) 0 21 = nI a := by rw [xu_neK (by decide)]; exact q6
  refine ⟨140, ?_⟩
  unfold pX11_undo pX12_undo pX3_bringBack
  rw [e21, q4, q5]
  by_cases ha : a = 0
  · subst ha
    rw [if_pos (show nI 0 ≤ 0 by decide), if_pos (show nI 0 = 0 from rfl)]
    exact ⟨_, _, rfl, rfl, rfl, hR2⟩
  · have m1 : nI A - (1 : Int32) = nI (A - 1) := pk_sub (b := 1) (by omega)
    have m2 : nI a - (1 : Int32) = nI (a - 1) := pk_sub (b := 1) (by omega)
    rw [if_neg (nI_nle (by omega) (by omega)), if_pos (show (0 : Int32) < nI A from nI_lt (a := 0) (by omega) (by omega)), if_neg (nI_ne0 (by omega) (by omega)), m1, m2]
    have k1 : xu f 3 1 (nI (A - 1)) 3 2 = nI a := by rw [xu_neK (by decide)]; exact q4
    rw [k1, m2]
    have k2 : xu (xu f 3 1 (nI (A - 1))) 3 2 (nI (a - 1)) 3 1 = nI (A - 1) := by rw [xu_neK (by decide), xu_same]
    rw [k2, rem14 (by omega), fetch12_eq (Nat.mod_lt _ (by decide))]
    simp only [Option.bind_some, if_neg (show ¬ (1 : Int32) = 0 by decide)]
    have s2 := undo_b27_eq (F := 140) (a := a - 1) (h := xu (xu h 0 0 0) 0 21 (nI (a - 1))) (by omega) xu_same 140 0 (by omega) (by omega)
    rw [cpy2_0] at s2
    rw [show (0 : Int32) = nI 0 from rfl] at *
    rw [s2]
    refine ⟨_, _, rfl, rfl, ?_, w, c, r, t, a - 1, A - 1, b0, b1, ?_, ?_, ?_, ?_, ⟨by omega, by omega, by omega, ?_, ?_, ?_, ?_⟩, ?_, hs⟩
    · show cpy2 (xu (xu f 3 1 (nI (A - 1))) 3 2 (nI (a - 1))) 19 0 21 (9 * ((A - 1) % 14)) 9 3 2 = nI (a - 1)
      rw [cpy2_ne (by decide), xu_same]
    · unfold rT at *
      dsimp only
      rw [cpy2_ne (by decide : (1 : Nat) ≠ 19), xu_ne (by decide : (1 : Nat) ≠ 3), xu_ne (by decide : (1 : Nat) ≠ 3), cpy2_ne (by decide : (13 : Nat) ≠ 19), xu_ne (by decide : (13 : Nat) ≠ 3), xu_ne (by decide : (13 : Nat) ≠ 3), cpy2_ne (by decide : (0 : Nat) ≠ 7), xu_neK (by decide), xu_neK (by decide), cpy2_ne (by decide : (1 : Nat) ≠ 7), xu_ne (by decide : (1 : Nat) ≠ 0), xu_ne (by decide : (1 : Nat) ≠ 0)]; exact hT
    · unfold rP at *
      dsimp only
      rw [cpy2_ne (by decide : (10 : Nat) ≠ 19), xu_ne (by decide : (10 : Nat) ≠ 3), xu_ne (by decide : (10 : Nat) ≠ 3), cpy2_ne (by decide : (2 : Nat) ≠ 19), xu_ne (by decide : (2 : Nat) ≠ 3), xu_ne (by decide : (2 : Nat) ≠ 3), cpy2_ne (by decide : (0 : Nat) ≠ 7)]
      rw [show ∀ y, y ≠ 21 → y ≠ 0 → xu (xu h 0 0 (nI 0)) 0 21 (nI (a - 1)) 0 y = h 0 y from fun y z1 z2 => by rw [xu_neK z1, xu_neK z2]] <;> try decide
      rw [show ∀ y, y ≠ 21 → y ≠ 0 → xu (xu h 0 0 (nI 0)) 0 21 (nI (a - 1)) 0 y = h 0 y from fun y z1 z2 => by rw [xu_neK z1, xu_neK z2]] <;> try decide
      rw [show ∀ y, y ≠ 21 → y ≠ 0 → xu (xu h 0 0 (nI 0)) 0 21 (nI (a - 1)) 0 y = h 0 y from fun y z1 z2 => by rw [xu_neK z1, xu_neK z2]] <;> try decide
      rw [show ∀ y, y ≠ 21 → y ≠ 0 → xu (xu h 0 0 (nI 0)) 0 21 (nI (a - 1)) 0 y = h 0 y from fun y z1 z2 => by rw [xu_neK z1, xu_neK z2]] <;> try decide
      exact hP
    · unfold rD at *
      dsimp only
      rw [cpy2_ne (by decide : (17 : Nat) ≠ 19), xu_ne (by decide : (17 : Nat) ≠ 3), xu_ne (by decide : (17 : Nat) ≠ 3), cpy2_ne (by decide : (18 : Nat) ≠ 19), xu_ne (by decide : (18 : Nat) ≠ 3), xu_ne (by decide : (18 : Nat) ≠ 3), cpy2_ne (by decide : (2 : Nat) ≠ 7), xu_ne (by decide : (2 : Nat) ≠ 0), xu_ne (by decide : (2 : Nat) ≠ 0), cpy2_ne (by decide : (3 : Nat) ≠ 7), xu_ne (by decide : (3 : Nat) ≠ 0), xu_ne (by decide : (3 : Nat) ≠ 0)]; exact hD
    · refine pgR_congr c3 r4 (fun j hj => ?_) (fun j hj => ?_) (q7 (a - 1) (by omega))
      · show cpy2 (xu (xu f 3 1 (nI (A - 1))) 3 2 (nI (a - 1))) 19 0 21 (9 * ((A - 1) % 14)) 9 19 j = f 21 (9 * ((A - a + (a - 1)) % 14) + j)
        rw [cpy2_in (by omega) (by omega), xu_ne (by decide), xu_ne (by decide), show A - a + (a - 1) = A - 1 by omega]
        congr 1
      · show cpy2 (xu (xu h 0 0 (nI 0)) 0 21 (nI (a - 1))) 7 0 9 (9 * (a - 1)) 9 7 j = h 9 (9 * (a - 1) + j)
        rw [cpy2_in (by omega) (by omega), xu_ne (by decide), xu_ne (by decide)]
        congr 1
    · dsimp only
      rw [cpy2_ne (by decide), xu_same]
    · dsimp only
      rw [cpy2_ne (by decide), xu_neK (by decide), xu_same]
    · dsimp only
      rw [cpy2_ne (by decide), xu_same]
    · intro i hi
      refine pgR_congr c3 r4 (fun j hj => ?_) (fun j hj => ?_) (q7 i (by omega))
      · show cpy2 (xu (xu f 3 1 (nI (A - 1))) 3 2 (nI (a - 1))) 19 0 21 (9 * ((A - 1) % 14)) 9 21 (9 * ((A - 1 - (a - 1) + i) % 14) + j) = f 21 (9 * ((A - a + i) % 14) + j)
        rw [cpy2_ne (by decide), xu_ne (by decide), xu_ne (by decide), show A - 1 - (a - 1) = A - a by omega]
      · show cpy2 (xu (xu h 0 0 (nI 0)) 0 21 (nI (a - 1))) 7 0 9 (9 * (a - 1)) 9 9 (9 * i + j) = h 9 (9 * i + j)
        rw [cpy2_ne (by decide), xu_ne (by decide), xu_ne (by decide)]
    · unfold rK at *
      dsimp only
      rw [cpy2_ne (by decide : (0 : Nat) ≠ 19), xu_ne (by decide : (0 : Nat) ≠ 3), xu_ne (by decide : (0 : Nat) ≠ 3), cpy2_ne (by decide : (20 : Nat) ≠ 19), xu_ne (by decide : (20 : Nat) ≠ 3), xu_ne (by decide : (20 : Nat) ≠ 3), cpy2_ne (by decide : (11 : Nat) ≠ 7), xu_ne (by decide : (11 : Nat) ≠ 0), xu_ne (by decide : (11 : Nat) ≠ 0), cpy2_ne (by decide : (10 : Nat) ≠ 7), xu_ne (by decide : (10 : Nat) ≠ 0), xu_ne (by decide : (10 : Nat) ≠ 0)]; exact hK
