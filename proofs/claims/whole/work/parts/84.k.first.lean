/-! ===== first ===== -/
theorem or4 : ∀ a, a < 4 → ∀ b, b < 4 → (a ||| b = 0 ↔ a = 0 ∧ b = 0) := by decide
theorem or_dig (a b e : Nat) : (a ||| b) / 4 ^ e % 4 = 0 ↔ a / 4 ^ e % 4 = 0 ∧ b / 4 ^ e % 4 = 0 := by
  have e1 : 4 ^ e = 2 ^ (2 * e) := by rw [Nat.pow_mul]
  rw [e1, show (4 : Nat) = 2 ^ 2 from rfl, Nat.or_div_two_pow, Nat.or_mod_two_pow]
  exact or4 _ (Nat.mod_lt _ (by decide)) _ (Nat.mod_lt _ (by decide))
def mkS (w U M : Nat) : Prop := M < 2 ^ w ∧ ∀ q, q < w → M.testBit q = decide (lt4 w U q = 0)
theorem mkS_one {w U M M' : Nat} (h : mkS w U M) (h' : mkS w U M') : M = M' := by
  apply Nat.eq_of_testBit_eq
  intro q
  by_cases hq : q < w
  · rw [h.2 q hq, h'.2 q hq]
  · have hp : 2 ^ w ≤ 2 ^ q := Nat.pow_le_pow_right (by decide) (by omega)
    rw [Nat.testBit_lt_two_pow (Nat.lt_of_lt_of_le h.1 hp), Nat.testBit_lt_two_pow (Nat.lt_of_lt_of_le h'.1 hp)]
theorem shl1 {p : Nat} (hp : p < 10) : (1 : Int32) <<< (nI p &&& 31) = nI (2 ^ p) := by
  have h2 : 2 ^ p ≤ 2 ^ 10 := Nat.pow_le_pow_right (by decide) (by omega)
  have := nI_shl (s := 1) hp (by omega)
  rw [Nat.one_mul] at this
  exact this
theorem alike_loop {F : Nat} {f : xM} {w U : Nat} (hw : w ≤ 5) (f4 : f 10 0 = nI w) (hU : U < 1024) : ∀ (n p M : Nat), p ≤ w → w < p + n → M < 2 ^ w → (∀ q, q < w → M.testBit q = (decide (q < p) && decide (lt4 w U q = 0))) → ∃ M', pX8_placesAlike_b4 F f n (nI U) (nI M) (nI p) = some (nI M') ∧ mkS w U M' := by
  intro n
  induction n with
  | zero => intro p M z1 z2; omega
  | succ n ih =>
    intro p M z1 z2 hM hq
    rw [pX8_placesAlike_b4, f4]
    by_cases hp : w ≤ p
    · rw [if_pos (nI_le hp (by omega))]
      refine ⟨M, rfl, hM, fun q hq2 => ?_⟩
      rw [hq q hq2, decide_eq_true (show q < p by omega), Bool.true_and]
    · have h2p : 2 ^ p < 2 ^ w := Nat.pow_lt_pow_right (by decide) (by omega)
      rw [if_neg (nI_ge (by omega) (by omega)), letterAt_eq hw f4 (by omega) hU, shl1 (by omega), nI_or, show nI p + (1 : Int32) = nI (p + 1) from nI_1 p]
      have hl := lt4_lt w U p
      by_cases h0 : lt4 w U p = 0
      · rw [if_pos (show nI (lt4 w U p) = 0 by rw [h0]; rfl)]
        refine ih (p + 1) (M ||| 2 ^ p) (by omega) (by omega) (Nat.or_lt_two_pow hM h2p) (fun q hq2 => ?_)
        rw [Nat.testBit_or, hq q hq2, Nat.testBit_two_pow]
        by_cases hqp : q = p
        · subst hqp; simp [h0]
        · have e1 : (p = q) = False := by simp; omega
          have e2 : (q < p + 1) = (q < p) := by simp; omega
          simp only [e1, e2, decide_false, Bool.or_false]
      · rw [if_neg (show ¬ nI (lt4 w U p) = 0 from fun z => h0 (nI_inj (b := 0) (by omega) (by omega) z))]
        refine ih (p + 1) M (by omega) (by omega) hM (fun q hq2 => ?_)
        rw [hq q hq2]
        by_cases hqp : q = p
        · subst hqp; simp [h0]
        · have e2 : (q < p + 1) = (q < p) := by simp; omega
          simp only [e2]
theorem alike_eq {F : Nat} {f : xM} {w U : Nat} (hF : 5 < F) (hw : w ≤ 5) (f4 : f 10 0 = nI w) (hU : U < 1024) : ∃ M, pX8_placesAlike F f (nI U) = some (nI M) ∧ mkS w U M := by
  unfold pX8_placesAlike
  exact alike_loop (F := F) hw f4 hU F 0 0 (by omega) (by omega) (Nat.two_pow_pos w) (fun q hq => by simp)
theorem b85_eq {F w s a : Nat} {K : Int32 → Int64 → Int32 → xM → Option xM} {v1 : Int32} {v2 : Int64} (hF : 5 < F) (hw : w ≤ 5) (hs : s < 1024) (ha : a < 1024) : ∀ (n p M : Nat) (h : xM), h 0 4 = nI w → h 0 28 = nI a → h 0 29 = nI M → M < 2 ^ w → p ≤ w → w < p + n → ∃ h' M', pX12_findFirst_b85 F K n v1 v2 (nI s) (nI p) h = K v1 v2 (nI (s + 1)) h' ∧ (∀ z, z ≠ 0 → h' z = h z) ∧ (∀ y, y ≠ 29 → h' 0 y = h 0 y) ∧ h' 0 29 = nI M' ∧ M' < 2 ^ w ∧ ∀ q, q < w → M'.testBit q = (M.testBit q && (decide (q < p) || decide (lt4 w s q = lt4 w a q))) := by
  intro n
  induction n with
  | zero => intro p M h _ _ _ _ z1 z2; omega
  | succ n ih =>
    intro p M h h4 h28 h29 hM z1 z2
    rw [pX12_findFirst_b85, h4]
    by_cases hp : w ≤ p
    · rw [if_pos (nI_le hp (by omega)), show nI s + (1 : Int32) = nI (s + 1) from nI_1 s]
      refine ⟨h, M, rfl, fun _ _ => rfl, fun _ _ => rfl, h29, hM, fun q hq => ?_⟩
      rw [decide_eq_true (show q < p by omega), Bool.true_or, Bool.and_true]
    · have l1 := lt4_lt w s p
      have l2 := lt4_lt w a p
      simp only [if_neg (nI_ge (show p < w by omega) (by omega)), h28, h29, letterOf_eq hF hw h4 (show p < w by omega) hs, letterOf_eq hF hw h4 (show p < w by omega) ha, Option.bind_some, shl1 (show p < 10 by omega), show nI p + (1 : Int32) = nI (p + 1) from nI_1 p, show (-1 : Int32) = nI 4294967295 from rfl, nI_xor, nI_and]
      by_cases he : lt4 w s p = lt4 w a p
      · rw [if_pos (show nI (lt4 w s p) = nI (lt4 w a p) by rw [he])]
        obtain ⟨h', M', c1, c2, c3, c4, c5, c6⟩ := ih (p + 1) (M &&& 4294967295) (xu h 0 29 (nI (M &&& 4294967295))) (by rw [xu_neK (by decide)]; exact h4) (by rw [xu_neK (by decide)]; exact h28) xu_same (Nat.lt_of_le_of_lt Nat.and_le_left hM) (by omega) (by omega)
        refine ⟨h', M', c1, fun z hz => by rw [c2 z hz, xu_ne hz], fun y hy => by rw [c3 y hy, xu_neK hy], c4, c5, fun q hq => ?_⟩
        rw [c6 q hq, Nat.testBit_and, show (4294967295 : Nat) = 2 ^ 32 - 1 from rfl, Nat.testBit_two_pow_sub_one, decide_eq_true (show q < 32 by omega), Bool.and_true]
        by_cases hqp : q = p
        · subst hqp; simp [he]
        · have e2 : (q < p + 1) = (q < p) := by simp; omega
          simp only [e2]
      · rw [if_neg (fun z => he (nI_inj (by omega) (by omega) z))]
        obtain ⟨h', M', c1, c2, c3, c4, c5, c6⟩ := ih (p + 1) (M &&& (2 ^ p ^^^ 4294967295)) (xu h 0 29 (nI (M &&& (2 ^ p ^^^ 4294967295)))) (by rw [xu_neK (by decide)]; exact h4) (by rw [xu_neK (by decide)]; exact h28) xu_same (Nat.lt_of_le_of_lt Nat.and_le_left hM) (by omega) (by omega)
        refine ⟨h', M', c1, fun z hz => by rw [c2 z hz, xu_ne hz], fun y hy => by rw [c3 y hy, xu_neK hy], c4, c5, fun q hq => ?_⟩
        rw [c6 q hq, Nat.testBit_and, Nat.testBit_xor, show (4294967295 : Nat) = 2 ^ 32 - 1 from rfl, Nat.testBit_two_pow_sub_one, Nat.testBit_two_pow, decide_eq_true (show q < 32 by omega)]
        by_cases hqp : q = p
        · subst hqp; simp [he]
        · have e1 : (p = q) = False := by simp; omega
          have e2 : (q < p + 1) = (q < p) := by simp; omega
          simp only [e1, e2, decide_false, Bool.false_xor, Bool.and_true]
def fsI (w s : Nat) (h0 h : xM) (cnt : Nat) (v6 : Int32) (U : Nat) : Prop := (∀ z, z ≠ 0 → h z = h0 z) ∧ (∀ y, y ≠ 27 → y ≠ 28 → y ≠ 29 → h 0 y = h0 0 y) ∧ cnt ≤ s ∧ h 0 27 = nI cnt ∧ h 0 28 = v6 ∧ (cnt = 0 → v6 = -9) ∧ (cnt ≠ 0 → ∃ a, a < 4 ^ w ∧ v6 = nI a) ∧ U < 1024 ∧ ∃ M, mkS w U M ∧ h 0 29 = nI M
theorem mkS_step {w U M s a M' : Nat} (h : mkS w U M) (c5 : M' < 2 ^ w) (c6 : ∀ q, q < w → M'.testBit q = (M.testBit q && (decide (q < 0) || decide (lt4 w s q = lt4 w a q)))) : mkS w (U ||| (s ^^^ a)) M' := by
  refine ⟨c5, fun q hq => ?_⟩
  rw [c6 q hq, h.2 q hq]
  have e1 := or_dig U (s ^^^ a) (w - 1 - q)
  have e2 := xor_dig s a (w - 1 - q)
  have e3 : (lt4 w (U ||| (s ^^^ a)) q = 0) = (lt4 w U q = 0 ∧ lt4 w s q = lt4 w a q) := by
    unfold lt4
    rw [e1, e2]
  simp [e3]
theorem first_loop {F w c N R said : Nat} {K : Nat → Nat} {f h0 : xM} {v4 : Int32} (hF : 5 < F) (h1 : 1 ≤ w) (hw : w ≤ 5) (hc : c ≤ 3) (f4 : f 10 0 = nI w) (h04 : h0 0 4 = nI w) (hKf : ∀ i, i < c → K i < 4 ∧ f 19 (2 + i) = nI (K i)) (hKh : ∀ i, i < c → K i < 4 ∧ h0 7 (2 + i) = nI (K i)) (hN : N ≤ 4) (hR : R < 2 ^ 63) (hT : ∀ i, i < N → vt c w (th3 R N i)) (f5 : f 5 1 = nI N) (f22 : ∀ i, i < N → f 22 i = nI (th3 R N i)) (hsf : f 19 0 = nI said) (hsh : h0 7 0 = nI said) : ∀ (n s cnt : Nat) (v6 : Int32) (U : Nat) (h : xM), fsI w s h0 h cnt v6 U → s ≤ 4 ^ w → 4 ^ w < s + n → ∃ cnt' v6' U' h', pX11_first_b44 F n v4 (nI cnt) v6 (nI U) (nI s) f = pX11_first_b44 F 1 v4 (nI cnt') v6' (nI U') (nI (4 ^ w)) f ∧ pX12_findFirst_b26 F n (nI N) (lN R) (nI s) h = some h' ∧ fsI w (4 ^ w) h0 h' cnt' v6' U' := by
  have hbb := p4_le hw
  intro n
  induction n with
  | zero => intro s cnt v6 U h _ z1 z2; omega
  | succ n ih =>
    intro s cnt v6 U h hI z1 z2
    have hI' := hI
    obtain ⟨i1, i2, i3, i4, i5, i6, i7, i8, M, i9, i10⟩ := hI'
    have h4 : h 0 4 = nI w := by rw [i2 4 (by decide) (by decide) (by decide)]; exact h04
    rw [pX12_findFirst_b26, names12_eq hF hw h4, Option.bind_some]
    by_cases hs : 4 ^ w ≤ s
    · have hse : s = 4 ^ w := by omega
      subst hse
      rw [if_pos (nI_le (Nat.le_refl _) (by omega))]
      refine ⟨cnt, v6, U, h, ?_, rfl, hI⟩
      rw [pX11_first_b44, pX11_first_b44, names8_eq hw f4, if_pos (nI_le (Nat.le_refl _) (by omega)), if_pos (nI_le (Nat.le_refl _) (by omega))]
    · have hlt : s < 4 ^ w := by omega
      have e1 := afterRow_eq (F := F) (h := h) (K := K) (c := c) hF h1 hc hw h4 (fun i hi => ⟨(hKh i hi).1, by rw [i1 7 (by decide)]; exact (hKh i hi).2⟩) hN hR hT hlt
      have e2 := doneOn_eq (F := F) (f := f) (K := K) (c := c) hF hc hw f4 hKf hN f5 f22 hT hlt
      rw [pX11_first_b44, names8_eq hw f4, if_neg (nI_ge hlt (by omega)), if_neg (nI_ge hlt (by omega)), e1, e2]
      simp only [Option.bind_some, pX9_said, hsf, show h 7 0 = nI said by rw [i1 7 (by decide)]; exact hsh]
      by_cases hm : nI (apr w K (th3 R N) s N) = nI said
      · simp only [if_pos hm]
        by_cases h0 : cnt = 0
        · subst h0
          have q1 : nI 0 = (0 : Int32) := rfl
          rw [if_pos q1, if_pos (show h 0 27 = 0 from i4), pX11_first_b97, show xu h 0 28 (nI s) 0 27 = nI 0 by rw [xu_neK (by decide)]; exact i4, show nI 0 + (1 : Int32) = nI 1 from rfl, nI_xor, nI_or, show nI s + (1 : Int32) = nI (s + 1) from nI_1 s]
          obtain ⟨h', M', c1, c2, c3, c4, c5, c6⟩ := b85_eq (F := F) (w := w) (s := s) (a := s) (K := pX12_findFirst_b26 F n) (v1 := nI N) (v2 := lN R) hF hw (by omega) (by omega) F 0 M (xu (xu h 0 28 (nI s)) 0 27 (nI 1)) (by rw [xu_neK (by decide), xu_neK (by decide)]; exact h4) (by rw [xu_neK (by decide), xu_same]) (by rw [xu_neK (by decide), xu_neK (by decide)]; exact i10) i9.1 (by omega) (by omega)
          have c1' : pX12_findFirst_b85 F (pX12_findFirst_b26 F n) F (nI N) (lN R) (nI s) (0 : Int32) (xu (xu h 0 28 (nI s)) 0 27 (nI 1)) = _ := c1
          rw [c1']
          refine ih (s + 1) 1 (nI s) (U ||| (s ^^^ s)) h' ⟨fun z hz => by rw [c2 z hz, xu_ne hz, xu_ne hz, i1 z hz], fun y y1 y2 y3 => by rw [c3 y y3, xu_neK y1, xu_neK y2, i2 y y1 y2 y3], by omega, by rw [c3 27 (by decide), xu_same], by rw [c3 28 (by decide), xu_neK (by decide), xu_same], fun q => absurd q (by decide), fun _ => ⟨s, hlt, rfl⟩, Nat.or_lt_two_pow (n := 10) i8 (xor_lt (by omega) (by omega)), M', mkS_step i9 c5 c6, c4⟩ (by omega) (by omega)
        · obtain ⟨a, ha, rfl⟩ := i7 h0
          have q1 : ¬ nI cnt = (0 : Int32) := fun z => h0 (nI_inj (b := 0) (by omega) (by omega) z)
          rw [if_neg q1, if_neg (by rw [i4]; exact q1), pX11_first_b97, i5, show xu h 0 28 (nI a) 0 27 = nI cnt by rw [xu_neK (by decide)]; exact i4, show nI cnt + (1 : Int32) = nI (cnt + 1) from nI_1 cnt, nI_xor, nI_or, show nI s + (1 : Int32) = nI (s + 1) from nI_1 s]
          obtain ⟨h', M', c1, c2, c3, c4, c5, c6⟩ := b85_eq (F := F) (w := w) (s := s) (a := a) (K := pX12_findFirst_b26 F n) (v1 := nI N) (v2 := lN R) hF hw (by omega) (by omega) F 0 M (xu (xu h 0 28 (nI a)) 0 27 (nI (cnt + 1))) (by rw [xu_neK (by decide), xu_neK (by decide)]; exact h4) (by rw [xu_neK (by decide), xu_same]) (by rw [xu_neK (by decide), xu_neK (by decide)]; exact i10) i9.1 (by omega) (by omega)
          have c1' : pX12_findFirst_b85 F (pX12_findFirst_b26 F n) F (nI N) (lN R) (nI s) (0 : Int32) (xu (xu h 0 28 (nI a)) 0 27 (nI (cnt + 1))) = _ := c1
          rw [c1']
          refine ih (s + 1) (cnt + 1) (nI a) (U ||| (s ^^^ a)) h' ⟨fun z hz => by rw [c2 z hz, xu_ne hz, xu_ne hz, i1 z hz], fun y y1 y2 y3 => by rw [c3 y y3, xu_neK y1, xu_neK y2, i2 y y1 y2 y3], by omega, by rw [c3 27 (by decide), xu_same], by rw [c3 28 (by decide), xu_neK (by decide), xu_same], fun q => absurd q (by omega), fun _ => ⟨a, ha, rfl⟩, Nat.or_lt_two_pow (n := 10) i8 (xor_lt (by omega) (by omega)), M', mkS_step i9 c5 c6, c4⟩ (by omega) (by omega)
      · simp only [if_neg hm]
        rw [show nI s + (1 : Int32) = nI (s + 1) from nI_1 s]
        exact ih (s + 1) cnt v6 U h ⟨i1, i2, by omega, i4, i5, i6, i7, i8, M, i9, i10⟩ (by omega) (by omega)
theorem in02 (v : Int32) : pX12_in v.toInt64 0 2 = 0 ↔ ¬ isN v 3 := in0_eq (m := 2) (by omega) rfl
theorem okM_first {h h' : xM} (a : ∀ z, z ≠ 0 → h' z = h z) (b : ∀ y, y ≠ 27 → y ≠ 28 → y ≠ 29 → h' 0 y = h 0 y) : okM h h' := by
  refine ⟨?_, ?_, ?_, ?_, ?_, ?_, ?_, ?_, ?_, ?_, ?_, ?_, ?_⟩ <;> first | exact b _ (by decide) (by decide) (by decide) | exact a _ (by decide)
theorem e_first {n : Nat} {f : xM} {g : xN} {h : xM} {k : xN} (hn : n ≤ 100) (hR : Rel n f g h k) (v1 : Int32) (v2 : Int64) (v4 : Int32) : ∃ (F : Nat) (a : Int32 × xM) (b : Int32 × xM), pX11_first F v1 v2 v4 f = some a ∧ pX12_first F v1 v2 v4 h = some b ∧ a.1 = b.1 ∧ Rel (n + 1) a.2 g b.2 k := by
  obtain ⟨w, c, r, t, hW⟩ := Rel_open hR
  have hR2 := hW.rel
  generalize hh : xu h 0 0 (0 : Int32) = h2 at hW hR2
  obtain ⟨p1, p2, p3, p4, p5, p6, p7, p8, p9, p10, p11, p12, p13⟩ := RelW_P hW
  have hb := p4_le p2
  obtain ⟨K, hK⟩ := kinds_of (RelW_pg hW)
  obtain ⟨sd, hsd, u1, u2⟩ := (RelW_pg hW).1
  obtain ⟨z, f', z', r1, r2, r3, r4⟩ := rows_eq (F := 1100) (most := 3) (f := f) (h := h2) (by omega) (Or.inl rfl) p3 p2 p6 p10 p7 p11 v1 v2
  have r1' : pX5_read 1100 v1 3 v2 f = some (z, f') := r1
  have r2' : pX12_noRow 1100 h2 v1 3 v2 = some z' := r2
  have hR3 : Rel (n + 1) f' g h2 k := Rel_ok hR2 (Nat.le_refl _) (okC_row r3) okM.r0 (RelW_g hW)
  refine ⟨1100, ?_⟩
  unfold pX11_first pX12_first
  rw [hh]
  simp only [Option.bind_some, r1', r2']
  rcases r4 with ⟨rfl, rfl⟩ | ⟨rfl, rfl, N, R, n1, n2, rfl, rfl, hRR, g1, g2, hT⟩
  · rw [if_pos rfl, if_neg (by decide)]
    exact ⟨_, _, rfl, rfl, rfl, hR3⟩
  · rw [if_neg (by decide), if_pos rfl]
    by_cases hv : isN v4 3
    · rw [if_neg (fun z => (in02 v4).mp z hv)]
      obtain ⟨d, hd, rfl⟩ := hv
      rw [if_neg (nI_pos (by omega)), if_pos (show nI d ≤ (2 : Int32) from nI_le (b := 2) (by omega) (by omega))]
      have f4 : f' 10 0 = nI w := by rw [r3 10 (by decide) (by decide)]; exact p6
      unfold pX12_findFirst
      have e4 : (xu (xu h2 0 27 (0 : Int32)) 0 28 (-9 : Int32)) 0 4 = nI w := by rw [xu_neK (by decide), xu_neK (by decide)]; exact p7
      have h2w : 2 ^ w ≤ 32 := by
        have : 2 ^ w ≤ 2 ^ 5 := Nat.pow_le_pow_right (by decide) p2
        simpa using this
      have h2w1 : 0 < 2 ^ w := Nat.two_pow_pos w
      rw [e4, shl1 (show w < 10 by omega), show nI (2 ^ w) - (1 : Int32) = nI (2 ^ w - 1) by have := nI_pred (2 ^ w - 1); rw [show 2 ^ w - 1 + 1 = 2 ^ w by omega] at this; exact this]
      obtain ⟨cnt, v6, U, h', l1, l2, l3⟩ := first_loop (F := 1100) (w := w) (c := c) (N := N) (R := R) (said := sd) (K := K) (f := f') (h0 := h2) (v4 := nI d) (by omega) p1 p2 p3 f4 p7 (fun i hi => ⟨(hK i hi).1, by rw [r3 19 (by decide) (by decide)]; exact (hK i hi).2.1⟩) (fun i hi => ⟨(hK i hi).1, (hK i hi).2.2⟩) (by omega) hRR hT g1 g2 (by rw [r3 19 (by decide) (by decide)]; exact u1) u2 1100 0 0 (-9) 0 (xu (xu (xu h2 0 27 (0 : Int32)) 0 28 (-9 : Int32)) 0 29 (nI (2 ^ w - 1))) ⟨fun z hz => by rw [xu_ne hz, xu_ne hz, xu_ne hz], fun y y1 y2 y3 => by rw [xu_neK y3, xu_neK y2, xu_neK y1], by omega, by rw [xu_neK (by decide), xu_neK (by decide), xu_same]; rfl, by rw [xu_neK (by decide), xu_same], fun _ => rfl, fun q => absurd rfl q, by omega, 2 ^ w - 1, ⟨by omega, fun q hq => by rw [Nat.testBit_two_pow_sub_one]; simp [hq, lt4]⟩, xu_same⟩ (by omega) (by omega)
      have l1' : pX11_first_b44 1100 1100 (nI d) (0 : Int32) (-9 : Int32) (0 : Int32) (0 : Int32) f' = _ := l1
      have l2' : pX12_findFirst_b26 1100 1100 (nI N) (lN R) (0 : Int32) _ = _ := l2
      obtain ⟨i1, i2, i3, i4, i5, i6, i7, i8, M, i9, i10⟩ := l3
      have hR4 : Rel (n + 1) f' g h' k := Rel_ok hR3 (Nat.le_refl _) okC.r0 (okM_first i1 i2) (RelW_g hW)
      rw [l1', l2', pX11_first_b44, names8_eq p2 f4, if_pos (nI_le (Nat.le_refl _) (by omega)), Option.bind_some, i4, i5, i10]
      by_cases d0 : d = 0
      · subst d0
        rw [if_pos (show nI 0 = 0 from rfl), if_pos (show nI 0 = 0 from rfl)]
        exact ⟨_, _, rfl, rfl, rfl, hR4⟩
      · have d0' : ¬ nI d = (0 : Int32) := fun z => d0 (nI_inj (b := 0) (by omega) (by omega) z)
        rw [if_neg d0', if_neg d0']
        by_cases c0 : cnt = 0
        · subst c0
          rw [if_pos (show nI 0 = 0 from rfl), if_pos (show nI 0 = 0 from rfl)]
          exact ⟨_, _, rfl, rfl, rfl, hR4⟩
        · have c0' : ¬ nI cnt = (0 : Int32) := fun z => c0 (nI_inj (b := 0) (by omega) (by omega) z)
          rw [if_neg c0', if_neg c0']
          obtain ⟨a, ha, rfl⟩ := i7 c0
          by_cases d1 : nI d = (1 : Int32)
          · rw [if_pos d1, if_pos d1]
            obtain ⟨tr, ht1, ht2⟩ := told_eq (F := 1100) (f := f') (h := h') (w := w) (s := a) (by omega) p2 (by rw [i2 4 (by decide) (by decide) (by decide)]; exact p7) f4 (by omega)
            rw [ht1, ht2]
            exact ⟨_, _, rfl, rfl, rfl, hR4⟩
          · rw [if_neg d1, if_neg d1]
            obtain ⟨M2, m1, m2⟩ := alike_eq (F := 1100) (f := f') (w := w) (U := U) (by omega) p2 f4 i8
            rw [m1, mkS_one i9 m2]
            exact ⟨_, _, rfl, rfl, rfl, hR4⟩
    · rw [if_pos ((in02 v4).mpr hv)]
      by_cases z0 : v4 < 0
      · rw [if_pos z0]
        exact ⟨_, _, rfl, rfl, rfl, hR3⟩
      · rw [if_neg z0, if_neg ?_]
        · exact ⟨_, _, rfl, rfl, rfl, hR3⟩
        · intro q
          obtain ⟨j, hj, rfl⟩ := nI_of z0
          exact hv ⟨j, by have := (nI_leI (b := 2) hj (by omega)).mp q; omega, rfl⟩
