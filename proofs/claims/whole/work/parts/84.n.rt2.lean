/-! ===== the class's search, two notices and none ===== -/
section rt
variable {w c r t m F s : Nat} {K pe le b : Nat → Nat} {f : xM} {day : Int32}
theorem rah_loop (hw : w ≤ 5) (hr : r ≤ 4) (hm : m ≤ r) (hc : c ≤ 3) {a p l : Nat} (ha : a < c) (hp : p < w) (hl : l < 4) (hbl : ∀ j, j < m → b j < 4 ^ w) : ∀ (n j : Nat) (f : xM), rFc w c r t K pe le f → f 19 1 = day → (∀ j, j < m → f 19 (5 + j) = nI (b j)) → j ≤ m → m < j + n → (∀ i, i < j → f 23 i = nI (bl1 w K pe le day b (100 * a + 10 * p + l) i)) → ∃ f', pX4_readAhead_b3 F n (nI m) (nI a) (nI p) (nI l) (nI j) f = some f' ∧ (∀ z, z ≠ 23 → f' z = f z) ∧ ∀ i, i < m → f' 23 i = nI (bl1 w K pe le day b (100 * a + 10 * p + l) i) := by
  intro n
  induction n with
  | zero => intro j f _ _ _ z1 z2; omega
  | succ n ih =>
    intro j f hf hday hb z1 z2 hi
    rw [pX4_readAhead_b3]
    by_cases hj : m ≤ j
    · rw [if_pos (nI_le hj (by omega))]
      exact ⟨f, rfl, fun _ _ => rfl, fun i h => hi i (by omega)⟩
    · have hf' := hf
      obtain ⟨f4, f24, f26, fK, fD⟩ := hf'
      obtain ⟨d1, d2, d3, d4⟩ := fD j (by omega)
      have hk := fK a ha
      have e : bl1 w K pe le day b (100 * a + 10 * p + l) j = if rdI day (pe j) (le j) = 0 then b j else nt4 w (K a) (b j) p l := by unfold bl1; rw [one_x (by omega) (by omega)]
      have hx : xin (nI j) 4 := xin_of (show j < 4 by omega) (by omega)
      simp only [if_neg (nI_ge (show j < m by omega) (by omega)), if_neg (show ¬ (4 : Int32) ≤ nI j from nI_ge (b := 4) (by omega) (by omega)), beliefOf_eq (f := f) (show j < 4 by omega), Option.bind_some, hb j (by omega), pX9_day, hday, readsOn_eq (show j < 4 by omega) d1 d2 d3 d4, noticed6_eq hw f4 (show a < 3 by omega) hk.1 hk.2 hp (hbl j (by omega)) hl, if_pos hx, nI_clamp (show j < 2 ^ 31 by omega), show nI j + (1 : Int32) = nI (j + 1) from nI_1 j]
      have next : ∀ v : Int32, v = nI (bl1 w K pe le day b (100 * a + 10 * p + l) j) → ∃ f', pX4_readAhead_b3 F n (nI m) (nI a) (nI p) (nI l) (nI (j + 1)) (xu f 23 j v) = some f' ∧ (∀ z, z ≠ 23 → f' z = f z) ∧ ∀ i, i < m → f' 23 i = nI (bl1 w K pe le day b (100 * a + 10 * p + l) i) := by
        intro v hv
        obtain ⟨f', g1, g2, g3⟩ := ih (j + 1) (xu f 23 j v) (rFc_ok hf (fun z hz => xu_ne hz)) (by rw [xu_ne (by decide)]; exact hday) (fun i h => by rw [xu_ne (by decide)]; exact hb i h) (by omega) (by omega) (fun i h => by
          by_cases q : i = j
          · subst q; rw [xu_same]; exact hv
          · rw [xu_neK q]; exact hi i (by omega))
        exact ⟨f', g1, fun z hz => by rw [g2 z hz, xu_ne hz], g3⟩
      rcases rdI_cases day (pe j) (le j) with hz | hz
      · rw [if_pos hz]
        rw [if_pos hz] at e
        exact next _ (by rw [e])
      · have hz0 : ¬ rdI day (pe j) (le j) = 0 := by rw [hz]; decide
        rw [if_neg hz0]
        rw [if_neg hz0] at e
        exact next _ (by rw [e])
def l2R (c w m t : Nat) (K pe le : Nat → Nat) (day : Int32) (s : Nat) (b : Nat → Nat) (q : Int32) : Prop := (q = -9 ∧ ∀ x, vt c w x → ¬ gd2 c w m t K pe le day s b x) ∨ ∃ x y, q = nI (x * 1000 + y) ∧ vt c w x ∧ vt c w y ∧ gd1 w m t K pe le (day + 1) (one w K x s) (bl1 w K pe le day b x) y ∧ (∀ z, z < y → vt c w z → ¬ gd1 w m t K pe le (day + 1) (one w K x s) (bl1 w K pe le day b x) z) ∧ ∀ z, z < x → vt c w z → ¬ gd2 c w m t K pe le day s b z
def twI (w c r t m s : Nat) (K pe le b : Nat → Nat) (day : Int32) (f0 f : xM) : Prop := rFc w c r t K pe le f ∧ f 19 0 = nI s ∧ f 19 1 = day ∧ (∀ j, j < m → f 19 (5 + j) = nI (b j)) ∧ ∀ z, z ≠ 23 → f z = f0 z
theorem twI_ok {f0 f f' : xM} (h : twI w c r t m s K pe le b day f0 f) (e : ∀ z, z ≠ 23 → f' z = f z) : twI w c r t m s K pe le b day f0 f' := by
  obtain ⟨a1, a2, a3, a4, a5⟩ := h
  refine ⟨rFc_ok a1 e, ?_, ?_, ?_, fun z hz => by rw [e z hz, a5 z hz]⟩
  · rw [e 19 (by decide)]; exact a2
  · rw [e 19 (by decide)]; exact a3
  · rw [e 19 (by decide)]; exact a4
theorem bl1_lt {x : Nat} (hw : w ≤ 5) (hv : vt c w x) (hbl : ∀ j, j < m → b j < 4 ^ w) : ∀ j, j < m → bl1 w K pe le day b x j < 4 ^ w := by
  intro j hj
  unfold bl1
  split
  · exact hbl j hj
  · exact one_lt hw hv (hbl j hj)
theorem tw38 (hF : 5 < F) (hw : w ≤ 5) (hc : c ≤ 3) (hr : r ≤ 4) (hm : m ≤ r) (ht : t < 4 ^ w) (hs : s < 4 ^ w) (hbl : ∀ j, j < m → b j < 4 ^ w) {f0 : xM} {a p : Nat} (ha : a < c) (hp : p < w) {K11 : Int32 → Int32 → Int32 → xM → Option (Int32 × xM)} {K23 : Int32 → Int32 → Int32 → Int32 → xM → Option (Int32 × xM)} : ∀ (n l : Nat) (f : xM), twI w c r t m s K pe le b day f0 f → l ≤ 4 → 4 < l + n → (∀ y, y < 100 * a + 10 * p + l → vt c w y → ¬ gd2 c w m t K pe le day s b y) → (∃ q f', pX4_twoNotices_b38 F K11 K23 n (nI m) day (nI a) (nI p) (nI l) f = some (q, f') ∧ twI w c r t m s K pe le b day f0 f' ∧ l2R c w m t K pe le day s b q) ∨ (∃ f', twI w c r t m s K pe le b day f0 f' ∧ (∀ y, y < 100 * a + 10 * (p + 1) → vt c w y → ¬ gd2 c w m t K pe le day s b y) ∧ pX4_twoNotices_b38 F K11 K23 n (nI m) day (nI a) (nI p) (nI l) f = K23 (nI m) day (nI a) (nI (p + 1)) f') := by
  have hbb := p4_le hw
  intro n
  induction n with
  | zero => intro l f _ z1 z2; omega
  | succ n ih =>
    intro l f hI z1 z2 hi
    rw [pX4_twoNotices_b38]
    by_cases hl : 4 ≤ l
    · right
      rw [if_pos (show (4 : Int32) ≤ nI l from nI_le (a := 4) hl (by omega)), show nI p + (1 : Int32) = nI (p + 1) from nI_1 p]
      refine ⟨f, hI, fun y hy hv => ?_, rfl⟩
      by_cases q : y < 100 * a + 10 * p + l
      · exact hi y q hv
      · have := hv.2.2; omega
    · have hv := vt_x (c := c) ha hp hw (show l < 4 by omega)
      obtain ⟨f', g1, g2, g3⟩ := rah_loop (F := F) (b := b) hw hr hm hc ha hp (show l < 4 by omega) hbl F 0 f hI.1 hI.2.2.1 hI.2.2.2.1 (by omega) (by omega) (fun i h => by omega)
      have g1' : pX4_readAhead F (nI m) (nI a) (nI p) (nI l) f = some f' := g1
      have hI' := twI_ok hI g2
      have hk := hI'.1.2.2.2.1 a ha
      have e1 : one w K (100 * a + 10 * p + l) s = nt4 w (K a) s p l := one_x (by omega) (by omega)
      have hn := nt4_lt (kd := K a) hw hp hs (show l < 4 by omega)
      have hb1 := bl1_lt (day := day) (K := K) (pe := pe) (le := le) hw hv hbl
      obtain ⟨q, q1, q2⟩ := ln_eq (F := F) (s := nt4 w (K a) s p l) hF hw hc hr hm ht hI'.1 (fun j hj => ⟨hb1 j hj, g3 j hj⟩) hn (day + 1)
      rw [if_neg (show ¬ (4 : Int32) ≤ nI l from nI_ge (b := 4) (by omega) (by omega)), g1', Option.bind_some, show pX9_said f' = nI s from hI'.2.1, noticed6_eq hw hI'.1.1 (show a < 3 by omega) hk.1 hk.2 hp hs (show l < 4 by omega), Option.bind_some, q1, Option.bind_some, show nI l + (1 : Int32) = nI (l + 1) from nI_1 l]
      rw [← e1] at q2
      rcases q2 with ⟨rfl, q2⟩ | ⟨y, rfl, y1, y2, y3⟩
      · rw [if_pos rfl]
        refine ih (l + 1) f' hI' (by omega) (by omega) (fun y hy hvy => ?_)
        rcases Nat.lt_or_ge y (100 * a + 10 * p + l) with u | u
        · exact hi y u hvy
        · rw [show y = 100 * a + 10 * p + l by omega]
          rintro ⟨z, z1, z2⟩
          exact q2 z z1 z2
      · left
        have hy : y < 300 := by have := y1.1; omega
        rw [if_neg (ne9 y (by omega))]
        refine ⟨_, f', rfl, hI', Or.inr ⟨100 * a + 10 * p + l, y, ?_, hv, y1, y2, y3, hi⟩⟩
        rw [show (100 : Int32) * nI a = nI (100 * a) from pk_mul 100 a, show (10 : Int32) * nI p = nI (10 * p) from pk_mul 10 p, nI_add, nI_add, show nI (100 * a + 10 * p + l) * (1000 : Int32) = nI ((100 * a + 10 * p + l) * 1000) from pk_mul _ 1000, nI_add]
theorem tw23 (hF : 5 < F) (hw : w ≤ 5) (hc : c ≤ 3) (hr : r ≤ 4) (hm : m ≤ r) (ht : t < 4 ^ w) (hs : s < 4 ^ w) (hbl : ∀ j, j < m → b j < 4 ^ w) {f0 : xM} {a : Nat} (ha : a < c) {K11 : Int32 → Int32 → Int32 → xM → Option (Int32 × xM)} : ∀ (n p : Nat) (f : xM), twI w c r t m s K pe le b day f0 f → p ≤ w → w < p + n → (∀ y, y < 100 * a + 10 * p → vt c w y → ¬ gd2 c w m t K pe le day s b y) → (∃ q f', pX4_twoNotices_b23 F K11 n (nI m) day (nI a) (nI p) f = some (q, f') ∧ twI w c r t m s K pe le b day f0 f' ∧ l2R c w m t K pe le day s b q) ∨ (∃ f', twI w c r t m s K pe le b day f0 f' ∧ (∀ y, y < 100 * (a + 1) → vt c w y → ¬ gd2 c w m t K pe le day s b y) ∧ pX4_twoNotices_b23 F K11 n (nI m) day (nI a) (nI p) f = K11 (nI m) day (nI (a + 1)) f') := by
  intro n
  induction n with
  | zero => intro p f _ z1 z2; omega
  | succ n ih =>
    intro p f hI z1 z2 hi
    rw [pX4_twoNotices_b23, hI.1.1]
    by_cases hp : w ≤ p
    · right
      rw [if_pos (nI_le hp (by omega)), show nI a + (1 : Int32) = nI (a + 1) from nI_1 a]
      refine ⟨f, hI, fun y hy hv => ?_, rfl⟩
      by_cases q : y < 100 * a + 10 * p
      · exact hi y q hv
      · have := hv.2.1; omega
    · rw [if_neg (nI_ge (by omega) (by omega))]
      rcases tw38 (F := F) (day := day) hF hw hc hr hm ht hs hbl ha (show p < w by omega) (K11 := K11) (K23 := pX4_twoNotices_b23 F K11 n) F 0 f hI (by omega) (by omega) hi with ⟨q, f', q1, q2, q3⟩ | ⟨f', q1, q2, q3⟩
      · exact Or.inl ⟨q, f', q1, q2, q3⟩
      · have q3' : pX4_twoNotices_b38 F K11 (pX4_twoNotices_b23 F K11 n) F (nI m) day (nI a) (nI p) (0 : Int32) f = _ := q3
        rw [q3']
        exact ih (p + 1) f' q1 (by omega) (by omega) q2
theorem tw11 (hF : 5 < F) (hw : w ≤ 5) (hc : c ≤ 3) (hr : r ≤ 4) (hm : m ≤ r) (ht : t < 4 ^ w) (hs : s < 4 ^ w) (hbl : ∀ j, j < m → b j < 4 ^ w) {f0 : xM} : ∀ (n a : Nat) (f : xM), twI w c r t m s K pe le b day f0 f → a ≤ c → c < a + n → (∀ y, y < 100 * a → vt c w y → ¬ gd2 c w m t K pe le day s b y) → ∃ q f', pX4_twoNotices_b11 F n (nI m) day (nI a) f = some (q, f') ∧ twI w c r t m s K pe le b day f0 f' ∧ l2R c w m t K pe le day s b q := by
  intro n
  induction n with
  | zero => intro a f _ z1 z2; omega
  | succ n ih =>
    intro a f hI z1 z2 hi
    rw [pX4_twoNotices_b11, hI.1.2.1]
    by_cases ha : c ≤ a
    · rw [if_pos (nI_le ha (by omega))]
      refine ⟨-9, f, rfl, hI, Or.inl ⟨rfl, fun y hv => ?_⟩⟩
      by_cases q : y < 100 * a
      · exact hi y q hv
      · have := hv.1; omega
    · rw [if_neg (nI_ge (by omega) (by omega))]
      rcases tw23 (F := F) (day := day) hF hw hc hr hm ht hs hbl (show a < c by omega) (K11 := pX4_twoNotices_b11 F n) F 0 f hI (by omega) (by omega) hi with ⟨q, f', q1, q2, q3⟩ | ⟨f', q1, q2, q3⟩
      · exact ⟨q, f', q1, q2, q3⟩
      · have q3' : pX4_twoNotices_b23 F (pX4_twoNotices_b11 F n) F (nI m) day (nI a) (0 : Int32) f = _ := q3
        rw [q3']
        exact ih (a + 1) f' q1 (by omega) (by omega) q2
theorem two_eq (hF : 5 < F) (hw : w ≤ 5) (hc : c ≤ 3) (hr : r ≤ 4) (hm : m ≤ r) (ht : t < 4 ^ w) (hs : s < 4 ^ w) (hbl : ∀ j, j < m → b j < 4 ^ w) {f0 : xM} (hI : twI w c r t m s K pe le b day f0 f) : ∃ q f', pX4_twoNotices F (nI m) f = some (q, f') ∧ twI w c r t m s K pe le b day f0 f' ∧ l2R c w m t K pe le day s b q := by
  unfold pX4_twoNotices
  rw [show pX9_day f = day from hI.2.2.1]
  exact tw11 hF hw hc hr hm ht hs hbl F 0 f hI (by omega) (by omega) (fun y hy => by omega)
/-! none -/
theorem bel_loop (hw : w ≤ 5) (hr : r ≤ 4) (ht : t < 4 ^ w) (f25 : f 2 5 = nI r) (f26 : f 2 6 = nI t) (hb : ∀ j, j < r → b j < 4 ^ w ∧ f 19 (5 + j) = nI (b j)) : ∀ (n j M : Nat), j ≤ r → r < j + n → M < 16 → (∀ i, i < r → M.testBit i = (decide (i < j) && decide (b i = t))) → ∃ M', pX6_believingTruth_b4 F f n (nI M) (nI j) = some (nI M') ∧ M' < 16 ∧ ∀ i, i < r → M'.testBit i = decide (b i = t) := by
  have hbb := p4_le hw
  intro n
  induction n with
  | zero => intro j M z1 z2; omega
  | succ n ih =>
    intro j M z1 z2 hM hq
    rw [pX6_believingTruth_b4, f25]
    by_cases hj : r ≤ j
    · rw [if_pos (nI_le hj (by omega))]
      exact ⟨M, rfl, hM, fun i hi => by rw [hq i hi, decide_eq_true (show i < j by omega), Bool.true_and]⟩
    · obtain ⟨b1, b2⟩ := hb j (by omega)
      have h2p : 2 ^ j < 2 ^ 4 := Nat.pow_lt_pow_right (by decide) (by omega)
      rw [if_neg (nI_ge (by omega) (by omega)), beliefOf_eq (show j < 4 by omega), Option.bind_some, b2, f26, shl1 (by omega), nI_or, show nI j + (1 : Int32) = nI (j + 1) from nI_1 j]
      by_cases he : b j = t
      · rw [if_pos (by rw [he])]
        refine ih (j + 1) (M ||| 2 ^ j) (by omega) (by omega) (Nat.or_lt_two_pow (n := 4) hM h2p) (fun i hi => ?_)
        rw [Nat.testBit_or, hq i hi, Nat.testBit_two_pow]
        by_cases hqp : i = j
        · subst hqp; simp [he]
        · have e1 : (j = i) = False := by simp; omega
          have e2 : (i < j + 1) = (i < j) := by simp; omega
          simp only [e1, e2, decide_false, Bool.or_false]
      · rw [if_neg (fun q => he (nI_inj (by omega) (by omega) q))]
        refine ih (j + 1) M (by omega) (by omega) hM (fun i hi => ?_)
        rw [hq i hi]
        by_cases hqp : i = j
        · subst hqp; simp [he]
        · have e2 : (i < j + 1) = (i < j) := by simp; omega
          simp only [e2]
theorem all_bits {M m : Nat} : M % 2 ^ m = 2 ^ m - 1 ↔ ∀ i, i < m → M.testBit i = true := by
  constructor
  · intro h i hi
    have e := Nat.testBit_mod_two_pow M m i
    rw [h, Nat.testBit_two_pow_sub_one, decide_eq_true hi, Bool.true_and] at e
    exact e.symm
  · intro h
    apply Nat.eq_of_testBit_eq
    intro i
    rw [Nat.testBit_mod_two_pow, Nat.testBit_two_pow_sub_one]
    by_cases hi : i < m
    · rw [h i hi, Bool.and_true]
    · rw [decide_eq_false hi, Bool.false_and]
theorem isr_eq (hF : 5 < F) (hw : w ≤ 5) (hr : r ≤ 4) (hm : m ≤ r) (ht : t < 4 ^ w) (hs : s < 4 ^ w) (f25 : f 2 5 = nI r) (f26 : f 2 6 = nI t) (f19 : f 19 0 = nI s) (hb : ∀ j, j < r → b j < 4 ^ w ∧ f 19 (5 + j) = nI (b j)) : ∃ q, pX4_isRighted F f (nI m) = some q ∧ ((q = 1 ∧ fin1 m t s b) ∨ (q = 0 ∧ ¬ fin1 m t s b)) := by
  have hbb := p4_le hw
  unfold pX4_isRighted pX9_said
  rw [f19, f26]
  by_cases he : s = t
  · rw [if_pos (by rw [he])]
    obtain ⟨M, m1, m2, m3⟩ := bel_loop (F := F) hw hr ht f25 f26 hb F 0 0 (by omega) (by omega) (by omega) (fun i hi => by simp)
    have m1' : pX6_believingTruth F f = some (nI M) := m1
    have h2m : 2 ^ m ≤ 16 := by
      have : 2 ^ m ≤ 2 ^ 4 := Nat.pow_le_pow_right (by decide) (by omega)
      simpa using this
    have h2m1 : 0 < 2 ^ m := Nat.two_pow_pos m
    have hmod := Nat.mod_lt M h2m1
    rw [m1', Option.bind_some, shl1 (show m < 10 by omega), show nI (2 ^ m) - (1 : Int32) = nI (2 ^ m - 1) by have := nI_pred (2 ^ m - 1); rw [show 2 ^ m - 1 + 1 = 2 ^ m by omega] at this; exact this, nI_and, Nat.and_two_pow_sub_one_eq_mod]
    have key : fin1 m t s b ↔ M % 2 ^ m = 2 ^ m - 1 := by
      rw [all_bits]
      constructor
      · intro q i hi
        rw [m3 i (by omega), decide_eq_true (q.2 i hi)]
      · intro q
        refine ⟨he, fun i hi => ?_⟩
        have := q i hi
        rw [m3 i (by omega)] at this
        exact of_decide_eq_true this
    by_cases hq : M % 2 ^ m = 2 ^ m - 1
    · rw [if_pos (by rw [hq])]
      exact ⟨1, rfl, Or.inl ⟨rfl, key.mpr hq⟩⟩
    · rw [if_neg (fun z => hq (nI_inj (by omega) (by omega) z))]
      exact ⟨0, rfl, Or.inr ⟨rfl, fun z => hq (key.mp z)⟩⟩
  · rw [if_neg (fun z => he (nI_inj (by omega) (by omega) z))]
    exact ⟨0, rfl, Or.inr ⟨rfl, fun z => he z.1⟩⟩
theorem rdb_loop (hr : r ≤ 4) (hm : m ≤ r) : ∀ (n j : Nat) (f : xM), (∀ j, j < m → f 19 (5 + j) = nI (b j)) → j ≤ m → m < j + n → (∀ i, i < j → f 23 i = nI (b i)) → ∃ f', pX4_readBeliefs_b2 F n (nI m) (nI j) f = some f' ∧ (∀ z, z ≠ 23 → f' z = f z) ∧ ∀ i, i < m → f' 23 i = nI (b i) := by
  intro n
  induction n with
  | zero => intro j f _ z1 z2; omega
  | succ n ih =>
    intro j f hb z1 z2 hi
    rw [pX4_readBeliefs_b2]
    by_cases hj : m ≤ j
    · rw [if_pos (nI_le hj (by omega))]
      exact ⟨f, rfl, fun _ _ => rfl, fun i h => hi i (by omega)⟩
    · rw [if_neg (nI_ge (show j < m by omega) (by omega)), if_neg (show ¬ (4 : Int32) ≤ nI j from nI_ge (b := 4) (by omega) (by omega)), beliefOf_eq (f := f) (show j < 4 by omega), Option.bind_some, hb j (by omega), if_pos (xin_of (show j < 4 by omega) (by omega)), nI_clamp (show j < 2 ^ 31 by omega), show nI j + (1 : Int32) = nI (j + 1) from nI_1 j]
      obtain ⟨f', g1, g2, g3⟩ := ih (j + 1) (xu f 23 j (nI (b j))) (fun i h => by rw [xu_ne (by decide)]; exact hb i h) (by omega) (by omega) (fun i h => by
          by_cases q : i = j
          · subst q; rw [xu_same]
          · rw [xu_neK q]; exact hi i (by omega))
      exact ⟨f', g1, fun z hz => by rw [g2 z hz, xu_ne hz], g3⟩
/-- what a search finds: how many notices, and the row -/
def sFound (c w m t : Nat) (K pe le : Nat → Nat) (day : Int32) (s : Nat) (b : Nat → Nat) (u v : Int32) : Prop :=
  (fin1 m t s b ∧ u = 0 ∧ v = 0) ∨ (¬ fin1 m t s b ∧ ∃ x, u = 1 ∧ v = nI x ∧ vt c w x ∧ gd1 w m t K pe le day s b x ∧ ∀ y, y < x → vt c w y → ¬ gd1 w m t K pe le day s b y) ∨ (¬ fin1 m t s b ∧ (∀ x, vt c w x → ¬ gd1 w m t K pe le day s b x) ∧ ((u = -9 ∧ v = -9 ∧ ∀ x, vt c w x → ¬ gd2 c w m t K pe le day s b x) ∨ (u = 2 ∧ l2R c w m t K pe le day s b v ∧ ¬ v = -9)))
theorem search_eq (hF : 5 < F) (hw : w ≤ 5) (hc : c ≤ 3) (hr : r ≤ 4) (hm : m ≤ r) (ht : t < 4 ^ w) (hs : s < 4 ^ w) (hf : rFc w c r t K pe le f) (f25 : f 2 5 = nI r) (f19 : f 19 0 = nI s) (f191 : f 19 1 = day) (hb : ∀ j, j < r → b j < 4 ^ w ∧ f 19 (5 + j) = nI (b j)) : ∃ f', pX4_search F (nI m) f = some f' ∧ (∀ z, z ≠ 23 → z ≠ 6 → f' z = f z) ∧ sFound c w m t K pe le day s b (f' 6 1) (f' 6 2) := by
  unfold pX4_search
  have e1 : ∀ z, z ≠ 6 → xu (xu f 6 1 (-9 : Int32)) 6 2 (-9 : Int32) z = f z := fun z hz => by rw [xu_ne hz, xu_ne hz]
  have e61 : xu (xu f 6 1 (-9 : Int32)) 6 2 (-9 : Int32) 6 1 = -9 := by rw [xu_neK (by decide), xu_same]
  have e62 : xu (xu f 6 1 (-9 : Int32)) 6 2 (-9 : Int32) 6 2 = -9 := xu_same
  generalize xu (xu f 6 1 (-9 : Int32)) 6 2 (-9 : Int32) = f1 at e1 e61 e62
  have hf1 : rFc w c r t K pe le f1 := by
    unfold rFc
    rw [e1 10 (by decide), e1 2 (by decide), e1 19 (by decide), e1 17 (by decide), e1 18 (by decide)]
    exact hf
  obtain ⟨q, q1, q2⟩ := isr_eq (F := F) (f := f1) (m := m) hF hw hr hm ht hs (by rw [e1 2 (by decide)]; exact f25) (by rw [e1 2 (by decide)]; exact hf.2.2.1) (by rw [e1 19 (by decide)]; exact f19) (fun j hj => ⟨(hb j hj).1, by rw [e1 19 (by decide)]; exact (hb j hj).2⟩)
  rw [q1, Option.bind_some]
  rcases q2 with ⟨rfl, q2⟩ | ⟨rfl, q2⟩
  · rw [if_neg (by decide)]
    refine ⟨_, rfl, fun z z1 z2 => by rw [xu_ne z2, xu_ne z2, e1 z z2], Or.inl ⟨q2, ?_, ?_⟩⟩
    · rw [xu_neK (by decide), xu_same]
    · rw [xu_same]
  · rw [if_pos rfl]
    obtain ⟨f2, g1, g2, g3⟩ := rdb_loop (F := F) (b := b) hr hm F 0 f1 (fun j hj => by rw [e1 19 (by decide)]; exact (hb j (by omega)).2) (by omega) (by omega) (fun i h => by omega)
    have g1' : pX4_readBeliefs F (nI m) f1 = some f2 := g1
    have hI : twI w c r t m s K pe le b day f1 f2 := ⟨rFc_ok hf1 g2, by rw [g2 19 (by decide), e1 19 (by decide)]; exact f19, by rw [g2 19 (by decide), e1 19 (by decide)]; exact f191, fun j hj => by rw [g2 19 (by decide), e1 19 (by decide)]; exact (hb j (by omega)).2, g2⟩
    obtain ⟨q, u1, u2⟩ := ln_eq (F := F) (f := f2) (b := b) hF hw hc hr hm ht hI.1 (fun j hj => ⟨(hb j (by omega)).1, g3 j hj⟩) hs day
    rw [g1', Option.bind_some, show pX9_said f2 = nI s from hI.2.1, show pX9_day f2 = day from hI.2.2.1, u1, Option.bind_some]
    rcases u2 with ⟨rfl, u2⟩ | ⟨x, rfl, x1, x2, x3⟩
    · rw [if_pos rfl]
      obtain ⟨q, f3, v1, v2, v3⟩ := two_eq hF hw hc hr hm ht hs (fun j hj => (hb j (by omega)).1) hI
      rw [v1, Option.bind_some]
      dsimp only
      by_cases hq : q = -9
      · rw [if_pos hq]
        refine ⟨f3, rfl, fun z z1 z2 => by rw [v2.2.2.2.2 z z1, e1 z z2], Or.inr (Or.inr ⟨q2, u2, Or.inl ⟨?_, ?_, ?_⟩⟩)⟩
        · rw [v2.2.2.2.2 6 (by decide)]; exact e61
        · rw [v2.2.2.2.2 6 (by decide)]; exact e62
        · rcases v3 with ⟨_, v3⟩ | ⟨x, y, h1, h2, h3, _⟩
          · exact v3
          · exfalso
            have a1 := h2.1
            have a2 := h3.1
            exact ne9 (x * 1000 + y) (by omega) (by rw [← h1]; exact hq)
      · rw [if_neg hq]
        refine ⟨_, rfl, fun z z1 z2 => by rw [xu_ne z2, xu_ne z2, v2.2.2.2.2 z z1, e1 z z2], Or.inr (Or.inr ⟨q2, u2, Or.inr ⟨?_, ?_, ?_⟩⟩)⟩
        · rw [xu_neK (by decide), xu_same]
        · rw [xu_same]; exact v3
        · rw [xu_same]; exact hq
    · have hx : x < 300 := by have := x1.1; omega
      rw [if_neg (ne9 x (by omega))]
      refine ⟨_, rfl, fun z z1 z2 => by rw [xu_ne z2, xu_ne z2, g2 z z1, e1 z z2], Or.inr (Or.inl ⟨q2, x, ?_, ?_, x1, x2, x3⟩)⟩
      · rw [xu_neK (by decide), xu_same]
      · rw [xu_same]
end rt
