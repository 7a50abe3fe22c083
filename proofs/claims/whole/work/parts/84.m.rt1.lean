/-! ===== rows that put it right: what is looked for; the class's search ===== -/
def bl1 (w : Nat) (K pe le : Nat → Nat) (day : Int32) (b : Nat → Nat) (x j : Nat) : Nat := if rdI day (pe j) (le j) = 0 then b j else one w K x (b j)
def fin1 (m t s : Nat) (b : Nat → Nat) : Prop := s = t ∧ ∀ j, j < m → b j = t
def gd1 (w m t : Nat) (K pe le : Nat → Nat) (day : Int32) (s : Nat) (b : Nat → Nat) (x : Nat) : Prop := fin1 m t (one w K x s) (bl1 w K pe le day b x)
def gd2 (c w m t : Nat) (K pe le : Nat → Nat) (day : Int32) (s : Nat) (b : Nat → Nat) (x : Nat) : Prop := ∃ y, vt c w y ∧ gd1 w m t K pe le (day + 1) (one w K x s) (bl1 w K pe le day b x) y
def lnR (c w : Nat) (P : Nat → Prop) (q : Int32) : Prop := (q = -9 ∧ ∀ x, vt c w x → ¬ P x) ∨ ∃ x, q = nI x ∧ vt c w x ∧ P x ∧ ∀ y, y < x → vt c w y → ¬ P y
def rFc (w c r t : Nat) (K pe le : Nat → Nat) (f : xM) : Prop := f 10 0 = nI w ∧ f 2 4 = nI c ∧ f 2 6 = nI t ∧ (∀ i, i < c → K i < 4 ∧ f 19 (2 + i) = nI (K i)) ∧ (∀ j, j < r → 1 ≤ pe j ∧ pe j ≤ 4 ∧ f 17 j = nI (pe j) ∧ f 18 j = nI (le j))
theorem rFc_ok {w c r t : Nat} {K pe le : Nat → Nat} {f f' : xM} (h : rFc w c r t K pe le f) (e : ∀ z, z ≠ 23 → f' z = f z) : rFc w c r t K pe le f' := by
  obtain ⟨a1, a2, a3, a4, a5⟩ := h
  unfold rFc
  rw [e 10 (by decide), e 2 (by decide), e 19 (by decide), e 17 (by decide), e 18 (by decide)]
  exact ⟨a1, a2, a3, a4, a5⟩
section rt
variable {w c r t m F s : Nat} {K pe le b : Nat → Nat} {f : xM} {day : Int32}
theorem one_x {a p l s : Nat} (hp : p < 10) (hl : l < 10) : one w K (100 * a + 10 * p + l) s = nt4 w (K a) s p l := by
  unfold one
  rw [show (100 * a + 10 * p + l) / 100 = a by omega, show (100 * a + 10 * p + l) / 10 % 10 = p by omega, show (100 * a + 10 * p + l) % 10 = l by omega]
theorem vt_x {a p l : Nat} (ha : a < c) (hp : p < w) (hw : w ≤ 5) (hl : l < 4) : vt c w (100 * a + 10 * p + l) := ⟨by omega, by omega, by omega⟩
theorem rbl_loop (hw : w ≤ 5) (hr : r ≤ 4) (hm : m ≤ r) (ht : t < 4 ^ w) (hf : rFc w c r t K pe le f) (hb : ∀ j, j < m → b j < 4 ^ w ∧ f 23 j = nI (b j)) {a p l : Nat} (ha : a < c) (hp : p < w) (hl : l < 4) : ∀ (n j : Nat), j ≤ m → m < j + n → (∀ i, i < j → bl1 w K pe le day b (100 * a + 10 * p + l) i = t) → ∃ q, pX4_rightsBeliefs_b3 F f n (nI m) day (nI (K a)) (nI p) (nI l) (nI j) = some q ∧ ((q = 1 ∧ ∀ i, i < m → bl1 w K pe le day b (100 * a + 10 * p + l) i = t) ∨ (q = 0 ∧ ¬ ∀ i, i < m → bl1 w K pe le day b (100 * a + 10 * p + l) i = t)) := by
  have hbb := p4_le hw
  obtain ⟨f4, f24, f26, fK, fD⟩ := hf
  intro n
  induction n with
  | zero => intro j z1 z2; omega
  | succ n ih =>
    intro j z1 z2 hi
    rw [pX4_rightsBeliefs_b3]
    by_cases hj : m ≤ j
    · rw [if_pos (nI_le hj (by omega))]
      exact ⟨1, rfl, Or.inl ⟨rfl, fun i h => hi i (by omega)⟩⟩
    · obtain ⟨d1, d2, d3, d4⟩ := fD j (by omega)
      obtain ⟨b1, b2⟩ := hb j (by omega)
      have hk := (fK a ha).1
      rw [if_neg (nI_ge (by omega) (by omega)), if_neg (show ¬ (4 : Int32) ≤ nI j from nI_ge (b := 4) (by omega) (by omega)), if_pos (xin_of (show j < 4 by omega) (by omega)), nI_clamp (by omega), readsOn_eq (show j < 4 by omega) d1 d2 d3 d4, Option.bind_some, b2, f26, noticed8_eq hw f4 hk hp b1 hl, show nI j + (1 : Int32) = nI (j + 1) from nI_1 j]
      have next : bl1 w K pe le day b (100 * a + 10 * p + l) j = t → ∃ q, pX4_rightsBeliefs_b3 F f n (nI m) day (nI (K a)) (nI p) (nI l) (nI (j + 1)) = some q ∧ ((q = 1 ∧ ∀ i, i < m → bl1 w K pe le day b (100 * a + 10 * p + l) i = t) ∨ (q = 0 ∧ ¬ ∀ i, i < m → bl1 w K pe le day b (100 * a + 10 * p + l) i = t)) := by
        intro he
        refine ih (j + 1) (by omega) (by omega) (fun i h => ?_)
        rcases Nat.lt_or_ge i j with q | q
        · exact hi i q
        · rw [show i = j by omega]; exact he
      have hn := nt4_lt (kd := K a) hw hp b1 hl
      have e : bl1 w K pe le day b (100 * a + 10 * p + l) j = if rdI day (pe j) (le j) = 0 then b j else nt4 w (K a) (b j) p l := by unfold bl1; rw [one_x (by omega) (by omega)]
      rcases rdI_cases day (pe j) (le j) with hz | hz
      · rw [if_pos hz]
        rw [if_pos hz] at e
        by_cases he : b j = t
        · rw [if_pos (by rw [he])]
          exact next (by rw [e, he])
        · rw [if_neg (fun q => he (nI_inj (by omega) (by omega) q))]
          exact ⟨0, rfl, Or.inr ⟨rfl, fun q => he (by rw [← e]; exact q j (by omega))⟩⟩
      · have hz0 : ¬ rdI day (pe j) (le j) = 0 := by rw [hz]; decide
        rw [if_neg hz0]
        rw [if_neg hz0] at e
        by_cases he : nt4 w (K a) (b j) p l = t
        · rw [if_pos (by rw [he])]
          exact next (by rw [e, he])
        · rw [if_neg (fun q => he (nI_inj (by omega) (by omega) q))]
          exact ⟨0, rfl, Or.inr ⟨rfl, fun q => he (by rw [← e]; exact q j (by omega))⟩⟩
theorem ln41 (hF : 5 < F) (hw : w ≤ 5) (hc : c ≤ 3) (hr : r ≤ 4) (hm : m ≤ r) (ht : t < 4 ^ w) (hf : rFc w c r t K pe le f) (hb : ∀ j, j < m → b j < 4 ^ w ∧ f 23 j = nI (b j)) (hs : s < 4 ^ w) {a p : Nat} (ha : a < c) (hp : p < w) {K3 : Int32 → Int32 → Int32 → Int32 → Option (Int32)} {K26 : Int32 → Int32 → Int32 → Int32 → Int32 → Int32 → Option (Int32)} : ∀ (n l : Nat), l ≤ 4 → 4 < l + n → (∀ y, y < 100 * a + 10 * p + l → vt c w y → ¬ gd1 w m t K pe le day s b y) → (∃ q, pX4_lastNotice_b41 F f K3 K26 n (nI s) (nI m) day (nI a) (nI (K a)) (nI p) (nI l) = some q ∧ lnR c w (gd1 w m t K pe le day s b) q) ∨ ((∀ y, y < 100 * a + 10 * (p + 1) → vt c w y → ¬ gd1 w m t K pe le day s b y) ∧ pX4_lastNotice_b41 F f K3 K26 n (nI s) (nI m) day (nI a) (nI (K a)) (nI p) (nI l) = K26 (nI s) (nI m) day (nI a) (nI (K a)) (nI (p + 1))) := by
  have hbb := p4_le hw
  intro n
  induction n with
  | zero => intro l z1 z2; omega
  | succ n ih =>
    intro l z1 z2 hi
    rw [pX4_lastNotice_b41]
    by_cases hl : 4 ≤ l
    · right
      rw [if_pos (show (4 : Int32) ≤ nI l from nI_le (a := 4) hl (by omega)), show nI p + (1 : Int32) = nI (p + 1) from nI_1 p]
      refine ⟨fun y hy hv => ?_, rfl⟩
      by_cases q : y < 100 * a + 10 * p + l
      · exact hi y q hv
      · have := hv.2.2; omega
    · have hk := (hf.2.2.2.1 a ha).1
      have next : ¬ gd1 w m t K pe le day s b (100 * a + 10 * p + l) → (∀ y, y < 100 * a + 10 * p + (l + 1) → vt c w y → ¬ gd1 w m t K pe le day s b y) := by
        intro hg y hy hv
        rcases Nat.lt_or_ge y (100 * a + 10 * p + l) with q | q
        · exact hi y q hv
        · rw [show y = 100 * a + 10 * p + l by omega]; exact hg
      have hn := nt4_lt (kd := K a) hw hp hs (show l < 4 by omega)
      have e1 : one w K (100 * a + 10 * p + l) s = nt4 w (K a) s p l := one_x (by omega) (by omega)
      rw [if_neg (show ¬ (4 : Int32) ≤ nI l from nI_ge (b := 4) (by omega) (by omega)), noticed8_eq hw hf.1 hk hp hs (show l < 4 by omega), hf.2.2.1, show nI l + (1 : Int32) = nI (l + 1) from nI_1 l]
      by_cases he : nt4 w (K a) s p l = t
      · rw [if_pos (by rw [he])]
        obtain ⟨q, q1, q2⟩ := rbl_loop (F := F) (day := day) hw hr hm ht hf hb ha hp (show l < 4 by omega) F 0 (by omega) (by omega) (fun i hi => by omega)
        have q1' : pX4_rightsBeliefs F f (nI m) day (nI (K a)) (nI p) (nI l) = some q := q1
        rw [q1', Option.bind_some]
        rcases q2 with ⟨rfl, q2⟩ | ⟨rfl, q2⟩
        · left
          rw [if_neg (by decide)]
          refine ⟨nI (100 * a + 10 * p + l), ?_, Or.inr ⟨_, rfl, vt_x ha hp hw (by omega), ⟨by rw [e1]; exact he, q2⟩, hi⟩⟩
          rw [show (100 : Int32) * nI a = nI (100 * a) from pk_mul 100 a, show (10 : Int32) * nI p = nI (10 * p) from pk_mul 10 p, nI_add, nI_add]
        · rw [if_pos rfl]
          exact ih (l + 1) (by omega) (by omega) (next (fun g => q2 g.2))
      · rw [if_neg (fun q => he (nI_inj (by omega) (by omega) q))]
        exact ih (l + 1) (by omega) (by omega) (next (fun g => he (by rw [← e1]; exact g.1)))
theorem ln26 (hF : 5 < F) (hw : w ≤ 5) (hc : c ≤ 3) (hr : r ≤ 4) (hm : m ≤ r) (ht : t < 4 ^ w) (hf : rFc w c r t K pe le f) (hb : ∀ j, j < m → b j < 4 ^ w ∧ f 23 j = nI (b j)) (hs : s < 4 ^ w) {a : Nat} (ha : a < c) {K3 : Int32 → Int32 → Int32 → Int32 → Option (Int32)} : ∀ (n p : Nat), p ≤ w → w < p + n → (∀ y, y < 100 * a + 10 * p → vt c w y → ¬ gd1 w m t K pe le day s b y) → (∃ q, pX4_lastNotice_b26 F f K3 n (nI s) (nI m) day (nI a) (nI (K a)) (nI p) = some q ∧ lnR c w (gd1 w m t K pe le day s b) q) ∨ ((∀ y, y < 100 * (a + 1) → vt c w y → ¬ gd1 w m t K pe le day s b y) ∧ pX4_lastNotice_b26 F f K3 n (nI s) (nI m) day (nI a) (nI (K a)) (nI p) = K3 (nI s) (nI m) day (nI (a + 1))) := by
  intro n
  induction n with
  | zero => intro p z1 z2; omega
  | succ n ih =>
    intro p z1 z2 hi
    rw [pX4_lastNotice_b26, hf.1]
    by_cases hp : w ≤ p
    · right
      rw [if_pos (nI_le hp (by omega)), show nI a + (1 : Int32) = nI (a + 1) from nI_1 a]
      refine ⟨fun y hy hv => ?_, rfl⟩
      by_cases q : y < 100 * a + 10 * p
      · exact hi y q hv
      · have := hv.2.1; omega
    · rw [if_neg (nI_ge (by omega) (by omega))]
      rcases ln41 (F := F) (day := day) hF hw hc hr hm ht hf hb hs ha (show p < w by omega) (K3 := K3) (K26 := pX4_lastNotice_b26 F f K3 n) F 0 (by omega) (by omega) hi with ⟨q, q1, q2⟩ | ⟨q1, q2⟩
      · exact Or.inl ⟨q, q1, q2⟩
      · have q2' : pX4_lastNotice_b41 F f K3 (pX4_lastNotice_b26 F f K3 n) F (nI s) (nI m) day (nI a) (nI (K a)) (nI p) (0 : Int32) = _ := q2
        rw [q2']
        exact ih (p + 1) (by omega) (by omega) q1
theorem ln3 (hF : 5 < F) (hw : w ≤ 5) (hc : c ≤ 3) (hr : r ≤ 4) (hm : m ≤ r) (ht : t < 4 ^ w) (hf : rFc w c r t K pe le f) (hb : ∀ j, j < m → b j < 4 ^ w ∧ f 23 j = nI (b j)) (hs : s < 4 ^ w) : ∀ (n a : Nat), a ≤ c → c < a + n → (∀ y, y < 100 * a → vt c w y → ¬ gd1 w m t K pe le day s b y) → ∃ q, pX4_lastNotice_b3 F f n (nI s) (nI m) day (nI a) = some q ∧ lnR c w (gd1 w m t K pe le day s b) q := by
  intro n
  induction n with
  | zero => intro a z1 z2; omega
  | succ n ih =>
    intro a z1 z2 hi
    rw [pX4_lastNotice_b3, hf.2.1]
    by_cases ha : c ≤ a
    · rw [if_pos (nI_le ha (by omega))]
      refine ⟨-9, rfl, Or.inl ⟨rfl, fun y hv => ?_⟩⟩
      by_cases q : y < 100 * a
      · exact hi y q hv
      · have := hv.1; omega
    · rw [if_neg (nI_ge (by omega) (by omega)), kindOf_eq (show a < 3 by omega), Option.bind_some, (hf.2.2.2.1 a (by omega)).2]
      rcases ln26 (F := F) (day := day) hF hw hc hr hm ht hf hb hs (show a < c by omega) (K3 := pX4_lastNotice_b3 F f n) F 0 (by omega) (by omega) hi with ⟨q, q1, q2⟩ | ⟨q1, q2⟩
      · exact ⟨q, q1, q2⟩
      · have q2' : pX4_lastNotice_b26 F f (pX4_lastNotice_b3 F f n) F (nI s) (nI m) day (nI a) (nI (K a)) (0 : Int32) = _ := q2
        rw [q2']
        exact ih (a + 1) (by omega) (by omega) q1
theorem ln_eq (hF : 5 < F) (hw : w ≤ 5) (hc : c ≤ 3) (hr : r ≤ 4) (hm : m ≤ r) (ht : t < 4 ^ w) (hf : rFc w c r t K pe le f) (hb : ∀ j, j < m → b j < 4 ^ w ∧ f 23 j = nI (b j)) (hs : s < 4 ^ w) (day : Int32) : ∃ q, pX4_lastNotice F f (nI s) (nI m) day = some q ∧ lnR c w (gd1 w m t K pe le day s b) q := ln3 (F := F) (day := day) hF hw hc hr hm ht hf hb hs F 0 (by omega) (by omega) (fun y hy => by omega)
end rt
