/-! ===== the reference's search ===== -/
def rMc (w c r t : Nat) (pe le : Nat → Nat) (h : xM) : Prop := h 0 4 = nI w ∧ h 0 5 = nI t ∧ h 0 6 = nI c ∧ h 0 7 = nI r ∧ ∀ j, j < r → 1 ≤ pe j ∧ pe j ≤ 4 ∧ h 2 j = nI (pe j) ∧ h 3 j = nI (le j)
def pg8 (c r : Nat) (K : Nat → Nat) (s : Nat) (day : Int32) (b : Nat → Nat) (v : Nat → Int32) : Prop := v 0 = nI s ∧ v 1 = day ∧ (∀ i, i < c → v (2 + i) = nI (K i)) ∧ ∀ j, j < r → v (5 + j) = nI (b j)
theorem rMc_ok {w c r t : Nat} {pe le : Nat → Nat} {h h' : xM} (a : rMc w c r t pe le h) (e : ∀ z, z ≠ 8 → h' z = h z) : rMc w c r t pe le h' := by
  obtain ⟨a1, a2, a3, a4, a5⟩ := a
  unfold rMc
  rw [e 0 (by decide), e 2 (by decide), e 3 (by decide)]
  exact ⟨a1, a2, a3, a4, a5⟩
section rt
variable {w c r t m F s : Nat} {K pe le b : Nat → Nat} {h : xM} {day : Int32}
theorem gp8_loop (hF : 5 < F) (h1 : 1 ≤ w) (hw : w ≤ 5) (hc : c ≤ 3) (hr : r ≤ 4) (hK : ∀ i, i < c → K i < 4) (hb : ∀ j, j < r → b j < 4 ^ w) {a p l : Nat} (ha : a < c) (hp : p < w) (hl : l < 4) : ∀ (n j : Nat) (h : xM), rMc w c r t pe le h → h 8 0 = nI s → h 8 1 = day → (∀ i, i < c → h 8 (2 + i) = nI (K i)) → (∀ i, i < r → h 8 (5 + i) = nI (if i < j then bl1 w K pe le day b (100 * a + 10 * p + l) i else b i)) → j ≤ r → r < j + n → ∃ h', pX12_goPrint_8_b21 F n (nI a) (nI p) (nI l) (nI j) h = some h' ∧ (∀ z, z ≠ 8 → h' z = h z) ∧ pg8 c r K s (day + 1) (bl1 w K pe le day b (100 * a + 10 * p + l)) (h' 8) := by
  intro n
  induction n with
  | zero => intro j h _ _ _ _ _ z1 z2; omega
  | succ n ih =>
    intro j h hM h80 h81 h8K h8b z1 z2
    have hM' := hM
    obtain ⟨m4, m5, m6, m7, mD⟩ := hM'
    rw [pX12_goPrint_8_b21, m7]
    by_cases hj : r ≤ j
    · rw [if_pos (nI_le hj (by omega))]
      refine ⟨_, rfl, fun z hz => xu_ne hz, ?_, ?_, fun i hi => ?_, fun i hi => ?_⟩
      · rw [xu_neK (by decide)]; exact h80
      · rw [xu_same, h81]
      · rw [xu_neK (by omega)]; exact h8K i hi
      · rw [xu_neK (by omega), h8b i hi, if_pos (by omega)]
    · obtain ⟨d1, d2, d3, d4⟩ := mD j (by omega)
      have e : bl1 w K pe le day b (100 * a + 10 * p + l) j = if rdI day (pe j) (le j) = 0 then b j else nt4 w (K a) (b j) p l := by unfold bl1; rw [one_x (by omega) (by omega)]
      have hbj : h 8 (5 + j) = nI (b j) := by rw [h8b j (by omega), if_neg (by omega)]
      have x1 : xin (nI (5 + j)) 9 := xin_of (by omega) (by omega)
      have x2 : xin (nI (2 + a)) 9 := xin_of (by omega) (by omega)
      have y1 : (nI (5 + j)).toNatClampNeg = 5 + j := nI_clamp (by omega)
      have y2 : (nI (2 + a)).toNatClampNeg = 2 + a := nI_clamp (by omega)
      simp only [if_neg (nI_ge (show j < r by omega) (by omega)), doesRead8_eq (show j < 4 by omega) d1 d2 d3 d4, h81, Option.bind_some, show nI j + (1 : Int32) = nI (j + 1) from nI_1 j, ad5, ad2, if_pos x1, if_pos x2, y1, y2, hbj, h8K a ha, notice_eq hF h1 hw m4 (hK a ha) hp (hb j (by omega)) hl]
      rcases rdI_cases day (pe j) (le j) with hz | hz
      · rw [if_pos hz]
        rw [if_pos hz] at e
        refine ih (j + 1) h hM h80 h81 h8K (fun i hi => ?_) (by omega) (by omega)
        rw [h8b i hi]
        by_cases q : i = j
        · subst q; rw [if_neg (by omega), if_pos (by omega), e]
        · by_cases q2 : i < j
          · rw [if_pos q2, if_pos (by omega)]
          · rw [if_neg q2, if_neg (by omega)]
      · have hz0 : ¬ rdI day (pe j) (le j) = 0 := by rw [hz]; decide
        rw [if_neg hz0]
        rw [if_neg hz0] at e
        obtain ⟨h', g1, g2, g3⟩ := ih (j + 1) (xu h 8 (5 + j) (nI (nt4 w (K a) (b j) p l))) (rMc_ok hM (fun z hz => xu_ne hz)) (by rw [xu_neK (by omega)]; exact h80) (by rw [xu_neK (by omega)]; exact h81) (fun i hi => by rw [xu_neK (by omega)]; exact h8K i hi) (fun i hi => by
          by_cases q : i = j
          · subst q; rw [xu_same, if_pos (by omega), e]
          · rw [xu_neK (by omega), h8b i hi]
            by_cases q2 : i < j
            · rw [if_pos q2, if_pos (by omega)]
            · rw [if_neg q2, if_neg (by omega)]) (by omega) (by omega)
        exact ⟨h', g1, fun z hz => by rw [g2 z hz, xu_ne hz], g3⟩
theorem gp8_eq (hF : 5 < F) (h1 : 1 ≤ w) (hw : w ≤ 5) (hc : c ≤ 3) (hr : r ≤ 4) (hK : ∀ i, i < c → K i < 4) (hb : ∀ j, j < r → b j < 4 ^ w) (hs : s < 4 ^ w) {x : Nat} (hv : vt c w x) (hM : rMc w c r t pe le h) (hp : pg8 c r K s day b (h 8)) : ∃ h', pX12_goPrint_8 F (nI x / (100 : Int32)) (nI x / (10 : Int32) - nI x / (10 : Int32) / (10 : Int32) * (10 : Int32)) (nI x - nI x / (10 : Int32) * (10 : Int32)) h = some h' ∧ (∀ z, z ≠ 8 → h' z = h z) ∧ pg8 c r K (one w K x s) (day + 1) (bl1 w K pe le day b x) (h' 8) := by
  obtain ⟨v1, v2, v3⟩ := hv
  obtain ⟨g1, g2, g3, g4⟩ := hp
  have ex : 100 * (x / 100) + 10 * (x / 10 % 10) + x % 10 = x := by omega
  have hx : x < 300 := by omega
  rw [dv100 (by omega), rm1010 (by omega), rm10 (by omega)]
  unfold pX12_goPrint_8
  rw [ad2, if_pos (xin_of (show 2 + x / 100 < 9 by omega) (by omega)), nI_clamp (show 2 + x / 100 < 2 ^ 31 by omega), g1, g3 _ v1, notice_eq hF h1 hw hM.1 (hK _ v1) v2 hs v3, Option.bind_some]
  obtain ⟨h', k1, k2, k3⟩ := gp8_loop (F := F) (s := one w K x s) (day := day) hF h1 hw hc hr hK hb v1 v2 v3 F 0 (xu h 8 0 (nI (one w K x s))) (rMc_ok hM (fun z hz => xu_ne hz)) xu_same (by rw [xu_neK (by decide)]; exact g2) (fun i hi => by rw [xu_neK (by omega)]; exact g3 i hi) (fun i hi => by rw [xu_neK (by omega), if_neg (by omega)]; exact g4 i hi) (by omega) (by omega)
  rw [ex] at k3
  exact ⟨h', k1, fun z hz => by rw [k2 z hz, xu_ne hz], k3⟩
theorem beg_loop : ∀ (n j : Nat) (h : xM), j ≤ 9 → 9 < j + n → (∀ i, i < j → h 8 i = h 7 i) → ∃ h', pX12_begin_b2 F n (nI j) h = some h' ∧ (∀ z, z ≠ 8 → h' z = h z) ∧ ∀ i, i < 9 → h' 8 i = h 7 i := by
  intro n
  induction n with
  | zero => intro j h z1 z2; omega
  | succ n ih =>
    intro j h z1 z2 hi
    rw [pX12_begin_b2]
    by_cases hj : 9 ≤ j
    · rw [if_pos (show (9 : Int32) ≤ nI j from nI_le (a := 9) hj (by omega))]
      exact ⟨h, rfl, fun _ _ => rfl, fun i q => hi i (by omega)⟩
    · have hx : xin (nI j) 9 := xin_of (show j < 9 by omega) (by omega)
      rw [if_neg (show ¬ (9 : Int32) ≤ nI j from nI_ge (b := 9) (by omega) (by omega)), if_pos hx, if_pos hx, nI_clamp (by omega), show nI j + (1 : Int32) = nI (j + 1) from nI_1 j]
      obtain ⟨h', g1, g2, g3⟩ := ih (j + 1) (xu h 8 j (h 7 j)) (by omega) (by omega) (fun i q => by
        rw [xu_ne (show (7 : Nat) ≠ 8 by decide)]
        by_cases e : i = j
        · subst e; exact xu_same
        · rw [xu_neK e]; exact hi i (by omega))
      refine ⟨h', g1, fun z hz => by rw [g2 z hz, xu_ne hz], fun i q => ?_⟩
      rw [g3 i q, xu_ne (by decide)]
theorem all_loop0 (h7 : h 0 7 = nI r) (hr : r ≤ 4) : ∀ (n j : Nat), j ≤ r → r < j + n → pX12_isAllRight_b21 F h n (0 : Int32) (nI j) = some 0 := by
  intro n
  induction n with
  | zero => intro j z1 z2; omega
  | succ n ih =>
    intro j z1 z2
    rw [pX12_isAllRight_b21, h7]
    by_cases hj : r ≤ j
    · rw [if_pos (nI_le hj (by omega)), if_pos (show xz 0 from by unfold xz; decide)]
    · rw [if_neg (nI_ge (by omega) (by omega)), if_pos rfl, show nI j + (1 : Int32) = nI (j + 1) from nI_1 j]
      exact ih (j + 1) (by omega) (by omega)
theorem all_loop1 (hw : w ≤ 5) (h7 : h 0 7 = nI r) (hr : r ≤ 4) (h5 : h 0 5 = nI t) (ht : t < 4 ^ w) (hb : ∀ j, j < r → b j < 4 ^ w ∧ h 8 (5 + j) = nI (b j)) : ∀ (n j : Nat), j ≤ r → r < j + n → (∀ i, i < j → b i = t) → ∃ q, pX12_isAllRight_b21 F h n (1 : Int32) (nI j) = some q ∧ ((q = 1 ∧ ∀ i, i < r → b i = t) ∨ (q = 0 ∧ ¬ ∀ i, i < r → b i = t)) := by
  have hbb := p4_le hw
  intro n
  induction n with
  | zero => intro j z1 z2; omega
  | succ n ih =>
    intro j z1 z2 hi
    rw [pX12_isAllRight_b21, h7]
    by_cases hj : r ≤ j
    · rw [if_pos (nI_le hj (by omega)), if_pos (show xz 1 from by unfold xz; decide)]
      exact ⟨1, rfl, Or.inl ⟨rfl, fun i q => hi i (by omega)⟩⟩
    · obtain ⟨b1, b2⟩ := hb j (by omega)
      rw [if_neg (nI_ge (by omega) (by omega)), if_neg (by decide), ad5, if_pos (xin_of (show 5 + j < 9 by omega) (by omega)), nI_clamp (show 5 + j < 2 ^ 31 by omega), b2, h5, show nI j + (1 : Int32) = nI (j + 1) from nI_1 j]
      by_cases he : b j = t
      · rw [if_pos (by rw [he])]
        refine ih (j + 1) (by omega) (by omega) (fun i q => ?_)
        by_cases e : i = j
        · rw [e]; exact he
        · exact hi i (by omega)
      · rw [if_neg (fun z => he (nI_inj (by omega) (by omega) z)), all_loop0 h7 hr n (j + 1) (by omega) (by omega)]
        exact ⟨0, rfl, Or.inr ⟨rfl, fun q => he (q j (by omega))⟩⟩
def qR (P : Prop) (q : Int32) : Prop := (q = 1 ∧ P) ∨ (q = 0 ∧ ¬ P)
theorem b84_eq {md : Int32} (hF : 5 < F) (hw : w ≤ 5) (hr : r ≤ 4) (hmd : (md = 0 ∧ m = 0) ∨ (md = 1 ∧ m = r)) (ht : t < 4 ^ w) (hs : s < 4 ^ w) (hM : rMc w c r t pe le h) (hb : ∀ j, j < r → b j < 4 ^ w) (hp : pg8 c r K s day b (h 8)) : ∃ q, pX12_rights_b84 F md 1 h = some (q, h) ∧ qR (fin1 m t s b) q := by
  have hbb := p4_le hw
  obtain ⟨g1, g2, g3, g4⟩ := hp
  obtain ⟨m4, m5, m6, m7, mD⟩ := hM
  unfold pX12_rights_b84
  rw [if_neg (by decide)]
  rcases hmd with ⟨rfl, rfl⟩ | ⟨rfl, rfl⟩
  · rw [if_pos rfl, g1, m5]
    by_cases he : s = t
    · rw [if_pos (by rw [he])]
      exact ⟨1, rfl, Or.inl ⟨rfl, he, fun j hj => by omega⟩⟩
    · rw [if_neg (fun z => he (nI_inj (by omega) (by omega) z))]
      exact ⟨0, rfl, Or.inr ⟨rfl, fun z => he z.1⟩⟩
  · rw [if_neg (by decide)]
    unfold pX12_isAllRight
    rw [g1, m5]
    by_cases he : s = t
    · rw [if_pos (by rw [he])]
      obtain ⟨q, q1, q2⟩ := all_loop1 (F := F) hw m7 hr m5 ht (fun j hj => ⟨hb j hj, g4 j hj⟩) F 0 (by omega) (by omega) (fun i hi => by omega)
      have q1' : pX12_isAllRight_b21 F h F (1 : Int32) (0 : Int32) = some q := q1
      rw [q1', Option.bind_some]
      rcases q2 with ⟨rfl, q2⟩ | ⟨rfl, q2⟩
      · rw [if_neg (by decide)]
        exact ⟨1, rfl, Or.inl ⟨rfl, he, q2⟩⟩
      · rw [if_pos rfl]
        exact ⟨0, rfl, Or.inr ⟨rfl, fun z => q2 z.2⟩⟩
    · rw [if_neg (fun z => he (nI_inj (by omega) (by omega) z))]
      have q1' : pX12_isAllRight_b21 F h F (0 : Int32) (0 : Int32) = some 0 := all_loop0 m7 hr F 0 (by omega) (by omega)
      rw [q1', Option.bind_some, if_pos rfl]
      exact ⟨0, rfl, Or.inr ⟨rfl, fun z => he z.1⟩⟩
theorem r10_bad {md : Int32} {N R i n : Nat} (hF : 5 < F) (hN : N ≤ 4) (hw : w ≤ 5) (hc : c ≤ 3) (hR : R < 2 ^ 31) (hi : i < N) (hM : rMc w c r t pe le h) (hv : ¬ vt c w (th3 R N i)) : pX12_rights_b10 F (n + 2) (nI N) (nI R) md 1 (nI i) h = some (0, h) := by
  have h3 := th3_lt R N i
  rw [pX12_rights_b10, if_neg (nI_ge hi (by omega)), if_neg (by decide), nI_l hR, threeOf_eq hF hN hi (by omega), Option.bind_some, if_neg (fun z => hv ((noNotice_eq hc hw hM.2.2.1 hM.1 (by omega)).mp z)), pX12_rights_b45, if_pos rfl, pX12_rights_b10]
  have e : pX12_rights_b84 F md 0 h = some (0, h) := by unfold pX12_rights_b84; rw [if_pos rfl]
  rw [e]
  split <;> simp
theorem r10_good {md : Int32} {N R i n : Nat} (hF : 5 < F) (h1 : 1 ≤ w) (hN : N ≤ 4) (hw : w ≤ 5) (hc : c ≤ 3) (hr : r ≤ 4) (hK : ∀ i, i < c → K i < 4) (hR : R < 2 ^ 31) (hi : i < N) (hM : rMc w c r t pe le h) (hs : s < 4 ^ w) (hb : ∀ j, j < r → b j < 4 ^ w) (hp : pg8 c r K s day b (h 8)) (hv : vt c w (th3 R N i)) : ∃ h', pX12_rights_b10 F (n + 1) (nI N) (nI R) md 1 (nI i) h = pX12_rights_b10 F n (nI N) (nI R) md 1 (nI (i + 1)) h' ∧ (∀ z, z ≠ 8 → h' z = h z) ∧ pg8 c r K (one w K (th3 R N i) s) (day + 1) (bl1 w K pe le day b (th3 R N i)) (h' 8) := by
  have h3 := th3_lt R N i
  obtain ⟨h', g1, g2, g3⟩ := gp8_eq (F := F) hF h1 hw hc hr hK hb hs hv hM hp
  refine ⟨h', ?_, g2, g3⟩
  rw [pX12_rights_b10, if_neg (nI_ge hi (by omega)), if_neg (by decide), nI_l hR, threeOf_eq hF hN hi (by omega), Option.bind_some, if_pos ((noNotice_eq hc hw hM.2.2.1 hM.1 (by omega)).mpr hv), pX12_rights_b45, if_neg (by decide), g1, Option.bind_some, show nI i + (1 : Int32) = nI (i + 1) from nI_1 i]
theorem r10_end {md : Int32} {N n : Nat} {v2 : Int32} (hN : N ≤ 4) : pX12_rights_b10 F (n + 1) (nI N) v2 md 1 (nI N) h = pX12_rights_b84 F md 1 h := by
  rw [pX12_rights_b10, if_pos (nI_le (Nat.le_refl _) (by omega))]
/-- what a row of N notices does -/
def rowQ (c w m t : Nat) (K pe le : Nat → Nat) (day : Int32) (s : Nat) (b : Nat → Nat) (N R : Nat) : Prop :=
  if N = 0 then fin1 m t s b else if N = 1 then vt c w R ∧ gd1 w m t K pe le day s b R else vt c w (R / 1000) ∧ vt c w (R % 1000) ∧ gd1 w m t K pe le (day + 1) (one w K (R / 1000) s) (bl1 w K pe le day b (R / 1000)) (R % 1000)
theorem rights_eq {md : Int32} {N R : Nat} (hF : 9 < F) (h1 : 1 ≤ w) (hw : w ≤ 5) (hc : c ≤ 3) (hr : r ≤ 4) (hK : ∀ i, i < c → K i < 4) (hmd : (md = 0 ∧ m = 0) ∨ (md = 1 ∧ m = r)) (ht : t < 4 ^ w) (hs : s < 4 ^ w) (hb : ∀ j, j < r → b j < 4 ^ w) (hN : N ≤ 2) (hR1 : N = 1 → R < 1000) (hR2 : N = 2 → R < 1000000) (hRR : R < 2 ^ 31) (hM : rMc w c r t pe le h) (hp : pg8 c r K s day b (h 7)) : ∃ q h', pX12_rights F (nI N) (nI R) md h = some (q, h') ∧ (∀ z, z ≠ 8 → h' z = h z) ∧ qR (rowQ c w m t K pe le day s b N R) q := by
  obtain ⟨F', rfl⟩ : ∃ F', F = F' + 4 := ⟨F - 4, by omega⟩
  obtain ⟨h0, g1, g2, g3⟩ := beg_loop (F := F' + 4) (F' + 4) 0 h (by omega) (by omega) (fun i hi => by omega)
  have g1' : pX12_begin (F' + 4) h = some h0 := g1
  have hM0 := rMc_ok hM g2
  have hp0 : pg8 c r K s day b (h0 8) := ⟨by rw [g3 0 (by decide)]; exact hp.1, by rw [g3 1 (by decide)]; exact hp.2.1, fun i hi => by rw [g3 (2 + i) (by omega)]; exact hp.2.2.1 i hi, fun j hj => by rw [g3 (5 + j) (by omega)]; exact hp.2.2.2 j hj⟩
  unfold pX12_rights
  rw [g1', Option.bind_some]
  match N, hN, hR1, hR2 with
  | 0, _, _, _ =>
    obtain ⟨q, q1, q2⟩ := b84_eq (F := F' + 4) (md := md) (by omega) hw hr hmd ht hs hM0 hb hp0
    have e : pX12_rights_b10 (F' + 4) (F' + 4) (nI 0) (nI R) md 1 (0 : Int32) h0 = pX12_rights_b84 (F' + 4) md 1 h0 := r10_end (N := 0) (by omega)
    rw [e, q1]
    exact ⟨q, h0, rfl, g2, q2⟩
  | 1, _, hR1, _ =>
    have e3 : th3 R 1 0 = R := by unfold th3; rw [show 1 - 1 - 0 = 0 from rfl, Nat.pow_zero, Nat.div_one]; exact Nat.mod_eq_of_lt (hR1 rfl)
    by_cases hv : vt c w R
    · obtain ⟨h2, k1, k2, k3⟩ := r10_good (md := md) (N := 1) (R := R) (i := 0) (n := F' + 3) (F := F' + 4) (by omega) h1 (by omega) hw hc hr hK hRR (by omega) hM0 hs hb hp0 (by rw [e3]; exact hv)
      rw [e3] at k3
      have hM2 := rMc_ok hM0 k2
      obtain ⟨q, q1, q2⟩ := b84_eq (F := F' + 4) (md := md) (by omega) hw hr hmd ht (one_lt hw hv hs) hM2 (fun j hj => bl1_lt hw hv hb j hj) k3
      have e : pX12_rights_b10 (F' + 4) (F' + 4) (nI 1) (nI R) md 1 (0 : Int32) h0 = _ := k1
      rw [e, r10_end (by omega), q1]
      refine ⟨q, h2, rfl, fun z hz => by rw [k2 z hz, g2 z hz], ?_⟩
      rcases q2 with ⟨rfl, q2⟩ | ⟨rfl, q2⟩
      · exact Or.inl ⟨rfl, hv, q2⟩
      · exact Or.inr ⟨rfl, fun z => q2 z.2⟩
    · have e : pX12_rights_b10 (F' + 4) (F' + 4) (nI 1) (nI R) md 1 (0 : Int32) h0 = some (0, h0) := r10_bad (i := 0) (n := F' + 2) (by omega) (by omega) hw hc hRR (by omega) hM0 (by rw [e3]; exact hv)
      rw [e]
      exact ⟨0, h0, rfl, g2, Or.inr ⟨rfl, fun z => hv z.1⟩⟩
  | 2, _, _, hR2 =>
    have hR2 := hR2 rfl
    have e3 : th3 R 2 0 = R / 1000 := by unfold th3; rw [show 2 - 1 - 0 = 1 from rfl, Nat.pow_one]; exact Nat.mod_eq_of_lt (by omega)
    have e4 : th3 R 2 1 = R % 1000 := by unfold th3; rw [show 2 - 1 - 1 = 0 from rfl, Nat.pow_zero, Nat.div_one]
    by_cases hv : vt c w (R / 1000)
    · obtain ⟨h2, k1, k2, k3⟩ := r10_good (md := md) (N := 2) (R := R) (i := 0) (n := F' + 3) (F := F' + 4) (by omega) h1 (by omega) hw hc hr hK hRR (by omega) hM0 hs hb hp0 (by rw [e3]; exact hv)
      rw [e3] at k3
      have hM2 := rMc_ok hM0 k2
      have e : pX12_rights_b10 (F' + 4) (F' + 4) (nI 2) (nI R) md 1 (0 : Int32) h0 = _ := k1
      rw [e]
      have hs2 := one_lt (K := K) hw hv hs
      have hb2 := bl1_lt (day := day) (K := K) (pe := pe) (le := le) hw hv hb
      by_cases hv2 : vt c w (R % 1000)
      · obtain ⟨h3, l1, l2, l3⟩ := r10_good (md := md) (N := 2) (R := R) (i := 1) (n := F' + 2) (F := F' + 4) (by omega) h1 (by omega) hw hc hr hK hRR (by omega) hM2 hs2 hb2 k3 (by rw [e4]; exact hv2)
        rw [e4] at l3
        have hM3 := rMc_ok hM2 l2
        obtain ⟨q, q1, q2⟩ := b84_eq (F := F' + 4) (md := md) (by omega) hw hr hmd ht (one_lt hw hv2 hs2) hM3 (fun j hj => bl1_lt hw hv2 hb2 j hj) l3
        rw [l1, r10_end (by omega), q1]
        refine ⟨q, h3, rfl, fun z hz => by rw [l2 z hz, k2 z hz, g2 z hz], ?_⟩
        rcases q2 with ⟨rfl, q2⟩ | ⟨rfl, q2⟩
        · exact Or.inl ⟨rfl, hv, hv2, q2⟩
        · exact Or.inr ⟨rfl, fun z => q2 z.2.2⟩
      · have e : pX12_rights_b10 (F' + 4) (F' + 3) (nI 2) (nI R) md 1 (nI 1) h2 = some (0, h2) := r10_bad (i := 1) (n := F' + 1) (by omega) (by omega) hw hc hRR (by omega) hM2 (by rw [e4]; exact hv2)
        rw [e]
        exact ⟨0, h2, rfl, fun z hz => by rw [k2 z hz, g2 z hz], Or.inr ⟨rfl, fun z => hv2 z.2.1⟩⟩
    · have e : pX12_rights_b10 (F' + 4) (F' + 4) (nI 2) (nI R) md 1 (0 : Int32) h0 = some (0, h0) := r10_bad (i := 0) (n := F' + 2) (by omega) (by omega) hw hc hRR (by omega) hM0 (by rw [e3]; exact hv)
      rw [e]
      exact ⟨0, h0, rfl, g2, Or.inr ⟨rfl, fun z => hv z.1⟩⟩
end rt
