/-! ===== rows of notices ===== -/
theorem kinds_of {w c r : Nat} {u v : Nat → Int32} (h : pgR w c r u v) : ∃ K : Nat → Nat, ∀ i, i < c → K i < 4 ∧ u (2 + i) = nI (K i) ∧ v (2 + i) = nI (K i) := by
  refine ⟨fun i => (v (2 + i)).toNatClampNeg, fun i hi => ?_⟩
  obtain ⟨q, q1, q2, q3⟩ := h.2.2.1 i hi
  have e : (v (2 + i)).toNatClampNeg = q := by rw [q3]; exact nI_clamp (by omega)
  dsimp only
  rw [e]
  exact ⟨q1, q2, q3⟩
/-- the three figures of a notice tell one -/
def vt (c w x : Nat) : Prop := x / 100 < c ∧ x / 10 % 10 < w ∧ x % 10 < 4
def one (w : Nat) (K : Nat → Nat) (x s : Nat) : Nat := nt4 w (K (x / 100)) s (x / 10 % 10) (x % 10)
def apr (w : Nat) (K T : Nat → Nat) (s : Nat) : Nat → Nat
  | 0 => s
  | k + 1 => one w K (T k) (apr w K T s k)
theorem one_lt {c w : Nat} {K : Nat → Nat} {x s : Nat} (hw : w ≤ 5) (hv : vt c w x) (hs : s < 4 ^ w) : one w K x s < 4 ^ w := nt4_lt hw hv.2.1 hs hv.2.2
theorem apr_lt {c w : Nat} {K T : Nat → Nat} {s N : Nat} (hw : w ≤ 5) (hT : ∀ i, i < N → vt c w (T i)) (hs : s < 4 ^ w) : ∀ k, k ≤ N → apr w K T s k < 4 ^ w := by
  intro k
  induction k with
  | zero => intro _; exact hs
  | succ k ih => intro hk; exact one_lt hw (hT k (by omega)) (ih (by omega))
theorem dv100 {x : Nat} (hx : x < 2 ^ 31) : nI x / (100 : Int32) = nI (x / 100) := pk_div (d := 100) hx (by decide) (by decide)
theorem dv10 {x : Nat} (hx : x < 2 ^ 31) : nI x / (10 : Int32) = nI (x / 10) := pk_div (d := 10) hx (by decide) (by decide)
theorem rm10 {x : Nat} (hx : x < 2 ^ 31) : nI x - nI x / (10 : Int32) * (10 : Int32) = nI (x % 10) := pk_rem (d := 10) hx (by decide) (by decide)
theorem rm1010 {x : Nat} (hx : x < 2 ^ 31) : nI x / (10 : Int32) - nI x / (10 : Int32) / (10 : Int32) * (10 : Int32) = nI (x / 10 % 10) := by
  rw [dv10 hx]; exact rm10 (by omega)
theorem isN_nI {a b : Nat} (ha : a < 2 ^ 31) (hb : b < 2 ^ 31) : isN (nI a) b ↔ a < b := by
  constructor
  · rintro ⟨j, hj, he⟩
    have := nI_inj ha (by omega) he
    omega
  · intro h; exact ⟨a, h, rfl⟩
section ROWS
variable {F w c r t : Nat} {f h : xM} {K : Nat → Nat}
theorem noNotice_eq {x : Nat} (hc : c ≤ 3) (hw : w ≤ 5) (h6 : h 0 6 = nI c) (h4 : h 0 4 = nI w) (hx : x < 2 ^ 31) : pX12_noNotice h (nI x) = 0 ↔ vt c w x := by
  unfold pX12_noNotice vt
  have a1 := noC hc h6 (v := nI (x / 100))
  have a2 := noPl hw h4 (v := nI (x / 10 % 10))
  have a3 := noLe (v := nI (x % 10))
  rw [isN_nI (by omega) (by omega)] at a1 a2 a3
  rw [dv100 hx, rm1010 hx, rm10 hx]
  by_cases z1 : x / 100 < c
  · rw [if_pos (a1.mpr z1)]
    by_cases z2 : x / 10 % 10 < w
    · rw [if_pos (a2.mpr z2)]
      by_cases z3 : x % 10 < 4
      · rw [if_pos (a3.mpr z3)]; exact ⟨fun _ => ⟨z1, z2, z3⟩, fun _ => rfl⟩
      · rw [if_neg (fun q => z3 (a3.mp q))]; exact ⟨fun q => absurd q (by decide), fun q => absurd q.2.2 z3⟩
    · rw [if_neg (fun q => z2 (a2.mp q))]; exact ⟨fun q => absurd q (by decide), fun q => absurd q.2.1 z2⟩
  · rw [if_neg (fun q => z1 (a1.mp q))]; exact ⟨fun q => absurd q (by decide), fun q => absurd q.1 z1⟩
theorem noticed12_eq {x s : Nat} (hF : 5 < F) (h1 : 1 ≤ w) (hc : c ≤ 3) (hw : w ≤ 5) (h4 : h 0 4 = nI w) (hK : ∀ i, i < c → K i < 4 ∧ h 7 (2 + i) = nI (K i)) (hx : x < 2 ^ 31) (hv : vt c w x) (hs : s < 4 ^ w) : pX12_noticed F h (nI s) (nI x) = some (nI (one w K x s)) := by
  obtain ⟨v1, v2, v3⟩ := hv
  obtain ⟨k1, k2⟩ := hK _ v1
  unfold pX12_noticed
  simp only [dv100 hx, rm1010 hx, rm10 hx, ad2, if_pos (xin_of (k := 2 + x / 100) (n := 9) (by omega) (by omega)), nI_clamp (show 2 + x / 100 < 2 ^ 31 by omega), k2, notice_eq hF h1 hw h4 k1 v2 hs v3, Option.bind_some]
  rfl
theorem noticedC_eq {x s : Nat} (hc : c ≤ 3) (hw : w ≤ 5) (f4 : f 10 0 = nI w) (hK : ∀ i, i < c → K i < 4 ∧ f 19 (2 + i) = nI (K i)) (hx : x < 2 ^ 31) (hv : vt c w x) (hs : s < 4 ^ w) : pX6_noticed f (nI x / (100 : Int32)) (nI s) (nI x / (10 : Int32) - nI x / (10 : Int32) / (10 : Int32) * (10 : Int32)) (nI x - nI x / (10 : Int32) * (10 : Int32)) = some (nI (one w K x s)) := by
  obtain ⟨v1, v2, v3⟩ := hv
  obtain ⟨k1, k2⟩ := hK _ v1
  rw [dv100 hx, rm1010 hx, rm10 hx, noticed6_eq hw f4 (by omega) k1 k2 v2 hs v3]
  rfl
/-! longs -/
theorem thou_loop {e : Nat} (he : e < 2 ^ 31) : ∀ (n j : Nat), j ≤ e → e < j + n → pX12_thousand_b4 F n (nI e) (lN (1000 ^ j)) (nI j) = some (lN (1000 ^ e)) := by
  intro n
  induction n with
  | zero => intro j h1 h2; omega
  | succ n ih =>
    intro j h1 h2
    rw [pX12_thousand_b4]
    by_cases h : e ≤ j
    · rw [if_pos (nI_le h (by omega)), show j = e by omega]
    · rw [if_neg (nI_ge (by omega) he), show (1000 : Int64) = lN 1000 from rfl, lN_mul, show nI j + (1 : Int32) = nI (j + 1) from nI_1 j, ← Nat.pow_succ]
      exact ih (j + 1) (by omega) (by omega)
theorem thou_eq {e : Nat} (he : e < F) (hF : e < 2 ^ 31) : pX12_thousand F (nI e) = some (lN (1000 ^ e)) := thou_loop (F := F) hF F 0 (by omega) (by omega)
theorem p1000_le {e : Nat} (h : e ≤ 4) : 1000 ^ e ≤ 1000000000000 := by
  have : 1000 ^ e ≤ 1000 ^ 4 := Nat.pow_le_pow_right (by decide) h
  simpa using this
/-- the k-th three figures of N, from the first on -/
def th3 (R N k : Nat) : Nat := R / 1000 ^ (N - 1 - k) % 1000
theorem th3_lt (R N k : Nat) : th3 R N k < 1000 := Nat.mod_lt _ (by decide)
theorem l_ne0 {n : Nat} (h0 : 0 < n) (h : n < 2 ^ 63) : ¬ lN n = 0 := by
  rw [show (0 : Int64) = lN 0 from rfl, pk_lEQ h (by decide)]
  omega
theorem l_rem {R k : Nat} (hR : R < 2 ^ 63) : (lN (R / 1000 ^ k) - lN (R / 1000 ^ k) / (1000 : Int64) * (1000 : Int64)).toInt32 = nI (R / 1000 ^ k % 1000) := by
  have : R / 1000 ^ k ≤ R := Nat.div_le_self _ _
  rw [show (1000 : Int64) = lN 1000 from rfl, pk_lRem (by omega) (by decide) (by decide), lN_i]
theorem l_div {R k : Nat} (hR : R < 2 ^ 63) : lN (R / 1000 ^ k) / (1000 : Int64) = lN (R / 1000 ^ (k + 1)) := by
  have : R / 1000 ^ k ≤ R := Nat.div_le_self _ _
  rw [show (1000 : Int64) = lN 1000 from rfl, pk_lDiv (by omega) (by decide) (by decide), Nat.div_div_eq_div_mul, ← Nat.pow_succ]
theorem threeOf_eq {R N k : Nat} (hF : 5 < F) (hN : N ≤ 4) (hk : k < N) (hR : R < 2 ^ 63) : pX12_threeOf F (nI N) (lN R) (nI k) = some (nI (th3 R N k)) := by
  have hb := p1000_le (show N - 1 - k ≤ 4 by omega)
  have h0 : 0 < 1000 ^ (N - 1 - k) := Nat.pow_pos (by decide)
  unfold pX12_threeOf
  rw [wmp hk, thou_eq (by omega) (by omega), Option.bind_some, if_neg (l_ne0 h0 (by omega)), pk_lDiv hR h0 (by omega), l_rem hR]
  rfl
theorem afterRow_eq {R N s : Nat} (hF : 5 < F) (h1 : 1 ≤ w) (hc : c ≤ 3) (hw : w ≤ 5) (h4 : h 0 4 = nI w) (hK : ∀ i, i < c → K i < 4 ∧ h 7 (2 + i) = nI (K i)) (hN : N ≤ 4) (hR : R < 2 ^ 63) (hT : ∀ i, i < N → vt c w (th3 R N i)) (hs : s < 4 ^ w) : pX12_afterRow F h (nI s) (nI N) (lN R) = some (nI (apr w K (th3 R N) s N)) := by
  have key : ∀ (n k : Nat), k ≤ N → N < k + n → pX12_afterRow_b6 F h n (nI N) (lN R) (nI (apr w K (th3 R N) s k)) (nI k) = some (nI (apr w K (th3 R N) s N)) := by
    intro n
    induction n with
    | zero => intro k z1 z2; omega
    | succ n ih =>
      intro k z1 z2
      rw [pX12_afterRow_b6]
      by_cases hk : N ≤ k
      · rw [if_pos (nI_le hk (by omega)), show k = N by omega]
      · have hx := th3_lt R N k
        rw [if_neg (nI_ge (by omega) (by omega)), threeOf_eq hF hN (by omega) hR, Option.bind_some, noticed12_eq hF h1 hc hw h4 hK (by omega) (hT k (by omega)) (apr_lt hw hT hs k (by omega)), Option.bind_some, show nI k + (1 : Int32) = nI (k + 1) from nI_1 k]
        exact ih (k + 1) (by omega) (by omega)
  exact key F 0 (by omega) (by omega)
theorem doneOn_eq {R N s : Nat} (hF : 5 < F) (hc : c ≤ 3) (hw : w ≤ 5) (f4 : f 10 0 = nI w) (hK : ∀ i, i < c → K i < 4 ∧ f 19 (2 + i) = nI (K i)) (hN : N ≤ 4) (f5 : f 5 1 = nI N) (f22 : ∀ i, i < N → f 22 i = nI (th3 R N i)) (hT : ∀ i, i < N → vt c w (th3 R N i)) (hs : s < 4 ^ w) : pX5_doneOn F f (nI s) = some (nI (apr w K (th3 R N) s N)) := by
  have key : ∀ (n k : Nat), k ≤ N → N < k + n → pX5_doneOn_b5 F f n (nI (apr w K (th3 R N) s k)) (nI k) = some (nI (apr w K (th3 R N) s N)) := by
    intro n
    induction n with
    | zero => intro k z1 z2; omega
    | succ n ih =>
      intro k z1 z2
      rw [pX5_doneOn_b5, f5]
      by_cases hk : N ≤ k
      · rw [if_pos (nI_le hk (by omega)), show k = N by omega]
      · have hx := th3_lt R N k
        have y : (nI k).toNatClampNeg = k := nI_clamp (by omega)
        rw [if_neg (nI_ge (by omega) (by omega)), if_neg (show ¬ (4 : Int32) ≤ nI k from nI_ge (b := 4) (by omega) (by omega)), if_pos (xin_of (show k < 4 by omega) (by omega)), y, f22 k (by omega), noticedC_eq hc hw f4 hK (by omega) (hT k (by omega)) (apr_lt hw hT hs k (by omega)), Option.bind_some, show nI k + (1 : Int32) = nI (k + 1) from nI_1 k]
        exact ih (k + 1) (by omega) (by omega)
  exact key F 0 (by omega) (by omega)
end ROWS
