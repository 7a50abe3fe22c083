/-! ===== rests ===== -/
def arR (c : Nat) (V : Nat → Nat → Nat) (i j : Nat) : Nat → Bool
  | 0 => true
  | k + 1 => arR c V i j k && (decide (V k j ≤ V i j) && decide (V i j ≤ V i k))
def AR (c : Nat) (V : Nat → Nat → Nat) (i j : Nat) : Bool := arR c V i j c
def gR (c : Nat) (V : Nat → Nat → Nat) (i j : Nat) (st : Nat × Int32) : Nat × Int32 := if AR c V i j = true then (st.1 + 1, if st.1 = 0 then nI (10 * i + j) else st.2) else st
def rowR (c : Nat) (V : Nat → Nat → Nat) (i : Nat) : Nat → Nat → Nat × Int32 → Nat × Int32
  | _, 0, st => st
  | j, m + 1, st => rowR c V i (j + 1) m (gR c V i j st)
def allR (c : Nat) (V : Nat → Nat → Nat) : Nat → Nat → Nat × Int32 → Nat × Int32
  | _, 0, st => st
  | i, m + 1, st => allR c V (i + 1) m (rowR c V i 0 c st)
theorem gR_1 {c : Nat} {V : Nat → Nat → Nat} {i j n : Nat} {q : Int32} : (gR c V i j (n, q)).1 = if AR c V i j = true then n + 1 else n := by unfold gR; split <;> rfl
theorem rowR_1 {c : Nat} {V : Nat → Nat → Nat} {i : Nat} : ∀ (m j n : Nat) (q q2 : Int32), (rowR c V i j m (n, q)).1 = (rowR c V i j m (n, q2)).1 := by
  intro m
  induction m with
  | zero => intro j n q q2; rfl
  | succ m ih =>
    intro j n q q2
    simp only [rowR]
    have e1 : gR c V i j (n, q) = ((gR c V i j (n, q)).1, (gR c V i j (n, q)).2) := rfl
    have e2 : gR c V i j (n, q2) = ((gR c V i j (n, q)).1, (gR c V i j (n, q2)).2) := by rw [gR_1, ← gR_1 (q := q2)]
    rw [e1, e2]
    exact ih (j + 1) _ _ _
theorem rowR_keep {c : Nat} {V : Nat → Nat → Nat} {i : Nat} : ∀ (m j : Nat) (st : Nat × Int32), 1 ≤ st.1 → 1 ≤ (rowR c V i j m st).1 ∧ (rowR c V i j m st).2 = st.2 := by
  intro m
  induction m with
  | zero => intro j st h; exact ⟨h, rfl⟩
  | succ m ih =>
    intro j st h
    simp only [rowR]
    have h1 : 1 ≤ (gR c V i j st).1 ∧ (gR c V i j st).2 = st.2 := by
      unfold gR
      split
      · refine ⟨by dsimp only; omega, ?_⟩
        dsimp only
        rw [if_neg (by omega)]
      · exact ⟨h, rfl⟩
    obtain ⟨a, b⟩ := ih (j + 1) _ h1.1
    exact ⟨a, by rw [b, h1.2]⟩
theorem allR_keep {c : Nat} {V : Nat → Nat → Nat} : ∀ (m i : Nat) (st : Nat × Int32), 1 ≤ st.1 → (allR c V i m st).2 = st.2 := by
  intro m
  induction m with
  | zero => intro i st h; rfl
  | succ m ih =>
    intro i st h
    simp only [allR]
    obtain ⟨a, b⟩ := rowR_keep (c := c) (V := V) (i := i) c 0 st h
    rw [ih (i + 1) _ a, b]
theorem ix3 (i j : Nat) : nI i * (3 : Int32) + nI j = nI (3 * i + j) := by rw [show (3 : Int32) = nI 3 from rfl, pk_mul, nI_add, Nat.mul_comm]
section RST
variable {F w c t s p x q y : Nat} {f h : xM} {K : Nat → Nat}
/-- how much is right by a pair -/
def vR (w t s p x q y : Nat) (K : Nat → Nat) (i j : Nat) : Nat := rgt w (nt4 w (K j) (nt4 w (K i) s p x) q y) t
theorem rightBy12_eq {i j : Nat} (hF : 5 < F) (h1 : 1 ≤ w) (hw : w ≤ 5) (hc : c ≤ 3) (h4 : h 0 4 = nI w) (h5 : h 0 5 = nI t) (ht : t < 4 ^ w) (hK : ∀ i, i < c → K i < 4 ∧ h 7 (2 + i) = nI (K i)) (s3 : h 7 0 = nI s) (hs : s < 4 ^ w) (hp : p < w) (hx : x < 4) (hq : q < w) (hy : y < 4) (hi : i < c) (hj : j < c) : pX12_rightBy F h (nI i) (nI j) (nI p) (nI x) (nI q) (nI y) = some (nI (vR w t s p x q y K i j)) := by
  have hb := p4_le hw
  obtain ⟨k1, k2⟩ := hK i hi
  obtain ⟨k3, k4⟩ := hK j hj
  have hn := nt4_lt (kd := K i) hw hp hs hx
  have hn2 := nt4_lt (kd := K j) hw hq hn hy
  unfold pX12_rightBy
  simp only [ad2, if_pos (xin_of (k := 2 + i) (n := 9) (by omega) (by omega)), if_pos (xin_of (k := 2 + j) (n := 9) (by omega) (by omega)), nI_clamp (show 2 + i < 2 ^ 31 by omega), nI_clamp (show 2 + j < 2 ^ 31 by omega), s3, k2, k4, notice_eq hF h1 hw h4 k1 hp hs hx, Option.bind_some, notice_eq hF h1 hw h4 k3 hq hn hy, rightOf_eq hF hw h4 h5 (show nt4 w (K j) (nt4 w (K i) s p x) q y < 1024 by omega) (show t < 1024 by omega)]
  rfl
theorem vR_lt {i j : Nat} (hw : w ≤ 5) : vR w t s p x q y K i j < 6 := by
  have := rgt_le w (nt4 w (K j) (nt4 w (K i) s p x) q y) t
  unfold vR
  omega
end RST
section RSM
variable {F c : Nat} {h : xM} {V : Nat → Nat → Nat} {v1 v2 v3 v4 v5 : Int32}
theorem arR_false {i j : Nat} : ∀ k m, arR c V i j k = false → arR c V i j (k + m) = false := by
  intro k m hk
  induction m with
  | zero => exact hk
  | succ m ih => rw [← Nat.add_assoc]; simp only [arR, ih, Bool.false_and]
theorem rests_b102_eq {i j N : Nat} {Q : Int32} {K60 : Int32 → Int32 → Int32 → Int32 → Int32 → Int32 → Int32 → Int32 → xM → Option (Int32 × xM)} {K72 : Int32 → Int32 → Int32 → Int32 → Int32 → Int32 → Int32 → Int32 → Int32 → xM → Option (Int32 × xM)} (hc : c ≤ 3) (h6 : h 0 6 = nI c) (hV : ∀ a b, V a b < 6) (hr : ∀ a b, a < c → b < c → pX12_rightBy F h (nI a) (nI b) v1 v2 v3 v4 = some (nI (V a b))) (hi : i < c) (hj : j < c) (hN : N < 1000) : ∀ (n k : Nat), k ≤ c → c < k + n → pX12_rests_b102 F K60 K72 n v1 v2 v3 v4 v5 (nI N) Q (nI i) (nI j) (nI (V i j)) (if arR c V i j k = true then 1 else 0) (nI k) h = K72 v1 v2 v3 v4 v5 (nI (gR c V i j (N, Q)).1) (gR c V i j (N, Q)).2 (nI i) (nI (j + 1)) h := by
  intro n
  induction n with
  | zero => intro k z1 z2; omega
  | succ n ih =>
    intro k z1 z2
    rw [pX12_rests_b102, h6]
    by_cases hk : c ≤ k
    · have hkc : k = c := by omega
      subst hkc
      rw [if_pos (nI_le hk (by omega))]
      unfold gR AR
      by_cases ha : arR k V i j k = true
      · rw [if_pos ha, if_pos ha, if_neg (by decide)]
        by_cases hn : N = 0
        · subst hn
          rw [if_pos (show nI 0 = 0 from rfl), pX12_rests_b188, if_neg (by decide), show (10 : Int32) * nI i + nI j = nI (10 * i + j) by rw [show (10 : Int32) = nI 10 from rfl, pk_mul, nI_add], show nI j + (1 : Int32) = nI (j + 1) from nI_1 j, show nI 0 + (1 : Int32) = nI (0 + 1) from nI_1 0]
          rfl
        · rw [if_neg (nI_ne0 (by omega) (by omega)), pX12_rests_b186, pX12_rests_b188, if_neg (by decide), show nI j + (1 : Int32) = nI (j + 1) from nI_1 j, show nI N + (1 : Int32) = nI (N + 1) from nI_1 N]
          dsimp only
          rw [if_neg hn]
      · rw [if_neg ha, if_neg ha, if_pos rfl, pX12_rests_b186, pX12_rests_b188, if_pos rfl, show nI j + (1 : Int32) = nI (j + 1) from nI_1 j, show nI N + (0 : Int32) = nI (N + 0) from nI_add N 0]
        rfl
    · rw [if_neg (nI_ge (by omega) (by omega)), show nI k + (1 : Int32) = nI (k + 1) from nI_1 k]
      have ih2 := ih (k + 1) (by omega) (by omega)
      have v1' := hV k j
      have v2' := hV i j
      have v3' := hV i k
      by_cases ha : arR c V i j k = true
      · rw [if_pos ha, if_neg (by decide), hr k j (by omega) hj, Option.bind_some, hr i k hi (by omega), Option.bind_some]
        simp only [arR, ha, Bool.true_and] at ih2
        by_cases b1 : V k j ≤ V i j
        · rw [if_neg (nI_nlt b1 (by omega))]
          by_cases b2 : V i j ≤ V i k
          · rw [if_neg (nI_nlt b2 (by omega))]
            rw [if_pos (by simp [b1, b2])] at ih2
            exact ih2
          · rw [if_pos (nI_lt (by omega) (by omega))]
            rw [if_neg (by simp [b2])] at ih2
            exact ih2
        · rw [if_pos (nI_lt (by omega) (by omega))]
          rw [if_neg (by simp [b1])] at ih2
          exact ih2
      · rw [if_neg ha, if_pos rfl]
        rw [if_neg (by simp only [arR]; simp [ha])] at ih2
        exact ih2
theorem gR_lt {i j N : Nat} {Q : Int32} {m : Nat} (h : N + 1 ≤ m) : (gR c V i j (N, Q)).1 ≤ m := by rw [gR_1]; split <;> omega
theorem rests_b72_eq {i : Nat} {K60 : Int32 → Int32 → Int32 → Int32 → Int32 → Int32 → Int32 → Int32 → xM → Option (Int32 × xM)} (hF : 5 < F) (hc : c ≤ 3) (h6 : h 0 6 = nI c) (hV : ∀ a b, V a b < 6) (hr : ∀ a b, a < c → b < c → pX12_rightBy F h (nI a) (nI b) v1 v2 v3 v4 = some (nI (V a b))) (hi : i < c) : ∀ (n j : Nat) (N : Nat) (Q : Int32), N + (c - j) < 1000 → j ≤ c → c < j + n → pX12_rests_b72 F K60 n v1 v2 v3 v4 v5 (nI N) Q (nI i) (nI j) h = K60 v1 v2 v3 v4 v5 (nI (rowR c V i j (c - j) (N, Q)).1) (rowR c V i j (c - j) (N, Q)).2 (nI (i + 1)) h := by
  intro n
  induction n with
  | zero => intro j N Q z0 z1 z2; omega
  | succ n ih =>
    intro j N Q z0 z1 z2
    rw [pX12_rests_b72, h6]
    by_cases hj : c ≤ j
    · rw [if_pos (nI_le hj (by omega)), show c - j = 0 by omega, show nI i + (1 : Int32) = nI (i + 1) from nI_1 i]
      rfl
    · rw [if_neg (nI_ge (by omega) (by omega)), hr i j hi (by omega), Option.bind_some]
      have := rests_b102_eq (F := F) (h := h) (V := V) (v5 := v5) (Q := Q) (K60 := K60) (K72 := pX12_rests_b72 F K60 n) hc h6 hV hr hi (show j < c by omega) (show N < 1000 by omega) F 0 (by omega) (by omega)
      rw [show (if arR c V i j 0 = true then (1 : Int32) else 0) = 1 from rfl] at this
      rw [show (0 : Int32) = nI 0 from rfl, this]
      have e : gR c V i j (N, Q) = ((gR c V i j (N, Q)).1, (gR c V i j (N, Q)).2) := rfl
      have hl := gR_lt (c := c) (V := V) (i := i) (j := j) (N := N) (Q := Q) (m := N + 1) (Nat.le_refl _)
      rw [ih (j + 1) _ _ (by omega) (by omega) (by omega), show c - j = (c - (j + 1)) + 1 by omega]
      rfl
theorem rowR_le {i : Nat} : ∀ (m j : Nat) (st : Nat × Int32), (rowR c V i j m st).1 ≤ st.1 + m := by
  intro m
  induction m with
  | zero => intro j st; exact Nat.le_refl _
  | succ m ih =>
    intro j st
    simp only [rowR]
    have h1 := ih (j + 1) (gR c V i j st)
    have h2 : (gR c V i j st).1 ≤ st.1 + 1 := by unfold gR; split <;> simp
    omega
theorem rests_b60_eq (hF : 5 < F) (hc : c ≤ 3) (h6 : h 0 6 = nI c) (hV : ∀ a b, V a b < 6) (hr : ∀ a b, a < c → b < c → pX12_rightBy F h (nI a) (nI b) v1 v2 v3 v4 = some (nI (V a b))) : ∀ (n i : Nat) (N : Nat) (Q : Int32), N + 3 * (c - i) < 100 → i ≤ c → c < i + n → pX12_rests_b60 F n v1 v2 v3 v4 v5 (nI N) Q (nI i) h = some (if v5 = 0 then nI (allR c V i (c - i) (N, Q)).1 else (allR c V i (c - i) (N, Q)).2, h) := by
  intro n
  induction n with
  | zero => intro i N Q z0 z1 z2; omega
  | succ n ih =>
    intro i N Q z0 z1 z2
    rw [pX12_rests_b60, h6]
    by_cases hi : c ≤ i
    · rw [if_pos (nI_le hi (by omega)), show c - i = 0 by omega]
      split <;> rfl
    · rw [if_neg (nI_ge (by omega) (by omega))]
      have := rests_b72_eq (F := F) (h := h) (V := V) (v5 := v5) (K60 := pX12_rests_b60 F n) hF hc h6 hV hr (show i < c by omega) F 0 N Q (by omega) (by omega) (by omega)
      rw [show (0 : Int32) = nI 0 from rfl, this]
      have hl := rowR_le (c := c) (V := V) (i := i) (c - 0) 0 (N, Q)
      rw [ih (i + 1) _ _ (by dsimp only at hl; omega) (by omega) (by omega), show c - i = (c - (i + 1)) + 1 by omega]
      rfl
end RSM
section RSC
variable {F c : Nat} {f : xM} {V : Nat → Nat → Nat}
theorem rightBy1_eq {i j : Nat} (hc : c ≤ 3) (h26 : ∀ a b, a < c → b < c → f 26 (3 * a + b) = nI (V a b)) (hi : i < c) (hj : j < c) : pX1_rightBy f (nI i) (nI j) = some (nI (V i j)) := by
  unfold pX1_rightBy
  rw [ix3, if_neg (nI_pos (by omega)), if_neg (show ¬ (9 : Int32) ≤ nI (3 * i + j) from nI_ge (b := 9) (by omega) (by omega)), if_pos (xin_of (by omega) (by omega)), nI_clamp (by omega), h26 i j hi hj]
theorem isAtRest_eq {i j : Nat} (hF : 5 < F) (hc : c ≤ 3) (h81 : f 8 1 = nI c) (hV : ∀ a b, V a b < 6) (h26 : ∀ a b, a < c → b < c → f 26 (3 * a + b) = nI (V a b)) (hi : i < c) (hj : j < c) : pX1_isAtRest F f (nI i) (nI j) = some (if AR c V i j = true then 1 else 0) := by
  have key : ∀ (n k : Nat), k ≤ c → c < k + n → arR c V i j k = true → pX1_isAtRest_b10 F f n (nI i) (nI j) (nI (V i j)) (nI k) = some (if AR c V i j = true then 1 else 0) := by
    intro n
    induction n with
    | zero => intro k z1 z2; omega
    | succ n ih =>
      intro k z1 z2 ha
      rw [pX1_isAtRest_b10, h81]
      by_cases hk : c ≤ k
      · rw [if_pos (nI_le hk (by omega))]
        unfold AR
        rw [show c = k by omega, if_pos (by rw [← show c = k by omega]; rw [show c = k by omega]; rw [← show c = k by omega] at ha ⊢; exact ha)]
      · have v1' := hV k j
        have v2' := hV i j
        have v3' := hV i k
        have hfalse : arR c V i j (k + 1) = false → AR c V i j = false := fun z => by
          unfold AR
          have := arR_false (c := c) (V := V) (i := i) (j := j) (k + 1) (c - (k + 1)) z
          rw [show k + 1 + (c - (k + 1)) = c by omega] at this
          exact this
        rw [if_neg (nI_ge (by omega) (by omega)), rightBy1_eq hc h26 (by omega) hj, Option.bind_some]
        by_cases b1 : V k j ≤ V i j
        · rw [if_neg (nI_nlt b1 (by omega)), rightBy1_eq hc h26 hi (by omega), Option.bind_some]
          by_cases b2 : V i j ≤ V i k
          · rw [if_pos (nI_le b2 (by omega)), show nI k + (1 : Int32) = nI (k + 1) from nI_1 k]
            exact ih (k + 1) (by omega) (by omega) (by simp only [arR]; simp [ha, b1, b2])
          · rw [if_neg (nI_ge (by omega) (by omega)), if_neg (by rw [hfalse (by simp only [arR]; simp [b2])]; decide)]
        · rw [if_pos (nI_lt (by omega) (by omega)), if_neg (by rw [hfalse (by simp only [arR]; simp [b1])]; decide)]
  unfold pX1_isAtRest
  rw [rightBy1_eq hc h26 hi hj, Option.bind_some]
  exact key F 0 (by omega) (by omega) rfl
theorem inAll_b14_eq {i : Nat} {K4 : Int32 → Int32 → Option Int32} (hF : 5 < F) (hc : c ≤ 3) (h81 : f 8 1 = nI c) (hV : ∀ a b, V a b < 6) (h26 : ∀ a b, a < c → b < c → f 26 (3 * a + b) = nI (V a b)) (hi : i < c) (Q : Int32) : ∀ (n j N : Nat), j ≤ c → c < j + n → pX1_restsInAll_b14 F f K4 n (nI N) (nI i) (nI j) = K4 (nI (rowR c V i j (c - j) (N, Q)).1) (nI (i + 1)) := by
  intro n
  induction n with
  | zero => intro j N z1 z2; omega
  | succ n ih =>
    intro j N z1 z2
    rw [pX1_restsInAll_b14, h81]
    by_cases hj : c ≤ j
    · rw [if_pos (nI_le hj (by omega)), show c - j = 0 by omega, show nI i + (1 : Int32) = nI (i + 1) from nI_1 i]
      rfl
    · rw [if_neg (nI_ge (by omega) (by omega)), isAtRest_eq hF hc h81 hV h26 hi (by omega), Option.bind_some, show c - j = (c - (j + 1)) + 1 by omega, show nI j + (1 : Int32) = nI (j + 1) from nI_1 j]
      simp only [rowR]
      rw [show gR c V i j (N, Q) = ((gR c V i j (N, Q)).1, (gR c V i j (N, Q)).2) from rfl, rowR_1 _ _ _ _ Q, gR_1]
      by_cases ha : AR c V i j = true
      · rw [if_pos ha, if_neg (by decide), if_pos ha, show nI N + (1 : Int32) = nI (N + 1) from nI_1 N]
        exact ih (j + 1) (N + 1) (by omega) (by omega)
      · rw [if_neg ha, if_pos rfl, if_neg ha, show nI N + (0 : Int32) = nI (N + 0) from nI_add N 0]
        exact ih (j + 1) N (by omega) (by omega)
theorem inAll_eq (hF : 5 < F) (hc : c ≤ 3) (h81 : f 8 1 = nI c) (hV : ∀ a b, V a b < 6) (h26 : ∀ a b, a < c → b < c → f 26 (3 * a + b) = nI (V a b)) (Q : Int32) : pX1_restsInAll F f = some (nI (allR c V 0 c (0, Q)).1) := by
  have key : ∀ (n i N : Nat) (Q : Int32), i ≤ c → c < i + n → pX1_restsInAll_b4 F f n (nI N) (nI i) = some (nI (allR c V i (c - i) (N, Q)).1) := by
    intro n
    induction n with
    | zero => intro i N Q z1 z2; omega
    | succ n ih =>
      intro i N Q z1 z2
      rw [pX1_restsInAll_b4, h81]
      by_cases hi : c ≤ i
      · rw [if_pos (nI_le hi (by omega)), show c - i = 0 by omega]
        rfl
      · rw [if_neg (nI_ge (by omega) (by omega)), show (0 : Int32) = nI 0 from rfl, inAll_b14_eq hF hc h81 hV h26 (by omega) Q F 0 N (by omega) (by omega), show c - i = (c - (i + 1)) + 1 by omega]
        exact ih (i + 1) _ _ (by omega) (by omega)
  exact key F 0 0 Q (by omega) (by omega)
theorem least_b12_eq {i : Nat} {K2 : Int32 → Option Int32} {R : Int32} (hF : 5 < F) (hc : c ≤ 3) (h81 : f 8 1 = nI c) (hV : ∀ a b, V a b < 6) (h26 : ∀ a b, a < c → b < c → f 26 (3 * a + b) = nI (V a b)) (hi : i < c) (hK : K2 (nI (i + 1)) = some (allR c V (i + 1) (c - (i + 1)) (0, -9)).2) : ∀ (n j : Nat), j ≤ c → c < j + n → pX1_leastRest_b12 F f K2 n (nI i) (nI j) = some (allR c V (i + 1) (c - (i + 1)) (rowR c V i j (c - j) (0, -9))).2 := by
  intro n
  induction n with
  | zero => intro j z1 z2; omega
  | succ n ih =>
    intro j z1 z2
    rw [pX1_leastRest_b12, h81]
    by_cases hj : c ≤ j
    · rw [if_pos (nI_le hj (by omega)), show c - j = 0 by omega, show nI i + (1 : Int32) = nI (i + 1) from nI_1 i]
      exact hK
    · rw [if_neg (nI_ge (by omega) (by omega)), isAtRest_eq hF hc h81 hV h26 hi (by omega), Option.bind_some, show c - j = (c - (j + 1)) + 1 by omega]
      simp only [rowR]
      by_cases ha : AR c V i j = true
      · rw [if_pos ha, if_neg (by decide), show (10 : Int32) * nI i + nI j = nI (10 * i + j) by rw [show (10 : Int32) = nI 10 from rfl, pk_mul, nI_add]]
        have e : gR c V i j (0, -9) = (1, nI (10 * i + j)) := by unfold gR; rw [if_pos ha]; rfl
        obtain ⟨a, b⟩ := rowR_keep (c := c) (V := V) (i := i) (c - (j + 1)) (j + 1) (gR c V i j (0, -9)) (by rw [e]; exact Nat.le_refl 1)
        rw [allR_keep _ _ _ a, b, e]
      · rw [if_neg ha, if_pos rfl, show nI j + (1 : Int32) = nI (j + 1) from nI_1 j]
        have e : gR c V i j (0, -9) = (0, -9) := by unfold gR; rw [if_neg ha]
        rw [e]
        exact ih (j + 1) (by omega) (by omega)
theorem least_eq (hF : 5 < F) (hc : c ≤ 3) (h81 : f 8 1 = nI c) (hV : ∀ a b, V a b < 6) (h26 : ∀ a b, a < c → b < c → f 26 (3 * a + b) = nI (V a b)) : pX1_leastRest F f = some (allR c V 0 c (0, -9)).2 := by
  have key : ∀ (n i : Nat), i ≤ c → c < i + n → pX1_leastRest_b2 F f n (nI i) = some (allR c V i (c - i) (0, -9)).2 := by
    intro n
    induction n with
    | zero => intro i z1 z2; omega
    | succ n ih =>
      intro i z1 z2
      rw [pX1_leastRest_b2, h81]
      by_cases hi : c ≤ i
      · rw [if_pos (nI_le hi (by omega)), show c - i = 0 by omega]
        rfl
      · rw [if_neg (nI_ge (by omega) (by omega)), show (0 : Int32) = nI 0 from rfl, least_b12_eq (R := 0) hF hc h81 hV h26 (by omega) (ih (i + 1) (by omega) (by omega)) F 0 (by omega) (by omega), show c - i = (c - (i + 1)) + 1 by omega]
        rfl
  exact key F 0 (by omega) (by omega)
end RSC
