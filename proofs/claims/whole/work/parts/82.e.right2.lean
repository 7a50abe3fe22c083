theorem xor4 : ∀ a, a < 4 → ∀ b, b < 4 → (a ^^^ b = 0 ↔ a = b) := by decide
theorem xor_dig (a b e : Nat) : (a ^^^ b) / 4 ^ e % 4 = 0 ↔ a / 4 ^ e % 4 = b / 4 ^ e % 4 := by
  have e1 : 4 ^ e = 2 ^ (2 * e) := by rw [Nat.pow_mul]
  rw [e1, show (4 : Nat) = 2 ^ 2 from rfl, Nat.xor_div_two_pow, Nat.xor_mod_two_pow]
  exact xor4 _ (Nat.mod_lt _ (by decide)) _ (Nat.mod_lt _ (by decide))
theorem lt4_0 {w s p : Nat} : lt4 w s p = s / 4 ^ (w - 1 - p) % 4 := rfl
def eq1 (a b : Nat) : Nat := if a = b then 1 else 0
theorem eq1_le (a b : Nat) : eq1 a b ≤ 1 := by unfold eq1; split <;> omega
theorem eq1_not (a b : Nat) : (if a = b then 0 else 1) = 1 - eq1 a b := by unfold eq1; split <;> rfl
theorem eq1_of {a b : Nat} (h : a = b) : eq1 a b = 1 := by unfold eq1; rw [if_pos h]
theorem rg4_s (w s t p : Nat) : rg4 w s t (p + 1) = rg4 w s t p + eq1 (lt4 w s p) (lt4 w t p) := rfl
theorem dg_eq (s t : Nat) : dg4 (s ^^^ t) = (1 - eq1 (s % 4) (t % 4)) + (1 - eq1 (s / 4 % 4) (t / 4 % 4)) + (1 - eq1 (s / 16 % 4) (t / 16 % 4)) + (1 - eq1 (s / 64 % 4) (t / 64 % 4)) + (1 - eq1 (s / 256 % 4) (t / 256 % 4)) := by
  have x0 := xor_dig s t 0
  have x1 := xor_dig s t 1
  have x2 := xor_dig s t 2
  have x3 := xor_dig s t 3
  have x4 := xor_dig s t 4
  simp only [Nat.pow_zero, Nat.div_one, Nat.pow_one, show (4 : Nat) ^ 2 = 16 from rfl, show (4 : Nat) ^ 3 = 64 from rfl, show (4 : Nat) ^ 4 = 256 from rfl] at x0 x1 x2 x3 x4
  unfold dg4
  simp only [x0, x1, x2, x3, x4, eq1_not]
theorem rgt_dg {w s t : Nat} (h1 : 1 ≤ w) (hw : w ≤ 5) (hs : s < 4 ^ w) (ht : t < 4 ^ w) : rgt w s t + dg4 (s ^^^ t) = w := by
  rw [dg_eq]
  unfold rgt
  have g0 := eq1_le (s % 4) (t % 4)
  have g1 := eq1_le (s / 4 % 4) (t / 4 % 4)
  have g2 := eq1_le (s / 16 % 4) (t / 16 % 4)
  have g3 := eq1_le (s / 64 % 4) (t / 64 % 4)
  have g4 := eq1_le (s / 256 % 4) (t / 256 % 4)
  rcases (show w = 1 ∨ w = 2 ∨ w = 3 ∨ w = 4 ∨ w = 5 by omega) with rfl | rfl | rfl | rfl | rfl
  · have hs : s < 4 := hs
    have ht : t < 4 := ht
    rw [eq1_of (show s / 4 % 4 = t / 4 % 4 by omega)]
    rw [eq1_of (show s / 16 % 4 = t / 16 % 4 by omega)]
    rw [eq1_of (show s / 64 % 4 = t / 64 % 4 by omega)]
    rw [eq1_of (show s / 256 % 4 = t / 256 % 4 by omega)]
    rw [rg4_s]
    rw [show lt4 1 s 0 = s % 4 from (by rw [lt4_0]; simp), show lt4 1 t 0 = t % 4 from (by rw [lt4_0]; simp)]
    generalize eq1 (s % 4) (t % 4) = y0 at *
    simp only [rg4]
    omega
  · have hs : s < 16 := hs
    have ht : t < 16 := ht
    rw [eq1_of (show s / 16 % 4 = t / 16 % 4 by omega)]
    rw [eq1_of (show s / 64 % 4 = t / 64 % 4 by omega)]
    rw [eq1_of (show s / 256 % 4 = t / 256 % 4 by omega)]
    rw [rg4_s, rg4_s]
    rw [show lt4 2 s 0 = s / 4 % 4 from rfl, show lt4 2 t 0 = t / 4 % 4 from rfl, show lt4 2 s 1 = s % 4 from (by rw [lt4_0]; simp), show lt4 2 t 1 = t % 4 from (by rw [lt4_0]; simp)]
    generalize eq1 (s % 4) (t % 4) = y0 at *
    generalize eq1 (s / 4 % 4) (t / 4 % 4) = y1 at *
    simp only [rg4]
    omega
  · have hs : s < 64 := hs
    have ht : t < 64 := ht
    rw [eq1_of (show s / 64 % 4 = t / 64 % 4 by omega)]
    rw [eq1_of (show s / 256 % 4 = t / 256 % 4 by omega)]
    rw [rg4_s, rg4_s, rg4_s]
    rw [show lt4 3 s 0 = s / 16 % 4 from rfl, show lt4 3 t 0 = t / 16 % 4 from rfl, show lt4 3 s 1 = s / 4 % 4 from rfl, show lt4 3 t 1 = t / 4 % 4 from rfl, show lt4 3 s 2 = s % 4 from (by rw [lt4_0]; simp), show lt4 3 t 2 = t % 4 from (by rw [lt4_0]; simp)]
    generalize eq1 (s % 4) (t % 4) = y0 at *
    generalize eq1 (s / 4 % 4) (t / 4 % 4) = y1 at *
    generalize eq1 (s / 16 % 4) (t / 16 % 4) = y2 at *
    simp only [rg4]
    omega
  · have hs : s < 256 := hs
    have ht : t < 256 := ht
    rw [eq1_of (show s / 256 % 4 = t / 256 % 4 by omega)]
    rw [rg4_s, rg4_s, rg4_s, rg4_s]
    rw [show lt4 4 s 0 = s / 64 % 4 from rfl, show lt4 4 t 0 = t / 64 % 4 from rfl, show lt4 4 s 1 = s / 16 % 4 from rfl, show lt4 4 t 1 = t / 16 % 4 from rfl, show lt4 4 s 2 = s / 4 % 4 from rfl, show lt4 4 t 2 = t / 4 % 4 from rfl, show lt4 4 s 3 = s % 4 from (by rw [lt4_0]; simp), show lt4 4 t 3 = t % 4 from (by rw [lt4_0]; simp)]
    generalize eq1 (s % 4) (t % 4) = y0 at *
    generalize eq1 (s / 4 % 4) (t / 4 % 4) = y1 at *
    generalize eq1 (s / 16 % 4) (t / 16 % 4) = y2 at *
    generalize eq1 (s / 64 % 4) (t / 64 % 4) = y3 at *
    simp only [rg4]
    omega
  · have hs : s < 1024 := hs
    have ht : t < 1024 := ht
    rw [rg4_s, rg4_s, rg4_s, rg4_s, rg4_s]
    rw [show lt4 5 s 0 = s / 256 % 4 from rfl, show lt4 5 t 0 = t / 256 % 4 from rfl, show lt4 5 s 1 = s / 64 % 4 from rfl, show lt4 5 t 1 = t / 64 % 4 from rfl, show lt4 5 s 2 = s / 16 % 4 from rfl, show lt4 5 t 2 = t / 16 % 4 from rfl, show lt4 5 s 3 = s / 4 % 4 from rfl, show lt4 5 t 3 = t / 4 % 4 from rfl, show lt4 5 s 4 = s % 4 from (by rw [lt4_0]; simp), show lt4 5 t 4 = t % 4 from (by rw [lt4_0]; simp)]
    generalize eq1 (s % 4) (t % 4) = y0 at *
    generalize eq1 (s / 4 % 4) (t / 4 % 4) = y1 at *
    generalize eq1 (s / 16 % 4) (t / 16 % 4) = y2 at *
    generalize eq1 (s / 64 % 4) (t / 64 % 4) = y3 at *
    generalize eq1 (s / 256 % 4) (t / 256 % 4) = y4 at *
    simp only [rg4]
    omega
theorem xor_lt {s t : Nat} (hs : s < 1024) (ht : t < 1024) : s ^^^ t < 1024 := Nat.xor_lt_two_pow (n := 10) hs ht
theorem rightOf6_eq {f : xM} {w s t : Nat} (h1 : 1 ≤ w) (hw : w ≤ 5) (h4 : f 10 0 = nI w) (h5 : f 2 6 = nI t) (hs : s < 4 ^ w) (ht : t < 4 ^ w) : pX6_rightOf f (nI s) = nI (rgt w s t) := by
  have hb := p4_le hw
  have e := rgt_dg h1 hw hs ht
  unfold pX6_rightOf
  rw [h5, nI_xor, unlike_dec _ (xor_lt (by omega) (by omega)), h4, pk_sub (by omega)]
  congr 1
  omega
/-! told: both loops go alike -/
theorem told_eq {F : Nat} {f h : xM} {w s : Nat} (hF : 5 < F) (hw : w ≤ 5) (h4 : h 0 4 = nI w) (f4 : f 10 0 = nI w) (hs : s < 1024) : ∃ r, pX12_told F h (nI s) = some r ∧ pX8_told F f (nI s) = some r := by
  have key : ∀ (n p : Nat) (v : Int32), p ≤ w → w < p + n → ∃ r, pX12_told_b4 F h n (nI s) v (nI p) = some r ∧ pX8_told_b4 F f n (nI s) v (nI p) = some r := by
    intro n
    induction n with
    | zero => intro p v h1 h2; omega
    | succ n ih =>
      intro p v h1 h2
      rw [pX12_told_b4, pX8_told_b4, h4, f4]
      by_cases hp : w ≤ p
      · rw [if_pos (nI_le hp (by omega)), if_pos (nI_le hp (by omega))]
        exact ⟨v, rfl, rfl⟩
      · rw [if_neg (nI_ge (by omega) (by omega)), if_neg (nI_ge (by omega) (by omega)), letterOf_eq hF hw h4 (by omega) hs, Option.bind_some, letterAt_eq hw f4 (by omega) hs, show nI p + (1 : Int32) = nI (p + 1) from nI_1 p, show v * (10 : Int32) = (10 : Int32) * v from Int32.mul_comm _ _]
        exact ih (p + 1) _ (by omega) (by omega)
  exact key F 0 0 (by omega) (by omega)
