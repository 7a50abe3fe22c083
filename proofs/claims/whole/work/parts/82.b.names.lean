/-! ===== names as numbers ===== -/
def lt4 (w s p : Nat) : Nat := s / 4 ^ (w - 1 - p) % 4
def pt4 (w s p x : Nat) : Nat := s - lt4 w s p * 4 ^ (w - 1 - p) + x * 4 ^ (w - 1 - p)
def nx4 (w p : Nat) : Nat := if p + 1 < w then p + 1 else 0
def nt4 (w kd s p x : Nat) : Nat := if kd = 1 then pt4 w (pt4 w s p x) (nx4 w p) ((lt4 w (pt4 w s p x) (nx4 w p) + 1) % 4) else if kd = 2 then pt4 w (pt4 w s p x) p ((x + 1) % 4) else if kd = 3 then pt4 w (pt4 w (pt4 w s p x) p (lt4 w (pt4 w s p x) (nx4 w p))) (nx4 w p) x else pt4 w s p x
theorem lt4_lt (w s p : Nat) : lt4 w s p < 4 := Nat.mod_lt _ (by decide)
theorem nx4_lt {w p : Nat} (h : p < w) : nx4 w p < w := by unfold nx4; split <;> omega
theorem p4_le {w : Nat} (h : w ≤ 5) : 4 ^ w ≤ 1024 := by
  have : 4 ^ w ≤ 4 ^ 5 := Nat.pow_le_pow_right (by decide) h
  simpa using this
set_option maxRecDepth 100000 in
theorem pt4_dec : ∀ w, w < 6 → ∀ p, p < w → ∀ s, s < 4 ^ w → ∀ x, x < 4 → pt4 w s p x < 4 ^ w := by decide +kernel
theorem pt4_lt {w s p x : Nat} (hw : w ≤ 5) (hp : p < w) (hs : s < 4 ^ w) (hx : x < 4) : pt4 w s p x < 4 ^ w := pt4_dec w (by omega) p hp s hs x hx
theorem nt4_lt {w kd s p x : Nat} (hw : w ≤ 5) (hp : p < w) (hs : s < 4 ^ w) (hx : x < 4) : nt4 w kd s p x < 4 ^ w := by
  have h1 := pt4_lt hw hp hs hx
  have hn := nx4_lt hp
  unfold nt4
  split
  · exact pt4_lt hw hn h1 (Nat.mod_lt _ (by decide))
  · split
    · exact pt4_lt hw hp h1 (Nat.mod_lt _ (by decide))
    · split
      · exact pt4_lt hw hn (pt4_lt hw hp h1 (lt4_lt _ _ _)) hx
      · exact h1
/-! the reference's -/
theorem power_loop {F b e : Nat} (he : e < 2 ^ 31) : ∀ (n j : Nat), j ≤ e → e < j + n → pX12_power_b4 F n (nI b) (nI e) (nI (b ^ j)) (nI j) = some (nI (b ^ e)) := by
  intro n
  induction n with
  | zero => intro j h1 h2; omega
  | succ n ih =>
    intro j h1 h2
    rw [pX12_power_b4]
    by_cases h : e ≤ j
    · rw [if_pos (nI_le h (by omega)), show j = e by omega]
    · rw [if_neg (nI_ge (by omega) he), pk_mul, show nI j + (1 : Int32) = nI (j + 1) from nI_1 j, ← Nat.pow_succ]
      exact ih (j + 1) (by omega) (by omega)
theorem power_eq {F b e : Nat} (he : e < F) (hF : e < 2 ^ 31) : pX12_power F (nI b) (nI e) = some (nI (b ^ e)) := by
  unfold pX12_power
  have := power_loop (F := F) (b := b) hF F 0 (by omega) (by omega)
  rw [Nat.pow_zero] at this
  exact this
theorem wmp {w p : Nat} (hp : p < w) : (nI w - (1 : Int32)) - nI p = nI (w - 1 - p) := by
  rw [show (1 : Int32) = nI 1 from rfl, pk_sub (by omega), pk_sub (by omega)]
theorem letterOf_eq {F : Nat} {h : xM} {w s p : Nat} (hF : 5 < F) (hw : w ≤ 5) (h4 : h 0 4 = nI w) (hp : p < w) (hs : s < 1024) : pX12_letterOf F h (nI s) (nI p) = some (nI (lt4 w s p)) := by
  have hb : 4 ^ (w - 1 - p) ≤ 1024 := p4_le (by omega)
  have h0 : 0 < 4 ^ (w - 1 - p) := Nat.pow_pos (by decide)
  unfold pX12_letterOf
  rw [h4, wmp hp, show (4 : Int32) = nI 4 from rfl, power_eq (by omega) (by omega), Option.bind_some, if_neg (nI_ne0 h0 (by omega)), pk_div (by omega) h0 (by omega)]
  have : s / 4 ^ (w - 1 - p) ≤ s := Nat.div_le_self _ _
  rw [pk_rem (by omega) (by decide) (by decide)]
  rfl
theorem put_eq {F : Nat} {h : xM} {w s p x : Nat} (hF : 5 < F) (hw : w ≤ 5) (h4 : h 0 4 = nI w) (hp : p < w) (hs : s < 4 ^ w) (hx : x < 4) : pX12_put F h (nI s) (nI p) (nI x) = some (nI (pt4 w s p x)) := by
  have hb : 4 ^ (w - 1 - p) ≤ 1024 := p4_le (by omega)
  have h0 : 0 < 4 ^ (w - 1 - p) := Nat.pow_pos (by decide)
  have hs2 : s < 1024 := Nat.lt_of_lt_of_le hs (p4_le hw)
  unfold pX12_put
  rw [letterOf_eq hF hw h4 hp hs2, Option.bind_some, h4, wmp hp, show (4 : Int32) = nI 4 from rfl, power_eq (by omega) (by omega), Option.bind_some]
  have hl : lt4 w s p * 4 ^ (w - 1 - p) ≤ s := by
    unfold lt4
    have h1 : s / 4 ^ (w - 1 - p) % 4 ≤ s / 4 ^ (w - 1 - p) := Nat.mod_le _ _
    exact Nat.le_trans (Nat.mul_le_mul_right _ h1) (Nat.div_mul_le_self _ _)
  congr 1
  have e1 : nI s + (nI x - nI (lt4 w s p)) * nI (4 ^ (w - 1 - p)) = (nI s - nI (lt4 w s p) * nI (4 ^ (w - 1 - p))) + nI x * nI (4 ^ (w - 1 - p)) := by
    generalize nI s = a
    generalize nI x = b
    generalize nI (lt4 w s p) = c
    generalize nI (4 ^ (w - 1 - p)) = d
    grind
  rw [e1, pk_mul, pk_mul, pk_sub hl, nI_add]
  rfl
theorem next_eq {w p : Nat} (hw : w ≤ 5) (hp : p < w) : (nI p + (1 : Int32)) - (nI p + (1 : Int32)) / nI w * nI w = nI (nx4 w p) := by
  rw [show nI p + (1 : Int32) = nI (p + 1) from nI_1 p, pk_rem (by omega) (by omega) (by omega)]
  unfold nx4
  split
  · rw [Nat.mod_eq_of_lt (by omega)]
  · rw [show p + 1 = w by omega, Nat.mod_self]
theorem mod4_eq {x : Nat} (hx : x < 4) : (nI x + (1 : Int32)) - (nI x + (1 : Int32)) / (4 : Int32) * (4 : Int32) = nI ((x + 1) % 4) := by
  rw [show nI x + (1 : Int32) = nI (x + 1) from nI_1 x, show (4 : Int32) = nI 4 from rfl, pk_rem (by omega) (by decide) (by decide)]
theorem nI_is {a b : Nat} (ha : a < 2 ^ 31) (hb : b < 2 ^ 31) : (nI a = nI b) = (a = b) := propext (nI_eq ha hb)
theorem notice_eq {F : Nat} {h : xM} {w kd s p x : Nat} (hF : 5 < F) (h1 : 1 ≤ w) (hw : w ≤ 5) (h4 : h 0 4 = nI w) (hk : kd < 4) (hp : p < w) (hs : s < 4 ^ w) (hx : x < 4) : pX12_notice F h (nI s) (nI kd) (nI p) (nI x) = some (nI (nt4 w kd s p x)) := by
  have hv := pt4_lt hw hp hs hx
  have hn := nx4_lt hp
  have hv2 : pt4 w s p x < 1024 := Nat.lt_of_lt_of_le hv (p4_le hw)
  unfold pX12_notice
  rw [if_neg (by rw [h4]; exact nI_ne0 (by omega) (by omega)), put_eq hF hw h4 hp hs hx, Option.bind_some]
  simp only [h4, next_eq hw hp, mod4_eq hx]
  rw [letterOf_eq hF hw h4 hn hv2]
  simp only [Option.bind_some, mod4_eq (lt4_lt _ _ _), put_eq hF hw h4 hn hv (Nat.mod_lt _ (by decide : 0 < 4)), put_eq hF hw h4 hp hv (Nat.mod_lt _ (by decide : 0 < 4)), put_eq hF hw h4 hp hv (lt4_lt _ _ _), put_eq hF hw h4 hn (pt4_lt hw hp hv (lt4_lt _ _ _)) hx]
  unfold nt4
  rcases (show kd = 0 ∨ kd = 1 ∨ kd = 2 ∨ kd = 3 by omega) with rfl | rfl | rfl | rfl
  · rw [if_neg (by decide), if_neg (by decide), if_neg (by decide)]; rfl
  · rw [if_pos rfl]; rfl
  · rw [if_neg (by decide), if_pos rfl]; rfl
  · rw [if_neg (by decide), if_neg (by decide), if_pos rfl]; rfl
