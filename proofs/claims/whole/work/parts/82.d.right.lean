/-! how much is right -/
def rg4 (w s t : Nat) : Nat → Nat
  | 0 => 0
  | p + 1 => rg4 w s t p + (if lt4 w s p = lt4 w t p then 1 else 0)
def rgt (w s t : Nat) : Nat := rg4 w s t w
theorem rg4_le (w s t : Nat) : ∀ p, rg4 w s t p ≤ p := by
  intro p
  induction p with
  | zero => exact Nat.le_refl _
  | succ p ih => simp only [rg4]; split <;> omega
theorem rgt_le (w s t : Nat) : rgt w s t ≤ w := rg4_le w s t w
theorem rightOf_loop {F : Nat} {h : xM} {w s t : Nat} (hF : 5 < F) (hw : w ≤ 5) (h4 : h 0 4 = nI w) (h5 : h 0 5 = nI t) (hs : s < 1024) (ht : t < 1024) : ∀ (n p : Nat), p ≤ w → w < p + n → pX12_rightOf_b4 F h n (nI s) (nI (rg4 w s t p)) (nI p) = some (nI (rgt w s t)) := by
  intro n
  induction n with
  | zero => intro p h1 h2; omega
  | succ n ih =>
    intro p h1 h2
    rw [pX12_rightOf_b4, h4]
    by_cases hp : w ≤ p
    · rw [if_pos (nI_le hp (by omega)), show p = w by omega]; rfl
    · rw [if_neg (nI_ge (by omega) (by omega)), letterOf_eq hF hw h4 (by omega) hs, Option.bind_some, h5, letterOf_eq hF hw h4 (by omega) ht, Option.bind_some, show nI p + (1 : Int32) = nI (p + 1) from nI_1 p, show (0 : Int32) = nI 0 from rfl, show nI (rg4 w s t p) + (1 : Int32) = nI (rg4 w s t p + 1) from nI_1 _, nI_add]
      have hl1 := lt4_lt w s p
      have hl2 := lt4_lt w t p
      have ih2 := ih (p + 1) (by omega) (by omega)
      simp only [rg4] at ih2
      by_cases he : lt4 w s p = lt4 w t p
      · rw [if_pos (by rw [he])]; rw [if_pos he] at ih2; exact ih2
      · rw [if_neg (fun q => he (nI_inj (by omega) (by omega) q))]; rw [if_neg he] at ih2; exact ih2
theorem rightOf_eq {F : Nat} {h : xM} {w s t : Nat} (hF : 5 < F) (hw : w ≤ 5) (h4 : h 0 4 = nI w) (h5 : h 0 5 = nI t) (hs : s < 1024) (ht : t < 1024) : pX12_rightOf F h (nI s) = some (nI (rgt w s t)) := by
  unfold pX12_rightOf
  exact rightOf_loop hF hw h4 h5 hs ht F 0 (by omega) (by omega)
def dg4 (d : Nat) : Nat := (if d % 4 = 0 then 0 else 1) + (if d / 4 % 4 = 0 then 0 else 1) + (if d / 16 % 4 = 0 then 0 else 1) + (if d / 64 % 4 = 0 then 0 else 1) + (if d / 256 % 4 = 0 then 0 else 1)
def bcA (n : Nat) : Nat := n - (n / 2 &&& 1431655765)
def bcB (a : Nat) : Nat := (a &&& 858993459) + (a / 4 &&& 858993459)
def bcC (b : Nat) : Nat := (b + b / 16) &&& 252645135
def bcD (c : Nat) : Nat := c + c / 256
def bcE (d : Nat) : Nat := d + d / 65536
theorem us1 {n : Nat} (h : n < 2 ^ 32) : ((nI n).toUInt32 >>> ((1 : Int32).toUInt32 &&& Int32.toUInt32 31)).toInt32 = nI (n / 2) := pk_ushrN h 1 1 (by decide)
theorem us2 {n : Nat} (h : n < 2 ^ 32) : ((nI n).toUInt32 >>> ((2 : Int32).toUInt32 &&& Int32.toUInt32 31)).toInt32 = nI (n / 4) := pk_ushrN h 2 2 (by decide)
theorem us4 {n : Nat} (h : n < 2 ^ 32) : ((nI n).toUInt32 >>> ((4 : Int32).toUInt32 &&& Int32.toUInt32 31)).toInt32 = nI (n / 16) := pk_ushrN h 4 4 (by decide)
theorem us8 {n : Nat} (h : n < 2 ^ 32) : ((nI n).toUInt32 >>> ((8 : Int32).toUInt32 &&& Int32.toUInt32 31)).toInt32 = nI (n / 256) := pk_ushrN h 8 8 (by decide)
theorem us16 {n : Nat} (h : n < 2 ^ 32) : ((nI n).toUInt32 >>> ((16 : Int32).toUInt32 &&& Int32.toUInt32 31)).toInt32 = nI (n / 65536) := pk_ushrN h 16 16 (by decide)
theorem bitCount_nI (n : Nat) (hn : n < 1024) : pJ6_bitCount_0f7a4 (nI n) = nI (bcE (bcD (bcC (bcB (bcA n)))) &&& 63) := by
  have hA : bcA n ≤ n := Nat.sub_le _ _
  have hB : bcB (bcA n) ≤ 2 * n := by
    unfold bcB
    have h1 : bcA n &&& 858993459 ≤ bcA n := Nat.and_le_left
    have h2 : bcA n / 4 &&& 858993459 ≤ bcA n / 4 := Nat.and_le_left
    omega
  have hC : bcC (bcB (bcA n)) ≤ 4 * n := by
    unfold bcC
    have h1 : (bcB (bcA n) + bcB (bcA n) / 16) &&& 252645135 ≤ bcB (bcA n) + bcB (bcA n) / 16 := Nat.and_le_left
    omega
  have hD : bcD (bcC (bcB (bcA n))) ≤ 8 * n := by unfold bcD; omega
  have ha : nI n - (((nI n).toUInt32 >>> ((1 : Int32).toUInt32 &&& Int32.toUInt32 31)).toInt32 &&& (1431655765 : Int32)) = nI (bcA n) := by
    rw [us1 (by omega), show (1431655765 : Int32) = nI 1431655765 from rfl, nI_and, pk_sub]
    · rfl
    · have h1 : n / 2 &&& 1431655765 ≤ n / 2 := Nat.and_le_left
      omega
  have hb : (nI (bcA n) &&& (858993459 : Int32)) + (((nI (bcA n)).toUInt32 >>> ((2 : Int32).toUInt32 &&& Int32.toUInt32 31)).toInt32 &&& (858993459 : Int32)) = nI (bcB (bcA n)) := by
    rw [us2 (by omega), show (858993459 : Int32) = nI 858993459 from rfl, nI_and, nI_and, nI_add]; rfl
  have hc : (nI (bcB (bcA n)) + ((nI (bcB (bcA n))).toUInt32 >>> ((4 : Int32).toUInt32 &&& Int32.toUInt32 31)).toInt32) &&& (252645135 : Int32) = nI (bcC (bcB (bcA n))) := by
    rw [us4 (by omega), nI_add, show (252645135 : Int32) = nI 252645135 from rfl, nI_and]; rfl
  have hd : nI (bcC (bcB (bcA n))) + ((nI (bcC (bcB (bcA n)))).toUInt32 >>> ((8 : Int32).toUInt32 &&& Int32.toUInt32 31)).toInt32 = nI (bcD (bcC (bcB (bcA n)))) := by
    rw [us8 (by omega), nI_add]; rfl
  have he : nI (bcD (bcC (bcB (bcA n)))) + ((nI (bcD (bcC (bcB (bcA n))))).toUInt32 >>> ((16 : Int32).toUInt32 &&& Int32.toUInt32 31)).toInt32 = nI (bcE (bcD (bcC (bcB (bcA n))))) := by
    rw [us16 (by omega), nI_add]; rfl
  unfold pJ6_bitCount_0f7a4
  rw [ha, hb, hc, hd, he, show (63 : Int32) = nI 63 from rfl, nI_and]
def ng4 (d : Nat) : Nat := if d = 0 then 0 else 1
theorem bc_dec : ∀ a, a < 2 → ∀ b, b < 2 → ∀ c, c < 2 → ∀ d, d < 2 → ∀ e, e < 2 → bcE (bcD (bcC (bcB (bcA (a + 4 * b + 16 * c + 64 * d + 256 * e))))) &&& 63 = a + b + c + d + e := by decide +kernel
set_option maxRecDepth 100000 in
theorem ul_dec : ∀ d, d < 1024 → (d ||| d / 2) &&& 341 = ng4 (d % 4) + 4 * ng4 (d / 4 % 4) + 16 * ng4 (d / 16 % 4) + 64 * ng4 (d / 64 % 4) + 256 * ng4 (d / 256 % 4) := by decide +kernel
theorem ng4_lt (d : Nat) : ng4 d < 2 := by unfold ng4; split <;> omega
theorem unlike_dec (d : Nat) (hd : d < 1024) : pX8_placesUnlike (nI d) = nI (dg4 d) := by
  have h0 := ng4_lt (d % 4)
  have h1 := ng4_lt (d / 4 % 4)
  have h2 := ng4_lt (d / 16 % 4)
  have h3 := ng4_lt (d / 64 % 4)
  have h4 := ng4_lt (d / 256 % 4)
  unfold pX8_placesUnlike
  rw [show ((1 : Int32) &&& 31) = (nI 1 &&& 31) from rfl, nI_shr (by omega) (by omega), nI_or, show (341 : Int32) = nI 341 from rfl, nI_and, Nat.pow_one, ul_dec d hd, bitCount_nI _ (by omega), bc_dec _ h0 _ h1 _ h2 _ h3 _ h4]
  rfl
