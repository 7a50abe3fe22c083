/-! the class's -/
theorem two_wmp {w p : Nat} (hp : p < w) : (2 : Int32) * ((nI w - (1 : Int32)) - nI p) = nI (2 * (w - 1 - p)) := by
  rw [wmp hp, show (2 : Int32) = nI 2 from rfl, pk_mul]
theorem nI_and (a b : Nat) : nI a &&& nI b = nI (a &&& b) := by
  apply Int32.toBitVec_inj.1
  show BitVec.ofNat 32 a &&& BitVec.ofNat 32 b = BitVec.ofNat 32 (a &&& b)
  apply BitVec.eq_of_getLsbD_eq
  intro i hi
  simp [hi]
theorem nI_or (a b : Nat) : nI a ||| nI b = nI (a ||| b) := by
  apply Int32.toBitVec_inj.1
  show BitVec.ofNat 32 a ||| BitVec.ofNat 32 b = BitVec.ofNat 32 (a ||| b)
  apply BitVec.eq_of_getLsbD_eq
  intro i hi
  simp [hi]
theorem nI_xor (a b : Nat) : nI a ^^^ nI b = nI (a ^^^ b) := by
  apply Int32.toBitVec_inj.1
  show BitVec.ofNat 32 a ^^^ BitVec.ofNat 32 b = BitVec.ofNat 32 (a ^^^ b)
  apply BitVec.eq_of_getLsbD_eq
  intro i hi
  simp [hi]
theorem sh_amt : ∀ k, k < 10 → ((nI k &&& 31).toBitVec.smod 32).toNat = k := by decide +kernel
theorem nI_shr {s k : Nat} (hs : s < 2 ^ 31) (hk : k < 10) : nI s >>> (nI k &&& 31) = nI (s / 2 ^ k) := pk_shrN hs _ k (sh_amt k hk)
theorem nI_shl {s k : Nat} (hk : k < 10) (hs : s * 2 ^ k < 2 ^ 32) : nI s <<< (nI k &&& 31) = nI (s * 2 ^ k) := pk_shlN _ k (sh_amt k hk) hs
theorem letterAt_dec (e : Nat) (he : e < 5) (s : Nat) (hs : s < 1024) : (nI s >>> (nI (2 * e) &&& 31)) &&& (3 : Int32) = nI (s / 4 ^ e % 4) := by
  rw [nI_shr (by omega) (by omega), show (3 : Int32) = nI 3 from rfl, nI_and, show (3 : Nat) = 2 ^ 2 - 1 from rfl, Nat.and_two_pow_sub_one_eq_mod, Nat.pow_mul]
set_option maxRecDepth 100000 in
theorem wl_dec : ∀ e, e < 5 → ∀ x, x < 4 → ∀ s, s < 1024 → (s &&& (3 * 2 ^ (2 * e) ^^^ 4294967295)) ||| (x * 2 ^ (2 * e)) = s - s / 4 ^ e % 4 * 4 ^ e + x * 4 ^ e := by decide +kernel
theorem withLetter_dec (e : Nat) (he : e < 5) (x : Nat) (hx : x < 5) (s : Nat) (hs : s < 1024) : (nI s &&& (((3 : Int32) <<< (nI (2 * e) &&& 31)) ^^^ (-1 : Int32))) ||| ((nI x &&& (3 : Int32)) <<< (nI (2 * e) &&& 31)) = nI (s - s / 4 ^ e % 4 * 4 ^ e + x % 4 * 4 ^ e) := by
  have h2 : 2 ^ (2 * e) ≤ 256 := by
    have : 2 ^ (2 * e) ≤ 2 ^ 8 := Nat.pow_le_pow_right (by decide) (by omega)
    simpa using this
  have hx4 : x % 4 < 4 := Nat.mod_lt _ (by decide)
  rw [show (3 : Int32) = nI 3 from rfl, nI_shl (by omega) (by omega), show (-1 : Int32) = nI 4294967295 from rfl, nI_xor, nI_and, nI_and, show nI (x &&& 3) = nI (x % 4) by rw [show (3 : Nat) = 2 ^ 2 - 1 from rfl, Nat.and_two_pow_sub_one_eq_mod], nI_shl (by omega) (by have := Nat.mul_le_mul (show x % 4 ≤ 3 by omega) h2; omega), nI_or, wl_dec e he (x % 4) hx4 s hs]
theorem letterAt_eq {f : xM} {w s p : Nat} (hw : w ≤ 5) (h4 : f 10 0 = nI w) (hp : p < w) (hs : s < 1024) : pX8_letterAt f (nI s) (nI p) = nI (lt4 w s p) := by
  unfold pX8_letterAt
  rw [h4, two_wmp hp]
  exact letterAt_dec _ (by omega) s hs
theorem withLetter_eq {f : xM} {w s p x : Nat} (hw : w ≤ 5) (h4 : f 10 0 = nI w) (hp : p < w) (hs : s < 1024) (hx : x ≤ 4) : pX8_withLetter f (nI s) (nI p) (nI x) = nI (pt4 w s p (x % 4)) := by
  unfold pX8_withLetter
  rw [h4, two_wmp hp]
  exact withLetter_dec _ (by omega) x (by omega) s hs
theorem nextPlace_eq {f : xM} {w p : Nat} (hw : w ≤ 5) (h4 : f 10 0 = nI w) (hp : p < w) : pX8_nextPlace f (nI p) = nI (nx4 w p) := by
  unfold pX8_nextPlace nx4
  rw [h4, show nI p + (1 : Int32) = nI (p + 1) from nI_1 p]
  by_cases h : p + 1 < w
  · rw [if_neg (nI_ge h (by omega)), if_pos h]
  · rw [if_pos (nI_le (by omega) (by omega)), if_neg h]; rfl
theorem noticed8_eq {f : xM} {w kd s p x : Nat} (hw : w ≤ 5) (h4 : f 10 0 = nI w) (hk : kd < 4) (hp : p < w) (hs : s < 4 ^ w) (hx : x < 4) : pX8_noticed f (nI kd) (nI s) (nI p) (nI x) = nI (nt4 w kd s p x) := by
  have hs2 : s < 1024 := Nat.lt_of_lt_of_le hs (p4_le hw)
  have hv := pt4_lt hw hp hs hx
  have hn := nx4_lt hp
  have hv2 : pt4 w s p x < 1024 := Nat.lt_of_lt_of_le hv (p4_le hw)
  have hx4 : x % 4 = x := Nat.mod_eq_of_lt hx
  have e1 : pX8_withLetter f (nI s) (nI p) (nI x) = nI (pt4 w s p x) := by rw [withLetter_eq hw h4 hp hs2 (by omega), hx4]
  have hl := lt4_lt w (pt4 w s p x) (nx4 w p)
  have hq := pt4_lt hw hp hv hl
  have hq2 : pt4 w (pt4 w s p x) p (lt4 w (pt4 w s p x) (nx4 w p)) < 1024 := Nat.lt_of_lt_of_le hq (p4_le hw)
  unfold pX8_noticed nt4
  simp only [e1, nextPlace_eq hw h4 hp, letterAt_eq hw h4 hn hv2]
  rw [show nI (lt4 w (pt4 w s p x) (nx4 w p)) + (1 : Int32) = nI (lt4 w (pt4 w s p x) (nx4 w p) + 1) from nI_1 _, show nI x + (1 : Int32) = nI (x + 1) from nI_1 _]
  simp only [withLetter_eq hw h4 hn hv2 (show lt4 w (pt4 w s p x) (nx4 w p) + 1 ≤ 4 by omega), withLetter_eq hw h4 hp hv2 (show x + 1 ≤ 4 by omega), withLetter_eq hw h4 hp hv2 (show lt4 w (pt4 w s p x) (nx4 w p) ≤ 4 by omega), Nat.mod_eq_of_lt hl, withLetter_eq hw h4 hn hq2 (show x ≤ 4 by omega), hx4]
  rcases (show kd = 0 ∨ kd = 1 ∨ kd = 2 ∨ kd = 3 by omega) with rfl | rfl | rfl | rfl
  · rw [if_neg (by decide), if_neg (by decide), if_neg (by decide)]; rfl
  · rw [if_pos rfl]; rfl
  · rw [if_neg (by decide), if_pos rfl]; rfl
  · rw [if_neg (by decide), if_neg (by decide), if_pos rfl]; rfl
