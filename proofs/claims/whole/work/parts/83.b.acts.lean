/-! ===== copies ===== -/
def cpy2 (h : xM) (d od s os n : Nat) : xM := fun x y => if x = d ∧ od ≤ y ∧ y < od + n then h s (os + (y - od)) else h x y
theorem cpy2_ne {h : xM} {d od s os n x : Nat} (hx : x ≠ d) : cpy2 h d od s os n x = h x := by funext y; simp [cpy2, hx]
theorem cpy2_in {h : xM} {d od s os n y : Nat} (h1 : od ≤ y) (h2 : y < od + n) : cpy2 h d od s os n d y = h s (os + (y - od)) := by simp [cpy2, h1, h2]
theorem cpy2_out {h : xM} {d od s os n y : Nat} (h1 : y < od ∨ od + n ≤ y) : cpy2 h d od s os n d y = h d y := by
  unfold cpy2
  rw [if_neg (by omega)]
theorem cpy2_0 {h : xM} {d od s os : Nat} : cpy2 h d od s os 0 = h := by
  funext x y
  unfold cpy2
  rw [if_neg (by omega)]
theorem cpy2_s {h : xM} {d od s os n : Nat} (hs : s ≠ d) : xu (cpy2 h d od s os n) d (od + n) (h s (os + n)) = cpy2 h d od s os (n + 1) := by
  funext x y
  unfold xu cpy2
  by_cases hx : x = d
  · subst hx
    by_cases hy : y = od + n
    · subst hy
      rw [if_pos ⟨rfl, rfl⟩, if_pos ⟨rfl, by omega, by omega⟩]
      congr 1; omega
    · rw [if_neg (fun q => hy q.2)]
      by_cases h1 : od ≤ y ∧ y < od + n
      · rw [if_pos ⟨rfl, h1⟩, if_pos ⟨rfl, by omega, by omega⟩]
      · rw [if_neg (fun q => h1 q.2), if_neg (by omega)]
  · rw [if_neg (fun q => hx q.1), if_neg (fun q => hx q.1), if_neg (fun q => hx q.1)]
theorem xrow_cpy {f : xM} {d od s os n : Nat} : xrow f d (va_cpy (f s) (f d) os od n) = cpy2 f d od s os n := by
  funext x y
  unfold xrow cpy2
  by_cases hx : x = d
  · subst hx
    rw [if_pos rfl]
    by_cases h1 : od ≤ y ∧ y < od + n
    · rw [pk_cpy_in h1.1 h1.2, if_pos ⟨rfl, h1⟩]
    · rw [pk_cpy_out (by omega), if_neg (fun q => h1 q.2)]
  · rw [if_neg hx, if_neg (fun q => hx q.1)]
theorem ix9 (a j : Nat) : ((9 : Int32) * nI a) + nI j = nI (9 * a + j) := by rw [show (9 : Int32) = nI 9 from rfl, pk_mul, nI_add]
/-! ===== the reference notes an act ===== -/
theorem note_b50_eq {F a : Nat} {h : xM} (ha : a ≤ 13) (e : h 0 21 = nI a) : ∀ (n j : Nat), j ≤ 9 → 9 < j + n → pX12_note_b50 F n (nI j) (cpy2 h 9 (9 * a) 7 0 j) = some (xu (cpy2 h 9 (9 * a) 7 0 9) 0 21 (nI (a + 1))) := by
  intro n
  induction n with
  | zero => intro j h1 h2; omega
  | succ n ih =>
    intro j h1 h2
    have e1 : cpy2 h 9 (9 * a) 7 0 j 0 21 = nI a := by rw [cpy2_ne (by decide)]; exact e
    have e2 : cpy2 h 9 (9 * a) 7 0 j 7 j = h 7 (0 + j) := by rw [cpy2_ne (by decide), Nat.zero_add]
    rw [pX12_note_b50]
    by_cases hj : 9 ≤ j
    · rw [if_pos (show (9 : Int32) ≤ nI j from nI_le (a := 9) hj (by omega)), e1, show j = 9 by omega]
      rw [show nI a + (1 : Int32) = nI (a + 1) from nI_1 a]
    · simp only [if_neg (show ¬ (9 : Int32) ≤ nI j from nI_ge (b := 9) (by omega) (by omega)), if_pos (xin_of (k := j) (n := 9) (by omega) (by omega)), e1, ix9, if_pos (xin_of (k := 9 * a + j) (n := 126) (by omega) (by omega)), nI_clamp (show 9 * a + j < 2 ^ 31 by omega), nI_clamp (show j < 2 ^ 31 by omega), e2, show nI j + (1 : Int32) = nI (j + 1) from nI_1 j]
      rw [cpy2_s (by decide)]
      exact ih (j + 1) (by omega) (by omega)
def shf9 (h : xM) (n : Nat) : xM := fun x y => if x = 9 ∧ y < n then h 9 (y + 9) else h x y
theorem shf9_ne {h : xM} {n x : Nat} (hx : x ≠ 9) : shf9 h n x = h x := by funext y; simp [shf9, hx]
theorem note_b11_eq {F : Nat} {h : xM} (e : h 0 21 = nI 14) : ∀ (n j : Nat), j ≤ 117 → 117 < j + n → pX12_note_b11 F n (nI j) (shf9 h j) = pX12_note_b50 F F (0 : Int32) (xu (shf9 h 117) 0 21 (nI 13)) := by
  intro n
  induction n with
  | zero => intro j h1 h2; omega
  | succ n ih =>
    intro j h1 h2
    have e1 : shf9 h j 0 21 = nI 14 := by rw [shf9_ne (by decide)]; exact e
    rw [pX12_note_b11]
    by_cases hj : 117 ≤ j
    · rw [if_pos (show (117 : Int32) ≤ nI j from nI_le (a := 117) hj (by omega)), e1, show j = 117 by omega]
      rfl
    · have e2 : shf9 h j 9 (j + 9) = h 9 (j + 9) := by unfold shf9; rw [if_neg (by omega)]
      have e3 : nI j + (9 : Int32) = nI (j + 9) := nI_add j 9
      simp only [if_neg (show ¬ (117 : Int32) ≤ nI j from nI_ge (b := 117) (by omega) (by omega)), e3, if_pos (xin_of (k := j + 9) (n := 126) (by omega) (by omega)), if_pos (xin_of (k := j) (n := 126) (by omega) (by omega)), nI_clamp (show j + 9 < 2 ^ 31 by omega), nI_clamp (show j < 2 ^ 31 by omega), e2, show nI j + (1 : Int32) = nI (j + 1) from nI_1 j]
      rw [show xu (shf9 h j) 9 j (h 9 (j + 9)) = shf9 h (j + 1) from ?_]
      · exact ih (j + 1) (by omega) (by omega)
      · funext x y
        unfold xu shf9
        by_cases hx : x = 9
        · subst hx
          by_cases hy : y = j
          · subst hy; rw [if_pos ⟨rfl, rfl⟩, if_pos ⟨rfl, by omega⟩]
          · rw [if_neg (fun q => hy q.2)]
            by_cases h3 : y < j
            · rw [if_pos ⟨rfl, h3⟩, if_pos ⟨rfl, by omega⟩]
            · rw [if_neg (fun q => h3 q.2), if_neg (by omega)]
        · rw [if_neg (fun q => hx q.1), if_neg (fun q => hx q.1), if_neg (fun q => hx q.1)]
theorem noteM {F a : Nat} {h : xM} (hF : 130 < F) (ha : a ≤ 14) (e : h 0 21 = nI a) : ∃ h', pX12_note F h = some h' ∧ h' 0 21 = nI (min (a + 1) 14) ∧ (∀ y, y ≠ 21 → h' 0 y = h 0 y) ∧ (∀ x, x ≠ 0 → x ≠ 9 → h' x = h x) ∧ (∀ j, j < 9 → h' 9 (9 * min a 13 + j) = h 7 j) ∧ (∀ i j, j < 9 → i < min a 13 → h' 9 (9 * i + j) = h 9 (9 * (if a = 14 then i + 1 else i) + j)) := by
  unfold pX12_note
  by_cases h14 : a = 14
  · subst h14
    rw [e, if_pos (show nI 14 = (14 : Int32) from rfl)]
    have e0 : shf9 h 0 = h := by funext x y; unfold shf9; rw [if_neg (by omega)]
    have s1 := note_b11_eq (F := F) e F 0 (by omega) (by omega)
    rw [e0] at s1
    have s2 := note_b50_eq (F := F) (a := 13) (h := xu (shf9 h 117) 0 21 (nI 13)) (by omega) xu_same F 0 (by omega) (by omega)
    rw [cpy2_0] at s2
    refine ⟨_, by rw [show (0 : Int32) = nI 0 from rfl, s1]; exact s2, ?_, ?_, ?_, ?_, ?_⟩
    · rw [xu_same]; rfl
    · intro y hy
      rw [xu_neK hy, cpy2_ne (by decide), xu_neK hy, shf9_ne (by decide)]
    · intro x h0 h9
      rw [xu_ne h0, cpy2_ne h9, xu_ne h0, shf9_ne h9]
    · intro j hj
      rw [xu_ne (by decide), show 9 * min 14 13 + j = 9 * 13 + j by omega, cpy2_in (by omega) (by omega), xu_ne (by decide), shf9_ne (by decide)]
      congr 1; omega
    · intro i j hj hi
      rw [xu_ne (by decide), cpy2_out (by omega), xu_ne (by decide)]
      unfold shf9
      rw [if_pos ⟨rfl, by omega⟩, if_pos rfl]
      congr 1; omega
  · rw [if_neg (by rw [e]; exact fun q => h14 (nI_inj (by omega) (by omega) q))]
    have s2 := note_b50_eq (F := F) (a := a) (h := h) (by omega) e F 0 (by omega) (by omega)
    rw [cpy2_0] at s2
    refine ⟨_, s2, ?_, ?_, ?_, ?_, ?_⟩
    · rw [xu_same, show min (a + 1) 14 = a + 1 by omega]
    · intro y hy
      rw [xu_neK hy, cpy2_ne (by decide)]
    · intro x h0 h9
      rw [xu_ne h0, cpy2_ne h9]
    · intro j hj
      rw [xu_ne (by decide), show 9 * min a 13 + j = 9 * a + j by omega, cpy2_in (by omega) (by omega)]
      congr 1; omega
    · intro i j hj hi
      rw [xu_ne (by decide), cpy2_out (by omega), if_neg h14]
/-! ===== the class notes an act ===== -/
theorem put12_eq {f : xM} {s : Nat} (hs : s < 14) : pX7_put_12 (nI s) f = some (cpy2 f 21 (9 * s) 19 0 9) := by
  unfold pX7_put_12
  have e1 : nI s * (9 : Int32) = nI (9 * s) := by rw [show (9 : Int32) = nI 9 from rfl, pk_mul, Nat.mul_comm]
  have e2 : (nI (9 * s)).toNatClampNeg = 9 * s := nI_clamp (by omega)
  have e3 : (9 : Int32).toNatClampNeg = 9 := rfl
  have e4 : (0 : Int32).toNatClampNeg = 0 := rfl
  have hh : ¬ pX7_holds_12 (nI s) = 0 := by
    unfold pX7_holds_12
    rw [if_neg (nI_pos (by omega)), if_neg (show ¬ (126 : Int32) / (9 : Int32) ≤ nI s from nI_ge (b := 14) hs (by omega))]
    decide
  have hk : xcok (0 : Int32) (nI (9 * s)) (9 : Int32) 9 126 := ⟨by decide, nI_pos (by omega), by decide, by decide, by rw [e2, e3]; omega⟩
  rw [if_neg hh, e1, if_pos hk, e2, e3, e4, xrow_cpy]
theorem fetch12_eq {f : xM} {s : Nat} (hs : s < 14) : pX7_fetch_12 (nI s) f = some (cpy2 f 19 0 21 (9 * s) 9) := by
  unfold pX7_fetch_12
  have e1 : nI s * (9 : Int32) = nI (9 * s) := by rw [show (9 : Int32) = nI 9 from rfl, pk_mul, Nat.mul_comm]
  have e2 : (nI (9 * s)).toNatClampNeg = 9 * s := nI_clamp (by omega)
  have e3 : (9 : Int32).toNatClampNeg = 9 := rfl
  have e4 : (0 : Int32).toNatClampNeg = 0 := rfl
  have hh : ¬ pX7_holds_12 (nI s) = 0 := by
    unfold pX7_holds_12
    rw [if_neg (nI_pos (by omega)), if_neg (show ¬ (126 : Int32) / (9 : Int32) ≤ nI s from nI_ge (b := 14) hs (by omega))]
    decide
  have hk : xcok (nI (9 * s)) (0 : Int32) (9 : Int32) 126 9 := ⟨nI_pos (by omega), by decide, by decide, by rw [e2, e3]; omega, by decide⟩
  rw [if_neg hh, e1, if_pos hk, e2, e3, e4, xrow_cpy]
theorem rem14 {A : Nat} (hA : A < 2 ^ 31) : nI A - nI A / (14 : Int32) * (14 : Int32) = nI (A % 14) := pk_rem (d := 14) hA (by decide) (by decide)
theorem noteC {f : xM} {a A : Nat} (ha : a ≤ 14) (hA : A < 1000) (e1 : f 3 1 = nI A) (e2 : f 3 2 = nI a) : pX3_note f = some (xu (xu (cpy2 f 21 (9 * (A % 14)) 19 0 9) 3 1 (nI (A + 1))) 3 2 (nI (min (a + 1) 14))) := by
  have hm : A % 14 < 14 := Nat.mod_lt _ (by decide)
  have e3 : cpy2 f 21 (9 * (A % 14)) 19 0 9 3 1 = nI A := by rw [cpy2_ne (by decide)]; exact e1
  have e4 : xu (cpy2 f 21 (9 * (A % 14)) 19 0 9) 3 1 (nI (A + 1)) 3 2 = nI a := by rw [xu_neK (by decide), cpy2_ne (by decide)]; exact e2
  unfold pX3_note
  rw [e1, rem14 (by omega), put12_eq hm, Option.bind_some, e3, show nI A + (1 : Int32) = nI (A + 1) from nI_1 A, e4, show nI a + (1 : Int32) = nI (a + 1) from nI_1 a]
  by_cases h : a + 1 ≤ 14
  · rw [if_neg (show ¬ (14 : Int32) < nI (a + 1) from nI_nlt (a := 14) h (by omega)), show min (a + 1) 14 = a + 1 by omega]
  · rw [if_pos (show (14 : Int32) < nI (a + 1) from nI_lt (a := 14) (by omega) (by omega)), show min (a + 1) 14 = 14 by omega]; rfl
