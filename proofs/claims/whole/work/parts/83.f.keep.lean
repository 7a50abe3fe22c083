theorem rT_ok {f f' h h' : xM} (a : f' 1 4 = f 1 4) (b : f' 13 = f 13) (c : h' 0 2 = h 0 2) (d : h' 1 = h 1) (hT : rT f h) : rT f' h' := by unfold rT at *; rw [a, b, c, d]; exact hT
theorem rP_ok {w c r t : Nat} {f f' h h' : xM} (a : f' 10 0 = f 10 0) (b : f' 2 = f 2) (h4 : h' 0 4 = h 0 4) (h5 : h' 0 5 = h 0 5) (h6 : h' 0 6 = h 0 6) (h7 : h' 0 7 = h 0 7) (hP : rP w c r t f h) : rP w c r t f' h' := by unfold rP at *; rw [a, b, h4, h5, h6, h7]; exact hP
theorem rD_ok {r : Nat} {f f' h h' : xM} (a : f' 17 = f 17) (b : f' 18 = f 18) (c : h' 2 = h 2) (d : h' 3 = h 3) (hD : rD r f h) : rD r f' h' := by unfold rD at *; rw [a, b, c, d]; exact hD
theorem rA_ok {n n' w c r a A : Nat} {f f' h h' : xM} (hn : n ≤ n') (e3 : f' 3 = f 3) (e21 : f' 21 = f 21) (hc : h' 0 21 = h 0 21) (d : h' 9 = h 9) (hA : rA n w c r a A f h) : rA n' w c r a A f' h' := by
  unfold rA at *
  rw [e3, e21, hc, d]
  exact ⟨hA.1, hA.2.1, by omega, hA.2.2.2⟩
theorem put4_eq {f : xM} {s : Nat} (hs : s < 2) : pX7_put_4 (nI s) f = some (cpy2 f 20 (9 * s) 19 0 9) := by
  unfold pX7_put_4
  have e1 : nI s * (9 : Int32) = nI (9 * s) := by rw [show (9 : Int32) = nI 9 from rfl, pk_mul, Nat.mul_comm]
  have e2 : (nI (9 * s)).toNatClampNeg = 9 * s := nI_clamp (by omega)
  have e3 : (9 : Int32).toNatClampNeg = 9 := rfl
  have e4 : (0 : Int32).toNatClampNeg = 0 := rfl
  have hh : ¬ pX7_holds_4 (nI s) = 0 := by
    unfold pX7_holds_4
    rw [if_neg (nI_pos (by omega)), if_neg (show ¬ (18 : Int32) / (9 : Int32) ≤ nI s from nI_ge (b := 2) hs (by omega))]
    decide
  have hk : xcok (0 : Int32) (nI (9 * s)) (9 : Int32) 9 18 := ⟨by decide, nI_pos (by omega), by decide, by decide, by rw [e2, e3]; omega⟩
  rw [if_neg hh, e1, if_pos hk, e2, e3, e4, xrow_cpy]
theorem fetch4_eq {f : xM} {s : Nat} (hs : s < 2) : pX7_fetch_4 (nI s) f = some (cpy2 f 19 0 20 (9 * s) 9) := by
  unfold pX7_fetch_4
  have e1 : nI s * (9 : Int32) = nI (9 * s) := by rw [show (9 : Int32) = nI 9 from rfl, pk_mul, Nat.mul_comm]
  have e2 : (nI (9 * s)).toNatClampNeg = 9 * s := nI_clamp (by omega)
  have e3 : (9 : Int32).toNatClampNeg = 9 := rfl
  have e4 : (0 : Int32).toNatClampNeg = 0 := rfl
  have hh : ¬ pX7_holds_4 (nI s) = 0 := by
    unfold pX7_holds_4
    rw [if_neg (nI_pos (by omega)), if_neg (show ¬ (18 : Int32) / (9 : Int32) ≤ nI s from nI_ge (b := 2) hs (by omega))]
    decide
  have hk : xcok (nI (9 * s)) (0 : Int32) (9 : Int32) 18 9 := ⟨nI_pos (by omega), by decide, by decide, by rw [e2, e3]; omega, by decide⟩
  rw [if_neg hh, e1, if_pos hk, e2, e3, e4, xrow_cpy]
theorem keep_b26_eq {F s : Nat} {h : xM} (hs : s < 2) : ∀ (n j : Nat), j ≤ 9 → 9 < j + n → pX12_keep_b26 F n (nI s) (nI j) (cpy2 h 10 (9 * s) 7 0 j) = some (h 7 1, cpy2 h 10 (9 * s) 7 0 9) := by
  intro n
  induction n with
  | zero => intro j h1 h2; omega
  | succ n ih =>
    intro j h1 h2
    have e1 : cpy2 h 10 (9 * s) 7 0 j 7 1 = h 7 1 := by rw [cpy2_ne (by decide)]
    have e2 : cpy2 h 10 (9 * s) 7 0 j 7 j = h 7 (0 + j) := by rw [cpy2_ne (by decide), Nat.zero_add]
    rw [pX12_keep_b26]
    by_cases hj : 9 ≤ j
    · rw [if_pos (show (9 : Int32) ≤ nI j from nI_le (a := 9) hj (by omega)), e1, show j = 9 by omega]
    · simp only [if_neg (show ¬ (9 : Int32) ≤ nI j from nI_ge (b := 9) (by omega) (by omega)), if_pos (xin_of (k := j) (n := 9) (by omega) (by omega)), ix9, if_pos (xin_of (k := 9 * s + j) (n := 18) (by omega) (by omega)), nI_clamp (show 9 * s + j < 2 ^ 31 by omega), nI_clamp (show j < 2 ^ 31 by omega), e2, show nI j + (1 : Int32) = nI (j + 1) from nI_1 j]
      rw [cpy2_s (by decide)]
      exact ih (j + 1) (by omega) (by omega)
theorem again_b31_eq {F s : Nat} {h : xM} (hs : s < 2) : ∀ (n j : Nat), j ≤ 9 → 9 < j + n → pX12_again_b31 F n (nI s) (nI j) (cpy2 h 7 0 10 (9 * s) j) = some (h 10 (9 * s + 1), xu (cpy2 h 7 0 10 (9 * s) 9) 0 21 0) := by
  intro n
  induction n with
  | zero => intro j h1 h2; omega
  | succ n ih =>
    intro j h1 h2
    have e2 : cpy2 h 7 0 10 (9 * s) j 10 (9 * s + j) = h 10 (9 * s + j) := by rw [cpy2_ne (by decide)]
    rw [pX12_again_b31]
    by_cases hj : 9 ≤ j
    · rw [if_pos (show (9 : Int32) ≤ nI j from nI_le (a := 9) hj (by omega)), show j = 9 by omega, xu_ne (by decide), cpy2_in (by omega) (by omega)]
    · simp only [if_neg (show ¬ (9 : Int32) ≤ nI j from nI_ge (b := 9) (by omega) (by omega)), if_pos (xin_of (k := j) (n := 9) (by omega) (by omega)), ix9, if_pos (xin_of (k := 9 * s + j) (n := 18) (by omega) (by omega)), nI_clamp (show 9 * s + j < 2 ^ 31 by omega), nI_clamp (show j < 2 ^ 31 by omega), e2, show nI j + (1 : Int32) = nI (j + 1) from nI_1 j]
      have := cpy2_s (h := h) (d := 7) (od := 0) (s := 10) (os := 9 * s) (n := j) (by decide)
      rw [Nat.zero_add] at this
      rw [this]
      exact ih (j + 1) (by omega) (by omega)
def bN (b : Bool) : Nat := if b then 1 else 0
theorem keep_bits : ∀ b0 b1 : Bool, ∀ s, s < 2 → nI ((if b0 then 1 else 0) + (if b1 then 2 else 0)) ||| ((1 : Int32) <<< (nI s &&& 31)) = nI ((if (b0 || s == 0) then 1 else 0) + (if (b1 || s == 1) then 2 else 0)) := by decide +kernel
theorem again_bits : ∀ b0 b1 : Bool, ∀ s, s < 2 → ((nI ((if b0 then 1 else 0) + (if b1 then 2 else 0)) >>> (nI s &&& 31)) &&& (1 : Int32) = 0 ↔ (if s = 0 then b0 else b1) = false) := by decide +kernel
theorem e_keep {n : Nat} {f : xM} {g : xN} {h : xM} {k : xN} (hn : n ≤ 100) (hR : Rel n f g h k) (v1 : Int32) : ∃ (F : Nat) (a : Int32 × xM) (b : Int32 × xM), pX11_keep v1 f = some a ∧ pX12_keep F v1 h = some b ∧ a.1 = b.1 ∧ Rel (n + 1) a.2 g b.2 k := by
  have hR2 : Rel (n + 1) f g (xu h 0 0 0) k := Rel_ok hR (by omega) okC.r0 (okM_t 0) (Rel_g hR)
  obtain ⟨w, c, r, t, a, A, b0, b1, hT, hP, hD, hp, hA, ⟨k1, k2, k3, k4, k5⟩, hs⟩ := hR
  have c3 : c ≤ 3 := hP.2.2.1
  have r4 : r ≤ 4 := hP.2.2.2.1
  refine ⟨140, ?_⟩
  unfold pX11_keep pX12_keep
  by_cases u : isN v1 2
  · obtain ⟨z1, z2⟩ := (isN_iff (by omega)).mp u
    have z3 : v1 < (2 : Int32) := z2
    have z4 : ¬ pX12_in v1.toInt64 0 1 = 0 := by rw [in0_eq (m := 1) (by omega) rfl]; exact nn u
    obtain ⟨s, hs2, rfl⟩ := u
    have s2 := keep_b26_eq (F := 140) (s := s) (h := xu (xu h 0 0 0) 11 s 1) hs2 140 0 (by omega) (by omega)
    rw [cpy2_0] at s2
    have s3 : pX12_keep_b26 140 140 (nI s) 0 (xu (xu h 0 0 0) 11 s 1) = some (xu (xu h 0 0 0) 11 s 1 7 1, cpy2 (xu (xu h 0 0 0) 11 s 1) 10 (9 * s) 7 0 9) := s2
    have e9 : cpy2 f 20 (9 * s) 19 0 9 0 9 = f 0 9 := by rw [cpy2_ne (by decide)]
    rw [if_neg z1, if_pos z3, if_neg z4, if_pos (xin_of hs2 (by omega)), nI_clamp (by omega), put4_eq hs2, Option.bind_some, e9, k1, keep_bits b0 b1 s hs2, s3]
    refine ⟨_, _, rfl, rfl, ?_, w, c, r, t, a, A, (b0 || s == 0), (b1 || s == 1), ?_, ?_, ?_, ?_, ?_, ⟨?_, ?_, ?_, ?_, ?_⟩, hs⟩
    · dsimp only [pX9_day]
      rw [xu_ne (by decide), cpy2_ne (by decide), xu_ne (by decide), xu_ne (by decide)]
      exact hp.2.1
    · refine rT_ok (f := f) (h := h) ?_ ?_ ?_ ?_ hT <;> dsimp only
      · rw [xu_ne (by decide), cpy2_ne (by decide)]
      · rw [xu_ne (by decide), cpy2_ne (by decide)]
      · rw [cpy2_ne (by decide), xu_ne (by decide), xu_neK (by decide)]
      · rw [cpy2_ne (by decide), xu_ne (by decide), xu_ne (by decide)]
    · refine rP_ok (f := f) (h := h) ?_ ?_ ?_ ?_ ?_ ?_ hP <;> dsimp only
      · rw [xu_ne (by decide), cpy2_ne (by decide)]
      · rw [xu_ne (by decide), cpy2_ne (by decide)]
      · rw [cpy2_ne (by decide), xu_ne (by decide), xu_neK (by decide)]
      · rw [cpy2_ne (by decide), xu_ne (by decide), xu_neK (by decide)]
      · rw [cpy2_ne (by decide), xu_ne (by decide), xu_neK (by decide)]
      · rw [cpy2_ne (by decide), xu_ne (by decide), xu_neK (by decide)]
    · refine rD_ok (f := f) (h := h) ?_ ?_ ?_ ?_ hD <;> dsimp only
      · rw [xu_ne (by decide), cpy2_ne (by decide)]
      · rw [xu_ne (by decide), cpy2_ne (by decide)]
      · rw [cpy2_ne (by decide), xu_ne (by decide), xu_ne (by decide)]
      · rw [cpy2_ne (by decide), xu_ne (by decide), xu_ne (by decide)]
    · dsimp only
      rw [xu_ne (by decide), cpy2_ne (by decide), cpy2_ne (by decide), xu_ne (by decide), xu_ne (by decide)]
      exact hp
    · refine rA_ok (f := f) (h := h) (Nat.le_succ n) ?_ ?_ ?_ ?_ hA <;> dsimp only
      · rw [xu_ne (by decide), cpy2_ne (by decide)]
      · rw [xu_ne (by decide), cpy2_ne (by decide)]
      · rw [cpy2_ne (by decide), xu_ne (by decide), xu_neK (by decide)]
      · rw [cpy2_ne (by decide), xu_ne (by decide), xu_ne (by decide)]
    · dsimp only
      rw [xu_same]
    · dsimp only
      rw [cpy2_ne (by decide)]
      rcases (show s = 0 ∨ s = 1 by omega) with rfl | rfl
      · rw [xu_same]; simp
      · rw [xu_neK (by decide), xu_ne (by decide), k2]; simp
    · dsimp only
      rw [cpy2_ne (by decide)]
      rcases (show s = 0 ∨ s = 1 by omega) with rfl | rfl
      · rw [xu_neK (by decide), xu_ne (by decide), k3]; simp
      · rw [xu_same]; simp
    · intro hb
      dsimp only
      rw [xu_ne (by decide)]
      rcases (show s = 0 ∨ s = 1 by omega) with rfl | rfl
      · refine pgR_congr c3 r4 (fun j hj => ?_) (fun j hj => ?_) hp
        · rw [cpy2_in (by omega) (by omega)]; congr 1; omega
        · rw [cpy2_in (by omega) (by omega), xu_ne (by decide), xu_ne (by decide)]; congr 1; omega
      · refine pgR_congr c3 r4 (fun j hj => ?_) (fun j hj => ?_) (k4 (by simpa using hb))
        · rw [cpy2_out (by omega)]
        · rw [cpy2_out (by omega), xu_ne (by decide), xu_ne (by decide)]
    · intro hb
      dsimp only
      rw [xu_ne (by decide)]
      rcases (show s = 0 ∨ s = 1 by omega) with rfl | rfl
      · refine pgR_congr c3 r4 (fun j hj => ?_) (fun j hj => ?_) (k5 (by simpa using hb))
        · rw [cpy2_out (by omega)]
        · rw [cpy2_out (by omega), xu_ne (by decide), xu_ne (by decide)]
      · refine pgR_congr c3 r4 (fun j hj => ?_) (fun j hj => ?_) hp
        · rw [cpy2_in (by omega) (by omega)]; congr 1; omega
        · rw [cpy2_in (by omega) (by omega), xu_ne (by decide), xu_ne (by decide)]; congr 1; omega
  · have z4 : pX12_in v1.toInt64 0 1 = 0 := by rw [in0_eq (m := 1) (by omega) rfl]; exact u
    rw [if_pos z4]
    refine ⟨(-1, f), _, ?_, rfl, rfl, hR2⟩
    by_cases z1 : v1 < 0
    · rw [if_pos z1]
    · rw [if_neg z1, if_neg]
      intro z3
      exact u ((isN_iff (by omega)).mpr ⟨z1, z3⟩)
theorem e_again {n : Nat} {f : xM} {g : xN} {h : xM} {k : xN} (hn : n ≤ 100) (hR : Rel n f g h k) (v1 : Int32) : ∃ (F : Nat) (a : Int32 × xM) (b : Int32 × xM), pX11_again v1 f = some a ∧ pX12_again F v1 h = some b ∧ a.1 = b.1 ∧ Rel (n + 1) a.2 g b.2 k := by
  have hR2 : Rel (n + 1) f g (xu h 0 0 0) k := Rel_ok hR (by omega) okC.r0 (okM_t 0) (Rel_g hR)
  obtain ⟨w, c, r, t, a, A, b0, b1, hT, hP, hD, hp, hA, ⟨k1, k2, k3, k4, k5⟩, hs⟩ := hR
  have c3 : c ≤ 3 := hP.2.2.1
  have r4 : r ≤ 4 := hP.2.2.2.1
  refine ⟨140, ?_⟩
  unfold pX11_again pX12_again
  by_cases u : isN v1 2
  · obtain ⟨z1, z2⟩ := (isN_iff (by omega)).mp u
    have z3 : v1 < (2 : Int32) := z2
    have z4 : ¬ pX12_in v1.toInt64 0 1 = 0 := by rw [in0_eq (m := 1) (by omega) rfl]; exact nn u
    obtain ⟨s, hs2, rfl⟩ := u
    have ek : xu h 0 0 (0 : Int32) 11 s = if (if s = 0 then b0 else b1) then 1 else 0 := by
      rw [xu_ne (by decide)]
      rcases (show s = 0 ∨ s = 1 by omega) with rfl | rfl
      · rw [k2]; simp
      · rw [k3]; simp
    have hbits := again_bits b0 b1 s hs2
    rw [if_neg z1, if_pos z3, if_neg z4, if_pos (xin_of hs2 (by omega)), nI_clamp (by omega), k1, ek]
    by_cases hb : (if s = 0 then b0 else b1) = false
    · rw [if_pos (hbits.mpr hb), hb, if_pos (show (if false = true then (1 : Int32) else 0) = 0 by decide)]
      exact ⟨_, _, rfl, rfl, rfl, hR2⟩
    · have hb2 : (if s = 0 then b0 else b1) = true := by simpa using hb
      have s2 := again_b31_eq (F := 140) (s := s) (h := xu h 0 0 0) hs2 140 0 (by omega) (by omega)
      rw [cpy2_0] at s2
      have s3 : pX12_again_b31 140 140 (nI s) 0 (xu h 0 0 0) = some (xu h 0 0 0 10 (9 * s + 1), xu (cpy2 (xu h 0 0 0) 7 0 10 (9 * s) 9) 0 21 0) := s2
      have hq : pgR w c r (fun j => f 20 (9 * s + j)) (fun j => h 10 (9 * s + j)) := by
        rcases (show s = 0 ∨ s = 1 by omega) with rfl | rfl
        · exact pgR_congr c3 r4 (fun j _ => by congr 1; omega) (fun j _ => by congr 1; omega) (k4 (by simpa using hb2))
        · exact k5 (by simpa using hb2)
      rw [if_neg (fun z => hb (hbits.mp z)), hb2, if_neg (show ¬ (if true = true then (1 : Int32) else 0) = 0 by decide), fetch4_eq hs2, Option.bind_some, s3]
      refine ⟨_, _, rfl, rfl, ?_, w, c, r, t, 0, 0, b0, b1, ?_, ?_, ?_, ?_, ⟨by omega, by omega, by omega, ?_, ?_, ?_, fun i hi => by omega⟩, ?_, hs⟩
      · dsimp only [pX9_day, pX3_forget]
        rw [xu_ne (by decide), xu_ne (by decide), cpy2_in (by omega) (by omega), xu_ne (by decide)]
        have := hq.2.1
        exact this
      · refine rT_ok (f := f) (h := h) ?_ ?_ ?_ ?_ hT <;> dsimp only [pX3_forget]
        · rw [xu_ne (by decide), xu_ne (by decide), cpy2_ne (by decide)]
        · rw [xu_ne (by decide), xu_ne (by decide), cpy2_ne (by decide)]
        · rw [xu_neK (by decide), cpy2_ne (by decide), xu_neK (by decide)]
        · rw [xu_ne (by decide), cpy2_ne (by decide), xu_ne (by decide)]
      · refine rP_ok (f := f) (h := h) ?_ ?_ ?_ ?_ ?_ ?_ hP <;> dsimp only [pX3_forget]
        · rw [xu_ne (by decide), xu_ne (by decide), cpy2_ne (by decide)]
        · rw [xu_ne (by decide), xu_ne (by decide), cpy2_ne (by decide)]
        · rw [xu_neK (by decide), cpy2_ne (by decide), xu_neK (by decide)]
        · rw [xu_neK (by decide), cpy2_ne (by decide), xu_neK (by decide)]
        · rw [xu_neK (by decide), cpy2_ne (by decide), xu_neK (by decide)]
        · rw [xu_neK (by decide), cpy2_ne (by decide), xu_neK (by decide)]
      · refine rD_ok (f := f) (h := h) ?_ ?_ ?_ ?_ hD <;> dsimp only [pX3_forget]
        · rw [xu_ne (by decide), xu_ne (by decide), cpy2_ne (by decide)]
        · rw [xu_ne (by decide), xu_ne (by decide), cpy2_ne (by decide)]
        · rw [xu_ne (by decide), cpy2_ne (by decide), xu_ne (by decide)]
        · rw [xu_ne (by decide), cpy2_ne (by decide), xu_ne (by decide)]
      · dsimp only [pX3_forget]
        rw [xu_ne (by decide), xu_ne (by decide), xu_ne (by decide)]
        refine pgR_congr c3 r4 (fun j hj => ?_) (fun j hj => ?_) hq
        · rw [cpy2_in (by omega) (by omega)]; congr 1
        · rw [cpy2_in (by omega) (by omega), xu_ne (by decide)]; congr 1
      · dsimp only [pX3_forget]; rw [xu_same]; rfl
      · dsimp only [pX3_forget]; rw [xu_neK (by decide), xu_same]; rfl
      · dsimp only; rw [xu_same]; rfl
      · unfold rK
        dsimp only [pX3_forget]
        rw [xu_ne (by decide : (0 : Nat) ≠ 3), xu_ne (by decide : (0 : Nat) ≠ 3), cpy2_ne (by decide : (0 : Nat) ≠ 19), xu_ne (by decide : (11 : Nat) ≠ 0), cpy2_ne (by decide : (11 : Nat) ≠ 7), xu_ne (by decide : (11 : Nat) ≠ 0), xu_ne (by decide : (20 : Nat) ≠ 3), xu_ne (by decide : (20 : Nat) ≠ 3), cpy2_ne (by decide : (20 : Nat) ≠ 19), xu_ne (by decide : (10 : Nat) ≠ 0), cpy2_ne (by decide : (10 : Nat) ≠ 7), xu_ne (by decide : (10 : Nat) ≠ 0)]
        exact ⟨k1, k2, k3, k4, k5⟩
  · have z4 : pX12_in v1.toInt64 0 1 = 0 := by rw [in0_eq (m := 1) (by omega) rfl]; exact u
    rw [if_pos z4]
    refine ⟨(-1, f), _, ?_, rfl, rfl, hR2⟩
    by_cases z1 : v1 < 0
    · rw [if_pos z1]
    · rw [if_neg z1, if_neg]
      intro z3
      exact u ((isN_iff (by omega)).mpr ⟨z1, z3⟩)
