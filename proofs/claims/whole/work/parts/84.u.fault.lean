/-! ===== the text: its names; fault ===== -/
def ctn (F : Nat) (o : Option (Int32 × xM)) : Option (Int32 × xM) := Option.bind o fun q3 => if q3.1 = 0 then some (q3.2 0 3, q3.2) else pX12_readPaper_b52 F F q3.2
section tx
variable {F tl i b : Nat} {tx : Nat → Nat} {f h f0 h0 : xM}
theorem ctn_0 : ctn F (some (0, h)) = some (h 0 3, h) := by
  unfold ctn
  rw [Option.bind_some]
  dsimp only
  rw [if_pos rfl]
theorem ctn_1 : ctn F (some (1, h)) = pX12_readPaper_b52 F F h := by
  unfold ctn
  rw [Option.bind_some]
  dsimp only
  rw [if_neg (by decide)]
theorem dtP_ok {c r : Nat} {f' h' : xM} (a : dtP c r f h) (e1 : f' 1 5 = f 1 5) (e2 : f' 1 6 = f 1 6) (e3 : h' 0 13 = h 0 13) (e4 : h' 0 14 = h 0 14) (e5 : f' 14 = f 14) (e6 : f' 15 = f 15) (e7 : f' 16 = f 16) (e8 : h' 4 = h 4) (e9 : h' 5 = h 5) (e10 : h' 6 = h 6) : dtP c r f' h' := by
  unfold dtP at a ⊢
  rw [e1, e2, e3, e4, e5, e6, e7, e8, e9, e10]
  exact a
theorem qt_lt {S b j : Nat} (hS : S < 4 ^ j) (hb : Ltr b) : 4 * S + b - 97 < 4 ^ (j + 1) := by
  have := hb.1
  have := hb.2
  rw [Nat.pow_succ]
  omega
theorem qtC {S : Nat} (hb : Ltr b) : nI S * (4 : Int32) + (nI b - (97 : Int32)) = nI (4 * S + b - 97) := by
  have := hb.1
  rw [show nI S * (4 : Int32) = nI (S * 4) from pk_mul S 4, show nI b - (97 : Int32) = nI (b - 97) from pk_sub (b := 97) (by omega), nI_add]
  congr 1
  omega
theorem qtM {S : Nat} (hb : Ltr b) : ((4 : Int32) * nI S + nI b) - (97 : Int32) = nI (4 * S + b - 97) := by
  have := hb.1
  rw [show (4 : Int32) * nI S = nI (4 * S) from pk_mul 4 S, nI_add, show nI (4 * S + b) - (97 : Int32) = nI (4 * S + b - 97) from pk_sub (b := 97) (by omega)]
theorem said_st (hF : 60 < F) (hB : tB tl tx f0 h0) {w t : Nat} (h1 : 1 ≤ w) (hw : w ≤ 5) (ht : t < 4 ^ w) : ∀ (n' n j S i : Nat) (f h : xM), frC f0 f → frM h0 h → f 1 11 = 2 → h 0 3 = nI i → f 1 7 = nI w → h 0 10 = nI w → f 1 9 = nI t → h 0 11 = nI t → f 1 10 = nI S → h 0 12 = nI S → S < 4 ^ j → f 1 8 = nI j → dtP 0 0 f h → j < w → i ≤ tl → tl < i + n → w < j + n' → DN f0 h0 (pX10_findFault_b37 F n (nI i) f) (ctn F (pX12_readNames_b122 F n' (nI j) h)) := by
  intro n'
  induction n' with
  | zero => intro n j S i f h _ _ _ _ _ _ _ _ _ _ _ _ _ z1 z2 z3 z4; omega
  | succ n' ih =>
    intro n j S i f h hC hM e11 e3 f7 h10 f9 h11 f10 h12 hS f8 hP z1 z2 z3 z4
    have hb := tB_of hB hC hM
    obtain ⟨b1, b2, b3, b4⟩ := hb
    obtain ⟨n, rfl⟩ : ∃ m, n = m + 1 := ⟨n - 1, by omega⟩
    rw [pX12_readNames_b122, h10, if_neg (nI_ge z1 (by omega)), isLetM b1 (fun j hj => ⟨(b4 j hj).1, (b4 j hj).2.2⟩) b3 e3 z2, Option.bind_some]
    by_cases hi : i = tl
    · subst hi
      rw [if_neg (show ¬ (i < i ∧ Ltr (tx i)) from fun q => by omega), if_pos rfl, ctn_0, e3, b37_end b1 b2, if_neg (show ¬ f 1 11 = 3 by rw [e11]; decide)]
      exact ⟨nI i, f, h, rfl, rfl, hC, hM, fun q => absurd q (ne9 i (by omega))⟩
    · have hi : i < tl := by omega
      obtain ⟨x1, x2, x3⟩ := b4 i hi
      rw [b37_step b1 b2 hi x2 (acc2 x1 hw z1 e11 f7 f8 f10)]
      by_cases hl : Ltr (tx i)
      · rw [if_pos hl, if_neg (show ¬ (1 : Int32) = 0 by decide), if_pos (show i < tl ∧ Ltr (tx i) from ⟨hi, hl⟩), if_neg (show ¬ (1 : Int32) = 0 by decide), e3, if_pos (xin_of (show i < 40 by omega) (by omega)), nI_clamp (by omega), x3, h12, qtC hl, qtM hl, show nI j + (1 : Int32) = nI (j + 1) from nI_1 j, show xu h 0 12 (nI (4 * S + tx i - 97)) 0 3 = nI i by rw [xu_neK (by decide)]; exact e3, show nI i + (1 : Int32) = nI (i + 1) from nI_1 i]
        have hS2 := qt_lt hS hl
        have hM2 : frM h0 (xu (xu h 0 12 (nI (4 * S + tx i - 97))) 0 3 (nI (i + 1))) := frM_0 (frM_0 hM (by omega)) (by omega)
        have hC2 : frC f0 (xu (xu f 1 10 (nI (4 * S + tx i - 97))) 1 8 (nI (j + 1))) := frC_1 (frC_1 hC (by decide)) (by decide)
        by_cases hj : j + 1 = w
        · rw [if_pos hj]
          obtain ⟨n', rfl⟩ : ∃ m, n' = m + 1 := ⟨n' - 1, by omega⟩
          rw [pX12_readNames_b122, show xu (xu h 0 12 (nI (4 * S + tx i - 97))) 0 3 (nI (i + 1)) 0 10 = nI w by rw [xu_neK (by decide), xu_neK (by decide)]; exact h10, if_pos (nI_le (by omega) (by omega)), ctn_1]
          rw [hj] at hS2
          exact parts hB F n (i + 1) _ _ w t (4 * S + tx i - 97) 0 0 (frC_1 hC2 (by decide)) hM2 xu_same xu_same ⟨h1, hw, ht, hS2, by simpa [xu_at] using f7, by simpa [xu_at] using h10, by simpa [xu_at] using f9, by simpa [xu_at] using h11, by simp [xu_at], by simp [xu_at]⟩ (dtP_ok hP (by simp [xu_at]) (by simp [xu_at]) (by simp [xu_at]) (by simp [xu_at]) (by rw [xu_ne (by decide), xu_ne (by decide), xu_ne (by decide)]) (by rw [xu_ne (by decide), xu_ne (by decide), xu_ne (by decide)]) (by rw [xu_ne (by decide), xu_ne (by decide), xu_ne (by decide)]) (by rw [xu_ne (by decide), xu_ne (by decide)]) (by rw [xu_ne (by decide), xu_ne (by decide)]) (by rw [xu_ne (by decide), xu_ne (by decide)])) (by omega) (by omega) (by omega)
        · rw [if_neg hj]
          exact ih n (j + 1) (4 * S + tx i - 97) (i + 1) _ _ hC2 hM2 (by simpa [xu_at] using e11) xu_same (by simpa [xu_at] using f7) (by simpa [xu_at] using h10) (by simpa [xu_at] using f9) (by simpa [xu_at] using h11) (by simp [xu_at]) (by simp [xu_at]) hS2 xu_same (dtP_ok hP (by simp [xu_at]) (by simp [xu_at]) (by simp [xu_at]) (by simp [xu_at]) (by rw [xu_ne (by decide), xu_ne (by decide)]) (by rw [xu_ne (by decide), xu_ne (by decide)]) (by rw [xu_ne (by decide), xu_ne (by decide)]) (by rw [xu_ne (by decide), xu_ne (by decide)]) (by rw [xu_ne (by decide), xu_ne (by decide)]) (by rw [xu_ne (by decide), xu_ne (by decide)])) (by omega) (by omega) (by omega) (by omega)
      · rw [if_neg hl, if_pos rfl, if_neg (show ¬ (i < tl ∧ Ltr (tx i)) from fun q => hl q.2), if_pos rfl, ctn_0, e3]
        refine ⟨nI i, _, h, rfl, rfl, ?_, hM, fun q => absurd q (ne9 i (by omega))⟩
        split
        · exact frC_1 (frC_1 (frC_1 hC (by decide)) (by decide)) (by decide)
        · exact frC_1 (frC_1 hC (by decide)) (by decide)
theorem b71_st (hF : 60 < F) (hB : tB tl tx f0 h0) {L T n : Nat} (hC : frC f0 f) (hM : frM h0 h) (e11 : f 1 11 = 1) (e3 : h 0 3 = nI i) (f7 : f 1 7 = nI L) (h10 : h 0 10 = nI L) (f9 : f 1 9 = nI T) (h11 : h 0 11 = nI T) (hT : T < 4 ^ L) (hL : L ≤ 5) (f8 : f 1 8 = nI 0) (f10 : f 1 10 = nI 0) (hP : dtP 0 0 f h) (z1 : i ≤ tl) (z2 : tl < i + n) (hno : i < tl → ¬ (Ltr (tx i) ∧ L < 5)) : DN f0 h0 (pX10_findFault_b37 F n (nI i) f) (ctn F (pX12_readNames_b71 F h)) := by
  have hb := tB_of hB hC hM
  obtain ⟨b1, b2, b3, b4⟩ := hb
  obtain ⟨n, rfl⟩ : ∃ m, n = m + 1 := ⟨n - 1, by omega⟩
  have bad : ∀ (x : Nat) (f' : xM), x = i → frC f0 f' → DN f0 h0 (some (nI x, f')) (ctn F (some (0, h))) := by
    intro x f' hx hf
    rw [ctn_0, e3, hx]
    exact ⟨nI i, f', h, rfl, rfl, hf, hM, fun q => absurd q (ne9 i (by omega))⟩
  unfold pX12_readNames_b71
  rw [h10, e3, b3]
  by_cases hi : i = tl
  · subst hi
    rw [b37_end b1 b2, if_neg (show ¬ f 1 11 = 3 by rw [e11]; decide), if_pos (show nI i = nI i from rfl)]
    have := bad i f rfl hC
    split <;> exact this
  · have hi : i < tl := by omega
    obtain ⟨x1, x2, x3⟩ := b4 i hi
    rw [if_neg (show ¬ nI i = nI tl from fun z => by have := nI_inj (by omega) (by omega) z; omega), if_pos (xin_of (show i < 40 by omega) (by omega)), nI_clamp (by omega), x3]
    by_cases h47 : tx i = 47
    · rw [h47, if_pos (show nI 47 = 47 from rfl), b37_step b1 b2 hi (by rw [x2, h47]) (acc1s hL e11 f7)]
      by_cases hL0 : L = 0
      · rw [if_pos hL0, if_pos rfl, if_pos (show nI L = 0 by rw [hL0]; rfl)]
        exact bad i _ rfl (frC_1 hC (by decide))
      · rw [if_neg hL0, if_neg (by decide), if_neg (nI_ne0 (by omega) (by omega)), show nI i + (1 : Int32) = nI (i + 1) from nI_1 i]
        exact said_st hF hB (by omega) hL hT F n 0 0 (i + 1) _ _ (frC_1 hC (by decide)) (frM_0 (frM_0 hM (by omega)) (by omega)) xu_same (by simp [xu_at]) (by simpa [xu_at] using f7) (by simpa [xu_at] using h10) (by simpa [xu_at] using f9) (by simpa [xu_at] using h11) (by simpa [xu_at] using f10) (by rw [xu_same]; rfl) (by decide) (by simpa [xu_at] using f8) (dtP_ok hP (by simp [xu_at]) (by simp [xu_at]) (by simp [xu_at]) (by simp [xu_at]) (by rw [xu_ne (by decide)]) (by rw [xu_ne (by decide)]) (by rw [xu_ne (by decide)]) (by rw [xu_ne (by decide), xu_ne (by decide)]) (by rw [xu_ne (by decide), xu_ne (by decide)]) (by rw [xu_ne (by decide), xu_ne (by decide)])) (by omega) (by omega) (by omega) (by omega)
    · rw [if_neg (show ¬ nI (tx i) = 47 from fun z => h47 (nI_inj (b := 47) (by omega) (by omega) z)), b37_step b1 b2 hi x2 (acc1l x1 hL e11 f7 f9 h47), if_neg (hno hi), if_pos rfl]
      have := bad i _ rfl (frC_1 (k := 7) (v := nI (L + 1)) (frC_1 (k := 9) (v := nI T * (4 : Int32) + (nI (tx i) - (97 : Int32))) hC (by decide)) (by decide))
      split <;> exact this
theorem truth_st (hF : 60 < F) (hB : tB tl tx f0 h0) : ∀ (n' n L T i : Nat) (f h : xM), frC f0 f → frM h0 h → f 1 11 = 1 → h 0 3 = nI i → f 1 7 = nI L → h 0 10 = nI L → f 1 9 = nI T → h 0 11 = nI T → T < 4 ^ L → L ≤ 5 → f 1 8 = nI 0 → f 1 10 = nI 0 → dtP 0 0 f h → i ≤ tl → tl < i + n → 5 < L + n' → DN f0 h0 (pX10_findFault_b37 F n (nI i) f) (ctn F (pX12_readNames_b10 F n' h)) := by
  intro n'
  induction n' with
  | zero => intro n L T i f h _ _ _ _ _ _ _ _ _ z0 _ _ _ z1 z2 z3; omega
  | succ n' ih =>
    intro n L T i f h hC hM e11 e3 f7 h10 f9 h11 hT hL f8 f10 hP z1 z2 z3
    have hb := tB_of hB hC hM
    obtain ⟨b1, b2, b3, b4⟩ := hb
    rw [pX12_readNames_b10, h10]
    by_cases hL5 : 5 ≤ L
    · rw [if_pos (show (5 : Int32) ≤ nI L from nI_le (a := 5) hL5 (by omega))]
      exact b71_st hF hB hC hM e11 e3 f7 h10 f9 h11 hT hL f8 f10 hP z1 z2 (fun _ q => by omega)
    · rw [if_neg (show ¬ (5 : Int32) ≤ nI L from nI_ge (b := 5) (by omega) (by omega)), isLetM b1 (fun j hj => ⟨(b4 j hj).1, (b4 j hj).2.2⟩) b3 e3 z1, Option.bind_some]
      by_cases hl : i < tl ∧ Ltr (tx i)
      · obtain ⟨x1, x2, x3⟩ := b4 i hl.1
        obtain ⟨n, rfl⟩ : ∃ m, n = m + 1 := ⟨n - 1, by omega⟩
        have hl2 := hl.2
        have l1 := hl2.1
        rw [if_pos hl, if_neg (show ¬ (1 : Int32) = 0 by decide), e3, if_pos (xin_of (show i < 40 by omega) (by omega)), nI_clamp (by omega), x3, h11, qtM hl2, show xu h 0 11 (nI (4 * T + tx i - 97)) 0 10 = nI L by rw [xu_neK (by decide)]; exact h10, show nI L + (1 : Int32) = nI (L + 1) from nI_1 L, show xu (xu h 0 11 (nI (4 * T + tx i - 97))) 0 10 (nI (L + 1)) 0 3 = nI i by rw [xu_neK (by decide), xu_neK (by decide)]; exact e3, show nI i + (1 : Int32) = nI (i + 1) from nI_1 i, b37_step b1 b2 hl.1 x2 (acc1l x1 hL e11 f7 f9 (by omega)), if_pos (show Ltr (tx i) ∧ L < 5 from ⟨hl2, by omega⟩), if_neg (by decide), qtC hl2]
        exact ih n (L + 1) (4 * T + tx i - 97) (i + 1) _ _ (frC_1 (frC_1 hC (by decide)) (by decide)) (frM_0 (frM_0 (frM_0 hM (by omega)) (by omega)) (by omega)) (by simpa [xu_at] using e11) xu_same (by simp [xu_at]) (by simp [xu_at]) (by simp [xu_at]) (by simp [xu_at]) (qt_lt hT hl2) (by omega) (by simpa [xu_at] using f8) (by simpa [xu_at] using f10) (dtP_ok hP (by simp [xu_at]) (by simp [xu_at]) (by simp [xu_at]) (by simp [xu_at]) (by rw [xu_ne (by decide), xu_ne (by decide)]) (by rw [xu_ne (by decide), xu_ne (by decide)]) (by rw [xu_ne (by decide), xu_ne (by decide)]) (by rw [xu_ne (by decide), xu_ne (by decide), xu_ne (by decide)]) (by rw [xu_ne (by decide), xu_ne (by decide), xu_ne (by decide)]) (by rw [xu_ne (by decide), xu_ne (by decide), xu_ne (by decide)])) (by omega) (by omega) (by omega)
      · rw [if_neg hl, if_pos rfl]
        exact b71_st hF hB hC hM e11 e3 f7 h10 f9 h11 hT hL f8 f10 hP z1 z2 (fun q1 q2 => hl ⟨q1, q2.1⟩)
theorem reads_eq (hF : 60 < F) (hB : tB tl tx f h) : DN f h (pX10_findFault F f) (pX12_readPaper F h) := by
  have hB' := hB
  obtain ⟨b1, b2, b3, b4⟩ := hB'
  unfold pX10_findFault pX12_readPaper
  obtain ⟨f1, hf1⟩ : ∃ f1, xu (xu (xu (xu (xu (xu (xu f 1 5 (0 : Int32)) 1 6 (0 : Int32)) 1 7 (0 : Int32)) 1 8 (0 : Int32)) 1 9 (0 : Int32)) 1 10 (0 : Int32)) 1 11 (0 : Int32) = f1 := ⟨_, rfl⟩
  obtain ⟨h1, hh1⟩ : ∃ h1, xu (xu (xu h 0 3 (0 : Int32)) 0 13 (0 : Int32)) 0 14 (0 : Int32) = h1 := ⟨_, rfl⟩
  rw [hf1, hh1]
  have hC : frC f f1 := by rw [← hf1]; exact frC_1 (frC_1 (frC_1 (frC_1 (frC_1 (frC_1 (frC_1 ⟨fun _ _ _ _ _ => rfl, rfl⟩ (by decide)) (by decide)) (by decide)) (by decide)) (by decide)) (by decide)) (by decide)
  have hM : frM h h1 := by rw [← hh1]; exact frM_0 (frM_0 (frM_0 ⟨fun _ _ _ _ _ => rfl, fun _ _ _ _ _ _ _ => rfl⟩ (by omega)) (by omega)) (by omega)
  obtain ⟨c1, c2, c3, c4⟩ := tB_of hB hC hM
  obtain ⟨F', hF'⟩ : ∃ m, F = m + 1 := ⟨F - 1, by omega⟩
  have e11 : f1 1 11 = 0 := by rw [← hf1]; simp [xu_at]
  have hz : nI 0 = (0 : Int32) := rfl
  rw [c3, show pX10_findFault_b37 F F (0 : Int32) f1 = pX10_findFault_b37 F (F' + 1) (nI 0) f1 by rw [← hF']; rfl]
  by_cases h0 : tl = 0
  · subst h0
    rw [if_pos hz, b37_end b1 c2, if_neg (by rw [e11]; decide)]
    exact ⟨0, f1, h1, rfl, rfl, hC, hM, fun q => absurd q (by decide)⟩
  · obtain ⟨x1, x2, x3⟩ := c4 0 (by omega)
    rw [if_neg (nI_ne0 (by omega) (by omega)), x3, b37_step b1 c2 (show 0 < tl by omega) x2 (acc0 x1 e11)]
    by_cases h69 : tx 0 = 69
    · rw [if_pos h69, if_neg (by decide), if_pos (show nI (tx 0) = 69 by rw [h69]; rfl)]
      unfold pX12_readNames
      refine truth_st hF hB F F' 0 0 1 _ _ (frC_1 hC (by decide)) (frM_0 (frM_0 (frM_0 hM (by omega)) (by omega)) (by omega)) xu_same (by simp [xu_at]; rfl) ?_ (by simp [xu_at]; rfl) ?_ (by simp [xu_at]; rfl) (by decide) (by omega) ?_ ?_ ⟨by omega, by omega, ?_, ?_, ?_, ?_, fun j hj => by omega, fun j hj => by omega⟩ (by omega) (by omega) (by omega)
      all_goals first | (rw [← hf1]; simp [xu_at]; done) | (rw [← hf1]; simp [xu_at]; rfl) | (rw [← hh1]; simp [xu_at]; done) | (rw [← hh1]; simp [xu_at]; rfl)
    · rw [if_neg h69, if_pos rfl, if_neg (show ¬ nI (tx 0) = 69 from fun z => h69 (nI_inj (b := 69) (by omega) (by omega) z))]
      exact ⟨0, _, h1, rfl, rfl, frC_1 hC (by decide), hM, fun q => absurd q (by decide)⟩
end tx
theorem okC_tx {f f' : xM} (a : frC f f') : okC f f' := by
  refine ⟨a.2, ?_, ?_, ?_, ?_, ?_, ?_, ?_, ?_, ?_, ?_⟩ <;> (rw [a.1 _ (by decide) (by decide) (by decide) (by decide)])
theorem okM_tx {h h' : xM} (a : frM h h') : okM h h' := by
  refine ⟨?_, ?_, ?_, ?_, ?_, ?_, ?_, ?_, ?_, ?_, ?_, ?_, ?_⟩ <;> first | exact a.2 _ (by decide) (by decide) (by decide) (by decide) (by decide) (by decide) | exact a.1 _ (by decide) (by decide) (by decide) (by decide)
theorem RelW_T {w c r t n : Nat} {f : xM} {g : xN} {h : xM} {k : xN} (hW : RelW w c r t n f g h k) : ∃ tl tx, tB tl tx f h := by
  obtain ⟨a, A, b0, b1, ⟨tl, tx, t1, t2, t3, t4⟩, -⟩ := hW
  exact ⟨tl, tx, t1, t2, t3, t4⟩
theorem e_fault {n : Nat} {f : xM} {g : xN} {h : xM} {k : xN} (hn : n ≤ 100) (hR : Rel n f g h k) : ∃ (F : Nat) (a : Int32 × xM) (b : Int32 × xM), pX11_fault F f = some a ∧ pX12_fault F h = some b ∧ a.1 = b.1 ∧ Rel (n + 1) a.2 g b.2 k := by
  obtain ⟨w, c, r, t, hW⟩ := Rel_open hR
  have hR2 := hW.rel
  generalize hh : xu h 0 0 (0 : Int32) = h2 at hW hR2
  obtain ⟨tl, tx, hB⟩ := RelW_T hW
  obtain ⟨q, f', h', r1, r2, r3, r4, -⟩ := reads_eq (F := 100) (by omega) hB
  refine ⟨100, ?_⟩
  unfold pX11_fault pX12_fault
  rw [hh, r1, r2]
  exact ⟨_, _, rfl, rfl, rfl, Rel_ok hR2 (Nat.le_refl _) (okC_tx r3) (okM_tx r4) (RelW_g hW)⟩
