/-! ===== the text: its parts ===== -/
def tB (tl : Nat) (tx : Nat → Nat) (f h : xM) : Prop := tl ≤ 40 ∧ f 1 4 = nI tl ∧ h 0 2 = nI tl ∧ ∀ j, j < tl → tx j < 256 ∧ f 13 j = nI (tx j) ∧ h 1 j = nI (tx j)
def frC (f0 f : xM) : Prop := (∀ z, z ≠ 1 → z ≠ 14 → z ≠ 15 → z ≠ 16 → f z = f0 z) ∧ f 1 4 = f0 1 4
def frM (h0 h : xM) : Prop := (∀ z, z ≠ 0 → z ≠ 4 → z ≠ 5 → z ≠ 6 → h z = h0 z) ∧ ∀ y, y ≠ 3 → y ≠ 10 → y ≠ 11 → y ≠ 12 → y ≠ 13 → y ≠ 14 → h 0 y = h0 0 y
theorem frC_1 {f0 f : xM} {k : Nat} {v : Int32} (a : frC f0 f) (hk : k ≠ 4) : frC f0 (xu f 1 k v) := ⟨fun z z1 z2 z3 z4 => by rw [xu_ne z1]; exact a.1 z z1 z2 z3 z4, by rw [xu_neK (fun q => hk q.symm)]; exact a.2⟩
theorem frC_A {f0 f : xM} {i k : Nat} {v : Int32} (a : frC f0 f) (hi : i = 14 ∨ i = 15 ∨ i = 16) : frC f0 (xu f i k v) := ⟨fun z z1 z2 z3 z4 => by rw [xu_ne (by omega)]; exact a.1 z z1 z2 z3 z4, by rw [xu_ne (by omega)]; exact a.2⟩
theorem frM_0 {h0 h : xM} {k : Nat} {v : Int32} (a : frM h0 h) (hk : k = 3 ∨ k = 10 ∨ k = 11 ∨ k = 12 ∨ k = 13 ∨ k = 14) : frM h0 (xu h 0 k v) := ⟨fun z z1 z2 z3 z4 => by rw [xu_ne z1]; exact a.1 z z1 z2 z3 z4, fun y y1 y2 y3 y4 y5 y6 => by rw [xu_neK (by omega)]; exact a.2 y y1 y2 y3 y4 y5 y6⟩
theorem frM_A {h0 h : xM} {i k : Nat} {v : Int32} (a : frM h0 h) (hi : i = 4 ∨ i = 5 ∨ i = 6) : frM h0 (xu h i k v) := ⟨fun z z1 z2 z3 z4 => by rw [xu_ne (by omega)]; exact a.1 z z1 z2 z3 z4, fun y y1 y2 y3 y4 y5 y6 => by rw [xu_ne (by omega)]; exact a.2 y y1 y2 y3 y4 y5 y6⟩
def dtN (w t s : Nat) (f h : xM) : Prop := 1 ≤ w ∧ w ≤ 5 ∧ t < 4 ^ w ∧ s < 4 ^ w ∧ f 1 7 = nI w ∧ h 0 10 = nI w ∧ f 1 9 = nI t ∧ h 0 11 = nI t ∧ f 1 10 = nI s ∧ h 0 12 = nI s
def dtP (c r : Nat) (f h : xM) : Prop := c ≤ 3 ∧ r ≤ 4 ∧ f 1 5 = nI c ∧ h 0 13 = nI c ∧ f 1 6 = nI r ∧ h 0 14 = nI r ∧ (∀ i, i < c → ∃ k, k < 4 ∧ f 14 i = nI k ∧ h 4 i = nI k) ∧ ∀ j, j < r → ∃ pe le, 1 ≤ pe ∧ pe ≤ 4 ∧ le < pe ∧ f 15 j = nI pe ∧ h 5 j = nI pe ∧ f 16 j = nI le ∧ h 6 j = nI le
def dtA (f h : xM) : Prop := ∃ w t s c r, dtN w t s f h ∧ dtP c r f h
def DN (f0 h0 : xM) (X Y : Option (Int32 × xM)) : Prop := ∃ q f' h', X = some (q, f') ∧ Y = some (q, h') ∧ frC f0 f' ∧ frM h0 h' ∧ (q = -9 → dtA f' h')
section tx
variable {F tl i b : Nat} {tx : Nat → Nat} {f h f0 h0 : xM}
theorem b37_end {n : Nat} (hl : tl ≤ 40) (e4 : f 1 4 = nI tl) : pX10_findFault_b37 F (n + 1) (nI tl) f = some (if f 1 11 = 3 then -9 else nI tl, f) := by
  rw [pX10_findFault_b37, e4, if_pos (nI_le (Nat.le_refl _) (by omega))]
  by_cases h : f 1 11 = 3
  · rw [if_pos h, if_pos h]
  · rw [if_neg h, if_neg h]
theorem b37_step {n : Nat} {q : Int32} {f' : xM} (hl : tl ≤ 40) (e4 : f 1 4 = nI tl) (hi : i < tl) (e13 : f 13 i = nI b) (ha : pX10_accepts (nI b) f = some (q, f')) : pX10_findFault_b37 F (n + 1) (nI i) f = if q = 0 then some (nI i, f') else pX10_findFault_b37 F n (nI (i + 1)) f' := by
  rw [pX10_findFault_b37, e4, if_neg (nI_ge hi (by omega)), if_neg (show ¬ (40 : Int32) ≤ nI i from nI_ge (b := 40) (by omega) (by omega)), if_pos (xin_of (show i < 40 by omega) (by omega)), nI_clamp (by omega), e13, ha, Option.bind_some, show nI i + (1 : Int32) = nI (i + 1) from nI_1 i]
theorem tB_of (hB : tB tl tx f0 h0) (a : frC f0 f) (m : frM h0 h) : tB tl tx f h := by
  obtain ⟨b1, b2, b3, b4⟩ := hB
  refine ⟨b1, by rw [a.2]; exact b2, by rw [m.2 2 (by decide) (by decide) (by decide) (by decide) (by decide) (by decide)]; exact b3, fun j hj => ?_⟩
  rw [a.1 13 (by decide) (by decide) (by decide) (by decide), m.1 1 (by decide) (by decide) (by decide) (by decide)]
  exact b4 j hj
theorem rp_back {v : Int32} {n : Nat} (e3 : h 0 3 = nI (i + 1)) (hv : v ≠ 82 ∨ (∃ r, h 0 14 = nI r ∧ 4 ≤ r ∧ r < 2 ^ 31)) : pX12_readPart_b71 v h = some (0, xu h 0 3 (nI i)) := by
  unfold pX12_readPart_b71
  rw [e3, show nI (i + 1) - (1 : Int32) = nI i from nI_pred i]
  rcases hv with hv | ⟨r, r1, r2, r3⟩
  · rw [if_neg hv]
  · rw [r1, if_pos (show (4 : Int32) ≤ nI r from nI_le (a := 4) r2 r3)]
    split <;> rfl
theorem rp_c {c : Nat} (hB : tB tl tx f h) (hi : i < tl) (e3 : h 0 3 = nI i) (hb : tx i = 67) (e13 : h 0 13 = nI c) (hc : c < 3) : (∃ k, i + 1 < tl ∧ k < 4 ∧ tx (i + 1) = 48 + k ∧ pX12_readPart h = some (1, xu (xu (xu (xu h 0 3 (nI (i + 1))) 0 3 (nI (i + 2))) 4 c (nI k)) 0 13 (nI (c + 1)))) ∨ (¬ (i + 1 < tl ∧ 48 ≤ tx (i + 1) ∧ tx (i + 1) - 48 < 4) ∧ pX12_readPart h = some (0, xu h 0 3 (nI (i + 1)))) := by
  obtain ⟨b1, b2, b3, b4⟩ := hB
  obtain ⟨x1, x2, x3⟩ := b4 i hi
  unfold pX12_readPart
  rw [e3, if_pos (xin_of (show i < 40 by omega) (by omega)), nI_clamp (by omega), x3, hb, if_pos (show nI 67 = 67 from rfl), show nI i + (1 : Int32) = nI (i + 1) from nI_1 i, show xu h 0 3 (nI (i + 1)) 0 13 = nI c by rw [xu_neK (by decide)]; exact e13, if_neg (show ¬ (3 : Int32) ≤ nI c from nI_ge (b := 3) hc (by omega))]
  rcases figM (h := xu h 0 3 (nI (i + 1))) (tl := tl) (i := i + 1) (tx := tx) (v1 := 0) (v2 := 3) b1 (fun j hj => ⟨(b4 j hj).1, by rw [xu_ne (by decide)]; exact (b4 j hj).2.2⟩) (by rw [xu_neK (by decide)]; exact b3) xu_same (by omega) (48 ≤ tx (i + 1) ∧ tx (i + 1) - 48 < 4) (fun q => fig0 (b4 _ q).1) with ⟨q1, q2, q3⟩ | ⟨q1, q2⟩
  · left
    refine ⟨tx (i + 1) - 48, q1, q2.2, by omega, ?_⟩
    rw [q3, Option.bind_some, pk_sub q2.1]
    dsimp only
    have e13' : xu (xu h 0 3 (nI (i + 1))) 0 3 (nI (i + 1 + 1)) 0 13 = nI c := by rw [xu_neK (by decide), xu_neK (by decide)]; exact e13
    generalize hg : xu (xu h 0 3 (nI (i + 1))) 0 3 (nI (i + 1 + 1)) = g at e13'
    have e13'' : xu g 4 c (nI (tx (i + 1) - 48)) 0 13 = nI c := by rw [xu_ne (by decide)]; exact e13'
    rw [if_neg (ne9 _ (by omega))]
    simp only [e13', if_pos (xin_of hc (show 3 < 2 ^ 31 by omega)), nI_clamp (show c < 2 ^ 31 by omega), e13'', show nI c + (1 : Int32) = nI (c + 1) from nI_1 c]
  · right
    refine ⟨q1, ?_⟩
    rw [q2, Option.bind_some]
    dsimp only
    rw [if_pos rfl]
theorem rp_r {r : Nat} (hB : tB tl tx f h) (hi : i < tl) (e3 : h 0 3 = nI i) (hb : tx i = 82) (e14 : h 0 14 = nI r) (hr : r < 4) : (∃ pe le, i + 2 < tl ∧ 1 ≤ pe ∧ pe ≤ 4 ∧ le < pe ∧ tx (i + 1) = 48 + pe ∧ tx (i + 2) = 48 + le ∧ pX12_readPart h = some (1, xu (xu (xu (xu (xu (xu h 0 3 (nI (i + 1))) 0 3 (nI (i + 2))) 0 3 (nI (i + 3))) 5 r (nI pe)) 6 r (nI le)) 0 14 (nI (r + 1)))) ∨ (∃ pe, i + 1 < tl ∧ 1 ≤ pe ∧ pe ≤ 4 ∧ tx (i + 1) = 48 + pe ∧ ¬ (i + 2 < tl ∧ 48 ≤ tx (i + 2) ∧ tx (i + 2) - 48 < pe) ∧ pX12_readPart h = some (0, xu (xu h 0 3 (nI (i + 1))) 0 3 (nI (i + 2)))) ∨ (¬ (i + 1 < tl ∧ 49 ≤ tx (i + 1) ∧ tx (i + 1) ≤ 52) ∧ pX12_readPart h = some (0, xu h 0 3 (nI (i + 1)))) := by
  obtain ⟨b1, b2, b3, b4⟩ := hB
  obtain ⟨x1, x2, x3⟩ := b4 i hi
  unfold pX12_readPart
  rw [e3, if_pos (xin_of (show i < 40 by omega) (by omega)), nI_clamp (by omega), x3, hb, if_neg (show ¬ nI 82 = 67 by decide), show nI i + (1 : Int32) = nI (i + 1) from nI_1 i]
  unfold pX12_readPart_b71
  rw [if_pos (show nI 82 = 82 from rfl), show xu h 0 3 (nI (i + 1)) 0 14 = nI r by rw [xu_neK (by decide)]; exact e14, if_neg (show ¬ (4 : Int32) ≤ nI r from nI_ge (b := 4) hr (by omega))]
  rcases figM (h := xu h 0 3 (nI (i + 1))) (tl := tl) (i := i + 1) (tx := tx) (v1 := 1) (v2 := 4) b1 (fun j hj => ⟨(b4 j hj).1, by rw [xu_ne (by decide)]; exact (b4 j hj).2.2⟩) (by rw [xu_neK (by decide)]; exact b3) xu_same (by omega) (49 ≤ tx (i + 1) ∧ tx (i + 1) ≤ 52) (fun q => fig1 (b4 _ q).1) with ⟨q1, q2, q3⟩ | ⟨q1, q2⟩
  · obtain ⟨pe, hpe⟩ : ∃ pe, tx (i + 1) = 48 + pe := ⟨tx (i + 1) - 48, by omega⟩
    rw [q3, Option.bind_some, pk_sub (show 48 ≤ tx (i + 1) by omega), hpe, show 48 + pe - 48 = pe by omega]
    dsimp only
    rw [if_neg (ne9 pe (by omega))]
    rcases figM (h := xu (xu h 0 3 (nI (i + 1))) 0 3 (nI (i + 1 + 1))) (tl := tl) (i := i + 2) (tx := tx) (v1 := 0) (v2 := nI pe - (1 : Int32)) b1 (fun j hj => ⟨(b4 j hj).1, by rw [xu_ne (by decide), xu_ne (by decide)]; exact (b4 j hj).2.2⟩) (by rw [xu_neK (by decide), xu_neK (by decide)]; exact b3) xu_same (by omega) (48 ≤ tx (i + 2) ∧ tx (i + 2) - 48 < pe) (fun q => fig2 (b4 _ q).1 (by omega)) with ⟨u1, u2, u3⟩ | ⟨u1, u2⟩
    · left
      obtain ⟨le, hle⟩ : ∃ le, tx (i + 2) = 48 + le := ⟨tx (i + 2) - 48, by omega⟩
      refine ⟨pe, le, u1, by omega, by omega, by omega, rfl, hle, ?_⟩
      rw [u3, Option.bind_some, pk_sub (show 48 ≤ tx (i + 2) by omega), hle, show 48 + le - 48 = le by omega]
      unfold pX12_readPart_b111
      dsimp only
      have e14' : xu (xu (xu h 0 3 (nI (i + 1))) 0 3 (nI (i + 1 + 1))) 0 3 (nI (i + 2 + 1)) 0 14 = nI r := by rw [xu_neK (by decide), xu_neK (by decide), xu_neK (by decide)]; exact e14
      generalize hg : xu (xu (xu h 0 3 (nI (i + 1))) 0 3 (nI (i + 1 + 1))) 0 3 (nI (i + 2 + 1)) = g at e14'
      have e14a : xu g 5 r (nI pe) 0 14 = nI r := by rw [xu_ne (by decide)]; exact e14'
      have e14b : xu (xu g 5 r (nI pe)) 6 r (nI le) 0 14 = nI r := by rw [xu_ne (by decide), xu_ne (by decide)]; exact e14'
      rw [if_neg (ne9 le (by omega))]
      simp only [e14', if_pos (xin_of hr (show 4 < 2 ^ 31 by omega)), nI_clamp (show r < 2 ^ 31 by omega), e14a, e14b, show nI r + (1 : Int32) = nI (r + 1) from nI_1 r]
    · right; left
      refine ⟨pe, q1, by omega, by omega, rfl, u1, ?_⟩
      rw [u2, Option.bind_some]
      unfold pX12_readPart_b111
      dsimp only
      rw [if_pos rfl]
  · right; right
    refine ⟨q1, ?_⟩
    rw [q2, Option.bind_some]
    unfold pX12_readPart_b111
    dsimp only
    rw [if_pos rfl, if_pos rfl]
theorem rp_o (hB : tB tl tx f h) (hi : i < tl) (e3 : h 0 3 = nI i) (hv : (tx i ≠ 67 ∧ tx i ≠ 82) ∨ (tx i = 67 ∧ ∃ c, h 0 13 = nI c ∧ 3 ≤ c ∧ c < 2 ^ 31) ∨ (tx i = 82 ∧ ∃ r, h 0 14 = nI r ∧ 4 ≤ r ∧ r < 2 ^ 31)) : pX12_readPart h = some (0, xu (xu h 0 3 (nI (i + 1))) 0 3 (nI i)) := by
  obtain ⟨b1, b2, b3, b4⟩ := hB
  obtain ⟨x1, x2, x3⟩ := b4 i hi
  unfold pX12_readPart
  rw [e3, if_pos (xin_of (show i < 40 by omega) (by omega)), nI_clamp (by omega), x3, show nI i + (1 : Int32) = nI (i + 1) from nI_1 i]
  have e3' : xu h 0 3 (nI (i + 1)) 0 3 = nI (i + 1) := xu_same
  rcases hv with ⟨v1, v2⟩ | ⟨v1, c, c1, c2, c3⟩ | ⟨v1, r, r1, r2, r3⟩
  · rw [if_neg (show ¬ nI (tx i) = 67 from fun z => v1 (nI_inj (b := 67) (by omega) (by omega) z))]
    exact rp_back (n := 0) e3' (Or.inl (fun z => v2 (nI_inj (b := 82) (by omega) (by omega) z)))
  · rw [v1, if_pos (show nI 67 = 67 from rfl), show xu h 0 3 (nI (i + 1)) 0 13 = nI c by rw [xu_neK (by decide)]; exact c1, if_pos (show (3 : Int32) ≤ nI c from nI_le (a := 3) c2 c3)]
    exact rp_back (n := 0) e3' (Or.inl (by decide))
  · rw [v1, if_neg (show ¬ nI 82 = 67 by decide)]
    exact rp_back (n := 0) e3' (Or.inr ⟨r, by rw [xu_neK (by decide)]; exact r1, r2, r3⟩)
theorem dtN_ok {w t s : Nat} {f' h' : xM} (a : dtN w t s f h) (e1 : f' 1 7 = f 1 7) (e2 : f' 1 9 = f 1 9) (e3 : f' 1 10 = f 1 10) (e4 : h' 0 10 = h 0 10) (e5 : h' 0 11 = h 0 11) (e6 : h' 0 12 = h 0 12) : dtN w t s f' h' := by
  unfold dtN at a ⊢
  rw [e1, e2, e3, e4, e5, e6]
  exact a
theorem parts (hB : tB tl tx f0 h0) : ∀ (n' n i : Nat) (f h : xM) (w t s c r : Nat), frC f0 f → frM h0 h → f 1 11 = 3 → h 0 3 = nI i → dtN w t s f h → dtP c r f h → i ≤ tl → tl < i + n → tl < i + n' → DN f0 h0 (pX10_findFault_b37 F n (nI i) f) (pX12_readPaper_b52 F n' h) := by
  intro n'
  induction n' with
  | zero => intro n i f h w t s c r _ _ _ _ _ _ z1 z2 z3; omega
  | succ n' ih =>
    intro n i f h w t s c r hC hM e11 e3 hN hP z1 z2 z3
    have hb := tB_of hB hC hM
    have hb' := hb
    obtain ⟨b1, b2, b3, b4⟩ := hb'
    obtain ⟨p1, p2, p3, p4, p5, p6, p7, p8⟩ := hP
    obtain ⟨n, rfl⟩ : ∃ m, n = m + 1 := ⟨n - 1, by omega⟩
    rw [pX12_readPaper_b52, b3, e3]
    by_cases hi : tl ≤ i
    · have : i = tl := by omega
      subst this
      rw [if_pos (nI_le (Nat.le_refl _) (by omega)), b37_end b1 b2, if_pos e11]
      exact ⟨-9, f, h, rfl, rfl, hC, hM, fun _ => ⟨w, t, s, c, r, hN, p1, p2, p3, p4, p5, p6, p7, p8⟩⟩
    · have hi : i < tl := by omega
      obtain ⟨x1, x2, x3⟩ := b4 i hi
      rw [if_neg (nI_ge hi (by omega))]
      have bad : ∀ f', frC f0 f' → pX12_readPart h = some (0, xu (xu h 0 3 (nI (i + 1))) 0 3 (nI i)) → DN f0 h0 (some (nI i, f')) (Option.bind (pX12_readPart h) fun q6 => if q6.1 = 0 then some (q6.2 0 3, q6.2) else pX12_readPaper_b52 F n' q6.2) := by
        intro f' hf hr
        rw [hr, Option.bind_some]
        dsimp only
        rw [if_pos rfl]
        exact ⟨nI i, f', _, rfl, by rw [xu_same], hf, frM_0 (frM_0 hM (Or.inl rfl)) (Or.inl rfl), fun q => absurd q (ne9 i (by omega))⟩
      by_cases hc : tx i = 67
      · have st := b37_step (F := F) (n := n) b1 b2 hi (by rw [x2, hc]) (acc3c p1 e11 p3)
        rw [st]
        by_cases c3 : c < 3
        · rw [if_pos c3, if_neg (by decide)]
          obtain ⟨n, rfl⟩ : ∃ m, n = m + 1 := ⟨n - 1, by omega⟩
          have hC1 : frC f0 (xu f 1 11 (4 : Int32)) := frC_1 hC (by decide)
          have b2' : xu f 1 11 (4 : Int32) 1 4 = nI tl := by rw [xu_neK (by decide)]; exact b2
          rcases rp_c hb hi e3 hc p4 c3 with ⟨k, k1, k2, k3, k4⟩ | ⟨k1, k2⟩
          · obtain ⟨y1, y2, y3⟩ := b4 (i + 1) k1
            have ac := acc4 (f := xu f 1 11 (4 : Int32)) (b := tx (i + 1)) (c := c) y1 c3 xu_same (by rw [xu_neK (by decide)]; exact p3)
            rw [if_pos ⟨by omega, by omega⟩, show tx (i + 1) - 48 = k by omega] at ac
            rw [b37_step (n := n) b1 b2' k1 (by rw [xu_ne (by decide)]; exact y2) ac, if_neg (by decide), k4, Option.bind_some]
            dsimp only
            rw [if_neg (by decide)]
            refine ih n (i + 2) _ _ w t s (c + 1) r (frC_1 (frC_1 (frC_A hC1 (Or.inl rfl)) (by decide)) (by decide)) (frM_0 (frM_A (frM_0 (frM_0 hM (Or.inl rfl)) (Or.inl rfl)) (Or.inl rfl)) (by omega)) xu_same (by simp [xu_at]) (dtN_ok hN (by simp [xu_at]) (by simp [xu_at]) (by simp [xu_at]) (by simp [xu_at]) (by simp [xu_at]) (by simp [xu_at])) ⟨by omega, p2, by simp [xu_at], by simp [xu_at], by simpa [xu_at] using p5, by simpa [xu_at] using p6, fun j hj => ?_, fun j hj => ?_⟩ (by omega) (by omega) (by omega)
            · by_cases q : j = c
              · subst q
                exact ⟨k, k2, by simp [xu_at], by simp [xu_at]⟩
              · obtain ⟨kk, u1, u2, u3⟩ := p7 j (by omega)
                exact ⟨kk, u1, by simpa [xu_at, q] using u2, by simpa [xu_at, q] using u3⟩
            · obtain ⟨pe, le, u1, u2, u3, u4, u5, u6, u7⟩ := p8 j hj
              exact ⟨pe, le, u1, u2, u3, by simpa [xu_at] using u4, by simpa [xu_at] using u5, by simpa [xu_at] using u6, by simpa [xu_at] using u7⟩
          · rw [k2, Option.bind_some]
            dsimp only
            rw [if_pos rfl, xu_same]
            have hM1 : frM h0 (xu h 0 3 (nI (i + 1))) := frM_0 hM (Or.inl rfl)
            by_cases hend : i + 1 = tl
            · have := b37_end (F := F) (n := n) (f := xu f 1 11 (4 : Int32)) b1 b2'
              rw [hend, this, xu_same, if_neg (by decide)]
              exact ⟨nI tl, _, _, rfl, rfl, hC1, by rw [← hend]; exact hM1, fun q => absurd q (ne9 tl (by omega))⟩
            · have k1' : i + 1 < tl := by omega
              obtain ⟨y1, y2, y3⟩ := b4 (i + 1) k1'
              have ac := acc4 (f := xu f 1 11 (4 : Int32)) (b := tx (i + 1)) (c := c) y1 c3 xu_same (by rw [xu_neK (by decide)]; exact p3)
              rw [if_neg (fun z => k1 ⟨k1', z.1, z.2⟩)] at ac
              rw [b37_step (n := n) b1 b2' k1' (by rw [xu_ne (by decide)]; exact y2) ac, if_pos rfl]
              exact ⟨nI (i + 1), _, _, rfl, rfl, hC1, hM1, fun q => absurd q (ne9 (i + 1) (by omega))⟩
        · rw [if_neg c3, if_pos rfl]
          exact bad _ (frC_1 hC (by decide)) (rp_o hb hi e3 (Or.inr (Or.inl ⟨hc, c, p4, by omega, by omega⟩)))
      · by_cases hr : tx i = 82
        · have st := b37_step (F := F) (n := n) b1 b2 hi (by rw [x2, hr]) (acc3r p2 e11 p5)
          rw [st]
          by_cases r4 : r < 4
          · rw [if_pos r4, if_neg (by decide)]
            obtain ⟨n, rfl⟩ : ∃ m, n = m + 1 := ⟨n - 1, by omega⟩
            have hC1 : frC f0 (xu f 1 11 (5 : Int32)) := frC_1 hC (by decide)
            have b2' : xu f 1 11 (5 : Int32) 1 4 = nI tl := by rw [xu_neK (by decide)]; exact b2
            rcases rp_r hb hi e3 hr p6 r4 with ⟨pe, le, k1, k2, k3, k4, k5, k6, k7⟩ | ⟨pe, k1, k2, k3, k4, k5, k6⟩ | ⟨k1, k2⟩
            · obtain ⟨y1, y2, y3⟩ := b4 (i + 1) (by omega)
              obtain ⟨y1', y2', y3'⟩ := b4 (i + 2) (by omega)
              obtain ⟨n, rfl⟩ : ∃ m, n = m + 1 := ⟨n - 1, by omega⟩
              have ac := acc5 (f := xu f 1 11 (5 : Int32)) (b := tx (i + 1)) (r := r) y1 r4 xu_same (by rw [xu_neK (by decide)]; exact p5)
              rw [if_pos ⟨by omega, by omega⟩, show tx (i + 1) - 48 = pe by omega] at ac
              have ac2 := acc6 (f := xu (xu (xu f 1 11 (5 : Int32)) 15 r (nI pe)) 1 11 6) (b := tx (i + 2)) (r := r) (pe := pe) y1' r4 k3 xu_same (by simpa [xu_at] using p5) (by simp [xu_at])
              rw [if_pos ⟨by omega, by omega⟩, show tx (i + 2) - 48 = le by omega] at ac2
              rw [b37_step (n := n + 1) b1 b2' (by omega) (by rw [xu_ne (by decide)]; exact y2) ac, if_neg (by decide), b37_step (i := i + 2) (n := n) b1 (by simpa [xu_at] using b2) k1 (by rw [xu_ne (by decide), xu_ne (by decide), xu_ne (by decide)]; exact y2') ac2, if_neg (by decide), k7, Option.bind_some]
              dsimp only
              rw [if_neg (by decide)]
              refine ih n (i + 3) _ _ w t s c (r + 1) (frC_1 (frC_1 (frC_A (frC_1 (frC_A hC1 (by omega)) (by decide)) (by omega)) (by decide)) (by decide)) (frM_0 (frM_A (frM_A (frM_0 (frM_0 (frM_0 hM (Or.inl rfl)) (Or.inl rfl)) (Or.inl rfl)) (by omega)) (by omega)) (by omega)) xu_same (by simp [xu_at]) (dtN_ok hN (by simp [xu_at]) (by simp [xu_at]) (by simp [xu_at]) (by simp [xu_at]) (by simp [xu_at]) (by simp [xu_at])) ⟨p1, by omega, by simpa [xu_at] using p3, by simpa [xu_at] using p4, by simp [xu_at], by simp [xu_at], fun j hj => ?_, fun j hj => ?_⟩ (by omega) (by omega) (by omega)
              · obtain ⟨kk, u1, u2, u3⟩ := p7 j hj
                exact ⟨kk, u1, by simpa [xu_at] using u2, by simpa [xu_at] using u3⟩
              · by_cases q : j = r
                · subst q
                  exact ⟨pe, le, k2, k3, k4, by simp [xu_at], by simp [xu_at], by simp [xu_at], by simp [xu_at]⟩
                · obtain ⟨pe', le', u1, u2, u3, u4, u5, u6, u7⟩ := p8 j (by omega)
                  exact ⟨pe', le', u1, u2, u3, by simpa [xu_at, q] using u4, by simpa [xu_at, q] using u5, by simpa [xu_at, q] using u6, by simpa [xu_at, q] using u7⟩
            · obtain ⟨y1, y2, y3⟩ := b4 (i + 1) (by omega)
              obtain ⟨n, rfl⟩ : ∃ m, n = m + 1 := ⟨n - 1, by omega⟩
              have ac := acc5 (f := xu f 1 11 (5 : Int32)) (b := tx (i + 1)) (r := r) y1 r4 xu_same (by rw [xu_neK (by decide)]; exact p5)
              rw [if_pos ⟨by omega, by omega⟩, show tx (i + 1) - 48 = pe by omega] at ac
              have hC2 : frC f0 (xu (xu (xu f 1 11 (5 : Int32)) 15 r (nI pe)) 1 11 6) := frC_1 (frC_A hC1 (by omega)) (by decide)
              have hM2 : frM h0 (xu (xu h 0 3 (nI (i + 1))) 0 3 (nI (i + 2))) := frM_0 (frM_0 hM (Or.inl rfl)) (Or.inl rfl)
              rw [b37_step (n := n + 1) b1 b2' (by omega) (by rw [xu_ne (by decide)]; exact y2) ac, if_neg (by decide), k6, Option.bind_some]
              dsimp only
              rw [if_pos rfl, xu_same]
              by_cases hend : i + 2 = tl
              · have := b37_end (F := F) (n := n) (f := xu (xu (xu f 1 11 (5 : Int32)) 15 r (nI pe)) 1 11 6) b1 (by simpa [xu_at] using b2)
                rw [show i + 1 + 1 = tl by omega, this, xu_same, if_neg (by decide)]
                exact ⟨nI tl, _, _, rfl, by rw [← hend], hC2, hM2, fun q => absurd q (ne9 tl (by omega))⟩
              · have k1' : i + 2 < tl := by omega
                obtain ⟨y1', y2', y3'⟩ := b4 (i + 2) k1'
                have ac2 := acc6 (f := xu (xu (xu f 1 11 (5 : Int32)) 15 r (nI pe)) 1 11 6) (b := tx (i + 2)) (r := r) (pe := pe) y1' r4 k3 xu_same (by simpa [xu_at] using p5) (by simp [xu_at])
                rw [if_neg (fun z => k5 ⟨k1', z.1, z.2⟩)] at ac2
                rw [b37_step (i := i + 2) (n := n) b1 (by simpa [xu_at] using b2) k1' (by rw [xu_ne (by decide), xu_ne (by decide), xu_ne (by decide)]; exact y2') ac2, if_pos rfl]
                exact ⟨nI (i + 2), _, _, rfl, rfl, hC2, hM2, fun q => absurd q (ne9 (i + 2) (by omega))⟩
            · rw [k2, Option.bind_some]
              dsimp only
              rw [if_pos rfl, xu_same]
              have hM1 : frM h0 (xu h 0 3 (nI (i + 1))) := frM_0 hM (Or.inl rfl)
              by_cases hend : i + 1 = tl
              · have := b37_end (F := F) (n := n) (f := xu f 1 11 (5 : Int32)) b1 b2'
                rw [hend, this, xu_same, if_neg (by decide)]
                exact ⟨nI tl, _, _, rfl, rfl, hC1, by rw [← hend]; exact hM1, fun q => absurd q (ne9 tl (by omega))⟩
              · have k1' : i + 1 < tl := by omega
                obtain ⟨y1, y2, y3⟩ := b4 (i + 1) k1'
                have ac := acc5 (f := xu f 1 11 (5 : Int32)) (b := tx (i + 1)) (r := r) y1 r4 xu_same (by rw [xu_neK (by decide)]; exact p5)
                rw [if_neg (fun z => k1 ⟨k1', z.1, z.2⟩)] at ac
                rw [b37_step (n := n) b1 b2' k1' (by rw [xu_ne (by decide)]; exact y2) ac, if_pos rfl]
                exact ⟨nI (i + 1), _, _, rfl, rfl, hC1, hM1, fun q => absurd q (ne9 (i + 1) (by omega))⟩
          · rw [if_neg r4, if_pos rfl]
            exact bad _ (frC_1 hC (by decide)) (rp_o hb hi e3 (Or.inr (Or.inr ⟨hr, r, p6, by omega, by omega⟩)))
        · rw [b37_step (F := F) (n := n) b1 b2 hi x2 (acc3o x1 e11 hc hr), if_pos rfl]
          exact bad _ (frC_1 hC (by decide)) (rp_o hb hi e3 (Or.inl ⟨hc, hr⟩))
end tx
