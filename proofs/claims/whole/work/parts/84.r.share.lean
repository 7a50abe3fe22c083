/-! ===== share ===== -/
theorem bit_eq {x i : Nat} (hx : x < 2 ^ 31) (hi : i < 10) : (nI x >>> (nI i &&& 31)) &&& (1 : Int32) = nI (x / 2 ^ i % 2) := by
  rw [nI_shr hx hi, show (1 : Int32) = nI 1 from rfl, nI_and, Nat.and_one_is_mod]
def isMx (c w : Nat) (rr : Nat → Nat) (R0 M y V : Nat) : Prop := R0 ≤ V ∧ (∀ x, x < y → vt c w x → M / 2 ^ (x / 100) % 2 = 1 → rr x ≤ V) ∧ (V = R0 ∨ ∃ x, vt c w x ∧ M / 2 ^ (x / 100) % 2 = 1 ∧ rr x = V)
theorem isMx_one {c w R0 M V V' : Nat} {rr : Nat → Nat} (hc : c ≤ 3) (a : isMx c w rr R0 M 300 V) (b : isMx c w rr R0 M 300 V') : V = V' := by
  obtain ⟨a1, a2, a3⟩ := a
  obtain ⟨b1, b2, b3⟩ := b
  have le1 : V ≤ V' := by
    rcases a3 with a3 | ⟨x, x1, x2, x3⟩
    · omega
    · rw [← x3]; exact b2 x (vt_300 hc x1) x1 x2
  have le2 : V' ≤ V := by
    rcases b3 with b3 | ⟨x, x1, x2, x3⟩
    · omega
    · rw [← x3]; exact a2 x (vt_300 hc x1) x1 x2
  omega
section sh
variable {w c t F s : Nat} {K : Nat → Nat} {f h : xM}
def rrx (w : Nat) (K : Nat → Nat) (s t x : Nat) : Nat := rgt w (one w K x s) t
def bsI (w : Nat) (kd s t p l B : Nat) : Prop := (∀ p' l', p' < w → l' < 4 → (p' < p ∨ (p' = p ∧ l' < l)) → rgt w (nt4 w kd s p' l') t ≤ B) ∧ (B = 0 ∨ ∃ p' l', p' < w ∧ l' < 4 ∧ rgt w (nt4 w kd s p' l') t = B) ∧ B ≤ w
theorem b18s (h1 : 1 ≤ w) (hw : w ≤ 5) (f4 : f 10 0 = nI w) (f6 : f 2 6 = nI t) (ht : t < 4 ^ w) (hs : s < 4 ^ w) (hsd : f 19 0 = nI s) {a kd p : Nat} (ha : a < 3) (hk : kd < 4) (fK : f 19 (2 + a) = nI kd) (hp : p < w) {K4 : Int32 → Int32 → Int32 → Option Int32} : ∀ (n l B : Nat), l ≤ 4 → 4 < l + n → bsI w kd s t p l B → ∃ B', bsI w kd s t (p + 1) 0 B' ∧ pX2_mostRightBy_b18 F f K4 n (nI a) (nI B) (nI p) (nI l) = K4 (nI a) (nI B') (nI (p + 1)) := by
  intro n
  induction n with
  | zero => intro l B z1 z2; omega
  | succ n ih =>
    intro l B z1 z2 hI
    rw [pX2_mostRightBy_b18]
    by_cases hl : 4 ≤ l
    · rw [if_pos (show (4 : Int32) ≤ nI l from nI_le (a := 4) hl (by omega)), show nI p + (1 : Int32) = nI (p + 1) from nI_1 p]
      refine ⟨B, ⟨fun p' l' q1 q2 q3 => hI.1 p' l' q1 q2 ?_, hI.2⟩, rfl⟩
      rcases q3 with q3 | q3
      · rcases Nat.lt_or_ge p' p with u | u
        · exact Or.inl u
        · exact Or.inr ⟨by omega, by omega⟩
      · omega
    · have hn := nt4_lt (kd := kd) hw hp hs (show l < 4 by omega)
      have hle := rgt_le w (nt4 w kd s p l) t
      rw [if_neg (show ¬ (4 : Int32) ≤ nI l from nI_ge (b := 4) (by omega) (by omega)), show pX9_said f = nI s from hsd, noticed6_eq hw f4 ha hk fK hp hs (show l < 4 by omega), Option.bind_some, rightOf6_eq h1 hw f4 f6 hn ht, show nI l + (1 : Int32) = nI (l + 1) from nI_1 l]
      have split1 : ∀ p' l', (p' < p ∨ (p' = p ∧ l' < l + 1)) → (p' < p ∨ (p' = p ∧ l' < l)) ∨ (p' = p ∧ l' = l) := by intro p' l' q; omega
      by_cases hB : B < rgt w (nt4 w kd s p l) t
      · rw [if_pos (nI_lt hB (by omega))]
        refine ih (l + 1) _ (by omega) (by omega) ⟨fun p' l' q1 q2 q3 => ?_, Or.inr ⟨p, l, hp, by omega, rfl⟩, hle⟩
        rcases split1 p' l' q3 with u | ⟨rfl, rfl⟩
        · have := hI.1 p' l' q1 q2 u; omega
        · exact Nat.le_refl _
      · rw [if_neg (nI_nlt (by omega) (by have := hI.2.2; omega))]
        refine ih (l + 1) _ (by omega) (by omega) ⟨fun p' l' q1 q2 q3 => ?_, hI.2⟩
        rcases split1 p' l' q3 with u | ⟨rfl, rfl⟩
        · exact hI.1 p' l' q1 q2 u
        · omega
theorem b4s (hF : 5 < F) (h1 : 1 ≤ w) (hw : w ≤ 5) (f4 : f 10 0 = nI w) (f6 : f 2 6 = nI t) (ht : t < 4 ^ w) (hs : s < 4 ^ w) (hsd : f 19 0 = nI s) {a kd : Nat} (ha : a < 3) (hk : kd < 4) (fK : f 19 (2 + a) = nI kd) : ∀ (n p B : Nat), p ≤ w → w < p + n → bsI w kd s t p 0 B → ∃ B', bsI w kd s t w 0 B' ∧ pX2_mostRightBy_b4 F f n (nI a) (nI B) (nI p) = some (nI B') := by
  intro n
  induction n with
  | zero => intro p B z1 z2; omega
  | succ n ih =>
    intro p B z1 z2 hI
    rw [pX2_mostRightBy_b4, f4]
    by_cases hp : w ≤ p
    · rw [if_pos (nI_le hp (by omega))]
      exact ⟨B, by rw [show p = w by omega] at hI; exact hI, rfl⟩
    · rw [if_neg (nI_ge (by omega) (by omega))]
      obtain ⟨B', b1, b2⟩ := b18s (F := F) h1 hw f4 f6 ht hs hsd ha hk fK (show p < w by omega) (K4 := pX2_mostRightBy_b4 F f n) F 0 B (by omega) (by omega) hI
      have b2' : pX2_mostRightBy_b18 F f (pX2_mostRightBy_b4 F f n) F (nI a) (nI B) (nI p) (0 : Int32) = _ := b2
      rw [b2']
      exact ih (p + 1) B' (by omega) (by omega) b1
def wgI (w c s t : Nat) (K : Nat → Nat) (f0 f : xM) (a : Nat) : Prop := (∀ z, z ≠ 9 → z ≠ 27 → f z = f0 z) ∧ f 9 1 = nI c ∧ f 9 2 = nI (rgt w s t) ∧ ∀ i, i < a → ∃ B, bsI w (K i) s t w 0 B ∧ f 27 i = nI B
theorem b29s {f0 : xM} (hF : 5 < F) (h1 : 1 ≤ w) (hw : w ≤ 5) (hc : c ≤ 3) (f4 : f0 10 0 = nI w) (f6 : f0 2 6 = nI t) (ht : t < 4 ^ w) (hs : s < 4 ^ w) (hsd : f0 19 0 = nI s) (fK : ∀ i, i < c → K i < 4 ∧ f0 19 (2 + i) = nI (K i)) : ∀ (n a : Nat) (f : xM), wgI w c s t K f0 f a → a ≤ c → c < a + n → ∃ f', pX2_weighCompositors_b29 F n (nI a) f = some f' ∧ wgI w c s t K f0 f' c := by
  intro n
  induction n with
  | zero => intro a f _ z1 z2; omega
  | succ n ih =>
    intro a f hI z1 z2
    have hI' := hI
    obtain ⟨i1, i2, i3, i4⟩ := hI'
    rw [pX2_weighCompositors_b29, i2]
    by_cases ha : c ≤ a
    · rw [if_pos (nI_le ha (by omega))]
      exact ⟨f, rfl, by rw [show a = c by omega] at hI; exact hI⟩
    · obtain ⟨k1, k2⟩ := fK a (by omega)
      obtain ⟨B, b1, b2⟩ := b4s (F := F) (f := f) hF h1 hw (by rw [i1 10 (by decide) (by decide)]; exact f4) (by rw [i1 2 (by decide) (by decide)]; exact f6) ht hs (by rw [i1 19 (by decide) (by decide)]; exact hsd) (show a < 3 by omega) k1 (by rw [i1 19 (by decide) (by decide)]; exact k2) F 0 0 (by omega) (by omega) ⟨fun p' l' q1 q2 q3 => by omega, Or.inl rfl, by omega⟩
      have b2' : pX2_mostRightBy F f (nI a) = some (nI B) := b2
      rw [if_neg (nI_ge (by omega) (by omega)), if_neg (show ¬ (3 : Int32) ≤ nI a from nI_ge (b := 3) (by omega) (by omega)), b2', Option.bind_some, if_pos (xin_of (show a < 3 by omega) (by omega)), nI_clamp (by omega), show nI a + (1 : Int32) = nI (a + 1) from nI_1 a]
      refine ih (a + 1) _ ⟨fun z y1 y2 => by rw [xu_ne y2]; exact i1 z y1 y2, by rw [xu_ne (by decide)]; exact i2, by rw [xu_ne (by decide)]; exact i3, fun i hi => ?_⟩ (by omega) (by omega)
      by_cases q : i = a
      · subst q; exact ⟨B, b1, xu_same⟩
      · rw [xu_neK q]; exact i4 i (by omega)
theorem b7s {f0 : xM} {M : Nat} (hw : w ≤ 5) (hc : c ≤ 3) (hM : M < 8) (hI : wgI w c s t K f0 f c) : ∀ (n a V : Nat), a ≤ c → c < a + n → V ≤ w → isMx c w (rrx w K s t) (rgt w s t) M (100 * a) V → ∃ V', pX2_mostRightOf_b7 F f n (nI M) (nI V) (nI a) = some (nI V') ∧ V' ≤ w ∧ isMx c w (rrx w K s t) (rgt w s t) M 300 V' := by
  obtain ⟨i1, i2, i3, i4⟩ := hI
  intro n
  induction n with
  | zero => intro a V z1 z2; omega
  | succ n ih =>
    intro a V z1 z2 hV hX
    rw [pX2_mostRightOf_b7, i2]
    by_cases ha : c ≤ a
    · rw [if_pos (nI_le ha (by omega))]
      exact ⟨V, rfl, hV, hX.1, fun x _ hv hb => hX.2.1 x (by have := hv.1; omega) hv hb, hX.2.2⟩
    · obtain ⟨B, b1, b2⟩ := i4 a (by omega)
      rw [if_neg (nI_ge (by omega) (by omega)), if_neg (show ¬ (3 : Int32) ≤ nI a from nI_ge (b := 3) (by omega) (by omega)), bit_eq (by omega) (by omega), if_pos (xin_of (show a < 3 by omega) (by omega)), nI_clamp (by omega), b2, show nI a + (1 : Int32) = nI (a + 1) from nI_1 a]
      have hB := b1.2.2
      have cases1 : ∀ x, x < 100 * (a + 1) → ¬ x < 100 * a → x / 100 = a := by intro x y1 y2; omega
      by_cases hb : M / 2 ^ a % 2 = 1
      · rw [if_pos (show nI (M / 2 ^ a % 2) = 1 by rw [hb]; rfl)]
        have upper : ∀ x, x < 100 * (a + 1) → ¬ x < 100 * a → vt c w x → rrx w K s t x ≤ B := by
          intro x y1 y2 hv
          have e := cases1 x y1 y2
          unfold rrx one
          rw [e]
          exact b1.1 (x / 10 % 10) (x % 10) hv.2.1 hv.2.2 (Or.inl hv.2.1)
        by_cases hVB : V < B
        · rw [if_pos (nI_lt hVB (by omega))]
          refine ih (a + 1) B (by omega) (by omega) hB ⟨by have := hX.1; omega, fun x y1 hv hbx => ?_, ?_⟩
          · by_cases y2 : x < 100 * a
            · have := hX.2.1 x y2 hv hbx; omega
            · exact upper x y1 y2 hv
          · right
            rcases b1.2.1 with q | ⟨p', l', q1, q2, q3⟩
            · omega
            · refine ⟨100 * a + 10 * p' + l', vt_x (by omega) q1 hw q2, ?_, ?_⟩
              · rw [show (100 * a + 10 * p' + l') / 100 = a by omega]; exact hb
              · unfold rrx; rw [one_x (by omega) (by omega)]; exact q3
        · rw [if_neg (nI_nlt (by omega) (by omega))]
          refine ih (a + 1) V (by omega) (by omega) hV ⟨hX.1, fun x y1 hv hbx => ?_, hX.2.2⟩
          by_cases y2 : x < 100 * a
          · exact hX.2.1 x y2 hv hbx
          · have := upper x y1 y2 hv; omega
      · rw [if_neg (show ¬ nI (M / 2 ^ a % 2) = 1 from fun z => hb (nI_inj (b := 1) (by omega) (by omega) z))]
        refine ih (a + 1) V (by omega) (by omega) hV ⟨hX.1, fun x y1 hv hbx => ?_, hX.2.2⟩
        by_cases y2 : x < 100 * a
        · exact hX.2.1 x y2 hv hbx
        · rw [cases1 x y1 y2] at hbx; exact absurd hbx hb
theorem mro_eq {f0 : xM} {M : Nat} (hF : 5 < F) (hw : w ≤ 5) (hc : c ≤ 3) (hM : M < 8) (hI : wgI w c s t K f0 f c) : ∃ V, pX2_mostRightOf F f (nI M) = some (nI V) ∧ V ≤ w ∧ isMx c w (rrx w K s t) (rgt w s t) M 300 V := by
  unfold pX2_mostRightOf
  rw [hI.2.2.1]
  exact b7s hw hc hM hI F 0 _ (by omega) (by omega) (rgt_le w s t) ⟨Nat.le_refl _, fun x hx => by omega, Or.inl rfl⟩
theorem b13s {M : Nat} (hF : 5 < F) (h1 : 1 ≤ w) (hw : w ≤ 5) (hc : c ≤ 3) (hM : M < 8) (h4 : h 0 4 = nI w) (h5 : h 0 5 = nI t) (h6 : h 0 6 = nI c) (h70 : h 7 0 = nI s) (ht : t < 4 ^ w) (hs : s < 4 ^ w) (hK : ∀ i, i < c → K i < 4 ∧ h 7 (2 + i) = nI (K i)) : ∀ (n y V : Nat), y ≤ 300 → 300 < y + n → V ≤ w → isMx c w (rrx w K s t) (rgt w s t) M y V → ∃ V', pX12_mostRight_b13 F h n (nI M) (nI V) (nI y) = some (nI V') ∧ V' ≤ w ∧ isMx c w (rrx w K s t) (rgt w s t) M 300 V' := by
  have hbb := p4_le hw
  intro n
  induction n with
  | zero => intro y V z1 z2; omega
  | succ n ih =>
    intro y V z1 z2 hV hX
    rw [pX12_mostRight_b13]
    by_cases hy : 300 ≤ y
    · rw [if_pos (show (300 : Int32) ≤ nI y from nI_le (a := 300) hy (by omega))]
      exact ⟨V, rfl, hV, by rw [show y = 300 by omega] at hX; exact hX⟩
    · rw [if_neg (show ¬ (300 : Int32) ≤ nI y from nI_ge (b := 300) (by omega) (by omega)), dv100 (by omega), has_eq2 (by omega) (by omega), show nI y + (1 : Int32) = nI (y + 1) from nI_1 y]
      have keep : (vt c w y → M / 2 ^ (y / 100) % 2 = 1 → rrx w K s t y ≤ V) → isMx c w (rrx w K s t) (rgt w s t) M (y + 1) V := by
        intro q
        refine ⟨hX.1, fun x y1 hv hb => ?_, hX.2.2⟩
        by_cases u : x = y
        · subst u; exact q hv hb
        · exact hX.2.1 x (by omega) hv hb
      by_cases hv : vt c w y
      · rw [if_pos ((noNotice_eq hc hw h6 h4 (by omega)).mpr hv)]
        by_cases hb : M / 2 ^ (y / 100) % 2 = 1
        · have ho := one_lt (K := K) hw hv hs
          have hle := rgt_le w (one w K y s) t
          rw [if_neg (show ¬ nI (M / 2 ^ (y / 100) % 2) = 0 by rw [hb]; decide), h70, noticed12_eq hF h1 hc hw h4 hK (by omega) hv hs, Option.bind_some, rightOf_eq hF hw h4 h5 (by omega) (by omega), Option.bind_some]
          by_cases hq : rgt w (one w K y s) t ≤ V
          · rw [if_pos (nI_le hq (by omega))]
            exact ih (y + 1) V (by omega) (by omega) hV (keep (fun _ _ => hq))
          · rw [if_neg (nI_ge (by omega) (by omega))]
            refine ih (y + 1) _ (by omega) (by omega) hle ⟨by have := hX.1; omega, fun x y1 hvx hbx => ?_, Or.inr ⟨y, hv, hb, rfl⟩⟩
            by_cases u : x = y
            · subst u; exact Nat.le_refl _
            · have := hX.2.1 x (by omega) hvx hbx; omega
        · have hz : M / 2 ^ (y / 100) % 2 = 0 := by omega
          rw [if_pos (show nI (M / 2 ^ (y / 100) % 2) = 0 by rw [hz]; rfl)]
          exact ih (y + 1) V (by omega) (by omega) hV (keep (fun _ q => absurd q hb))
      · rw [if_neg (fun z => hv ((noNotice_eq hc hw h6 h4 (by omega)).mp z))]
        exact ih (y + 1) V (by omega) (by omega) hV (keep (fun q => absurd q hv))
theorem mr_eq {M : Nat} (hF : 400 < F) (h1 : 1 ≤ w) (hw : w ≤ 5) (hc : c ≤ 3) (hM : M < 8) (h4 : h 0 4 = nI w) (h5 : h 0 5 = nI t) (h6 : h 0 6 = nI c) (h70 : h 7 0 = nI s) (ht : t < 4 ^ w) (hs : s < 4 ^ w) (hK : ∀ i, i < c → K i < 4 ∧ h 7 (2 + i) = nI (K i)) : ∃ V, pX12_mostRight F h (nI M) = some (nI V) ∧ V ≤ w ∧ isMx c w (rrx w K s t) (rgt w s t) M 300 V := by
  have hbb := p4_le hw
  unfold pX12_mostRight
  rw [h70, rightOf_eq (by omega) hw h4 h5 (by omega) (by omega), Option.bind_some]
  exact b13s (by omega) h1 hw hc hM h4 h5 h6 h70 ht hs hK F 0 _ (by omega) (by omega) (rgt_le w s t) ⟨Nat.le_refl _, fun x hx => by omega, Or.inl rfl⟩
def bts (M : Nat) : Nat := M % 2 + M / 2 % 2 + M / 4 % 2
def wtN (c M : Nat) : Nat := if c = 3 then if bts M = 1 then 1 else 2 else 1
theorem bts_dec : ∀ M, M < 8 → bcE (bcD (bcC (bcB (bcA M)))) &&& 63 = bts M := by decide +kernel
theorem bts_bc {M : Nat} (hM : M < 8) : pJ6_bitCount_0f7a4 (nI M) = nI (bts M) := by rw [bitCount_nI M (by omega), bts_dec M hM]
theorem bts_lt : ∀ c, c < 4 → ∀ j, j < c → ∀ M, M < 2 ^ c → M / 2 ^ j % 2 = 0 → bts M < c := by decide +kernel
theorem ord_dec : ∀ n, n < 4 → xordersOf (nI n) = nI (if n = 3 then 6 else if n = 2 then 2 else 1) := by
  intro n hn
  match n, hn with
  | 0, _ => rfl
  | 1, _ => rfl
  | 2, _ => rfl
  | 3, _ => rfl
theorem wt_eq {M : Nat} (h1 : 1 ≤ c) (hc : c ≤ 3) (hb : bts M < c) : xordersOf (nI (bts M)) * xordersOf ((nI c - (1 : Int32)) - nI (bts M)) = nI (wtN c M) := by
  rw [show nI c - (1 : Int32) = nI (c - 1) by have := nI_pred (c - 1); rw [show c - 1 + 1 = c by omega] at this; exact this, pk_sub (show bts M ≤ c - 1 by omega), ord_dec _ (by omega), ord_dec _ (by omega), pk_mul]
  unfold wtN
  congr 1
  generalize bts M = q at hb
  rcases (show c = 1 ∨ c = 2 ∨ c = 3 by omega) with rfl | rfl | rfl
  · have : q = 0 := by omega
    subst this; rfl
  · rcases (show q = 0 ∨ q = 1 by omega) with rfl | rfl <;> rfl
  · rcases (show q = 0 ∨ q = 1 ∨ q = 2 by omega) with rfl | rfl | rfl <;> rfl
theorem b17s {h0 : xM} {v1 v2 : Int32} {V : Nat → Nat} (hF : 400 < F) (h1 : 1 ≤ w) (hw : w ≤ 5) (hc : c ≤ 3) (h4 : h0 0 4 = nI w) (h5 : h0 0 5 = nI t) (h6 : h0 0 6 = nI c) (h70 : h0 7 0 = nI s) (ht : t < 4 ^ w) (hs : s < 4 ^ w) (hK : ∀ i, i < c → K i < 4 ∧ h0 7 (2 + i) = nI (K i)) (hV : ∀ M, M < 2 ^ c → isMx c w (rrx w K s t) (rgt w s t) M 300 (V M)) : ∀ (n M : Nat) (h : xM), (∀ z, z ≠ 13 → h z = h0 z) → (∀ i, i < M → h 13 i = nI (V i)) → M ≤ 2 ^ c → 2 ^ c < M + n → ∃ h', (∀ z, z ≠ 13 → h' z = h0 z) ∧ (∀ i, i < 2 ^ c → h' 13 i = nI (V i)) ∧ pX12_share_b17 F n v1 v2 (nI M) h = pX12_share_b68 F F v1 v2 (0 : Int32) (nI (if c = 3 then 6 else c)) (0 : Int32) h' := by
  have hcc : 2 ^ c ≤ 8 := by
    have : 2 ^ c ≤ 2 ^ 3 := Nat.pow_le_pow_right (by decide) hc
    simpa using this
  intro n
  induction n with
  | zero => intro M h _ _ z1 z2; omega
  | succ n ih =>
    intro M h hz h13 z1 z2
    have e6 : h 0 6 = nI c := by rw [hz 0 (by decide)]; exact h6
    rw [pX12_share_b17, e6, shl1 (show c < 10 by omega)]
    by_cases hM : 2 ^ c ≤ M
    · rw [if_pos (nI_le hM (by omega))]
      refine ⟨h, hz, fun i hi => h13 i (by omega), ?_⟩
      by_cases h3 : c = 3
      · subst h3
        rw [if_pos (show nI 3 = (3 : Int32) from rfl), if_pos rfl]
        rfl
      · rw [if_neg (show ¬ nI c = (3 : Int32) from fun z => h3 (nI_inj (b := 3) (by omega) (by omega) z)), if_neg h3]
    · obtain ⟨V', v1', v2', v3'⟩ := mr_eq (F := F) (h := h) (M := M) (K := K) hF h1 hw hc (by omega) (by rw [hz 0 (by decide)]; exact h4) (by rw [hz 0 (by decide)]; exact h5) e6 (by rw [hz 7 (by decide)]; exact h70) ht hs (by rw [hz 7 (by decide)]; exact hK)
      rw [if_neg (nI_ge (by omega) (by omega)), v1', Option.bind_some, if_pos (xin_of (show M < 8 by omega) (by omega)), nI_clamp (by omega), show nI M + (1 : Int32) = nI (M + 1) from nI_1 M]
      refine ih (M + 1) _ (fun z y => by rw [xu_ne y]; exact hz z y) (fun i hi => ?_) (by omega) (by omega)
      by_cases q : i = M
      · subst q
        rw [xu_same, isMx_one hc v3' (hV i (by omega))]
      · rw [xu_neK q]; exact h13 i (by omega)
theorem or_dec : ∀ c, c < 4 → ∀ j, j < c → ∀ M, M < 2 ^ c → M ||| 2 ^ j < 2 ^ c := by decide +kernel
theorem or_bit : ∀ j, j < 3 → ∀ M, M < 8 → ∀ a, a < 3 → M / 2 ^ a % 2 = 1 → (M ||| 2 ^ j) / 2 ^ a % 2 = 1 := by decide +kernel
theorem cnt_eq {M : Nat} (hM : M < 8) : ((nI M &&& (1 : Int32)) + ((nI M >>> ((1 : Int32) &&& 31)) &&& (1 : Int32))) + ((nI M >>> ((2 : Int32) &&& 31)) &&& (1 : Int32)) = nI (bts M) := by
  have e1 : (nI M >>> ((1 : Int32) &&& 31)) &&& (1 : Int32) = nI (M / 2 % 2) := bit_eq (i := 1) (by omega) (by omega)
  have e2 : (nI M >>> ((2 : Int32) &&& 31)) &&& (1 : Int32) = nI (M / 4 % 2) := bit_eq (i := 2) (by omega) (by omega)
  rw [e1, e2, show (1 : Int32) = nI 1 from rfl, nI_and, Nat.and_one_is_mod, nI_add, nI_add]
  rfl
theorem b68s {f0 : xM} {v2 : Int32} {V : Nat → Nat} {j den : Nat} (hF : 400 < F) (hw : w ≤ 5) (hc : c ≤ 3) (hj : j < c) (hI : wgI w c s t K f0 f c) (h6 : h 0 6 = nI c) (h13 : ∀ i, i < 2 ^ c → h 13 i = nI (V i)) (hV : ∀ M, M < 2 ^ c → V M ≤ w ∧ isMx c w (rrx w K s t) (rgt w s t) M 300 (V M)) : ∀ (n M G : Nat), M ≤ 2 ^ c → 2 ^ c < M + n → G ≤ 10 * M → ∃ G', G' ≤ 80 ∧ pX2_gainInOrders_b4 F f n (nI j) (nI G) (nI M) = some (nI G') ∧ pX12_share_b68 F n (nI j) v2 (nI G) (nI den) (nI M) h = Option.bind (pX12_fraction F (nI G') (nI den) v2) fun q5 => some (q5, h) := by
  have hcc : 2 ^ c ≤ 8 := by
    have : 2 ^ c ≤ 2 ^ 3 := Nat.pow_le_pow_right (by decide) hc
    simpa using this
  have hjj : 2 ^ j < 2 ^ c := Nat.pow_lt_pow_right (by decide) hj
  intro n
  induction n with
  | zero => intro M G z1 z2; omega
  | succ n ih =>
    intro M G z1 z2 hG
    rw [pX2_gainInOrders_b4, pX12_share_b68, hI.2.1, h6, shl1 (show c < 10 by omega)]
    by_cases hM : 2 ^ c ≤ M
    · rw [if_pos (nI_le hM (by omega)), if_pos (nI_le hM (by omega))]
      exact ⟨G, by omega, rfl, rfl⟩
    · rw [if_neg (nI_ge (by omega) (by omega)), if_neg (nI_ge (by omega) (by omega)), bit_eq (by omega) (by omega), has_eq2 (by omega) (by omega), show nI M + (1 : Int32) = nI (M + 1) from nI_1 M]
      by_cases hb : M / 2 ^ j % 2 = 0
      · have hb' : nI (M / 2 ^ j % 2) = (0 : Int32) := by rw [hb]; rfl
        have hor := or_dec c (by omega) j hj M (by omega)
        obtain ⟨V1, a1, a2, a3⟩ := mro_eq (F := F) (M := M ||| 2 ^ j) (by omega) hw hc (by omega) hI
        obtain ⟨V0, c1, c2, c3⟩ := mro_eq (F := F) (M := M) (by omega) hw hc (by omega) hI
        have e1 := isMx_one hc a3 (hV _ hor).2
        have e0 := isMx_one hc c3 (hV M (by omega)).2
        subst e1 e0
        have hbt := bts_lt c (by omega) j hj M (by omega) hb
        have mono : V M ≤ V (M ||| 2 ^ j) := by
          rcases c3.2.2 with q | ⟨x, x1, x2, x3⟩
          · rw [q]; exact a3.1
          · rw [← x3]
            exact a3.2.1 x (vt_300 hc x1) x1 (or_bit j (by omega) M (by omega) (x / 100) (by have := x1.1; omega) x2)
        have hwt : wtN c M ≤ 2 := by unfold wtN; split <;> (try split) <;> omega
        rw [if_pos hb', if_pos hb', shl1 (show j < 10 by omega), nI_or, a1, Option.bind_some, c1, Option.bind_some, bts_bc (by omega), wt_eq (by omega) hc hbt, pk_sub mono, pk_mul, nI_add, cnt_eq (by omega)]
        have step : ∀ s0 : Int32, s0 = nI (wtN c M) → pX12_share_b127 F (pX12_share_b68 F n) (nI j) v2 (nI G) (nI den) (nI M) s0 h = pX12_share_b68 F n (nI j) v2 (nI (G + wtN c M * (V (M ||| 2 ^ j) - V M))) (nI den) (nI (M + 1)) h := by
          intro s0 hs0
          rw [pX12_share_b127, shl1 (show j < 10 by omega), nI_or, if_pos (xin_of (show M ||| 2 ^ j < 8 by omega) (by omega)), if_pos (xin_of (show M < 8 by omega) (by omega)), nI_clamp (show M ||| 2 ^ j < 2 ^ 31 by omega), nI_clamp (show M < 2 ^ 31 by omega), h13 _ hor, h13 M (by omega), hs0, pk_sub mono, pk_mul, nI_add, show nI M + (1 : Int32) = nI (M + 1) from nI_1 M]
        have hG2 : G + wtN c M * (V (M ||| 2 ^ j) - V M) ≤ 10 * (M + 1) := by
          have := Nat.mul_le_mul hwt (show V (M ||| 2 ^ j) - V M ≤ 5 by omega)
          omega
        obtain ⟨G', g1, g2, g3⟩ := ih (M + 1) _ (by omega) (by omega) hG2
        refine ⟨G', g1, g2, ?_⟩
        rw [← g3, pX12_share_b126]
        by_cases h3 : c = 3
        · rw [if_pos (show nI c = (3 : Int32) by rw [h3]; rfl)]
          by_cases hq : bts M = 1
          · rw [if_pos (show nI (bts M) = (1 : Int32) by rw [hq]; rfl)]
            exact step 1 (by unfold wtN; rw [if_pos h3, if_pos hq]; rfl)
          · rw [if_neg (show ¬ nI (bts M) = (1 : Int32) from fun z => hq (nI_inj (b := 1) (by omega) (by omega) z))]
            exact step 2 (by unfold wtN; rw [if_pos h3, if_neg hq]; rfl)
        · rw [if_neg (show ¬ nI c = (3 : Int32) from fun z => h3 (nI_inj (b := 3) (by omega) (by omega) z))]
          exact step 1 (by unfold wtN; rw [if_neg h3]; rfl)
      · have hb' : ¬ nI (M / 2 ^ j % 2) = (0 : Int32) := nI_ne0 (by omega) (by omega)
        rw [if_neg hb', if_neg hb']
        exact ih (M + 1) G (by omega) (by omega) (by omega)
end sh
theorem okC_sh {f f' : xM} (h : ∀ x, x ≠ 9 → x ≠ 27 → f' x = f x) : okC f f' := by
  refine ⟨?_, ?_, ?_, ?_, ?_, ?_, ?_, ?_, ?_, ?_, ?_⟩ <;> (rw [h _ (by decide) (by decide)])
theorem okM_13 {h h' : xM} (a : ∀ z, z ≠ 13 → h' z = h z) : okM h h' := by
  refine ⟨?_, ?_, ?_, ?_, ?_, ?_, ?_, ?_, ?_, ?_, ?_, ?_, ?_⟩ <;> (rw [a _ (by decide)])
theorem e_share {n : Nat} {f : xM} {g : xN} {h : xM} {k : xN} (hn : n ≤ 100) (hR : Rel n f g h k) (v1 : Int32) (v2 : Int32) : ∃ (F : Nat) (a : Int32 × xM) (b : Int32 × xM), pX11_share F v1 v2 f = some a ∧ pX12_share F v1 v2 h = some b ∧ a.1 = b.1 ∧ Rel (n + 1) a.2 g b.2 k := by
  obtain ⟨w, c, r, t, hW⟩ := Rel_open hR
  have hR2 := hW.rel
  generalize hh : xu h 0 0 (0 : Int32) = h2 at hW hR2
  obtain ⟨p1, p2, p3, p4, p5, p6, p7, p8, p9, p10, p11, p12, p13⟩ := RelW_P hW
  have hb := p4_le p2
  obtain ⟨K, hK⟩ := kinds_of (RelW_pg hW)
  obtain ⟨sd, hsd, u1, u2⟩ := (RelW_pg hW).1
  have hcc : 2 ^ c ≤ 8 := by
    have : 2 ^ c ≤ 2 ^ 3 := Nat.pow_le_pow_right (by decide) p3
    simpa using this
  refine ⟨500, ?_⟩
  unfold pX11_share pX12_share
  rw [hh]
  by_cases c1 : isN v1 c
  · rw [if_neg (fun z => (hasC p3 p10).mp z c1), if_pos ((noC p3 p11).mpr c1)]
    obtain ⟨j, hj, rfl⟩ := c1
    have w0 : ∃ f', pX2_weighCompositors 500 f = some f' ∧ wgI w c sd t K f f' c := by
      unfold pX2_weighCompositors
      have e1 : (if (3 : Int32) < f 2 4 then (3 : Int32) else f 2 4) = nI c := by rw [p10, if_neg (show ¬ (3 : Int32) < nI c from nI_nlt (a := 3) (by omega) (by omega))]
      rw [e1]
      have ez : ∀ z, z ≠ 9 → xu f 9 1 (nI c) z = f z := fun z hz => xu_ne hz
      rw [show pX9_said (xu f 9 1 (nI c)) = nI sd by unfold pX9_said; rw [ez 19 (by decide)]; exact u1, rightOf6_eq p1 p2 (by rw [ez 10 (by decide)]; exact p6) (by rw [ez 2 (by decide)]; exact p8) hsd p5]
      exact b29s (F := 500) (f0 := f) (by omega) p1 p2 p3 p6 p8 p5 hsd u1 (fun i hi => ⟨(hK i hi).1, (hK i hi).2.1⟩) 500 0 _ ⟨fun z y1 y2 => by rw [xu_ne y1, xu_ne y1], by rw [xu_neK (by decide), xu_same], xu_same, fun i hi => by omega⟩ (by omega) (by omega)
    obtain ⟨f', w1, w2⟩ := w0
    have hVx : ∃ V : Nat → Nat, ∀ M, M < 2 ^ c → V M ≤ w ∧ isMx c w (rrx w K sd t) (rgt w sd t) M 300 (V M) := by
      have q := fun (M : Nat) (hM : M < 2 ^ c) => mro_eq (F := 500) (M := M) (by omega) p2 p3 (by omega) w2
      refine ⟨fun M => if hM : M < 2 ^ c then (q M hM).choose else 0, fun M hM => ?_⟩
      simp only [dif_pos hM]
      exact (q M hM).choose_spec.2
    obtain ⟨V, hV⟩ := hVx
    obtain ⟨h', l1, l2, l3⟩ := b17s (F := 500) (h0 := h2) (v1 := nI j) (v2 := v2) (V := V) (K := K) (by omega) p1 p2 p3 p7 p9 p11 u2 p5 hsd (fun i hi => ⟨(hK i hi).1, (hK i hi).2.2⟩) (fun M hM => (hV M hM).2) 500 0 h2 (fun _ _ => rfl) (fun i hi => by omega) (Nat.zero_le _) (by omega)
    have l3' : pX12_share_b17 500 500 (nI j) v2 (0 : Int32) h2 = _ := l3
    obtain ⟨G, g1, g2, g3⟩ := b68s (F := 500) (h := h') (v2 := v2) (V := V) (j := j) (den := if c = 3 then 6 else c) (by omega) p2 p3 hj w2 (by rw [l1 0 (by decide)]; exact p11) l2 hV 500 0 0 (Nat.zero_le _) (by omega) (by omega)
    have g2' : pX2_gainInOrders 500 f' (nI j) = some (nI G) := g2
    have g3' : pX12_share_b68 500 500 (nI j) v2 (0 : Int32) (nI (if c = 3 then 6 else c)) (0 : Int32) h' = _ := g3
    have hden : 0 < (if c = 3 then 6 else c) ∧ (if c = 3 then 6 else c) < 2 ^ 14 := by split <;> omega
    have eo : pX2_orders f' = nI (if c = 3 then 6 else c) := by
      unfold pX2_orders
      rw [w2.2.1, ord_dec c (by omega)]
      congr 1
      split
      · rfl
      · split <;> omega
    obtain ⟨q, q1, q2⟩ := frac_eq (F := 500) (a := G) (b := if c = 3 then 6 else c) (v := v2) (by omega) (by omega) hden.2 hden.1
    rw [w1, Option.bind_some, g2', Option.bind_some, eo, q1, l3', g3', q2]
    exact ⟨_, _, rfl, rfl, rfl, Rel_ok hR2 (Nat.le_refl _) (okC_sh w2.1) (okM_13 l1) (RelW_g hW)⟩
  · rw [if_pos ((hasC p3 p10).mpr c1), if_neg (fun z => c1 ((noC p3 p11).mp z))]
    exact ⟨_, _, rfl, rfl, rfl, hR2⟩
