/-! ===== the text: one byte on each side ===== -/
theorem nI_lit {b m : Nat} (hb : b < 2 ^ 31) (hm : m < 2 ^ 31) : (nI b = nI m) = (b = m) := nI_is hb hm
theorem sub_neg {b m : Nat} (hb : b < m) (hm : m < 2 ^ 30) : nI b - nI m < 0 := pk_sneg hm hb
theorem isN_sub {b m k : Nat} (hb : b < 256) (hm : m < 256) (hk : k < 2 ^ 31) : isN (nI b - nI m) k ↔ m ≤ b ∧ b - m < k := by
  by_cases h : m ≤ b
  · rw [pk_sub h, isN_nI (by omega) hk]
    exact ⟨fun q => ⟨h, q⟩, fun q => q.2⟩
  · constructor
    · rintro ⟨j, hj, e⟩
      exact absurd (sub_neg (show b < m by omega) (by omega)) (by rw [e]; exact nI_pos (by omega))
    · intro q; omega
abbrev Ltr (b : Nat) : Prop := 97 ≤ b ∧ b ≤ 100
section tx
variable {f h : xM} {b : Nat}
theorem isL_eq (hb : b < 256) : pX10_isLetter (nI b) = if Ltr b then 1 else 0 := by
  unfold pX10_isLetter Ltr
  by_cases h1 : b < 97
  · rw [if_pos (show nI b < (97 : Int32) from nI_lt (b := 97) h1 (by omega)), if_neg (by omega)]
  · rw [if_neg (show ¬ nI b < (97 : Int32) from nI_nlt (b := 97) (by omega) (by omega))]
    by_cases h2 : 100 < b
    · rw [if_pos (show (100 : Int32) < nI b from nI_lt (a := 100) h2 (by omega)), if_neg (by omega)]
    · rw [if_neg (show ¬ (100 : Int32) < nI b from nI_nlt (a := 100) (by omega) (by omega)), if_pos (by omega)]
theorem xz1 : xz 1 := by unfold xz; decide
theorem xz0 : xz 0 := by unfold xz; decide
theorem xzb {P : Prop} [Decidable P] : xz (if P then 1 else 0) := by split; exact xz1; exact xz0
theorem acc0 (hb : b < 256) (e : f 1 11 = 0) : pX10_accepts (nI b) f = some (if b = 69 then 1 else 0, xu f 1 11 1) := by
  unfold pX10_accepts pX10_acceptsE
  rw [if_pos e]
  by_cases h : b = 69
  · rw [if_pos (show nI b = 69 by rw [h]; rfl), if_pos h, if_pos xz1]
  · rw [if_neg (show ¬ nI b = 69 from fun z => h (nI_inj (b := 69) (by omega) (by omega) z)), if_neg h, if_pos xz0]
theorem acc1s {L : Nat} (hL : L ≤ 5) (e : f 1 11 = 1) (e7 : f 1 7 = nI L) : pX10_accepts (nI 47) f = some (if L = 0 then 0 else 1, xu f 1 11 2) := by
  unfold pX10_accepts pX10_acceptsTruth
  rw [if_neg (by rw [e]; decide), if_pos e, if_pos (show nI 47 = 47 from rfl), show xu f 1 11 (2 : Int32) 1 7 = nI L by rw [xu_neK (by decide)]; exact e7]
  by_cases h : L = 0
  · rw [if_pos (show nI L ≤ 0 by rw [h]; decide), if_pos h, if_pos xz0]
  · rw [if_neg (nI_nle (by omega) (by omega)), if_neg h, if_pos xz1]
theorem acc1l {L T : Nat} (hb : b < 256) (hL : L ≤ 5) (e : f 1 11 = 1) (e7 : f 1 7 = nI L) (e9 : f 1 9 = nI T) (h47 : b ≠ 47) : pX10_accepts (nI b) f = some (if Ltr b ∧ L < 5 then 1 else 0, xu (xu f 1 9 ((nI T * (4 : Int32)) + (nI b - (97 : Int32)))) 1 7 (nI (L + 1))) := by
  unfold pX10_accepts pX10_acceptsTruth
  rw [if_neg (show ¬ f 1 11 = 0 by rw [e]; decide), if_pos e, if_neg (show ¬ nI b = 47 from fun z => h47 (nI_inj (b := 47) (by omega) (by omega) z)), e9, show xu f 1 9 ((nI T * (4 : Int32)) + (nI b - (97 : Int32))) 1 7 = nI L by rw [xu_neK (by decide)]; exact e7, show nI L + (1 : Int32) = nI (L + 1) from nI_1 L, isL_eq hb, xu_same]
  by_cases h : Ltr b
  · rw [if_pos h, if_neg (show ¬ (1 : Int32) = 0 by decide)]
    by_cases h2 : L < 5
    · rw [if_neg (show ¬ (5 : Int32) < nI (L + 1) from nI_nlt (a := 5) (by omega) (by omega)), if_pos xz1, if_pos (show Ltr b ∧ L < 5 from ⟨h, h2⟩)]
    · rw [if_pos (show (5 : Int32) < nI (L + 1) from nI_lt (a := 5) (by omega) (by omega)), if_pos xz0, if_neg (show ¬ (Ltr b ∧ L < 5) from fun q => h2 q.2)]
  · rw [if_neg h, if_pos rfl, if_pos xz0, if_neg (show ¬ (Ltr b ∧ L < 5) from fun q => h q.1)]
theorem acc2 {w j S : Nat} (hb : b < 256) (hw : w ≤ 5) (hj : j < w) (e : f 1 11 = 2) (e7 : f 1 7 = nI w) (e8 : f 1 8 = nI j) (e10 : f 1 10 = nI S) : pX10_accepts (nI b) f = some (if Ltr b then 1 else 0, if j + 1 = w then xu (xu (xu f 1 10 ((nI S * (4 : Int32)) + (nI b - (97 : Int32)))) 1 8 (nI (j + 1))) 1 11 3 else xu (xu f 1 10 ((nI S * (4 : Int32)) + (nI b - (97 : Int32)))) 1 8 (nI (j + 1))) := by
  unfold pX10_accepts pX10_acceptsSaid
  rw [if_neg (show ¬ f 1 11 = 0 by rw [e]; decide), if_neg (show ¬ f 1 11 = 1 by rw [e]; decide), if_pos e, e10, show xu f 1 10 ((nI S * (4 : Int32)) + (nI b - (97 : Int32))) 1 8 = nI j by rw [xu_neK (by decide)]; exact e8, show nI j + (1 : Int32) = nI (j + 1) from nI_1 j, isL_eq hb, xu_same, show xu (xu f 1 10 ((nI S * (4 : Int32)) + (nI b - (97 : Int32)))) 1 8 (nI (j + 1)) 1 7 = nI w by rw [xu_neK (by decide), xu_neK (by decide)]; exact e7, if_pos xzb]
  by_cases h : j + 1 = w
  · rw [if_pos (show nI (j + 1) = nI w by rw [h]), if_pos h, Option.bind_some, if_pos xzb]
  · rw [if_neg (fun z => h (nI_inj (by omega) (by omega) z)), if_neg h, if_pos xzb, Option.bind_some, if_pos xzb]
theorem acc3c {c : Nat} (hc : c ≤ 3) (e : f 1 11 = 3) (e5 : f 1 5 = nI c) : pX10_accepts (nI 67) f = some (if c < 3 then 1 else 0, xu f 1 11 4) := by
  unfold pX10_accepts pX10_acceptsPart
  rw [if_neg (show ¬ f 1 11 = 0 by rw [e]; decide), if_neg (show ¬ f 1 11 = 1 by rw [e]; decide), if_neg (show ¬ f 1 11 = 2 by rw [e]; decide), if_pos e, if_pos (show nI 67 = 67 from rfl), show xu f 1 11 (4 : Int32) 1 5 = nI c by rw [xu_neK (by decide)]; exact e5]
  by_cases h : c < 3
  · rw [if_neg (show ¬ (3 : Int32) ≤ nI c from nI_ge (b := 3) h (by omega)), if_pos h, if_pos xz1]
  · rw [if_pos (show (3 : Int32) ≤ nI c from nI_le (a := 3) (by omega) (by omega)), if_neg h, if_pos xz0]
theorem acc3r {r : Nat} (hr : r ≤ 4) (e : f 1 11 = 3) (e6 : f 1 6 = nI r) : pX10_accepts (nI 82) f = some (if r < 4 then 1 else 0, xu f 1 11 5) := by
  unfold pX10_accepts pX10_acceptsPart
  rw [if_neg (show ¬ f 1 11 = 0 by rw [e]; decide), if_neg (show ¬ f 1 11 = 1 by rw [e]; decide), if_neg (show ¬ f 1 11 = 2 by rw [e]; decide), if_pos e, if_neg (show ¬ nI 82 = 67 by decide), if_pos (show nI 82 = 82 from rfl), show xu f 1 11 (5 : Int32) 1 6 = nI r by rw [xu_neK (by decide)]; exact e6]
  by_cases h : r < 4
  · rw [if_neg (show ¬ (4 : Int32) ≤ nI r from nI_ge (b := 4) h (by omega)), if_pos h, if_pos xz1]
  · rw [if_pos (show (4 : Int32) ≤ nI r from nI_le (a := 4) (by omega) (by omega)), if_neg h, if_pos xz0]
theorem acc3o (hb : b < 256) (e : f 1 11 = 3) (h1 : b ≠ 67) (h2 : b ≠ 82) : pX10_accepts (nI b) f = some (0, xu f 1 11 5) := by
  unfold pX10_accepts pX10_acceptsPart
  rw [if_neg (show ¬ f 1 11 = 0 by rw [e]; decide), if_neg (show ¬ f 1 11 = 1 by rw [e]; decide), if_neg (show ¬ f 1 11 = 2 by rw [e]; decide), if_pos e, if_neg (show ¬ nI b = 67 from fun z => h1 (nI_inj (b := 67) (by omega) (by omega) z)), if_neg (show ¬ nI b = 82 from fun z => h2 (nI_inj (b := 82) (by omega) (by omega) z)), if_pos xz0]
theorem acc4 {c : Nat} (hb : b < 256) (hc : c < 3) (e : f 1 11 = 4) (e5 : f 1 5 = nI c) : pX10_accepts (nI b) f = if 48 ≤ b ∧ b - 48 < 4 then some (1, xu (xu (xu f 14 c (nI (b - 48))) 1 5 (nI (c + 1))) 1 11 3) else some (0, f) := by
  unfold pX10_accepts pX10_acceptsKind
  rw [if_neg (show ¬ f 1 11 = 0 by rw [e]; decide), if_neg (show ¬ f 1 11 = 1 by rw [e]; decide), if_neg (show ¬ f 1 11 = 2 by rw [e]; decide), if_neg (show ¬ f 1 11 = 3 by rw [e]; decide), if_pos e, e5, show (48 : Int32) = nI 48 from rfl]
  by_cases h1 : b < 48
  · rw [if_pos (sub_neg h1 (by omega)), if_neg (by omega), Option.bind_some, if_pos xz0]
  · rw [pk_sub (show 48 ≤ b by omega), if_neg (nI_pos (by omega))]
    by_cases h2 : b - 48 < 4
    · rw [if_neg (show ¬ (4 : Int32) ≤ nI (b - 48) from nI_ge (b := 4) h2 (by omega)), if_neg (nI_pos (by omega)), if_pos (show nI c < (3 : Int32) from nI_lt (b := 3) hc (by omega)), if_pos (xin_of hc (by omega)), nI_clamp (by omega), show xu f 14 c (nI (b - 48)) 1 5 = nI c by rw [xu_ne (by decide)]; exact e5, show nI c + (1 : Int32) = nI (c + 1) from nI_1 c, if_pos ⟨by omega, h2⟩, Option.bind_some, if_pos xz1]
    · rw [if_pos (show (4 : Int32) ≤ nI (b - 48) from nI_le (a := 4) (by omega) (by omega)), if_neg (fun q => h2 q.2), Option.bind_some, if_pos xz0]
theorem acc5 {r : Nat} (hb : b < 256) (hr : r < 4) (e : f 1 11 = 5) (e6 : f 1 6 = nI r) : pX10_accepts (nI b) f = if 49 ≤ b ∧ b ≤ 52 then some (1, xu (xu f 15 r (nI (b - 48))) 1 11 6) else some (0, f) := by
  unfold pX10_accepts pX10_acceptsPeriod
  rw [if_neg (show ¬ f 1 11 = 0 by rw [e]; decide), if_neg (show ¬ f 1 11 = 1 by rw [e]; decide), if_neg (show ¬ f 1 11 = 2 by rw [e]; decide), if_neg (show ¬ f 1 11 = 3 by rw [e]; decide), if_neg (show ¬ f 1 11 = 4 by rw [e]; decide), if_pos e, e6, show (48 : Int32) = nI 48 from rfl]
  by_cases h1 : b < 48
  · have hn := sub_neg h1 (by omega)
    rw [if_pos (show nI b - nI 48 < (1 : Int32) by rw [Int32.lt_iff_toInt_lt] at hn ⊢; have e0 : (0 : Int32).toInt = 0 := rfl; have e1 : (1 : Int32).toInt = 1 := rfl; omega), if_neg (by omega), Option.bind_some, if_pos xz0]
  · rw [pk_sub (show 48 ≤ b by omega)]
    by_cases h2 : b < 49
    · rw [if_pos (show nI (b - 48) < (1 : Int32) from nI_lt (b := 1) (by omega) (by omega)), if_neg (by omega), Option.bind_some, if_pos xz0]
    · rw [if_neg (show ¬ nI (b - 48) < (1 : Int32) from nI_nlt (b := 1) (by omega) (by omega))]
      by_cases h3 : b ≤ 52
      · rw [if_neg (show ¬ (4 : Int32) < nI (b - 48) from nI_nlt (a := 4) (by omega) (by omega)), if_neg (nI_pos (by omega)), if_pos (show nI r < (4 : Int32) from nI_lt (b := 4) hr (by omega)), if_pos (xin_of hr (by omega)), nI_clamp (by omega), if_pos ⟨by omega, h3⟩, Option.bind_some, if_pos xz1]
      · rw [if_pos (show (4 : Int32) < nI (b - 48) from nI_lt (a := 4) (by omega) (by omega)), if_neg (by omega), Option.bind_some, if_pos xz0]
theorem acc6 {r pe : Nat} (hb : b < 256) (hr : r < 4) (hpe : pe ≤ 4) (e : f 1 11 = 6) (e6 : f 1 6 = nI r) (e15 : f 15 r = nI pe) : pX10_accepts (nI b) f = if 48 ≤ b ∧ b - 48 < pe then some (1, xu (xu (xu f 16 r (nI (b - 48))) 1 6 (nI (r + 1))) 1 11 3) else some (0, f) := by
  unfold pX10_accepts pX10_acceptsLeft
  rw [if_neg (show ¬ f 1 11 = 0 by rw [e]; decide), if_neg (show ¬ f 1 11 = 1 by rw [e]; decide), if_neg (show ¬ f 1 11 = 2 by rw [e]; decide), if_neg (show ¬ f 1 11 = 3 by rw [e]; decide), if_neg (show ¬ f 1 11 = 4 by rw [e]; decide), if_neg (show ¬ f 1 11 = 5 by rw [e]; decide), e6, if_neg (nI_pos (by omega)), if_neg (show ¬ (4 : Int32) ≤ nI r from nI_ge (b := 4) hr (by omega)), if_pos (show nI r < (4 : Int32) from nI_lt (b := 4) hr (by omega)), if_pos (xin_of hr (by omega)), if_pos (xin_of hr (by omega)), nI_clamp (by omega), e15, show (48 : Int32) = nI 48 from rfl]
  by_cases h1 : b < 48
  · rw [if_pos (sub_neg h1 (by omega)), if_neg (by omega), Option.bind_some, if_pos xz0]
  · rw [pk_sub (show 48 ≤ b by omega), if_neg (nI_pos (by omega))]
    by_cases h2 : b - 48 < pe
    · rw [if_pos (nI_lt h2 (by omega)), show xu f 16 r (nI (b - 48)) 1 6 = nI r by rw [xu_ne (by decide)]; exact e6, show nI r + (1 : Int32) = nI (r + 1) from nI_1 r, if_pos ⟨by omega, h2⟩, Option.bind_some, if_pos xz1]
    · rw [if_neg (nI_nlt (by omega) (by omega)), if_neg (fun q => h2 q.2), Option.bind_some, if_pos xz0]
/-! the reference -/
variable {tl i : Nat} {tx : Nat → Nat}
theorem isLetM (hl : tl ≤ 40) (hx : ∀ j, j < tl → tx j < 256 ∧ h 1 j = nI (tx j)) (h2 : h 0 2 = nI tl) (h3 : h 0 3 = nI i) (hi : i ≤ tl) : pX12_isLetter h = some (if i < tl ∧ Ltr (tx i) then 1 else 0) := by
  unfold pX12_isLetter
  rw [h2, h3]
  by_cases hj : tl ≤ i
  · rw [if_pos (nI_le hj (by omega)), if_neg (fun q => by omega)]
  · obtain ⟨x1, x2⟩ := hx i (by omega)
    rw [if_neg (nI_ge (by omega) (by omega)), if_pos (xin_of (show i < 40 by omega) (by omega)), nI_clamp (by omega), x2, show (97 : Int32) = nI 97 from rfl]
    have key := in0_eq (v := nI (tx i) - nI 97) (m := 3) (by omega) (c := 3) rfl
    rw [isN_sub x1 (by omega) (by omega)] at key
    by_cases q : Ltr (tx i)
    · rw [if_neg (fun z => key.mp z ⟨q.1, by have := q.2; omega⟩), if_pos ⟨by omega, q⟩]
    · rw [if_pos (key.mpr (fun z => q ⟨z.1, by omega⟩)), if_neg (fun z => q z.2)]
theorem figM {v1 v2 : Int32} (hl : tl ≤ 40) (hx : ∀ j, j < tl → tx j < 256 ∧ h 1 j = nI (tx j)) (h2 : h 0 2 = nI tl) (h3 : h 0 3 = nI i) (hi : i ≤ tl) (P : Prop) (hP : i < tl → (pX12_in (nI (tx i) - nI 48).toInt64 v1.toInt64 v2.toInt64 = 0 ↔ ¬ P)) : (i < tl ∧ P ∧ pX12_figure v1 v2 h = some (nI (tx i) - nI 48, xu h 0 3 (nI (i + 1)))) ∨ (¬ (i < tl ∧ P) ∧ pX12_figure v1 v2 h = some (-9, h)) := by
  unfold pX12_figure
  rw [h2, h3]
  by_cases hj : i = tl
  · right
    exact ⟨by omega, by rw [if_pos (by rw [hj])]⟩
  · obtain ⟨x1, x2⟩ := hx i (by omega)
    have hP := hP (by omega)
    rw [if_neg (fun z => hj (nI_inj (by omega) (by omega) z)), if_pos (xin_of (show i < 40 by omega) (by omega)), nI_clamp (by omega), x2, show nI i + (1 : Int32) = nI (i + 1) from nI_1 i, xu_same, show nI (i + 1) - (1 : Int32) = nI i from nI_pred i, if_pos (xin_of (show i < 40 by omega) (by omega)), nI_clamp (by omega), xu_ne (show (1 : Nat) ≠ 0 by decide), x2]
    by_cases q : pX12_in (nI (tx i) - nI 48).toInt64 v1.toInt64 v2.toInt64 = 0
    · right
      exact ⟨fun z => hP.mp q z.2, by rw [if_pos (show pX12_in (nI (tx i) - (48 : Int32)).toInt64 v1.toInt64 v2.toInt64 = 0 from q)]⟩
    · left
      refine ⟨by omega, ?_, by rw [if_neg (show ¬ pX12_in (nI (tx i) - (48 : Int32)).toInt64 v1.toInt64 v2.toInt64 = 0 from q)]; rfl⟩
      by_cases z : P
      · exact z
      · exact absurd (hP.mpr z) q
theorem fig0 {x : Nat} (hx : x < 256) : pX12_in (nI x - nI 48).toInt64 (0 : Int32).toInt64 (3 : Int32).toInt64 = 0 ↔ ¬ (48 ≤ x ∧ x - 48 < 4) := by
  rw [← isN_sub hx (by omega) (by omega)]
  exact in0_eq (m := 3) (by omega) rfl
theorem fig1 {x : Nat} (hx : x < 256) : pX12_in (nI x - nI 48).toInt64 (1 : Int32).toInt64 (4 : Int32).toInt64 = 0 ↔ ¬ (49 ≤ x ∧ x ≤ 52) := by
  have key := in15 (nI x - nI 48) 4 (by omega) 4 rfl
  rw [show (1 : Int32).toInt64 = 1 from rfl, show (4 : Int32).toInt64 = 4 from rfl, key]
  apply not_congr
  constructor
  · rintro ⟨N, n1, n2, e⟩
    have := (isN_sub hx (show 48 < 256 by omega) (show 5 < 2 ^ 31 by omega)).mp ⟨N, by omega, e⟩
    rw [pk_sub this.1] at e
    have := nI_inj (by omega) (by omega) e
    omega
  · intro q
    exact ⟨x - 48, by omega, by omega, pk_sub (by omega)⟩
theorem fig2 {x pe : Nat} (hx : x < 256) (hpe : pe ≤ 4) : pX12_in (nI x - nI 48).toInt64 (0 : Int32).toInt64 (nI pe - (1 : Int32)).toInt64 = 0 ↔ ¬ (48 ≤ x ∧ x - 48 < pe) := by
  rw [← isN_sub hx (by omega) (by omega)]
  exact in1_eq (c := pe) (by omega) rfl
end tx
