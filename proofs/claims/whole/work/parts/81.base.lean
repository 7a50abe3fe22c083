/-! ===== plain facts ===== -/
theorem lit32 (n : Nat) : (OfNat.ofNat n : Int32) = nI n := rfl
theorem xin_nI {k n : Nat} (hk : k < 2 ^ 31) : xin (nI k) n ↔ k < n := by
  show ¬ (nI k < 0 ∨ n ≤ (nI k).toNatClampNeg) ↔ k < n
  rw [nI_clamp hk]
  have := nI_pos hk
  constructor
  · intro h
    rcases Nat.lt_or_ge k n with q | q
    · exact q
    · exact absurd (Or.inr q) h
  · intro h q
    rcases q with q | q
    · exact this q
    · omega
theorem xin_of {k n : Nat} (h : k < n) (hn : n < 2 ^ 31) : xin (nI k) n := (xin_nI (by omega)).mpr h
theorem nI_inj {a b : Nat} (ha : a < 2 ^ 31) (hb : b < 2 ^ 31) (h : nI a = nI b) : a = b := (nI_eq ha hb).mp h
theorem nI_cases (v : Int32) : v < 0 ∨ ∃ j : Nat, j < 2 ^ 31 ∧ v = nI j := by
  by_cases h : v < 0
  · exact Or.inl h
  · exact Or.inr (nI_of h)
/-- an int is a number below c, or isn't -/
def isN (v : Int32) (c : Nat) : Prop := ∃ j : Nat, j < c ∧ v = nI j
theorem isN_iff {v : Int32} {c : Nat} (hc : c < 2 ^ 31) : isN v c ↔ ¬ v < 0 ∧ v < nI c := by
  constructor
  · rintro ⟨j, hj, rfl⟩
    exact ⟨nI_pos (by omega), nI_lt hj hc⟩
  · rintro ⟨h1, h2⟩
    obtain ⟨j, hj, rfl⟩ := nI_of h1
    exact ⟨j, (nI_ltI hj hc).mp h2, rfl⟩
theorem tri64 (x y : Int64) : (x < y ∧ ¬ y < x ∧ ¬ x = y) ∨ (x = y ∧ ¬ x < y ∧ ¬ y < x) ∨ (y < x ∧ ¬ x < y ∧ ¬ x = y) := by
  rw [Int64.lt_iff_toInt_lt, Int64.lt_iff_toInt_lt, ← Int64.toInt_inj]; omega
theorem cmp_lt {x y : Int64} : lg_cmp x y < 0 ↔ x < y := by
  unfold lg_cmp
  rcases tri64 x y with ⟨h1, h2, h3⟩ | ⟨h1, h2, h3⟩ | ⟨h1, h2, h3⟩
  · rw [if_neg h2, if_neg h3]; exact ⟨fun _ => h1, fun _ => by decide⟩
  · rw [if_neg h3, if_pos h1]; exact ⟨fun q => absurd q (by decide), fun q => absurd q h2⟩
  · rw [if_pos h1]; exact ⟨fun q => absurd q (by decide), fun q => absurd q h2⟩
theorem cmp_gt {x y : Int64} : 0 < lg_cmp x y ↔ y < x := by
  unfold lg_cmp
  rcases tri64 x y with ⟨h1, h2, h3⟩ | ⟨h1, h2, h3⟩ | ⟨h1, h2, h3⟩
  · rw [if_neg h2, if_neg h3]; exact ⟨fun q => absurd q (by decide), fun q => absurd q h2⟩
  · rw [if_neg h3, if_pos h1]; exact ⟨fun q => absurd q (by decide), fun q => absurd q h3⟩
  · rw [if_pos h1]; exact ⟨fun _ => h1, fun _ => by decide⟩
theorem in_eq (a b c : Int64) : pX12_in a b c = if b ≤ a ∧ a ≤ c then 1 else 0 := by
  unfold pX12_in
  by_cases h1 : a < b
  · rw [if_pos (cmp_lt.mpr h1), if_neg]
    intro q; have := q.1; rw [Int64.lt_iff_toInt_lt] at h1; rw [Int64.le_iff_toInt_le] at this; omega
  · rw [if_neg (fun q => h1 (cmp_lt.mp q))]
    by_cases h2 : c < a
    · rw [if_pos (cmp_gt.mpr h2), if_neg]
      intro q; have := q.2; rw [Int64.lt_iff_toInt_lt] at h2; rw [Int64.le_iff_toInt_le] at this; omega
    · rw [if_neg (fun q => h2 (cmp_gt.mp q)), if_pos]
      rw [Int64.lt_iff_toInt_lt] at h1 h2; rw [Int64.le_iff_toInt_le, Int64.le_iff_toInt_le]; omega
/-- 'in' over an int and a range from 0 to m -/
theorem in0_eq {v : Int32} {m : Nat} (hm : m < 2 ^ 31) {c : Int64} (hc : c.toInt = m) : pX12_in v.toInt64 0 c = 0 ↔ ¬ isN v (m + 1) := by
  rw [in_eq]
  have e : ((0 : Int64) ≤ v.toInt64 ∧ v.toInt64 ≤ c) ↔ isN v (m + 1) := by
    rw [Int64.le_iff_toInt_le, Int64.le_iff_toInt_le, Int32.toInt_toInt64, hc, show (0 : Int64).toInt = 0 from rfl]
    constructor
    · rintro ⟨h1, h2⟩
      refine ⟨v.toInt.toNat, by omega, ?_⟩
      rw [← Int32.toInt_inj, nI_toInt (by omega)]
      omega
    · rintro ⟨j, hj, rfl⟩
      rw [nI_toInt (by omega)]
      omega
  by_cases h : (0 : Int64) ≤ v.toInt64 ∧ v.toInt64 ≤ c
  · rw [if_pos h]; exact ⟨fun q => absurd q (by decide), fun q => absurd (e.mp h) q⟩
  · rw [if_neg h]; exact ⟨fun _ q => h (e.mpr q), fun _ => rfl⟩
theorem in1_eq {v : Int32} {c : Nat} (hc : c < 2 ^ 30) {x : Int32} (hx : x = nI c) : pX12_in v.toInt64 0 (x - (1 : Int32)).toInt64 = 0 ↔ ¬ isN v c := by
  subst hx
  cases c with
  | zero =>
    rw [in_eq, if_neg]
    · exact ⟨fun _ => by rintro ⟨j, hj, _⟩; omega, fun _ => rfl⟩
    · rintro ⟨h1, h2⟩
      rw [Int64.le_iff_toInt_le, Int32.toInt_toInt64] at h1 h2
      have e : (nI 0 - (1 : Int32)).toInt64.toInt = -1 := by decide
      have e0 : (0 : Int64).toInt = 0 := rfl
      omega
  | succ c =>
    rw [in0_eq (m := c) (by omega)]
    rw [show nI (c + 1) - (1 : Int32) = nI c from nI_pred c, Int32.toInt_toInt64, nI_toInt (by omega)]
/-! memory -/
theorem xu_at {α : Type} (f : Nat → Nat → α) (i k : Nat) (v : α) (a b : Nat) : xu f i k v a b = if a = i ∧ b = k then v else f a b := rfl
theorem xu_same {α : Type} {f : Nat → Nat → α} {i k : Nat} {v : α} : xu f i k v i k = v := by simp [xu]
theorem xu_neK {α : Type} {f : Nat → Nat → α} {i k j : Nat} {v : α} (h : j ≠ k) : xu f i k v i j = f i j := by simp [xu, h]
/-! frames of Rel -/
def okC (f f' : xM) : Prop := f' 1 4 = f 1 4 ∧ f' 13 = f 13 ∧ f' 10 0 = f 10 0 ∧ f' 2 = f 2 ∧ f' 17 = f 17 ∧ f' 18 = f 18 ∧ f' 19 = f 19 ∧ f' 3 = f 3 ∧ f' 21 = f 21 ∧ f' 0 = f 0 ∧ f' 20 = f 20
def okM (h h' : xM) : Prop := h' 0 2 = h 0 2 ∧ h' 1 = h 1 ∧ h' 0 4 = h 0 4 ∧ h' 0 5 = h 0 5 ∧ h' 0 6 = h 0 6 ∧ h' 0 7 = h 0 7 ∧ h' 2 = h 2 ∧ h' 3 = h 3 ∧ h' 7 = h 7 ∧ h' 0 21 = h 0 21 ∧ h' 9 = h 9 ∧ h' 11 = h 11 ∧ h' 10 = h 10
theorem okC.r0 {f : xM} : okC f f := ⟨rfl, rfl, rfl, rfl, rfl, rfl, rfl, rfl, rfl, rfl, rfl⟩
theorem okM.r0 {h : xM} : okM h h := ⟨rfl, rfl, rfl, rfl, rfl, rfl, rfl, rfl, rfl, rfl, rfl, rfl, rfl⟩
theorem okC.trans {f f' f'' : xM} (a : okC f f') (b : okC f' f'') : okC f f'' := by
  obtain ⟨a1, a2, a3, a4, a5, a6, a7, a8, a9, a10, a11⟩ := a
  obtain ⟨b1, b2, b3, b4, b5, b6, b7, b8, b9, b10, b11⟩ := b
  exact ⟨b1.trans a1, b2.trans a2, b3.trans a3, b4.trans a4, b5.trans a5, b6.trans a6, b7.trans a7, b8.trans a8, b9.trans a9, b10.trans a10, b11.trans a11⟩
theorem okM.trans {f f' f'' : xM} (a : okM f f') (b : okM f' f'') : okM f f'' := by
  obtain ⟨a1, a2, a3, a4, a5, a6, a7, a8, a9, a10, a11, a12, a13⟩ := a
  obtain ⟨b1, b2, b3, b4, b5, b6, b7, b8, b9, b10, b11, b12, b13⟩ := b
  exact ⟨b1.trans a1, b2.trans a2, b3.trans a3, b4.trans a4, b5.trans a5, b6.trans a6, b7.trans a7, b8.trans a8, b9.trans a9, b10.trans a10, b11.trans a11, b12.trans a12, b13.trans a13⟩
theorem okM_t {h : xM} (v : Int32) : okM h (xu h 0 0 v) := by
  refine ⟨?_, ?_, ?_, ?_, ?_, ?_, ?_, ?_, ?_, ?_, ?_, ?_, ?_⟩ <;> first | exact xu_neK (by decide) | exact xu_ne (by decide)
theorem Rel_ok {n n' : Nat} {f f' : xM} {g g' : xN} {h h' : xM} {k k' : xN} (hR : Rel n f g h k) (hn : n ≤ n') (a : okC f f') (b : okM h h') (hg : g' 0 10 = k' 0 24) : Rel n' f' g' h' k' := by
  obtain ⟨a1, a2, a3, a4, a5, a6, a7, a8, a9, a10, a11⟩ := a
  obtain ⟨b1, b2, b3, b4, b5, b6, b7, b8, b9, b10, b11, b12, b13⟩ := b
  obtain ⟨w, c, r, t, A0, A, b0, b1', ⟨tl, tx, t1, t2, t3, t4⟩, ⟨p1, p2, p3, p4, p5, p6, p7, p8, p9, p10, p11, p12, p13⟩, hD, hP, ⟨q1, q2, q3, q4, q5, q6, q7⟩, ⟨k1, k2, k3, k4, k5⟩, hs⟩ := hR
  refine ⟨w, c, r, t, A0, A, b0, b1', ⟨tl, tx, t1, by rw [a1]; exact t2, by rw [b1]; exact t3, fun j hj => by rw [a2, b2]; exact t4 j hj⟩, ⟨p1, p2, p3, p4, p5, by rw [a3]; exact p6, by rw [b3]; exact p7, by rw [a4]; exact p8, by rw [b4]; exact p9, by rw [a4]; exact p10, by rw [b5]; exact p11, by rw [a4]; exact p12, by rw [b6]; exact p13⟩, fun j hj => by rw [a5, a6, b7, b8]; exact hD j hj, by rw [a7, b9]; exact hP, ⟨q1, q2, by omega, by rw [a8]; exact q4, by rw [a8]; exact q5, by rw [b10]; exact q6, fun i hi => by rw [a9, b11]; exact q7 i hi⟩, ⟨by rw [a10]; exact k1, by rw [b12]; exact k2, by rw [b12]; exact k3, fun z => by rw [a11, b13]; exact k4 z, fun z => by rw [a11, b13]; exact k5 z⟩, hg⟩
theorem Rel_g {n : Nat} {f : xM} {g : xN} {h : xM} {k : xN} (hR : Rel n f g h k) : g 0 10 = k 0 24 := by
  obtain ⟨w, c, r, t, A0, A, b0, b1', h1, h2, h3, h4, h5, h6, hs⟩ := hR
  exact hs
