theorem okC_rest {f f' : xM} (h : ∀ x, x ≠ 8 → x ≠ 26 → f' x = f x) : okC f f' := by
  refine ⟨?_, ?_, ?_, ?_, ?_, ?_, ?_, ?_, ?_, ?_, ?_⟩ <;> (rw [h _ (by decide) (by decide)])
section LOOK
variable {F w c t s p x q y : Nat} {K : Nat → Nat}
def lkInv (w c t s : Nat) (K : Nat → Nat) (f : xM) : Prop := f 10 0 = nI w ∧ f 2 6 = nI t ∧ f 8 1 = nI c ∧ f 19 0 = nI s ∧ ∀ i, i < c → K i < 4 ∧ f 19 (2 + i) = nI (K i)
theorem lkInv_26 {f : xM} {k : Nat} {v : Int32} (h : lkInv w c t s K f) : lkInv w c t s K (xu f 26 k v) := by
  unfold lkInv at *
  rw [xu_ne (by decide), xu_ne (by decide), xu_ne (by decide), xu_ne (by decide)]
  exact h
theorem look_b44_eq {i : Nat} {K15 : Int32 → Int32 → Int32 → Int32 → Int32 → xM → Option xM} (h1 : 1 ≤ w) (hw : w ≤ 5) (hc : c ≤ 3) (ht : t < 4 ^ w) (hs : s < 4 ^ w) (hp : p < w) (hx : x < 4) (hq : q < w) (hy : y < 4) (hi : i < c) : ∀ (n j : Nat) (f : xM), lkInv w c t s K f → j ≤ c → c < j + n → ∃ f', pX1_look_b44 F K15 n (nI p) (nI x) (nI q) (nI y) (nI i) (nI (nt4 w (K i) s p x)) (nI j) f = K15 (nI p) (nI x) (nI q) (nI y) (nI (i + 1)) f' ∧ lkInv w c t s K f' ∧ (∀ z, z ≠ 26 → f' z = f z) ∧ (∀ b, j ≤ b → b < c → f' 26 (3 * i + b) = nI (vR w t s p x q y K i b)) ∧ (∀ z, z < 3 * i + j ∨ 3 * i + c ≤ z → f' 26 z = f 26 z) := by
  intro n
  induction n with
  | zero => intro j f _ z1 z2; omega
  | succ n ih =>
    intro j f hI z1 z2
    have hI' := hI
    obtain ⟨f4, f26, f81, fs, hK⟩ := hI'
    rw [pX1_look_b44, f81]
    by_cases hj : c ≤ j
    · rw [if_pos (nI_le hj (by omega)), show nI i + (1 : Int32) = nI (i + 1) from nI_1 i]
      exact ⟨f, rfl, hI, fun _ _ => rfl, fun b b1 b2 => by omega, fun _ _ => rfl⟩
    · obtain ⟨k1, k2⟩ := hK j (by omega)
      have hn := nt4_lt (kd := K i) hw hp hs hx
      have hn2 := nt4_lt (kd := K j) hw hq hn hy
      rw [if_neg (nI_ge (by omega) (by omega)), ix3, if_neg (show ¬ (9 : Int32) ≤ nI (3 * i + j) from nI_ge (b := 9) (by omega) (by omega)), noticed6_eq hw f4 (by omega) k1 k2 hq hn hy, Option.bind_some, if_pos (xin_of (by omega) (by omega)), nI_clamp (by omega), rightOf6_eq h1 hw f4 f26 hn2 ht, show nI j + (1 : Int32) = nI (j + 1) from nI_1 j]
      obtain ⟨f', e1, e2, e3, e4, e5⟩ := ih (j + 1) (xu f 26 (3 * i + j) (nI (rgt w (nt4 w (K j) (nt4 w (K i) s p x) q y) t))) (lkInv_26 hI) (by omega) (by omega)
      refine ⟨f', e1, e2, fun z hz => by rw [e3 z hz, xu_ne hz], fun b b1 b2 => ?_, fun z hz => ?_⟩
      · by_cases hb : b = j
        · subst hb
          rw [e5 (3 * i + b) (by omega), xu_same]
          rfl
        · exact e4 b (by omega) b2
      · rw [e5 z (by omega), xu_neK (by omega)]
theorem look_eq {f : xM} (hF : 5 < F) (h1 : 1 ≤ w) (hw : w ≤ 5) (hc : c ≤ 3) (ht : t < 4 ^ w) (hs : s < 4 ^ w) (hp : p < w) (hx : x < 4) (hq : q < w) (hy : y < 4) (f24 : f 2 4 = nI c) (f4 : f 10 0 = nI w) (f26 : f 2 6 = nI t) (fs : f 19 0 = nI s) (hK : ∀ i, i < c → K i < 4 ∧ f 19 (2 + i) = nI (K i)) : ∃ f', pX1_look F (nI p) (nI x) (nI q) (nI y) f = some f' ∧ (∀ z, z ≠ 8 → z ≠ 26 → f' z = f z) ∧ f' 8 1 = nI c ∧ ∀ a b, a < c → b < c → f' 26 (3 * a + b) = nI (vR w t s p x q y K a b) := by
  have key : ∀ (n i : Nat) (f : xM), lkInv w c t s K f → i ≤ c → c < i + n → ∃ f', pX1_look_b15 F n (nI p) (nI x) (nI q) (nI y) (nI i) f = some f' ∧ lkInv w c t s K f' ∧ (∀ z, z ≠ 26 → f' z = f z) ∧ (∀ a b, i ≤ a → a < c → b < c → f' 26 (3 * a + b) = nI (vR w t s p x q y K a b)) ∧ (∀ z, z < 3 * i → f' 26 z = f 26 z) := by
    intro n
    induction n with
    | zero => intro i f _ z1 z2; omega
    | succ n ih =>
      intro i f hI z1 z2
      have hI' := hI
      obtain ⟨f4, f26, f81, fs, hK⟩ := hI'
      rw [pX1_look_b15, f81]
      by_cases hi : c ≤ i
      · rw [if_pos (nI_le hi (by omega))]
        exact ⟨f, rfl, hI, fun _ _ => rfl, fun a b a1 a2 => by omega, fun _ _ => rfl⟩
      · obtain ⟨k1, k2⟩ := hK i (by omega)
        rw [if_neg (nI_ge (by omega) (by omega)), show pX9_said f = nI s from fs, noticed6_eq hw f4 (by omega) k1 k2 hp hs hx, Option.bind_some, show (0 : Int32) = nI 0 from rfl]
        obtain ⟨f1, e1, e2, e3, e4, e5⟩ := look_b44_eq (F := F) (K15 := pX1_look_b15 F n) (t := t) (q := q) (y := y) h1 hw hc ht hs hp hx hq hy (show i < c by omega) F 0 f hI (by omega) (by omega)
        obtain ⟨f2, g1, g2, g3, g4, g5⟩ := ih (i + 1) f1 e2 (by omega) (by omega)
        rw [e1]
        refine ⟨f2, g1, g2, fun z hz => by rw [g3 z hz, e3 z hz], fun a b a1 a2 a3 => ?_, fun z hz => by rw [g5 z (by omega), e5 z (by omega)]⟩
        by_cases ha : a = i
        · subst ha
          rw [g5 _ (by omega)]
          exact e4 b (by omega) a3
        · exact g4 a b (by omega) a2 a3
  unfold pX1_look
  have hm : (if (3 : Int32) < f 2 4 then (3 : Int32) else f 2 4) = nI c := by
    rw [f24, if_neg (show ¬ (3 : Int32) < nI c from nI_nlt (a := 3) hc (by omega))]
  rw [hm]
  obtain ⟨f', e1, e2, e3, e4, e5⟩ := key F 0 (xu f 8 1 (nI c)) ⟨by rw [xu_ne (by decide)]; exact f4, by rw [xu_ne (by decide)]; exact f26, xu_same, by rw [xu_ne (by decide)]; exact fs, fun i hi => by rw [xu_ne (by decide)]; exact hK i hi⟩ (by omega) (by omega)
  exact ⟨f', e1, fun z z1 z2 => by rw [e3 z z2, xu_ne z1], e2.2.2.1, fun a b a1 a2 => e4 a b (by omega) a1 a2⟩
end LOOK
theorem e_rests {n : Nat} {f : xM} {g : xN} {h : xM} {k : xN} (hn : n ≤ 100) (hR : Rel n f g h k) (v1 : Int32) (v2 : Int32) (v3 : Int32) (v4 : Int32) (v5 : Int32) : ∃ (F : Nat) (a : Int32 × xM) (b : Int32 × xM), pX11_rests F v1 v2 v3 v4 v5 f = some a ∧ pX12_rests F v1 v2 v3 v4 v5 h = some b ∧ a.1 = b.1 ∧ Rel (n + 1) a.2 g b.2 k := by
  obtain ⟨w, c, r, t, hW⟩ := Rel_open hR
  have hR2 := hW.rel
  generalize hh : xu h 0 0 (0 : Int32) = h2 at hW hR2
  obtain ⟨p1, p2, p3, p4, p5, p6, p7, p8, p9, p10, p11, p12, p13⟩ := RelW_P hW
  have hpg := RelW_pg hW
  obtain ⟨K, hK⟩ := kinds_of hpg
  obtain ⟨s, s1, s2, s3⟩ := hpg.1
  refine ⟨20, ?_⟩
  unfold pX11_rests pX12_rests
  rw [hh]
  by_cases u1 : isN v1 w
  · rw [if_pos ((noPl p2 p7).mpr u1)]
    by_cases u3 : isN v3 w
    · rw [if_pos ((noPl p2 p7).mpr u3)]
      by_cases u2 : isN v2 4
      · rw [if_pos (noLe.mpr u2), if_neg (fun z => (isNot p2 p6).mp z ⟨u1, u2⟩)]
        by_cases u4 : isN v4 4
        · rw [if_pos (noLe.mpr u4), if_neg (fun z => (isNot p2 p6).mp z ⟨u3, u4⟩)]
          by_cases u5 : isN v5 2
          · obtain ⟨z1, z2⟩ := (isN_iff (by omega)).mp u5
            have z4 : ¬ pX12_in v5.toInt64 0 1 = 0 := by rw [in0_eq (m := 1) (by omega) rfl]; exact nn u5
            have z3 : v5 ≤ (1 : Int32) := by
              obtain ⟨j, hj, rfl⟩ := u5
              exact nI_le (b := 1) (by omega) (by omega)
            rw [if_neg z1, if_pos z3, if_neg z4]
            obtain ⟨p, hp, rfl⟩ := u1
            obtain ⟨x, hx, rfl⟩ := u2
            obtain ⟨q, hq, rfl⟩ := u3
            obtain ⟨y, hy, rfl⟩ := u4
            obtain ⟨f', l1, l2, l3, l4⟩ := look_eq (F := 20) (K := K) (c := c) (t := t) (f := f) (by omega) p1 p2 p3 p5 s1 hp hx hq hy p10 p6 p8 s2 (fun i hi => ⟨(hK i hi).1, (hK i hi).2.1⟩)
            have hV : ∀ a b, vR w t s p x q y K a b < 6 := fun a b => vR_lt p2
            have m1 := rests_b60_eq (F := 20) (h := h2) (V := vR w t s p x q y K) (v5 := v5) (by omega) p3 p11 hV (fun a b ha hb => rightBy12_eq (by omega) p1 p2 p3 p7 p9 p5 (fun i hi => ⟨(hK i hi).1, (hK i hi).2.2⟩) s3 s1 hp hx hq hy ha hb) 20 0 0 (-9) (by omega) (by omega) (by omega)
            have m1' : pX12_rests_b60 20 20 (nI p) (nI x) (nI q) (nI y) v5 0 (-9) 0 h2 = some (if v5 = 0 then nI (allR c (vR w t s p x q y K) 0 c (0, -9)).1 else (allR c (vR w t s p x q y K) 0 c (0, -9)).2, h2) := m1
            rw [l1, m1', Option.bind_some]
            have hR3 : Rel (n + 1) f' g h2 k := Rel_ok hR2 (Nat.le_refl _) (okC_rest l2) okM.r0 (RelW_g hW)
            by_cases hz : v5 = 0
            · rw [if_pos hz, if_pos hz, inAll_eq (by omega) p3 l3 hV l4 (-9)]
              exact ⟨_, _, rfl, rfl, rfl, hR3⟩
            · rw [if_neg hz, if_neg hz, least_eq (by omega) p3 l3 hV l4]
              exact ⟨_, _, rfl, rfl, rfl, hR3⟩
          · have z4 : pX12_in v5.toInt64 0 1 = 0 := by rw [in0_eq (m := 1) (by omega) rfl]; exact u5
            rw [if_pos z4]
            refine ⟨(-2, f), (-2, h2), ?_, rfl, rfl, hR2⟩
            by_cases z1 : v5 < 0
            · rw [if_pos z1]
            · rw [if_neg z1, if_neg]
              intro z3
              apply u5
              rw [isN_iff (by omega)]
              refine ⟨z1, ?_⟩
              rw [Int32.le_iff_toInt_le, show (1 : Int32).toInt = 1 from rfl] at z3
              rw [Int32.lt_iff_toInt_lt, nI_toInt (by omega)]
              omega
        · rw [if_neg (fun z => u4 (noLe.mp z)), if_pos ((isNot p2 p6).mpr (fun z => u4 z.2))]
          exact ⟨_, _, rfl, rfl, rfl, hR2⟩
      · rw [if_neg (fun z => u2 (noLe.mp z)), if_pos ((isNot p2 p6).mpr (fun z => u2 z.2))]
        exact ⟨_, _, rfl, rfl, rfl, hR2⟩
    · rw [if_neg (fun z => u3 ((noPl p2 p7).mp z))]
      refine ⟨(-2, f), (-2, h2), ?_, rfl, rfl, hR2⟩
      by_cases z : pX6_isNoticeFor f v1 v2 = 0
      · rw [if_pos z]
      · rw [if_neg z, if_pos ((isNot p2 p6).mpr (fun z => u3 z.1))]
  · rw [if_neg (fun z => u1 ((noPl p2 p7).mp z)), if_pos ((isNot p2 p6).mpr (fun z => u1 z.1))]
    exact ⟨_, _, rfl, rfl, rfl, hR2⟩
