theorem wb_tb (n : Nat) : (lN n).toBitVec = BitVec.ofNat 64 n := rfl
theorem wb_inj {a b : Int64} (h : a.toBitVec = b.toBitVec) : a = b := Int64.toBitVec_inj.mp h
theorem wb_tn {n : Nat} (h : n < 2 ^ 64) : (lN n).toBitVec.toNat = n := by rw [wb_tb, BitVec.toNat_ofNat, Nat.mod_eq_of_lt h]
theorem wb_of (x : Int64) : ∃ n, n < 2 ^ 64 ∧ x = lN n := ⟨x.toBitVec.toNat, x.toBitVec.isLt, wb_inj (by rw [wb_tb]; simp)⟩
theorem wb_cu : ∀ k, k < 64 → ((nI k).toInt64.toUInt64 &&& Int64.toUInt64 63) = UInt64.ofNat k := by decide +kernel
theorem wb_shr {n k : Nat} (hn : n < 2 ^ 64) (hk : k < 64) : ((lN n).toUInt64 >>> ((nI k).toInt64.toUInt64 &&& Int64.toUInt64 63)).toInt64 = lN (n / 2 ^ k) := by
  rw [wb_cu k hk]
  apply wb_inj
  apply BitVec.eq_of_toNat_eq
  show ((lN n).toUInt64 >>> UInt64.ofNat k).toNat = (BitVec.ofNat 64 _).toNat
  have h1 : (UInt64.ofNat k).toNat = k := by
    show (BitVec.ofNat 64 k).toNat = k
    rw [BitVec.toNat_ofNat, Nat.mod_eq_of_lt (by omega)]
  have h2 : (lN n).toUInt64.toNat = n := wb_tn hn
  rw [UInt64.toNat_shiftRight, h1, h2, Nat.mod_eq_of_lt hk, Nat.shiftRight_eq_div_pow, BitVec.toNat_ofNat, Nat.mod_eq_of_lt (Nat.lt_of_le_of_lt (Nat.div_le_self _ _) hn)]
/-- what is drawn of a long: a number below 60 -/
def drI (S : Int64) : Int32 := ((S.toUInt64 >>> ((33 : Int32).toInt64.toUInt64 &&& Int64.toUInt64 63)).toInt64 - (S.toUInt64 >>> ((33 : Int32).toInt64.toUInt64 &&& Int64.toUInt64 63)).toInt64 / (60 : Int64) * (60 : Int64)).toInt32
theorem drI_eq (S : Int64) : ∃ d, d < 60 ∧ drI S = nI d := by
  obtain ⟨n, hn, rfl⟩ := wb_of S
  refine ⟨n / 2 ^ 33 % 60, Nat.mod_lt _ (by decide), ?_⟩
  unfold drI
  rw [show (33 : Int32) = nI 33 from rfl, wb_shr hn (by decide), show (60 : Int64) = lN 60 from rfl, pk_lRem (by omega) (by decide) (by decide), lN_i]
def sdN (S : Int64) : Int64 := S * (6364136223846793005 : Int64) + (1442695040888963407 : Int64)
theorem yr_b30 {F n : Nat} {f : xM} {v1 v2 v3 v4 : Int32} {g : xN} : pX11_years_b30 F f (n + 1) v1 v2 v3 v4 g = (if v1 ≤ v4 then some (v3, g) else (if (pX6_hasCompositor f (drI (sdN (g 0 10)) / (20 : Int32))) = 0 then (pX11_years_b30 F f n v1 v2 (v3 + (pX6_rightOf f v2)) (v4 + (1 : Int32)) (xu g 0 10 (sdN (g 0 10)))) else (if (pX8_hasPlace f ((drI (sdN (g 0 10)) - drI (sdN (g 0 10)) / (20 : Int32) * (20 : Int32)) / (4 : Int32))) = 0 then (pX11_years_b30 F f n v1 v2 (v3 + (pX6_rightOf f v2)) (v4 + (1 : Int32)) (xu g 0 10 (sdN (g 0 10)))) else (Option.bind (pX6_noticed f (drI (sdN (g 0 10)) / (20 : Int32)) v2 ((drI (sdN (g 0 10)) - drI (sdN (g 0 10)) / (20 : Int32) * (20 : Int32)) / (4 : Int32)) (drI (sdN (g 0 10)) - drI (sdN (g 0 10)) / (4 : Int32) * (4 : Int32))) fun q6 => (pX11_years_b30 F f n v1 q6 (v3 + (pX6_rightOf f q6)) (v4 + (1 : Int32)) (xu g 0 10 (sdN (g 0 10)))))))) := by
  rw [pX11_years_b30]
  simp only [xu_same]
  rfl
theorem yr_b32 {F n : Nat} {f : xM} {v1 v2 v3 v4 : Int32} {g : xN} : pX12_years_b32 F (n + 1) v1 v2 v3 v4 f g = (if v1 ≤ v4 then some (v3, f, g) else (if (pX12_noNotice f ((((drI (sdN (g 0 24)) / (20 : Int32)) * (100 : Int32)) + (((drI (sdN (g 0 24)) - drI (sdN (g 0 24)) / (20 : Int32) * (20 : Int32)) / (4 : Int32)) * (10 : Int32))) + (drI (sdN (g 0 24)) - drI (sdN (g 0 24)) / (4 : Int32) * (4 : Int32)))) = 0 then (Option.bind (pX12_noticed F f v2 ((((drI (sdN (g 0 24)) / (20 : Int32)) * (100 : Int32)) + (((drI (sdN (g 0 24)) - drI (sdN (g 0 24)) / (20 : Int32) * (20 : Int32)) / (4 : Int32)) * (10 : Int32))) + (drI (sdN (g 0 24)) - drI (sdN (g 0 24)) / (4 : Int32) * (4 : Int32)))) fun q4 => (Option.bind (pX12_rightOf F f q4) fun q5 => (pX12_years_b32 F n v1 q4 (v3 + q5) (v4 + (1 : Int32)) f (xu g 0 24 (sdN (g 0 24)))))) else (Option.bind (pX12_rightOf F f v2) fun q6 => (pX12_years_b32 F n v1 v2 (v3 + q6) (v4 + (1 : Int32)) f (xu g 0 24 (sdN (g 0 24))))))) := by
  rw [pX12_years_b32]
  simp only [xu_same]
  rfl
theorem d20 {d : Nat} (h : d < 60) : nI d / (20 : Int32) = nI (d / 20) := pk_div (d := 20) (by omega) (by decide) (by decide)
theorem m20 {d : Nat} (h : d < 60) : (nI d - nI d / (20 : Int32) * (20 : Int32)) / (4 : Int32) = nI (d % 20 / 4) := by
  rw [show nI d - nI d / (20 : Int32) * (20 : Int32) = nI (d % 20) from pk_rem (d := 20) (by omega) (by decide) (by decide)]
  exact pk_div (d := 4) (by omega) (by decide) (by decide)
theorem m4 {d : Nat} (h : d < 60) : nI d - nI d / (4 : Int32) * (4 : Int32) = nI (d % 4) := pk_rem (d := 4) (by omega) (by decide) (by decide)
theorem three_dec : ∀ d, d < 60 → (d / 20 * 100 + d % 20 / 4 * 10 + d % 4) / 100 = d / 20 ∧ (d / 20 * 100 + d % 20 / 4 * 10 + d % 4) / 10 % 10 = d % 20 / 4 ∧ (d / 20 * 100 + d % 20 / 4 * 10 + d % 4) % 10 = d % 4 := by decide
theorem years_loop {F w c r t m : Nat} {f h : xM} {K : Nat → Nat} (hF : 5 < F) (h1 : 1 ≤ w) (hw : w ≤ 5) (hc : c ≤ 3) (ht : t < 4 ^ w) (f4 : f 10 0 = nI w) (h4 : h 0 4 = nI w) (f6 : f 2 4 = nI c) (h6 : h 0 6 = nI c) (f26 : f 2 6 = nI t) (h5 : h 0 5 = nI t) (hm : m ≤ 30) (hK : ∀ i, i < c → K i < 4 ∧ f 19 (2 + i) = nI (K i) ∧ h 7 (2 + i) = nI (K i)) : ∀ (n j s : Nat) (a : Int32) (g k : xN), g 0 10 = k 0 24 → s < 4 ^ w → j ≤ m → m < j + n → ∃ q g' k', pX11_years_b30 F f n (nI m) (nI s) a (nI j) g = some (q, g') ∧ pX12_years_b32 F n (nI m) (nI s) a (nI j) h k = some (q, h, k') ∧ g' 0 10 = k' 0 24 := by
  have hb := p4_le hw
  intro n
  induction n with
  | zero => intro j s a g k _ _ z1 z2; omega
  | succ n ih =>
    intro j s a g k hg hs z1 z2
    rw [yr_b30, yr_b32, hg]
    by_cases hj : m ≤ j
    · rw [if_pos (nI_le hj (by omega)), if_pos (nI_le hj (by omega))]
      exact ⟨a, g, k, rfl, rfl, hg⟩
    · rw [if_neg (nI_ge (by omega) (by omega)), if_neg (nI_ge (by omega) (by omega))]
      obtain ⟨d, hd, ed⟩ := drI_eq (sdN (k 0 24))
      obtain ⟨e1, e2, e3⟩ := three_dec d hd
      have hg2 : xu g 0 10 (sdN (k 0 24)) 0 10 = xu k 0 24 (sdN (k 0 24)) 0 24 := by rw [xu_same, xu_same]
      have e4 : nI (d / 20) * (100 : Int32) + nI (d % 20 / 4) * (10 : Int32) + nI (d % 4) = nI (d / 20 * 100 + d % 20 / 4 * 10 + d % 4) := by
        rw [show (100 : Int32) = nI 100 from rfl, show (10 : Int32) = nI 10 from rfl, pk_mul, pk_mul, nI_add, nI_add]
      rw [ed, m20 hd, d20 hd, m4 hd, e4, show nI j + (1 : Int32) = nI (j + 1) from nI_1 j]
      generalize hx : d / 20 * 100 + d % 20 / 4 * 10 + d % 4 = x at *
      have hx2 : x < 1000 := by omega
      have hvt := noNotice_eq (c := c) (w := w) (h := h) (x := x) hc hw h6 h4 (by omega)
      have a1 := hasC (v := nI (d / 20)) hc f6
      have a2 := hasP (v := nI (d % 20 / 4)) hw f4
      rw [isN_nI (by omega) (by omega)] at a1 a2
      by_cases hv : vt c w x
      · have hv' := hv
        obtain ⟨v1, v2, v3⟩ := hv'
        rw [e1] at v1
        rw [e2] at v2
        obtain ⟨k1, k2, k3⟩ := hK _ v1
        have hone := one_lt (K := K) hw hv hs
        have en : nt4 w (K (d / 20)) s (d % 20 / 4) (d % 4) = one w K x s := by unfold one; rw [e1, e2, e3]
        rw [if_neg (fun q => a1.mp q v1), if_neg (fun q => a2.mp q v2), if_pos (hvt.mpr hv), noticed6_eq hw f4 (by omega) k1 k2 v2 hs (by omega), en, noticed12_eq hF h1 hc hw h4 (fun i hi => ⟨(hK i hi).1, (hK i hi).2.2⟩) (by omega) hv hs]
        simp only [Option.bind_some, rightOf6_eq h1 hw f4 f26 hone ht, rightOf_eq (s := one w K x s) hF hw h4 h5 (by omega) (by omega)]
        exact ih (j + 1) _ _ _ _ hg2 hone (by omega) (by omega)
      · rw [if_neg (fun q => hv (hvt.mp q)), rightOf_eq hF hw h4 h5 (by omega) (by omega), Option.bind_some, rightOf6_eq h1 hw f4 f26 hs ht]
        obtain ⟨q, g', k', r1, r2, r3⟩ := ih (j + 1) s (a + nI (rgt w s t)) _ _ hg2 hs (by omega) (by omega)
        refine ⟨q, g', k', ?_, r2, r3⟩
        by_cases b1 : d / 20 < c
        · rw [if_neg (fun z => a1.mp z b1), if_pos (a2.mpr (fun z => hv ⟨by rw [e1]; exact b1, by rw [e2]; exact z, by rw [e3]; omega⟩))]
          exact r1
        · rw [if_pos (a1.mpr b1)]
          exact r1
theorem e_years {n : Nat} {f : xM} {g : xN} {h : xM} {k : xN} (hn : n ≤ 100) (hR : Rel n f g h k) (v1 : Int32) : ∃ (F : Nat) (a : Int32 × xN) (b : Int32 × xM × xN), pX11_years F f v1 g = some a ∧ pX12_years F v1 h k = some b ∧ a.1 = b.1 ∧ Rel (n + 1) f a.2 b.2.1 b.2.2 := by
  obtain ⟨w, c, r, t, hW⟩ := Rel_open hR
  have hR2 := hW.rel
  generalize hh : xu h 0 0 (0 : Int32) = h2 at hW hR2
  obtain ⟨p1, p2, p3, p4, p5, p6, p7, p8, p9, p10, p11, p12, p13⟩ := RelW_P hW
  have hpg := RelW_pg hW
  obtain ⟨K, hK⟩ := kinds_of hpg
  obtain ⟨s, s1, s2, s3⟩ := hpg.1
  refine ⟨40, ?_⟩
  unfold pX11_years pX12_years
  rw [hh]
  have hin : pX12_in v1.toInt64 1 30 = 0 ↔ ¬ (∃ N, 1 ≤ N ∧ N ≤ 30 ∧ v1 = nI N) := by
    rw [in_eq]
    have e : ((1 : Int64) ≤ v1.toInt64 ∧ v1.toInt64 ≤ 30) ↔ ∃ N, 1 ≤ N ∧ N ≤ 30 ∧ v1 = nI N := by
      rw [Int64.le_iff_toInt_le, Int64.le_iff_toInt_le, Int32.toInt_toInt64, show (30 : Int64).toInt = 30 from rfl, show (1 : Int64).toInt = 1 from rfl]
      constructor
      · rintro ⟨a, b⟩
        refine ⟨v1.toInt.toNat, by omega, by omega, ?_⟩
        rw [← Int32.toInt_inj, nI_toInt (by omega)]; omega
      · rintro ⟨N, a, b, rfl⟩
        rw [nI_toInt (by omega)]; omega
    by_cases q : (1 : Int64) ≤ v1.toInt64 ∧ v1.toInt64 ≤ 30
    · rw [if_pos q]; exact ⟨fun z => absurd z (by decide), fun z => absurd (e.mp q) z⟩
    · rw [if_neg q]; exact ⟨fun _ z => q (e.mpr z), fun _ => rfl⟩
  by_cases hv : ∃ N, 1 ≤ N ∧ N ≤ 30 ∧ v1 = nI N
  · rw [if_neg (fun z => hin.mp z hv)]
    obtain ⟨N, n1, n2, rfl⟩ := hv
    rw [if_neg (show ¬ nI N < (1 : Int32) from nI_nlt (b := 1) n1 (by omega)), if_pos (show nI N ≤ (30 : Int32) from nI_le (b := 30) n2 (by omega)), show pX9_said f = nI s from s2, s3]
    obtain ⟨q, g', k', r1, r2, r3⟩ := years_loop (F := 40) (c := c) (r := r) (t := t) (m := N) (f := f) (h := h2) (K := K) (by omega) p1 p2 p3 p5 p6 p7 p10 p11 p8 p9 n2 hK 40 0 s 0 g k (RelW_g hW) s1 (by omega) (by omega)
    exact ⟨(q, g'), (q, h2, k'), r1, r2, rfl, Rel_ok hR2 (Nat.le_refl _) okC.r0 okM.r0 r3⟩
  · rw [if_pos (hin.mpr hv)]
    refine ⟨(-2, g), (-2, h2, k), ?_, rfl, rfl, hR2⟩
    by_cases z1 : v1 < (1 : Int32)
    · rw [if_pos z1]
    · rw [if_neg z1, if_neg]
      intro z2
      apply hv
      rw [Int32.lt_iff_toInt_lt] at z1
      rw [Int32.le_iff_toInt_le] at z2
      rw [show (1 : Int32).toInt = 1 from rfl] at z1
      rw [show (30 : Int32).toInt = 30 from rfl] at z2
      refine ⟨v1.toInt.toNat, by omega, by omega, ?_⟩
      rw [← Int32.toInt_inj, nI_toInt (by omega)]; omega
