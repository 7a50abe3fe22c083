section READ
variable {F w c : Nat} {f h : xM}
theorem nr0 {N R : Nat} (hN : N ≤ 4) : ∀ (n k : Nat), k ≤ N → N < k + n → pX12_noRow_b33 F h n (nI N) (lN R) 0 (nI k) = some 1 := by
  intro n
  induction n with
  | zero => intro k z1 z2; omega
  | succ n ih =>
    intro k z1 z2
    rw [pX12_noRow_b33]
    by_cases hk : N ≤ k
    · rw [if_pos (nI_le hk (by omega)), if_pos rfl]
    · rw [if_neg (nI_ge (by omega) (by omega)), if_pos rfl, show nI k + (1 : Int32) = nI (k + 1) from nI_1 k]
      exact ih (k + 1) (by omega) (by omega)
theorem nrGood {N R : Nat} (hF : 5 < F) (hN : N ≤ 4) (hc : c ≤ 3) (hw : w ≤ 5) (h6 : h 0 6 = nI c) (h4 : h 0 4 = nI w) (hR : R < 2 ^ 63) (hT : ∀ i, i < N → vt c w (th3 R N i)) : ∀ (n k : Nat), k ≤ N → N < k + n → pX12_noRow_b33 F h n (nI N) (lN R) 1 (nI k) = some 0 := by
  intro n
  induction n with
  | zero => intro k z1 z2; omega
  | succ n ih =>
    intro k z1 z2
    rw [pX12_noRow_b33]
    by_cases hk : N ≤ k
    · rw [if_pos (nI_le hk (by omega)), if_neg (by decide)]
    · have hx := th3_lt R N k
      rw [if_neg (nI_ge (by omega) (by omega)), if_neg (by decide), threeOf_eq hF hN (by omega) hR, Option.bind_some, if_pos ((noNotice_eq hc hw h6 h4 (by omega)).mpr (hT k (by omega))), show nI k + (1 : Int32) = nI (k + 1) from nI_1 k]
      exact ih (k + 1) (by omega) (by omega)
theorem nrBad {N R : Nat} (hF : 5 < F) (hN : N ≤ 4) (hc : c ≤ 3) (hw : w ≤ 5) (h6 : h 0 6 = nI c) (h4 : h 0 4 = nI w) (hR : R < 2 ^ 63) : ∀ (n k : Nat), k ≤ N → N < k + n → (∃ i, k ≤ i ∧ i < N ∧ ¬ vt c w (th3 R N i)) → pX12_noRow_b33 F h n (nI N) (lN R) 1 (nI k) = some 1 := by
  intro n
  induction n with
  | zero => intro k z1 z2; omega
  | succ n ih =>
    intro k z1 z2 ⟨i, hi1, hi2, hbad⟩
    have hx := th3_lt R N k
    rw [pX12_noRow_b33, if_neg (nI_ge (by omega) (by omega)), if_neg (by decide), threeOf_eq hF hN (by omega) hR, Option.bind_some, show nI k + (1 : Int32) = nI (k + 1) from nI_1 k]
    by_cases hv : vt c w (th3 R N k)
    · rw [if_pos ((noNotice_eq hc hw h6 h4 (by omega)).mpr hv)]
      refine ih (k + 1) (by omega) (by omega) ⟨i, ?_, hi2, hbad⟩
      rcases Nat.lt_or_ge k i with q | q
      · exact q
      · exact absurd hv (by rw [show k = i by omega]; exact hbad)
    · rw [if_neg (fun q => hv ((noNotice_eq hc hw h6 h4 (by omega)).mp q))]
      exact nr0 hN n (k + 1) (by omega) (by omega)
theorem hasVt {x : Nat} (hc : c ≤ 3) (hw : w ≤ 5) (f4 : f 10 0 = nI w) (f6 : f 2 4 = nI c) (hx : x < 2 ^ 31) : (¬ pX6_hasCompositor f (nI x / (100 : Int32)) = 0 ∧ ¬ pX6_isNoticeFor f (nI x / (10 : Int32) - nI x / (10 : Int32) / (10 : Int32) * (10 : Int32)) (nI x - nI x / (10 : Int32) * (10 : Int32)) = 0) ↔ vt c w x := by
  rw [dv100 hx, rm1010 hx, rm10 hx, hasC hc f6, isNot hw f4, isN_nI (by omega) (by omega), isN_nI (by omega) (by omega), isN_nI (by omega) (by omega)]
  unfold vt
  constructor
  · rintro ⟨z1, z2⟩
    refine ⟨?_, ?_⟩
    · rcases Nat.lt_or_ge (x / 100) c with q | q
      · exact q
      · exact absurd (by omega) z1
    · rcases Nat.lt_or_ge (x / 10 % 10) w with q | q
      · rcases Nat.lt_or_ge (x % 10) 4 with q2 | q2
        · exact ⟨q, q2⟩
        · exact absurd (fun z => by omega) z2
      · exact absurd (fun z => by omega) z2
  · rintro ⟨z1, z2, z3⟩
    exact ⟨fun q => q z1, fun q => q ⟨z2, z3⟩⟩
theorem rdLoop {N R : Nat} (hN : N ≤ 4) (hc : c ≤ 3) (hw : w ≤ 5) (hR : R < 2 ^ 63) : ∀ (n k : Nat) (v8 : Int32) (f : xM), f 10 0 = nI w → f 2 4 = nI c → k ≤ N → N < k + n → (k < N → v8 = nI (N - k - 1)) → (k = N → v8 = -1) → ∃ f', (∀ x, x ≠ 22 → x ≠ 5 → f' x = f x) ∧
    ((∀ i, i < N - k → vt c w (th3 R N i)) → pX5_read_b37 F n (nI N) (lN (R / 1000 ^ k)) v8 f = some ((if R / 1000 ^ N = 0 then 1 else 0), f') ∧ f' 5 1 = nI N ∧ (∀ i, i < N - k → f' 22 i = nI (th3 R N i)) ∧ (∀ i, N - k ≤ i → f' 22 i = f 22 i)) ∧
    ((∃ i, i < N - k ∧ ¬ vt c w (th3 R N i)) → pX5_read_b37 F n (nI N) (lN (R / 1000 ^ k)) v8 f = some (0, f')) := by
  intro n
  induction n with
  | zero => intro k v8 f _ _ z1 z2; omega
  | succ n ih =>
    intro k v8 f f4 f6 z1 z2 h3 h3'
    rw [pX5_read_b37]
    have hle : R / 1000 ^ k ≤ R := Nat.div_le_self _ _
    by_cases hk : k = N
    · subst hk
      refine ⟨xu f 5 1 (nI k), fun x x1 x2 => xu_ne x2, fun _ => ?_, fun ⟨i, hi, _⟩ => by omega⟩
      rw [h3' rfl, if_pos (by decide)]
      refine ⟨?_, xu_same, fun i hi => by omega, fun i hi => by rw [xu_ne (by decide)]⟩
      by_cases h0 : R / 1000 ^ k = 0
      · rw [if_pos (by rw [h0]; rfl), if_pos h0]
      · rw [if_neg ?_, if_neg h0]
        intro q
        have : lg_cmp (lN (R / 1000 ^ k)) 0 = 0 ↔ lN (R / 1000 ^ k) = 0 := by
          unfold lg_cmp
          rcases tri64 (lN (R / 1000 ^ k)) 0 with ⟨y1, y2, y3⟩ | ⟨y1, y2, y3⟩ | ⟨y1, y2, y3⟩
          · rw [if_neg y2, if_neg y3]; exact ⟨fun z => absurd z (by decide), fun z => absurd z y3⟩
          · rw [if_neg y3, if_pos y1]; exact ⟨fun _ => y1, fun _ => rfl⟩
          · rw [if_pos y1]; exact ⟨fun z => absurd z (by decide), fun z => absurd z y3⟩
        exact l_ne0 (Nat.pos_of_ne_zero h0) (by omega) (this.mp q)
    · have hk2 : k < N := by omega
      have ex : R / 1000 ^ k % 1000 = th3 R N (N - k - 1) := by unfold th3; rw [show N - 1 - (N - k - 1) = k by omega]
      have hx := th3_lt R N (N - k - 1)
      rw [h3 hk2, if_neg (nI_pos (by omega)), l_rem hR, ex]
      have hv := hasVt (x := th3 R N (N - k - 1)) hc hw f4 f6 (by omega)
      have y : (nI (N - k - 1)).toNatClampNeg = N - k - 1 := nI_clamp (by omega)
      by_cases hvt : vt c w (th3 R N (N - k - 1))
      · obtain ⟨a1, a2⟩ := hv.mpr hvt
        rw [if_neg a1, if_neg a2, if_pos (xin_of (show N - k - 1 < 4 by omega) (by omega)), y, l_div hR]
        obtain ⟨f', g1, g2, g3⟩ := ih (k + 1) (nI (N - k - 1) + (-1 : Int32)) (xu f 22 (N - k - 1) (nI (th3 R N (N - k - 1)))) (by rw [xu_ne (by decide)]; exact f4) (by rw [xu_ne (by decide)]; exact f6) (by omega) (by omega) (fun hk3 => by rw [show N - k - 1 = (N - (k + 1) - 1) + 1 by omega]; exact pk_m1 _) (fun hk3 => by rw [show N - k - 1 = 0 by omega]; rfl)
        refine ⟨f', fun x x1 x2 => by rw [g1 x x1 x2, xu_ne x1], fun hT => ?_, fun ⟨i, hi, hb⟩ => ?_⟩
        · obtain ⟨e1, e2, e3, e4⟩ := g2 (fun i hi => hT i (by omega))
          refine ⟨e1, e2, fun i hi => ?_, fun i hi => ?_⟩
          · rcases Nat.lt_or_ge i (N - (k + 1)) with q | q
            · exact e3 i q
            · rw [e4 i q, show i = N - k - 1 by omega, xu_same]
          · rw [e4 i (by omega), xu_neK (by omega)]
        · refine g3 ⟨i, ?_, hb⟩
          rcases Nat.lt_or_ge i (N - (k + 1)) with q | q
          · exact q
          · exact absurd hvt (by rw [show N - k - 1 = i by omega]; exact hb)
      · refine ⟨f, fun x _ _ => rfl, fun hT => absurd (hT _ (by omega)) hvt, fun _ => ?_⟩
        by_cases a1 : pX6_hasCompositor f (nI (th3 R N (N - k - 1)) / (100 : Int32)) = 0
        · rw [if_pos a1]
        · rw [if_neg a1, if_pos ?_]
          by_cases a2 : pX6_isNoticeFor f (nI (th3 R N (N - k - 1)) / (10 : Int32) - nI (th3 R N (N - k - 1)) / (10 : Int32) / (10 : Int32) * (10 : Int32)) (nI (th3 R N (N - k - 1)) - nI (th3 R N (N - k - 1)) / (10 : Int32) * (10 : Int32)) = 0
          · exact a2
          · exact absurd (hv.mp ⟨a1, a2⟩) hvt
end READ
theorem l_cases (v : Int64) : v < 0 ∨ ∃ R : Nat, R < 2 ^ 63 ∧ v = lN R := by
  by_cases h : v < 0
  · exact Or.inl h
  · exact Or.inr (pk_lOf h)
/-- a row of notices is read on both sides, or refused on both -/
theorem rows_eq {F w c most : Nat} {f h : xM} (hF : 5 < F) (hm : most = 3 ∨ most = 4) (hc : c ≤ 3) (hw : w ≤ 5) (f4 : f 10 0 = nI w) (f6 : f 2 4 = nI c) (h4 : h 0 4 = nI w) (h6 : h 0 6 = nI c) (v2 : Int32) (row : Int64) : ∃ q f' q', pX5_read F v2 (nI most) row f = some (q, f') ∧ pX12_noRow F h v2 (nI most) row = some q' ∧ (∀ x, x ≠ 22 → x ≠ 5 → f' x = f x) ∧ ((q = 0 ∧ q' = 1) ∨ (q = 1 ∧ q' = 0 ∧ ∃ N R, 1 ≤ N ∧ N ≤ most ∧ v2 = nI N ∧ row = lN R ∧ R < 2 ^ 63 ∧ f' 5 1 = nI N ∧ (∀ i, i < N → f' 22 i = nI (th3 R N i)) ∧ ∀ i, i < N → vt c w (th3 R N i))) := by
  have hmost : most ≤ 4 := by omega
  have hin : pX12_in v2.toInt64 1 (nI most).toInt64 = 0 ↔ ¬ (∃ N, 1 ≤ N ∧ N ≤ most ∧ v2 = nI N) := by
    rw [in_eq]
    have e : ((1 : Int64) ≤ v2.toInt64 ∧ v2.toInt64 ≤ (nI most).toInt64) ↔ ∃ N, 1 ≤ N ∧ N ≤ most ∧ v2 = nI N := by
      rw [Int64.le_iff_toInt_le, Int64.le_iff_toInt_le, Int32.toInt_toInt64, Int32.toInt_toInt64, nI_toInt (by omega), show (1 : Int64).toInt = 1 from rfl]
      constructor
      · rintro ⟨a, b⟩
        refine ⟨v2.toInt.toNat, by omega, by omega, ?_⟩
        rw [← Int32.toInt_inj, nI_toInt (by omega)]; omega
      · rintro ⟨N, a, b, rfl⟩
        rw [nI_toInt (by omega)]; omega
    by_cases q : (1 : Int64) ≤ v2.toInt64 ∧ v2.toInt64 ≤ (nI most).toInt64
    · rw [if_pos q]; exact ⟨fun z => absurd z (by decide), fun z => absurd (e.mp q) z⟩
    · rw [if_neg q]; exact ⟨fun _ z => q (e.mpr z), fun _ => rfl⟩
  unfold pX5_read pX12_noRow
  by_cases hv : ∃ N, 1 ≤ N ∧ N ≤ most ∧ v2 = nI N
  · have hin2 : ¬ pX12_in v2.toInt64 1 (nI most).toInt64 = 0 := fun z => hin.mp z hv
    rw [if_neg hin2]
    obtain ⟨N, n1, n2, rfl⟩ := hv
    have hb := p1000_le (show N ≤ 4 by omega)
    have h0 : 0 < 1000 ^ N := Nat.pow_pos (by decide)
    rw [if_neg (show ¬ nI N < (1 : Int32) from nI_nlt (b := 1) n1 (by omega)), if_neg (nI_nlt n2 (by omega)), if_neg (show ¬ (4 : Int32) < nI N from nI_nlt (a := 4) (by omega) (by omega)), thou_eq (by omega) (by omega), Option.bind_some]
    rcases l_cases row with hr | ⟨R, hR, rfl⟩
    · have e1 : ¬ 0 ≤ lg_cmp row 0 := by
        have := cmp_lt.mpr hr
        rw [Int32.lt_iff_toInt_lt] at this
        rw [Int32.le_iff_toInt_le]
        omega
      have e2 : pX12_in row 0 (lN (1000 ^ N) - 1) = 0 := by
        rw [in_eq, if_neg]
        rintro ⟨a, b⟩
        rw [Int64.le_iff_toInt_le] at a
        rw [Int64.lt_iff_toInt_lt] at hr
        omega
      rw [if_neg e1, if_pos e2]
      exact ⟨0, f, 1, rfl, rfl, fun _ _ _ => rfl, Or.inl ⟨rfl, rfl⟩⟩
    · have e1 : 0 ≤ lg_cmp (lN R) 0 := by
        by_cases z : lg_cmp (lN R) 0 < 0
        · have := cmp_lt.mp z
          rw [show (0 : Int64) = lN 0 from rfl, pk_lLT hR (by decide)] at this
          omega
        · rw [Int32.lt_iff_toInt_lt] at z
          rw [Int32.le_iff_toInt_le]
          omega
      have e2 : pX12_in (lN R) 0 (lN (1000 ^ N) - 1) = 0 ↔ ¬ R < 1000 ^ N := by
        rw [in_eq, show (1 : Int64) = lN 1 from rfl, lN_sub (by omega)]
        by_cases z : R < 1000 ^ N
        · rw [if_pos ⟨by rw [show (0 : Int64) = lN 0 from rfl, pk_lLE (by decide) hR]; omega, by rw [pk_lLE hR (by omega)]; omega⟩]
          exact ⟨fun q => absurd q (by decide), fun q => absurd z q⟩
        · rw [if_neg ?_]
          · exact ⟨fun _ => z, fun _ => rfl⟩
          · rintro ⟨a, b⟩
            rw [pk_lLE hR (by omega)] at b
            omega
      rw [if_pos e1]
      have e3 : nI N - (1 : Int32) = nI (N - 1) := pk_sub (b := 1) n1
      rw [e3]
      obtain ⟨f', g1, g2, g3⟩ := rdLoop (F := F) (N := N) (R := R) (c := c) (w := w) (by omega) hc hw hR F 0 (nI (N - 1)) f f4 f6 (by omega) (by omega) (fun _ => by rw [Nat.sub_zero]) (fun z => by omega)
      simp only [Nat.pow_zero, Nat.div_one, Nat.sub_zero] at g2 g3
      by_cases hbad : ∃ i, i < N ∧ ¬ vt c w (th3 R N i)
      · refine ⟨0, f', 1, g3 hbad, ?_, g1, Or.inl ⟨rfl, rfl⟩⟩
        by_cases z : pX12_in (lN R) 0 (lN (1000 ^ N) - 1) = 0
        · rw [if_pos z]
        · rw [if_neg z]
          obtain ⟨i, hi, hb2⟩ := hbad
          exact nrBad hF (by omega) hc hw h6 h4 hR F 0 (by omega) (by omega) ⟨i, by omega, hi, hb2⟩
      · have hT : ∀ i, i < N → vt c w (th3 R N i) := fun i hi => Classical.byContradiction (fun z => hbad ⟨i, hi, z⟩)
        obtain ⟨r1, r2, r3, r4⟩ := g2 hT
        by_cases z : R < 1000 ^ N
        · rw [if_pos (Nat.div_eq_of_lt z)] at r1
          refine ⟨1, f', 0, r1, ?_, g1, Or.inr ⟨rfl, rfl, N, R, n1, n2, rfl, rfl, hR, r2, r3, hT⟩⟩
          rw [if_neg (fun q => e2.mp q z)]
          exact nrGood hF (by omega) hc hw h6 h4 hR hT F 0 (by omega) (by omega)
        · have hd := Nat.div_pos (show 1000 ^ N ≤ R by omega) h0
          rw [if_neg (by omega)] at r1
          refine ⟨0, f', 1, r1, ?_, g1, Or.inl ⟨rfl, rfl⟩⟩
          rw [if_pos (e2.mpr z)]
  · rw [if_pos (hin.mpr hv)]
    refine ⟨0, f, 1, ?_, rfl, fun _ _ _ => rfl, Or.inl ⟨rfl, rfl⟩⟩
    by_cases z1 : v2 < (1 : Int32)
    · rw [if_pos z1]
    · rw [if_neg z1]
      by_cases z2 : nI most < v2
      · rw [if_pos z2]
      · exfalso
        apply hv
        rw [Int32.lt_iff_toInt_lt] at z1 z2
        rw [nI_toInt (by omega)] at z2
        rw [show (1 : Int32).toInt = 1 from rfl] at z1
        refine ⟨v2.toInt.toNat, by omega, by omega, ?_⟩
        rw [← Int32.toInt_inj, nI_toInt (by omega)]; omega
