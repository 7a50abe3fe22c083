/-! ===== figures as names ===== -/
def dgt (m i : Nat) : Nat := m / 10 ^ i % 10
def sfx (m : Nat) : Nat → Nat
  | 0 => 0
  | k + 1 => sfx m k + dgt m k * 4 ^ k
def pre4 (w m : Nat) : Nat → Nat
  | 0 => 0
  | p + 1 => 4 * pre4 w m p + dgt m (w - 1 - p)
theorem dgt_lt (m i : Nat) : dgt m i < 10 := Nat.mod_lt _ (by decide)
theorem sfx_lt {m : Nat} : ∀ k, (∀ i, i < k → dgt m i < 4) → sfx m k < 4 ^ k := by
  intro k
  induction k with
  | zero => intro _; simp [sfx]
  | succ k ih =>
    intro h
    have h1 := ih (fun i hi => h i (by omega))
    have h2 := h k (by omega)
    simp only [sfx, Nat.pow_succ]
    have h3 : dgt m k * 4 ^ k ≤ 3 * 4 ^ k := Nat.mul_le_mul_right _ (by omega)
    omega
theorem pre_sfx {w m : Nat} : ∀ p, p ≤ w → pre4 w m p * 4 ^ (w - p) + sfx m (w - p) = sfx m w := by
  intro p
  induction p with
  | zero => intro _; simp [pre4]
  | succ p ih =>
    intro h
    have h1 := ih (by omega)
    obtain ⟨q, hq⟩ : ∃ q, w - p = q + 1 := ⟨w - p - 1, by omega⟩
    rw [hq] at h1
    rw [show w - (p + 1) = q by omega]
    simp only [pre4, sfx, Nat.pow_succ, show w - 1 - p = q by omega] at h1 ⊢
    rw [← h1, Nat.add_mul, Nat.mul_assoc, ← Nat.mul_assoc (pre4 w m p)]
    omega
theorem pre_w {w m : Nat} : pre4 w m w = sfx m w := by
  have := pre_sfx (w := w) (m := m) w (Nat.le_refl w)
  simpa [sfx] using this
theorem pre_lt {w m : Nat} : ∀ p, p ≤ w → pre4 w m p < 10 ^ (p + 1) := by
  intro p
  induction p with
  | zero => intro _; simp [pre4]
  | succ p ih =>
    intro h
    have h1 := ih (by omega)
    have h2 := dgt_lt m (w - 1 - p)
    simp only [pre4, Nat.pow_succ] at h1 ⊢
    omega
theorem p10_le {w : Nat} (h : w ≤ 5) : 10 ^ w ≤ 100000 := by
  have : 10 ^ w ≤ 10 ^ 5 := Nat.pow_le_pow_right (by decide) h
  simpa using this
theorem pow10 {F e : Nat} (he : e < F) (hF : e < 2 ^ 31) : pX12_power F (10 : Int32) (nI e) = some (nI (10 ^ e)) := power_eq (b := 10) he hF
section NMO
variable {F w m : Nat} {f h : xM}
theorem nm_dig {p : Nat} (hm : m < 2 ^ 31) (hw : w ≤ 5) (hp : p < w) : nI m / nI (10 ^ (w - 1 - p)) - nI m / nI (10 ^ (w - 1 - p)) / (10 : Int32) * (10 : Int32) = nI (dgt m (w - 1 - p)) := by
  have h0 : 0 < 10 ^ (w - 1 - p) := Nat.pow_pos (by decide)
  have hb : 10 ^ (w - 1 - p) ≤ 100000 := p10_le (by omega)
  rw [pk_div hm h0 (by omega)]
  have : m / 10 ^ (w - 1 - p) ≤ m := Nat.div_le_self _ _
  exact pk_rem (d := 10) (by omega) (by decide) (by decide)
theorem nmo_b0 (hF : 10 < F) (hw : w ≤ 5) (h4 : h 0 4 = nI w) (hm : m < 2 ^ 31) : ∀ (n p : Nat) (v2 : Int32), p ≤ w → w < p + n → pX12_nameOf_b31 F h n (nI m) v2 0 (nI p) = some (-9) := by
  intro n
  induction n with
  | zero => intro p v2 h1 h2; omega
  | succ n ih =>
    intro p v2 h1 h2
    rw [pX12_nameOf_b31, h4]
    by_cases hp : w ≤ p
    · rw [if_pos (nI_le hp (by omega)), if_pos rfl]
    · have h0 : 0 < 10 ^ (w - 1 - p) := Nat.pow_pos (by decide)
      have hb : 10 ^ (w - 1 - p) ≤ 100000 := p10_le (by omega)
      rw [if_neg (nI_ge (by omega) (by omega)), wmp (by omega), show (10 : Int32) = nI 10 from rfl, power_eq (by omega) (by omega), Option.bind_some, if_neg (nI_ne0 h0 (by omega)), if_pos rfl, pX12_nameOf_b75, show nI p + (1 : Int32) = nI (p + 1) from nI_1 p]
      exact ih (p + 1) _ (by omega) (by omega)
theorem nmo_good (hF : 10 < F) (hw : w ≤ 5) (h4 : h 0 4 = nI w) (hm : m < 2 ^ 31) (hg : ∀ i, i < w → dgt m i < 4) : ∀ (n p : Nat), p ≤ w → w < p + n → pX12_nameOf_b31 F h n (nI m) (nI (pre4 w m p)) 1 (nI p) = some (nI (sfx m w)) := by
  intro n
  induction n with
  | zero => intro p h1 h2; omega
  | succ n ih =>
    intro p h1 h2
    rw [pX12_nameOf_b31, h4]
    by_cases hp : w ≤ p
    · rw [if_pos (nI_le hp (by omega)), if_neg (by decide), show p = w by omega, pre_w]
    · have h0 : 0 < 10 ^ (w - 1 - p) := Nat.pow_pos (by decide)
      have hb : 10 ^ (w - 1 - p) ≤ 100000 := p10_le (by omega)
      have hd := hg (w - 1 - p) (by omega)
      rw [if_neg (nI_ge (by omega) (by omega)), wmp (by omega), pow10 (by omega) (by omega), Option.bind_some, if_neg (nI_ne0 h0 (by omega)), if_neg (by decide), nm_dig hm hw (by omega), if_neg (show ¬ (4 : Int32) ≤ nI (dgt m (w - 1 - p)) from nI_ge (b := 4) hd (by omega)), show nI p + (1 : Int32) = nI (p + 1) from nI_1 p, show (4 : Int32) = nI 4 from rfl, pk_mul, nI_add]
      exact ih (p + 1) (by omega) (by omega)
theorem nmo_bad (hF : 10 < F) (hw : w ≤ 5) (h4 : h 0 4 = nI w) (hm : m < 2 ^ 31) : ∀ (n p : Nat) (v2 : Int32), p ≤ w → w < p + n → (∃ i, i < w - p ∧ ¬ dgt m i < 4) → pX12_nameOf_b31 F h n (nI m) v2 1 (nI p) = some (-9) := by
  intro n
  induction n with
  | zero => intro p v2 h1 h2; omega
  | succ n ih =>
    intro p v2 h1 h2 ⟨i, hi, hbad⟩
    have hp : ¬ w ≤ p := by omega
    have h0 : 0 < 10 ^ (w - 1 - p) := Nat.pow_pos (by decide)
    have hb : 10 ^ (w - 1 - p) ≤ 100000 := p10_le (by omega)
    have hd9 := dgt_lt m (w - 1 - p)
    rw [pX12_nameOf_b31, h4, if_neg (nI_ge (by omega) (by omega)), wmp (by omega), pow10 (by omega) (by omega), Option.bind_some, if_neg (nI_ne0 h0 (by omega)), if_neg (by decide), nm_dig hm hw (by omega), show nI p + (1 : Int32) = nI (p + 1) from nI_1 p]
    by_cases hd : dgt m (w - 1 - p) < 4
    · rw [if_neg (show ¬ (4 : Int32) ≤ nI (dgt m (w - 1 - p)) from nI_ge (b := 4) hd (by omega))]
      refine ih (p + 1) _ (by omega) (by omega) ⟨i, ?_, hbad⟩
      rcases Nat.lt_or_ge i (w - (p + 1)) with q | q
      · exact q
      · exact absurd hd (by rw [show w - 1 - p = i by omega]; exact hbad)
    · rw [if_pos (show (4 : Int32) ≤ nI (dgt m (w - 1 - p)) from nI_le (a := 4) (by omega) (by omega)), pX12_nameOf_b75, show nI p + (1 : Int32) = nI (p + 1) from nI_1 p]
      exact nmo_b0 hF hw h4 hm n (p + 1) _ (by omega) (by omega)
theorem pk_step {k : Nat} (hw : w ≤ 5) (f4 : f 10 0 = nI w) (hk : k < w) (hg : ∀ i, i < k → dgt m i < 4) (hd : dgt m k < 4) : pX8_withLetter f (nI (sfx m k)) (nI (w - k - 1)) (nI (dgt m k)) = nI (sfx m (k + 1)) := by
  have h1 := sfx_lt k hg
  have h2 : 4 ^ k ≤ 1024 := p4_le (by omega)
  rw [withLetter_eq hw f4 (by omega) (by omega) (by omega), Nat.mod_eq_of_lt hd]
  congr 1
  unfold pt4 lt4
  rw [show w - 1 - (w - k - 1) = k by omega, Nat.div_eq_of_lt h1]
  simp [sfx]
theorem m10 (hm : m < 2 ^ 31) (k : Nat) : nI (m / 10 ^ k) - nI (m / 10 ^ k) / (10 : Int32) * (10 : Int32) = nI (dgt m k) := by
  have : m / 10 ^ k ≤ m := Nat.div_le_self _ _
  exact pk_rem (d := 10) (by omega) (by decide) (by decide)
theorem d10 (hm : m < 2 ^ 31) (k : Nat) : nI (m / 10 ^ k) / (10 : Int32) = nI (m / 10 ^ (k + 1)) := by
  have : m / 10 ^ k ≤ m := Nat.div_le_self _ _
  rw [show (10 : Int32) = nI 10 from rfl, pk_div (by omega) (by decide) (by decide), Nat.div_div_eq_div_mul, ← Nat.pow_succ]
theorem pkd_good (hw : w ≤ 5) (f4 : f 10 0 = nI w) (hm : m < 2 ^ 31) (hg : ∀ i, i < w → dgt m i < 4) : ∀ (n k : Nat) (v4 : Int32), k ≤ w → w < k + n → (k < w → v4 = nI (w - k - 1)) → (k = w → v4 = -1) → pX8_packed_b19 F f n (nI (sfx m k)) (nI (m / 10 ^ k)) v4 = some (if m / 10 ^ w = 0 then nI (sfx m w) else -9) := by
  intro n
  induction n with
  | zero => intro k v4 h1 h2; omega
  | succ n ih =>
    intro k v4 h1 h2 h3 h3'
    rw [pX8_packed_b19]
    by_cases hk : k = w
    · subst hk
      rw [h3' rfl, if_pos (by decide)]
      have hb : m / 10 ^ k ≤ m := Nat.div_le_self _ _
      by_cases h0 : m / 10 ^ k = 0
      · rw [if_pos (by rw [h0]; rfl), if_pos h0]
      · rw [if_neg (nI_ne0 (Nat.pos_of_ne_zero h0) (by omega)), if_neg h0]
    · have hd := hg k (by omega)
      rw [h3 (by omega), if_neg (nI_pos (by omega)), m10 hm, if_pos (show nI (dgt m k) ≤ (3 : Int32) from nI_le (b := 3) (by omega) (by omega)), pk_step hw f4 (by omega) (fun i hi => hg i (by omega)) hd, d10 hm]
      refine ih (k + 1) _ (by omega) (by omega) (fun hk2 => ?_) (fun hk2 => ?_)
      · rw [show w - k - 1 = (w - (k + 1) - 1) + 1 by omega]; exact pk_m1 _
      · rw [show w - k - 1 = 0 by omega]; rfl
theorem pkd_bad (hw : w ≤ 5) (f4 : f 10 0 = nI w) (hm : m < 2 ^ 31) : ∀ (n k : Nat) (v4 : Int32), k ≤ w → w < k + n → (k < w → v4 = nI (w - k - 1)) → (∀ i, i < k → dgt m i < 4) → (∃ i, i < w ∧ ¬ dgt m i < 4) → pX8_packed_b19 F f n (nI (sfx m k)) (nI (m / 10 ^ k)) v4 = some (-9) := by
  intro n
  induction n with
  | zero => intro k v4 h1 h2; omega
  | succ n ih =>
    intro k v4 h1 h2 h3 hg ⟨i, hi, hbad⟩
    have hk : k < w := by
      rcases Nat.lt_or_ge k w with q | q
      · exact q
      · exact absurd (hg i (by omega)) hbad
    have hd9 := dgt_lt m k
    rw [pX8_packed_b19, h3 hk, if_neg (nI_pos (by omega)), m10 hm]
    by_cases hd : dgt m k < 4
    · rw [if_pos (show nI (dgt m k) ≤ (3 : Int32) from nI_le (b := 3) (by omega) (by omega)), pk_step hw f4 hk hg hd, d10 hm]
      refine ih (k + 1) _ (by omega) (by omega) (fun hk2 => ?_) (fun j hj => ?_) ⟨i, hi, hbad⟩
      · rw [show w - k - 1 = (w - (k + 1) - 1) + 1 by omega]; exact pk_m1 _
      · rcases Nat.lt_or_ge j k with q | q
        · exact hg j q
        · rw [show j = k by omega]; exact hd
    · rw [if_neg (show ¬ nI (dgt m k) ≤ (3 : Int32) from nI_ge (a := 3) (by omega) (by omega))]
end NMO
theorem names_eq {F w : Nat} {f h : xM} (hF : 10 < F) (h1 : 1 ≤ w) (hw : w ≤ 5) (h4 : h 0 4 = nI w) (f4 : f 10 0 = nI w) (v : Int32) : ∃ q, pX12_nameOf F h v = some q ∧ pX8_packed F f v = some q ∧ (q = -9 ∨ ∃ s, s < 4 ^ w ∧ q = nI s) := by
  have hb := p10_le hw
  have h0 : 0 < 10 ^ w := Nat.pow_pos (by decide)
  unfold pX12_nameOf pX8_packed
  rw [h4, f4, show (10 : Int32) = nI 10 from rfl, power_eq (by omega) (by omega), Option.bind_some]
  have hin := in1_eq (v := v) (c := 10 ^ w) (by omega) (x := nI (10 ^ w)) rfl
  rcases nI_cases v with hv | ⟨m, hm, rfl⟩
  · have hv2 : ¬ isN v (10 ^ w) := by
      rintro ⟨j, hj, rfl⟩
      exact nI_pos (by omega) hv
    refine ⟨-9, by rw [if_pos (hin.mpr hv2)], ?_, Or.inl rfl⟩
    rw [if_neg]
    intro q
    rw [Int32.le_iff_toInt_le] at q
    rw [Int32.lt_iff_toInt_lt] at hv
    omega
  · rw [if_pos (show (0 : Int32) ≤ nI m from nI_pos' hm)]
    have e1 : nI w - (1 : Int32) = nI (w - 1) := pk_sub (b := 1) h1
    rw [e1]
    by_cases hbad : ∃ i, i < w ∧ ¬ dgt m i < 4
    · have b1 := pkd_bad (F := F) (f := f) hw f4 hm F 0 (nI (w - 1)) (by omega) (by omega) (fun _ => by rw [Nat.sub_zero]) (fun i hi => by omega) hbad
      simp only [Nat.pow_zero, Nat.div_one] at b1
      refine ⟨-9, ?_, b1, Or.inl rfl⟩
      by_cases hlt : pX12_in (nI m).toInt64 0 (nI (10 ^ w) - (1 : Int32)).toInt64 = 0
      · rw [if_pos hlt]
      · rw [if_neg hlt]
        exact nmo_bad hF hw h4 hm F 0 0 (by omega) (by omega) (by simpa using hbad)
    · have hg : ∀ i, i < w → dgt m i < 4 := fun i hi => by
        rcases Nat.lt_or_ge (dgt m i) 4 with q | q
        · exact q
        · exact absurd ⟨i, hi, by omega⟩ hbad
      have b1 := pkd_good (F := F) (f := f) hw f4 hm hg F 0 (nI (w - 1)) (by omega) (by omega) (fun _ => by rw [Nat.sub_zero]) (fun q => by omega)
      simp only [Nat.pow_zero, Nat.div_one] at b1
      have b1' : pX8_packed_b19 F f F 0 (nI m) (nI (w - 1)) = some (if m / 10 ^ w = 0 then nI (sfx m w) else -9) := b1
      by_cases hlt : m < 10 ^ w
      · have b2 := nmo_good (F := F) (h := h) hF hw h4 hm hg F 0 (by omega) (by omega)
        refine ⟨nI (sfx m w), ?_, ?_, Or.inr ⟨_, sfx_lt w hg, rfl⟩⟩
        · rw [if_neg (fun q => hin.mp q ⟨m, hlt, rfl⟩)]; exact b2
        · rw [b1', if_pos (Nat.div_eq_of_lt hlt)]
      · refine ⟨-9, ?_, ?_, Or.inl rfl⟩
        · rw [if_pos (hin.mpr ?_)]
          rintro ⟨j, hj, he⟩
          have := nI_inj hm (by omega) he
          omega
        · rw [b1', if_neg]
          intro q
          have := Nat.div_pos (show 10 ^ w ≤ m by omega) h0
          omega
