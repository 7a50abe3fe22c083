section TAKE
variable {F w d : Nat}
/-- the slips found: all differences at fewer than d places -/
def slI (w d x : Nat) (f0 f : xM) : Prop := (∀ z, z ≠ 7 → z ≠ 25 → f z = f0 z) ∧ f 7 2 = nI (slL d x).length ∧ ∀ i, i < (slL d x).length → f 25 i = nI ((slL d x).getD i 0)
theorem slips_loop {f0 : xM} (hw : w ≤ 5) (hd : d ≤ 5) (f04 : f0 10 0 = nI w) : ∀ (n x : Nat) (f : xM), slI w d x f0 f → x ≤ 4 ^ w → 4 ^ w < x + n → ∃ f', pX0_findSlips_b7 F n (nI d) (nI x) f = some f' ∧ slI w d (4 ^ w) f0 f' := by
  have hbb := p4_le hw
  intro n
  induction n with
  | zero => intro x f _ z1 z2; omega
  | succ n ih =>
    intro x f hI z1 z2
    have hI' := hI
    obtain ⟨i1, i2, i3⟩ := hI'
    have f4 : f 10 0 = nI w := by rw [i1 10 (by decide) (by decide)]; exact f04
    have hlen := slL_len (d := d) x
    rw [pX0_findSlips_b7, names8_eq hw f4]
    by_cases hx : 4 ^ w ≤ x
    · rw [if_pos (nI_le hx (by omega))]
      exact ⟨f, rfl, by rw [show 4 ^ w = x by omega]; exact hI⟩
    · have hdg : dg4 x < 6 := by unfold dg4; split <;> split <;> split <;> split <;> split <;> omega
      rw [if_neg (nI_ge (by omega) (by omega)), i2, if_neg (show ¬ (1024 : Int32) ≤ nI (slL d x).length from nI_ge (b := 1024) (by omega) (by omega)), unlike_dec x (by omega), show nI x + (1 : Int32) = nI (x + 1) from nI_1 x]
      by_cases hdd : d ≤ dg4 x
      · rw [if_pos (nI_le hdd (by omega))]
        refine ih (x + 1) f ?_ (by omega) (by omega)
        unfold slI
        simp only [slL]
        rw [if_neg (by omega)]
        exact hI
      · rw [if_neg (nI_ge (by omega) (by omega)), if_pos (xin_of (show (slL d x).length < 1024 by omega) (by omega)), nI_clamp (by omega), show xu f 25 (slL d x).length (nI x) 7 2 = nI (slL d x).length by rw [xu_ne (by decide)]; exact i2, show nI (slL d x).length + (1 : Int32) = nI ((slL d x).length + 1) from nI_1 _]
        refine ih (x + 1) _ ?_ (by omega) (by omega)
        unfold slI
        simp only [slL]
        rw [if_pos (by omega)]
        refine ⟨fun z y1 y2 => by rw [xu_ne y1, xu_ne y2, i1 z y1 y2], by rw [xu_same]; simp, fun i hi => ?_⟩
        rw [xu_ne (by decide)]
        by_cases hi2 : i = (slL d x).length
        · subst hi2
          rw [xu_same, gd_last]
        · have hi3 : i < (slL d x).length := by simp at hi; omega
          rw [xu_neK hi2, gd_app hi3]
          exact i3 i hi3
theorem slips_eq {f : xM} (hF : 1030 < F) (hw : w ≤ 5) (hd : d ≤ 5) (f4 : f 10 0 = nI w) : ∃ f', pX0_findSlips F (nI d) f = some f' ∧ slI w d (4 ^ w) f f' := by
  have hbb := p4_le hw
  exact slips_loop hw hd f4 F 0 (xu f 7 2 0) ⟨fun z y1 _ => xu_ne y1, by rw [xu_same]; rfl, fun i hi => by simp [slL] at hi⟩ (Nat.zero_le _) (by omega)
theorem clear_eq {f : xM} (hF : 1030 < F) : ∃ f', pX0_clearNear F f = some f' ∧ (∀ z, z ≠ 24 → f' z = f z) ∧ ∀ y, y < 1024 → f' 24 y = 0 := by
  have key : ∀ (n j : Nat) (g : xM), (∀ z, z ≠ 24 → g z = f z) → (∀ y, y < j → g 24 y = 0) → j ≤ 1024 → 1024 < j + n → ∃ f', pX0_clearNear_b2 F n (nI j) g = some f' ∧ (∀ z, z ≠ 24 → f' z = f z) ∧ ∀ y, y < 1024 → f' 24 y = 0 := by
    intro n
    induction n with
    | zero => intro j g _ _ z1 z2; omega
    | succ n ih =>
      intro j g h1 h2 z1 z2
      rw [pX0_clearNear_b2]
      by_cases hj : 1024 ≤ j
      · rw [if_pos (show (1024 : Int32) ≤ nI j from nI_le (a := 1024) hj (by omega))]
        exact ⟨g, rfl, h1, fun y hy => h2 y (by omega)⟩
      · rw [if_neg (show ¬ (1024 : Int32) ≤ nI j from nI_ge (b := 1024) (by omega) (by omega)), if_pos (xin_of (show j < 1024 by omega) (by omega)), nI_clamp (by omega), show nI j + (1 : Int32) = nI (j + 1) from nI_1 j]
        refine ih (j + 1) _ (fun z hz => by rw [xu_ne hz, h1 z hz]) (fun y hy => ?_) (by omega) (by omega)
        by_cases e : y = j
        · subst e; rw [xu_same]
        · rw [xu_neK e]; exact h2 y (by omega)
  exact key F 0 f (fun _ _ => rfl) (fun y hy => by omega) (by omega) (by omega)
theorem bar_eq {f : xM} {s : Nat} {S : List Nat} (hF : 1030 < F) (hs : s < 1024) (hS : S.length ≤ 1024) (hlt : ∀ a, a ∈ S → a < 1024) (f72 : f 7 2 = nI S.length) (f25 : ∀ i, i < S.length → f 25 i = nI (S.getD i 0)) : ∃ f', pX0_barAround F (nI s) f = some f' ∧ (∀ z, z ≠ 24 → f' z = f z) ∧ ∀ y, y < 1024 → (((∃ a, a ∈ S ∧ y = s ^^^ a) → f' 24 y = 1) ∧ ((¬ ∃ a, a ∈ S ∧ y = s ^^^ a) → f' 24 y = f 24 y)) := by
  have key : ∀ (n j : Nat) (g : xM), (∀ z, z ≠ 24 → g z = f z) → (∀ y, y < 1024 → (((∃ i, i < j ∧ y = s ^^^ S.getD i 0) → g 24 y = 1) ∧ ((¬ ∃ i, i < j ∧ y = s ^^^ S.getD i 0) → g 24 y = f 24 y))) → j ≤ S.length → S.length < j + n → ∃ f', pX0_barAround_b2 F n (nI s) (nI j) g = some f' ∧ (∀ z, z ≠ 24 → f' z = f z) ∧ (∀ y, y < 1024 → (((∃ i, i < S.length ∧ y = s ^^^ S.getD i 0) → f' 24 y = 1) ∧ ((¬ ∃ i, i < S.length ∧ y = s ^^^ S.getD i 0) → f' 24 y = f 24 y))) := by
    intro n
    induction n with
    | zero => intro j g _ _ z1 z2; omega
    | succ n ih =>
      intro j g h1 h2 z1 z2
      rw [pX0_barAround_b2, h1 7 (by decide), f72]
      by_cases hj : S.length ≤ j
      · rw [if_pos (nI_le hj (by omega))]
        exact ⟨g, rfl, h1, by rw [show S.length = j by omega]; exact h2⟩
      · have hm := hlt _ (gd_mem (show j < S.length by omega))
        have hx := xor_lt hs hm
        rw [if_neg (nI_ge (by omega) (by omega)), if_neg (show ¬ (1024 : Int32) ≤ nI j from nI_ge (b := 1024) (by omega) (by omega)), if_pos (xin_of (show j < 1024 by omega) (by omega)), nI_clamp (by omega), h1 25 (by decide), f25 j (by omega), nI_xor, if_neg (nI_pos (by omega)), if_neg (show ¬ (1024 : Int32) ≤ nI (s ^^^ S.getD j 0) from nI_ge (b := 1024) hx (by omega)), if_pos (xin_of hx (by omega)), nI_clamp (by omega), show nI j + (1 : Int32) = nI (j + 1) from nI_1 j]
        refine ih (j + 1) _ (fun z hz => by rw [xu_ne hz, h1 z hz]) (fun y hy => ⟨?_, ?_⟩) (by omega) (by omega)
        · rintro ⟨i, hi, he⟩
          by_cases e : y = s ^^^ S.getD j 0
          · rw [e, xu_same]
          · rw [xu_neK e]
            refine (h2 y hy).1 ⟨i, ?_, he⟩
            rcases Nat.lt_or_ge i j with q | q
            · exact q
            · exact absurd (by rw [he, show i = j by omega]) e
        · intro hno
          have e : y ≠ s ^^^ S.getD j 0 := fun q => hno ⟨j, by omega, q⟩
          rw [xu_neK e]
          exact (h2 y hy).2 (fun ⟨i, hi, he⟩ => hno ⟨i, by omega, he⟩)
  obtain ⟨f', e1, e2, e3⟩ := key F 0 f (fun _ _ => rfl) (fun y hy => ⟨fun ⟨i, hi, _⟩ => by omega, fun _ => rfl⟩) (by omega) (by omega)
  refine ⟨f', e1, e2, fun y hy => ⟨fun ⟨a, ha, he⟩ => ?_, fun hno => (e3 y hy).2 (fun ⟨i, hi, he⟩ => hno ⟨_, gd_mem hi, he⟩)⟩⟩
  obtain ⟨i, hi, rfl⟩ := gd_of_mem ha
  exact (e3 y hy).1 ⟨i, hi, he⟩
theorem xor_swap {a b c : Nat} (h : c = a ^^^ b) : b = c ^^^ a := by
  subst h
  rw [Nat.xor_comm a b, Nat.xor_assoc, Nat.xor_self, Nat.xor_zero]
/-- what holds when all names below s were looked at; v is the number wanted -/
def tkI (w d s : Nat) (v : Int32) (f0 f : xM) : Prop := (∀ z, z ≠ 7 → z ≠ 24 → f z = f0 z) ∧ f 7 2 = f0 7 2 ∧ f 7 3 = nI (gtL d s).length ∧ (∀ y, y < 4 ^ w → (f 24 y = 0 ↔ okA d y (gtL d s) = true)) ∧ ((∀ j, j < (gtL d s).length → v ≠ nI j) → f 7 4 = -9) ∧ (∀ j, j < (gtL d s).length → v = nI j → f 7 4 = nI ((gtL d s).getD j 0))
theorem okA_app {y s : Nat} {L : List Nat} : okA d y (L ++ [s]) = true ↔ okA d y L = true ∧ d ≤ dg4 (y ^^^ s) := by
  unfold okA
  simp [List.all_append]
theorem take_loop {f0 : xM} {v : Int32} (hF : 1030 < F) (h1 : 1 ≤ w) (hw : w ≤ 5) (hd : d ≤ 5) (f04 : f0 10 0 = nI w) (f72 : f0 7 2 = nI (slL d (4 ^ w)).length) (f25 : ∀ i, i < (slL d (4 ^ w)).length → f0 25 i = nI ((slL d (4 ^ w)).getD i 0)) : ∀ (n s : Nat) (f : xM), tkI w d s v f0 f → s ≤ 4 ^ w → 4 ^ w < s + n → ∃ f', pX0_take_b24 F n v (nI s) f = some f' ∧ tkI w d (4 ^ w) v f0 f' := by
  have hbb := p4_le hw
  intro n
  induction n with
  | zero => intro s f _ z1 z2; omega
  | succ n ih =>
    intro s f hI z1 z2
    have hI' := hI
    obtain ⟨i1, i2, i3, i4, i5, i6⟩ := hI'
    have f4 : f 10 0 = nI w := by rw [i1 10 (by decide) (by decide)]; exact f04
    have hlen := gtL_len (d := d) s
    have hsl := slL_len (d := d) (4 ^ w)
    rw [pX0_take_b24, names8_eq hw f4]
    by_cases hs : 4 ^ w ≤ s
    · rw [if_pos (nI_le hs (by omega))]
      exact ⟨f, rfl, by rw [show 4 ^ w = s by omega]; exact hI⟩
    · rw [if_neg (nI_ge (by omega) (by omega)), if_neg (show ¬ (1024 : Int32) ≤ nI s from nI_ge (b := 1024) (by omega) (by omega)), if_pos (xin_of (show s < 1024 by omega) (by omega)), nI_clamp (by omega), show nI s + (1 : Int32) = nI (s + 1) from nI_1 s]
      by_cases hok : okA d s (gtL d s) = true
      · rw [if_pos ((i4 s (by omega)).mpr hok)]
        have main : ∀ (W : Int32), ((∀ j, j < (gtL d s).length + 1 → v ≠ nI j) → W = -9) → (∀ j, j < (gtL d s).length + 1 → v = nI j → W = nI ((gtL d s ++ [s]).getD j 0)) → ∃ f', pX0_take_b71 F (pX0_take_b24 F n) v (nI s) W f = some f' ∧ tkI w d (4 ^ w) v f0 f' := by
          intro W hW1 hW2
          rw [pX0_take_b71, show xu f 7 4 W 7 3 = nI (gtL d s).length by rw [xu_neK (by decide)]; exact i3, show nI (gtL d s).length + (1 : Int32) = nI ((gtL d s).length + 1) from nI_1 _]
          obtain ⟨f1, b1, b2, b3⟩ := bar_eq (F := F) (f := xu (xu f 7 4 W) 7 3 (nI ((gtL d s).length + 1))) (s := s) (S := slL d (4 ^ w)) hF (by omega) (by omega) (fun a ha => by have := (slL_mem (d := d) (4 ^ w) a).mp ha; omega) (by rw [xu_neK (by decide), xu_neK (by decide), i2]; exact f72) (fun i hi => by rw [xu_ne (by decide), xu_ne (by decide), i1 25 (by decide) (by decide)]; exact f25 i hi)
          rw [b1, Option.bind_some, show nI s + (1 : Int32) = nI (s + 1) from nI_1 s]
          refine ih (s + 1) f1 ?_ (by omega) (by omega)
          unfold tkI
          simp only [gtL]
          rw [if_pos hok]
          refine ⟨fun z y1 y2 => by rw [b2 z y2, xu_ne y1, xu_ne y1, i1 z y1 y2], by rw [b2 7 (by decide), xu_neK (by decide), xu_neK (by decide), i2], by rw [b2 7 (by decide), xu_same]; simp, fun y hy => ?_, fun hq => ?_, fun j hj hv => ?_⟩
          · rw [okA_app]
            obtain ⟨c1, c2⟩ := b3 y (by omega)
            by_cases hdd : d ≤ dg4 (y ^^^ s)
            · rw [c2 ?_, xu_ne (by decide), xu_ne (by decide), i4 y hy]
              · exact ⟨fun q => ⟨q, hdd⟩, fun q => q.1⟩
              · rintro ⟨a, ha, he⟩
                have h2 := ((slL_mem (d := d) (4 ^ w) a).mp ha).2
                rw [xor_swap he] at h2
                omega
            · rw [c1 ⟨y ^^^ s, ?_, ?_⟩]
              · exact ⟨fun q => absurd q (by decide), fun q => absurd q.2 hdd⟩
              · rw [slL_mem]
                refine ⟨?_, by omega⟩
                have e1 : 2 ^ (2 * w) = 4 ^ w := by rw [Nat.pow_mul]
                rw [← e1]
                exact Nat.xor_lt_two_pow (by rw [e1]; exact hy) (by rw [e1]; omega)
              · rw [Nat.xor_comm y s, ← Nat.xor_assoc, Nat.xor_self, Nat.zero_xor]
          · rw [b2 7 (by decide), xu_neK (by decide), xu_same]
            exact hW1 (fun j hj => hq j (by simpa using hj))
          · rw [b2 7 (by decide), xu_neK (by decide), xu_same]
            exact hW2 j (by simpa using hj) hv
        rw [i3]
        by_cases hv : nI (gtL d s).length = v
        · rw [if_pos hv]
          refine main (nI s) (fun q => absurd hv.symm (q _ (by omega))) (fun j hj hv2 => ?_)
          have : j = (gtL d s).length := nI_inj (by omega) (by omega) (by rw [← hv2, hv])
          rw [this, gd_last]
        · rw [if_neg hv]
          refine main (f 7 4) (fun q => i5 (fun j hj => q j (by omega))) (fun j hj hv2 => ?_)
          have hj2 : j < (gtL d s).length := by
            rcases Nat.lt_or_ge j (gtL d s).length with q | q
            · exact q
            · exact absurd (by rw [hv2, show j = (gtL d s).length by omega]) hv
          rw [gd_app hj2]
          exact i6 j hj2 hv2
      · rw [if_neg (fun q => hok ((i4 s (by omega)).mp q))]
        refine ih (s + 1) f ?_ (by omega) (by omega)
        unfold tkI
        simp only [gtL]
        rw [if_neg hok]
        exact hI
theorem take_eq {f : xM} {v : Int32} (hF : 1030 < F) (h1 : 1 ≤ w) (hw : w ≤ 5) (hd : d ≤ 5) (f4 : f 10 0 = nI w) : ∃ f', pX0_take F (nI d) v f = some f' ∧ (∀ z, z ≠ 7 → z ≠ 24 → z ≠ 25 → f' z = f z) ∧ f' 7 3 = nI (gtL d (4 ^ w)).length ∧ ((∀ j, j < (gtL d (4 ^ w)).length → v ≠ nI j) → f' 7 4 = -9) ∧ (∀ j, j < (gtL d (4 ^ w)).length → v = nI j → f' 7 4 = nI ((gtL d (4 ^ w)).getD j 0)) := by
  have hbb := p4_le hw
  unfold pX0_take
  obtain ⟨f1, a1, a2, a3, a4⟩ := slips_eq (f := f) hF hw hd f4
  obtain ⟨f2, b1, b2, b3⟩ := clear_eq (f := f1) hF
  rw [a1, Option.bind_some, b1, Option.bind_some]
  obtain ⟨f3, c1, c2, c3, c4, c5, c6, c7⟩ := take_loop (F := F) (f0 := f2) (v := v) hF h1 hw hd (by rw [b2 10 (by decide), a2 10 (by decide) (by decide)]; exact f4) (by rw [b2 7 (by decide)]; exact a3) (fun i hi => by rw [b2 25 (by decide)]; exact a4 i hi) F 0 (xu (xu f2 7 3 0) 7 4 (-9)) ⟨fun z y1 y2 => by rw [xu_ne y1, xu_ne y1], by rw [xu_neK (by decide), xu_neK (by decide)], by rw [xu_neK (by decide), xu_same]; rfl, fun y hy => by rw [xu_ne (by decide), xu_ne (by decide), b3 y (by omega)]; simp [gtL, okA], fun _ => xu_same, fun j hj => by simp [gtL] at hj⟩ (Nat.zero_le _) (by omega)
  exact ⟨f3, c1, fun z y1 y2 y3 => by rw [c2 z y1 y2, b2 z y2, a2 z y1 y3], c4, c6, c7⟩
end TAKE
theorem okC_code {f f' : xM} (h : ∀ x, x ≠ 7 → x ≠ 24 → x ≠ 25 → f' x = f x) : okC f f' := by
  refine ⟨?_, ?_, ?_, ?_, ?_, ?_, ?_, ?_, ?_, ?_, ?_⟩ <;> (rw [h _ (by decide) (by decide) (by decide)])
theorem okM_code {w d : Nat} {h h' : xM} (q : lyM w d (4 ^ w) h h') : okM h h' := by
  obtain ⟨a, b, -⟩ := q
  exact ⟨b _ (by decide), a _ (by decide) (by decide), b _ (by decide), b _ (by decide), b _ (by decide), b _ (by decide), a _ (by decide) (by decide), a _ (by decide) (by decide), a _ (by decide) (by decide), b _ (by decide), a _ (by decide) (by decide), a _ (by decide) (by decide), a _ (by decide) (by decide)⟩
theorem in15 (v : Int32) (m : Nat) (hm : m < 2 ^ 31) (cc : Int64) (hc : cc.toInt = m) : pX12_in v.toInt64 1 cc = 0 ↔ ¬ (∃ N, 1 ≤ N ∧ N ≤ m ∧ v = nI N) := by
  rw [in_eq]
  have e : ((1 : Int64) ≤ v.toInt64 ∧ v.toInt64 ≤ cc) ↔ ∃ N, 1 ≤ N ∧ N ≤ m ∧ v = nI N := by
    rw [Int64.le_iff_toInt_le, Int64.le_iff_toInt_le, Int32.toInt_toInt64, hc, show (1 : Int64).toInt = 1 from rfl]
    constructor
    · rintro ⟨a, b⟩
      refine ⟨v.toInt.toNat, by omega, by omega, ?_⟩
      rw [← Int32.toInt_inj, nI_toInt (by omega)]; omega
    · rintro ⟨N, a, b, rfl⟩
      rw [nI_toInt (by omega)]; omega
  by_cases q : (1 : Int64) ≤ v.toInt64 ∧ v.toInt64 ≤ cc
  · rw [if_pos q]; exact ⟨fun z => absurd z (by decide), fun z => absurd (e.mp q) z⟩
  · rw [if_neg q]; exact ⟨fun _ z => q (e.mpr z), fun _ => rfl⟩
theorem rng_neg {v : Int32} {m : Nat} (hm : m < 2 ^ 31) (hv : ¬ ∃ N, 1 ≤ N ∧ N ≤ m ∧ v = nI N) (z1 : ¬ v < (1 : Int32)) : ¬ v ≤ nI m := by
  intro z2
  apply hv
  rw [Int32.lt_iff_toInt_lt, show (1 : Int32).toInt = 1 from rfl] at z1
  rw [Int32.le_iff_toInt_le, nI_toInt hm] at z2
  refine ⟨v.toInt.toNat, by omega, by omega, ?_⟩
  rw [← Int32.toInt_inj, nI_toInt (by omega)]; omega
theorem e_code {n : Nat} {f : xM} {g : xN} {h : xM} {k : xN} (hn : n ≤ 100) (hR : Rel n f g h k) (v1 : Int32) : ∃ (F : Nat) (a : Int32 × xM) (b : Int32 × xM), pX11_code F v1 f = some a ∧ pX12_code F v1 h = some b ∧ a.1 = b.1 ∧ Rel (n + 1) a.2 g b.2 k := by
  obtain ⟨w, c, r, t, hW⟩ := Rel_open hR
  have hR2 := hW.rel
  generalize hh : xu h 0 0 (0 : Int32) = h2 at hW hR2
  obtain ⟨p1, p2, p3, p4, p5, p6, p7, -⟩ := RelW_P hW
  refine ⟨1100, ?_⟩
  unfold pX11_code pX12_code
  rw [hh]
  have hin := in15 v1 5 (by omega) 5 rfl
  by_cases hv : ∃ N, 1 ≤ N ∧ N ≤ 5 ∧ v1 = nI N
  · rw [if_neg (fun z => hin.mp z hv)]
    obtain ⟨d, n1, n2, rfl⟩ := hv
    rw [if_neg (show ¬ nI d < (1 : Int32) from nI_nlt (b := 1) n1 (by omega)), if_pos (show nI d ≤ (5 : Int32) from nI_le (b := 5) n2 (by omega))]
    obtain ⟨f', a1, a2, a3, a4, a5⟩ := take_eq (F := 1100) (w := w) (d := d) (f := f) (v := 0) (by omega) p1 p2 n2 p6
    obtain ⟨h', b1, b2⟩ := layCode_eq (F := 1100) (w := w) (d := d) (h := h2) (by omega) p1 p2 n2 p7
    rw [a1, b1]
    refine ⟨_, _, rfl, rfl, ?_, Rel_ok hR2 (Nat.le_refl _) (okC_code a2) (okM_code b2) (RelW_g hW)⟩
    dsimp only
    rw [a3, b2.2.2.1]
  · rw [if_pos (hin.mpr hv)]
    refine ⟨(-2, f), (-2, h2), ?_, rfl, rfl, hR2⟩
    by_cases z1 : v1 < (1 : Int32)
    · rw [if_pos z1]
    · rw [if_neg z1, if_neg (show ¬ v1 ≤ (5 : Int32) from rng_neg (m := 5) (by omega) hv z1)]
theorem e_codeName {n : Nat} {f : xM} {g : xN} {h : xM} {k : xN} (hn : n ≤ 100) (hR : Rel n f g h k) (v1 : Int32) (v2 : Int32) : ∃ (F : Nat) (a : Int32 × xM) (b : Int32 × xM), pX11_codeName F v1 v2 f = some a ∧ pX12_codeName F v1 v2 h = some b ∧ a.1 = b.1 ∧ Rel (n + 1) a.2 g b.2 k := by
  obtain ⟨w, c, r, t, hW⟩ := Rel_open hR
  have hR2 := hW.rel
  generalize hh : xu h 0 0 (0 : Int32) = h2 at hW hR2
  obtain ⟨p1, p2, p3, p4, p5, p6, p7, -⟩ := RelW_P hW
  have hbb := p4_le p2
  refine ⟨1100, ?_⟩
  unfold pX11_codeName pX12_codeName
  rw [hh]
  have hin := in15 v1 5 (by omega) 5 rfl
  by_cases hv : ∃ N, 1 ≤ N ∧ N ≤ 5 ∧ v1 = nI N
  · rw [if_neg (fun z => hin.mp z hv)]
    obtain ⟨d, n1, n2, rfl⟩ := hv
    rw [if_neg (show ¬ nI d < (1 : Int32) from nI_nlt (b := 1) n1 (by omega)), if_pos (show nI d ≤ (5 : Int32) from nI_le (b := 5) n2 (by omega))]
    obtain ⟨f', a1, a2, a3, a4, a5⟩ := take_eq (F := 1100) (w := w) (d := d) (f := f) (v := v2) (by omega) p1 p2 n2 p6
    obtain ⟨h', b1, b2⟩ := layCode_eq (F := 1100) (w := w) (d := d) (h := h2) (by omega) p1 p2 n2 p7
    have hlen := gtL_len (d := d) (4 ^ w)
    have hR3 := Rel_ok hR2 (Nat.le_refl _) (okC_code a2) (okM_code b2) (RelW_g hW)
    have hin2 := in1_eq (v := v2) (c := (gtL d (4 ^ w)).length) (by omega) (x := h' 0 31) b2.2.2.1
    rw [a1, b1, Option.bind_some, Option.bind_some]
    by_cases hj : isN v2 (gtL d (4 ^ w)).length
    · rw [if_neg (fun z => hin2.mp z hj)]
      obtain ⟨j, hj, rfl⟩ := hj
      have hlt := gtL_lt (d := d) (4 ^ w) _ (gd_mem hj)
      rw [a5 j hj rfl, if_neg (ne9 _ (by omega)), if_pos (xin_of (show j < 1024 by omega) (by omega)), nI_clamp (by omega), b2.2.2.2 j hj]
      obtain ⟨tr, t1, t2⟩ := told_eq (F := 1100) (f := f') (h := h') (w := w) (s := (gtL d (4 ^ w)).getD j 0) (by omega) p2 (by rw [b2.2.1 4 (by decide)]; exact p7) (by rw [a2 10 (by decide) (by decide) (by decide)]; exact p6) (by omega)
      rw [t1, t2]
      exact ⟨_, _, rfl, rfl, rfl, hR3⟩
    · rw [if_pos (hin2.mpr hj), a4 (fun j hj2 he => hj ⟨j, hj2, he⟩), if_pos rfl]
      exact ⟨_, _, rfl, rfl, rfl, hR3⟩
  · rw [if_pos (hin.mpr hv)]
    refine ⟨(-2, f), (-2, h2), ?_, rfl, rfl, hR2⟩
    by_cases z1 : v1 < (1 : Int32)
    · rw [if_pos z1]
    · rw [if_neg z1, if_neg (show ¬ v1 ≤ (5 : Int32) from rng_neg (m := 5) (by omega) hv z1)]
