/-! ===== codes ===== -/
theorem gd_app {L : List Nat} {x i : Nat} (hi : i < L.length) : (L ++ [x]).getD i 0 = L.getD i 0 := by simp [List.getD_eq_getElem?_getD, List.getElem?_append_left hi]
theorem gd_last {L : List Nat} {x : Nat} : (L ++ [x]).getD L.length 0 = x := by simp [List.getD_eq_getElem?_getD]
theorem gd_mem {L : List Nat} {i : Nat} (hi : i < L.length) : L.getD i 0 ∈ L := by
  rw [List.getD_eq_getElem?_getD, List.getElem?_eq_getElem hi]
  exact List.getElem_mem hi
theorem gd_of_mem {L : List Nat} {a : Nat} (h : a ∈ L) : ∃ i, i < L.length ∧ L.getD i 0 = a := by
  obtain ⟨i, hi, rfl⟩ := List.getElem_of_mem h
  exact ⟨i, hi, by rw [List.getD_eq_getElem?_getD, List.getElem?_eq_getElem hi]; rfl⟩
def slL (d : Nat) : Nat → List Nat
  | 0 => []
  | x + 1 => if dg4 x < d then slL d x ++ [x] else slL d x
def okA (d s : Nat) (L : List Nat) : Bool := L.all (fun a => decide (d ≤ dg4 (s ^^^ a)))
def gtL (d : Nat) : Nat → List Nat
  | 0 => []
  | s + 1 => if okA d s (gtL d s) = true then gtL d s ++ [s] else gtL d s
theorem slL_len {d : Nat} : ∀ x, (slL d x).length ≤ x := by
  intro x
  induction x with
  | zero => exact Nat.le_refl _
  | succ x ih => simp only [slL]; split <;> (try simp) <;> omega
theorem gtL_len {d : Nat} : ∀ x, (gtL d x).length ≤ x := by
  intro x
  induction x with
  | zero => exact Nat.le_refl _
  | succ x ih => simp only [gtL]; split <;> (try simp) <;> omega
theorem slL_mem {d : Nat} : ∀ x a, a ∈ slL d x ↔ a < x ∧ dg4 a < d := by
  intro x
  induction x with
  | zero => intro a; simp [slL]
  | succ x ih =>
    intro a
    simp only [slL]
    split
    · rename_i h
      rw [List.mem_append, ih, List.mem_singleton]
      constructor
      · rintro (⟨h1, h2⟩ | rfl)
        · exact ⟨by omega, h2⟩
        · exact ⟨by omega, h⟩
      · rintro ⟨h1, h2⟩
        by_cases e : a = x
        · exact Or.inr e
        · exact Or.inl ⟨by omega, h2⟩
    · rename_i h
      rw [ih]
      constructor
      · rintro ⟨h1, h2⟩; exact ⟨by omega, h2⟩
      · rintro ⟨h1, h2⟩
        refine ⟨?_, h2⟩
        rcases Nat.lt_or_ge a x with q | q
        · exact q
        · exact absurd h2 (by rw [show a = x by omega]; exact h)
theorem gtL_lt {d : Nat} : ∀ x a, a ∈ gtL d x → a < x := by
  intro x
  induction x with
  | zero => intro a h; simp [gtL] at h
  | succ x ih =>
    intro a h
    simp only [gtL] at h
    split at h
    · rcases List.mem_append.mp h with h | h
      · have := ih a h; omega
      · rw [List.mem_singleton] at h; omega
    · have := ih a h; omega
theorem sh_amt2 : ∀ k, k < 11 → ((nI k &&& 31).toBitVec.smod 32).toNat = k := by decide +kernel
theorem names8_eq {f : xM} {w : Nat} (hw : w ≤ 5) (f4 : f 10 0 = nI w) : pX8_names f = nI (4 ^ w) := by
  have hb := p4_le hw
  unfold pX8_names
  have e1 : 2 ^ (2 * w) = 4 ^ w := by rw [Nat.pow_mul]
  rw [f4, show (2 : Int32) = nI 2 from rfl, pk_mul, show (1 : Int32) = nI 1 from rfl, pk_shlN _ (2 * w) (sh_amt2 _ (by omega)) (by rw [e1]; omega), Nat.one_mul, e1]
theorem names12_eq {F : Nat} {h : xM} {w : Nat} (hF : 5 < F) (hw : w ≤ 5) (h4 : h 0 4 = nI w) : pX12_names F h = some (nI (4 ^ w)) := by
  unfold pX12_names
  rw [h4, show (4 : Int32) = nI 4 from rfl, power_eq (by omega) (by omega)]
  rfl
theorem unlike12_eq {F : Nat} {h : xM} {w a b : Nat} (hF : 5 < F) (h1 : 1 ≤ w) (hw : w ≤ 5) (h4 : h 0 4 = nI w) (ha : a < 4 ^ w) (hb : b < 4 ^ w) : pX12_unlike F h (nI a) (nI b) = some (nI (dg4 (a ^^^ b))) := by
  have hbb := p4_le hw
  have hd := rgt_dg h1 hw ha hb
  have key : ∀ (n p : Nat), p ≤ w → w < p + n → pX12_unlike_b5 F h n (nI a) (nI b) (nI (p - rg4 w a b p)) (nI p) = some (nI (w - rgt w a b)) := by
    intro n
    induction n with
    | zero => intro p z1 z2; omega
    | succ n ih =>
      intro p z1 z2
      rw [pX12_unlike_b5, h4]
      by_cases hp : w ≤ p
      · rw [if_pos (nI_le hp (by omega)), show p = w by omega]; rfl
      · have hl1 := lt4_lt w a p
        have hl2 := lt4_lt w b p
        have hr := rg4_le w a b p
        rw [if_neg (nI_ge (by omega) (by omega)), letterOf_eq hF hw h4 (by omega) (by omega), Option.bind_some, letterOf_eq hF hw h4 (by omega) (by omega), Option.bind_some, show nI p + (1 : Int32) = nI (p + 1) from nI_1 p]
        have ih2 := ih (p + 1) (by omega) (by omega)
        simp only [rg4] at ih2
        by_cases he : lt4 w a p = lt4 w b p
        · rw [if_pos (by rw [he]), show nI (p - rg4 w a b p) + (0 : Int32) = nI (p - rg4 w a b p + 0) from nI_add _ 0]
          rw [if_pos he, show p + 1 - (rg4 w a b p + 1) = p - rg4 w a b p + 0 by omega] at ih2
          exact ih2
        · rw [if_neg (fun q => he (nI_inj (by omega) (by omega) q)), show nI (p - rg4 w a b p) + (1 : Int32) = nI (p - rg4 w a b p + 1) from nI_1 _]
          rw [if_neg he, show p + 1 - (rg4 w a b p + 0) = p - rg4 w a b p + 1 by omega] at ih2
          exact ih2
  have := key F 0 (by omega) (by omega)
  rw [show w - rgt w a b = dg4 (a ^^^ b) by omega] at this
  exact this
section LAYM
variable {F w d : Nat}
theorem b61_eq {K7 : Int32 → Int32 → xM → Option xM} {K20 : Int32 → Int32 → Int32 → Int32 → xM → Option xM} {s m : Nat} {h : xM} (h31 : h 0 31 = nI m) (hm : m < 1024) : pX12_layCode_b61 F K7 K20 (nI d) (nI s) 1 h = K7 (nI d) (nI (s + 1)) (xu (xu h 12 m (nI s)) 0 31 (nI (m + 1))) := by
  rw [pX12_layCode_b61, if_neg (by decide), h31, if_pos (xin_of hm (by omega)), nI_clamp (by omega), show xu h 12 m (nI s) 0 31 = nI m by rw [xu_ne (by decide)]; exact h31, show nI m + (1 : Int32) = nI (m + 1) from nI_1 m, show nI s + (1 : Int32) = nI (s + 1) from nI_1 s]
theorem b20_eq {K7 : Int32 → Int32 → xM → Option xM} {s : Nat} {L : List Nat} {h : xM} (hF : 5 < F) (h1 : 1 ≤ w) (hw : w ≤ 5) (h4 : h 0 4 = nI w) (hd : d ≤ 5) (hs : s < 4 ^ w) (hL : ∀ a, a ∈ L → a < s) (hm : L.length ≤ s) (h31 : h 0 31 = nI L.length) (h12 : ∀ i, i < L.length → h 12 i = nI (L.getD i 0)) : ∀ (n k : Nat), k ≤ L.length → L.length < k + n → (∀ i, i < k → d ≤ dg4 (s ^^^ L.getD i 0)) → pX12_layCode_b20 F K7 n (nI d) (nI s) 1 (nI k) h = K7 (nI d) (nI (s + 1)) (if okA d s L = true then xu (xu h 12 L.length (nI s)) 0 31 (nI (L.length + 1)) else h) := by
  have hbb := p4_le hw
  intro n
  induction n with
  | zero => intro k z1 z2; omega
  | succ n ih =>
    intro k z1 z2 hg
    rw [pX12_layCode_b20, h31]
    by_cases hk : L.length ≤ k
    · rw [if_pos (nI_le hk (by omega)), b61_eq h31 (by omega), if_pos]
      unfold okA
      rw [List.all_eq_true]
      intro a ha
      obtain ⟨i, hi, rfl⟩ := gd_of_mem ha
      exact decide_eq_true (hg i (by omega))
    · have hmem := gd_mem (show k < L.length by omega)
      have hlt := hL _ hmem
      rw [if_neg (nI_ge (by omega) (by omega)), if_neg (by decide), if_pos (xin_of (show k < 1024 by omega) (by omega)), nI_clamp (by omega), h12 k (by omega), unlike12_eq hF h1 hw h4 hs (by omega), Option.bind_some, show nI k + (1 : Int32) = nI (k + 1) from nI_1 k]
      have hdg : dg4 (s ^^^ L.getD k 0) < 6 := by unfold dg4; split <;> split <;> split <;> split <;> split <;> omega
      by_cases hdd : d ≤ dg4 (s ^^^ L.getD k 0)
      · rw [if_neg (nI_nlt hdd (by omega))]
        refine ih (k + 1) (by omega) (by omega) (fun i hi => ?_)
        rcases Nat.lt_or_ge i k with q | q
        · exact hg i q
        · rw [show i = k by omega]; exact hdd
      · rw [if_pos (nI_lt (by omega) (by omega))]
        have hno : ¬ okA d s L = true := by
          unfold okA
          rw [List.all_eq_true]
          intro q
          have := of_decide_eq_true (q _ hmem)
          omega
        rw [if_neg hno]
        cases n with
        | zero => omega
        | succ n =>
          rw [pX12_layCode_b20]
          have e61 : ∀ K20, pX12_layCode_b61 F K7 K20 (nI d) (nI s) 0 h = K7 (nI d) (nI (s + 1)) h := fun K20 => by
            rw [pX12_layCode_b61, if_pos rfl, show nI s + (1 : Int32) = nI (s + 1) from nI_1 s]
          by_cases hk2 : h 0 31 ≤ nI (k + 1)
          · rw [if_pos hk2]; exact e61 _
          · rw [if_neg hk2, if_pos rfl]; exact e61 _
def lyM (w d s : Nat) (h0 h : xM) : Prop := (∀ z, z ≠ 0 → z ≠ 12 → h z = h0 z) ∧ (∀ y, y ≠ 31 → h 0 y = h0 0 y) ∧ h 0 31 = nI (gtL d s).length ∧ ∀ i, i < (gtL d s).length → h 12 i = nI ((gtL d s).getD i 0)
theorem lay_loop {h0 : xM} (hF : 1030 < F) (h1 : 1 ≤ w) (hw : w ≤ 5) (hd : d ≤ 5) (h04 : h0 0 4 = nI w) : ∀ (n s : Nat) (h : xM), lyM w d s h0 h → s ≤ 4 ^ w → 4 ^ w < s + n → ∃ h', pX12_layCode_b7 F n (nI d) (nI s) h = some h' ∧ lyM w d (4 ^ w) h0 h' := by
  have hbb := p4_le hw
  intro n
  induction n with
  | zero => intro s h _ z1 z2; omega
  | succ n ih =>
    intro s h hI z1 z2
    have hI' := hI
    obtain ⟨i1, i2, i3, i4⟩ := hI'
    have h4 : h 0 4 = nI w := by rw [i2 4 (by decide)]; exact h04
    rw [pX12_layCode_b7, names12_eq (by omega) hw h4, Option.bind_some]
    by_cases hs : 4 ^ w ≤ s
    · rw [if_pos (nI_le hs (by omega))]
      exact ⟨h, rfl, by rw [show 4 ^ w = s by omega]; exact hI⟩
    · have hlen := gtL_len (d := d) s
      rw [if_neg (nI_ge (by omega) (by omega)), show (0 : Int32) = nI 0 from rfl, b20_eq (L := gtL d s) (by omega) h1 hw h4 hd (by omega) (fun a ha => gtL_lt s a ha) hlen i3 i4 F 0 (by omega) (by omega) (fun i hi => by omega)]
      refine ih (s + 1) _ ?_ (by omega) (by omega)
      unfold lyM
      simp only [gtL]
      by_cases hok : okA d s (gtL d s) = true
      · rw [if_pos hok, if_pos hok]
        refine ⟨fun z y1 y2 => by rw [xu_ne y1, xu_ne y2, i1 z y1 y2], fun y hy => by rw [xu_neK hy, xu_ne (by decide), i2 y hy], by rw [xu_same]; simp, fun i hi => ?_⟩
        rw [xu_ne (by decide)]
        by_cases hi2 : i = (gtL d s).length
        · subst hi2
          rw [xu_same, gd_last]
        · have hi3 : i < (gtL d s).length := by simp at hi; omega
          rw [xu_neK hi2, gd_app hi3]
          exact i4 i hi3
      · rw [if_neg hok, if_neg hok]
        exact hI
theorem layCode_eq {h : xM} (hF : 1030 < F) (h1 : 1 ≤ w) (hw : w ≤ 5) (hd : d ≤ 5) (h4 : h 0 4 = nI w) : ∃ h', pX12_layCode F (nI d) h = some h' ∧ lyM w d (4 ^ w) h h' := by
  have hbb := p4_le hw
  refine lay_loop hF h1 hw hd h4 F 0 (xu h 0 31 0) ⟨fun z y1 y2 => xu_ne y1, fun y hy => xu_neK hy, by rw [xu_same]; rfl, fun i hi => by simp [gtL] at hi⟩ (Nat.zero_le _) (by omega)
end LAYM
