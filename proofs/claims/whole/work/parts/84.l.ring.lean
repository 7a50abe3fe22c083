/-! ===== ring ===== -/
def itr (G : Nat → Nat) (s : Nat) : Nat → Nat
  | 0 => s
  | n + 1 => G (itr G s n)
theorem itr_s {G : Nat → Nat} {s n : Nat} : G (itr G s n) = itr G s (n + 1) := rfl
theorem itr_lt {G : Nat → Nat} {s M : Nat} (hG : ∀ x, x < M → G x < M) (hs : s < M) : ∀ n, itr G s n < M := by
  intro n
  induction n with
  | zero => exact hs
  | succ n ih => exact hG _ ih
theorem itr_eq {G : Nat → Nat} {s a b : Nat} (h : itr G s a = itr G s b) : ∀ k, itr G s (a + k) = itr G s (b + k) := by
  intro k
  induction k with
  | zero => exact h
  | succ k ih => show G (itr G s (a + k)) = G (itr G s (b + k)); rw [ih]
theorem pigeon : ∀ (M n : Nat) (x : Nat → Nat), (∀ i, i < n → x i < M) → (∀ i j, i < j → j < n → x i ≠ x j) → n ≤ M := by
  intro M
  induction M with
  | zero =>
    intro n x h1 h2
    rcases Nat.eq_zero_or_pos n with q | q
    · omega
    · have := h1 0 q; omega
  | succ M ih =>
    intro n x h1 h2
    by_cases he : ∃ i, i < n ∧ x i = M
    · obtain ⟨i, hi, hx⟩ := he
      have := ih (n - 1) (fun k => if k < i then x k else x (k + 1)) (fun k hk => ?_) (fun a b hab hb => ?_)
      · omega
      · show (if k < i then x k else x (k + 1)) < M
        split
        · have a1 := h1 k (by omega)
          have a2 := h2 k i (by omega) hi
          omega
        · have a1 := h1 (k + 1) (by omega)
          have a2 := h2 i (k + 1) (by omega) (by omega)
          omega
      · show (if a < i then x a else x (a + 1)) ≠ (if b < i then x b else x (b + 1))
        split <;> split <;> exact h2 _ _ (by omega) (by omega)
    · have := ih n x (fun k hk => ?_) h2
      · omega
      · have a1 := h1 k hk
        have a2 : x k ≠ M := fun q => he ⟨k, hk, q⟩
        omega
section ring
variable {G : Nat → Nat} {s mu la : Nat}
def rho (G : Nat → Nat) (s mu la : Nat) : Prop := 1 ≤ la ∧ itr G s (mu + la) = itr G s mu ∧ ∀ i j, i < j → j < mu + la → itr G s i ≠ itr G s j
theorem rho_add (h : rho G s mu la) : ∀ i, mu ≤ i → itr G s (i + la) = itr G s i := by
  intro i hi
  have := itr_eq h.2.1 (i - mu)
  rw [show mu + la + (i - mu) = i + la by omega, show mu + (i - mu) = i by omega] at this
  exact this
theorem rho_mul (h : rho G s mu la) : ∀ k i, mu ≤ i → itr G s (i + la * k) = itr G s i := by
  intro k
  induction k with
  | zero => intro i hi; rfl
  | succ k ih =>
    intro i hi
    rw [show i + la * (k + 1) = (i + la * k) + la by rw [Nat.mul_succ]; omega, rho_add h _ (by omega), ih i hi]
theorem rho_red (h : rho G s mu la) (i : Nat) (hi : mu ≤ i) : itr G s i = itr G s (mu + (i - mu) % la) := by
  have := rho_mul h ((i - mu) / la) (mu + (i - mu) % la) (by omega)
  have e := Nat.mod_add_div (i - mu) la
  rw [show mu + (i - mu) % la + la * ((i - mu) / la) = i by omega] at this
  exact this
theorem rho_key (h : rho G s mu la) {i j : Nat} (hij : i < j) (he : itr G s i = itr G s j) : mu ≤ i ∧ (j - i) % la = 0 := by
  have h1 := h.1
  by_cases hi : i < mu
  · exfalso
    by_cases hj : j < mu + la
    · exact h.2.2 i j hij hj he
    · have m1 := Nat.mod_lt (j - mu) h1
      rw [rho_red h j (by omega)] at he
      exact h.2.2 i _ (by omega) (by omega) he
  · refine ⟨by omega, ?_⟩
    have m1 := Nat.mod_lt (j - mu) h1
    have m2 := Nat.mod_lt (i - mu) h1
    rw [rho_red h j (by omega), rho_red h i (by omega)] at he
    have e : (j - mu) % la = (i - mu) % la := by
      rcases Nat.lt_trichotomy ((j - mu) % la) ((i - mu) % la) with q | q | q
      · exact absurd he.symm (h.2.2 _ _ (by omega) (by omega))
      · exact q
      · exact absurd he (h.2.2 _ _ (by omega) (by omega))
    have := Nat.sub_mod_eq_zero_of_mod_eq e
    rw [show j - mu - (i - mu) = j - i by omega] at this
    exact this
theorem rho_of (h : rho G s mu la) {i j : Nat} (hi : mu ≤ i) (hij : i ≤ j) (hd : (j - i) % la = 0) : itr G s i = itr G s j := by
  have := rho_mul h ((j - i) / la) i hi
  have e := Nat.mod_add_div (j - i) la
  rw [show i + la * ((j - i) / la) = j by omega] at this
  exact this.symm
/-- some round at which the slow and the quick one meet -/
theorem rho_meet (h : rho G s mu la) : ∃ i, 1 ≤ i ∧ i ≤ mu + la ∧ itr G s i = itr G s (2 * i) := by
  have h1 := h.1
  have m1 := Nat.mod_lt mu h1
  have e := Nat.mod_add_div mu la
  by_cases h0 : mu = 0
  · subst h0
    exact ⟨la, h1, by omega, rho_of h (by omega) (by omega) (by rw [show 2 * la - la = la by omega, Nat.mod_self])⟩
  · refine ⟨mu + (la - 1 - (mu - 1) % la), by omega, by omega, rho_of h (by omega) (by omega) ?_⟩
    have m2 := Nat.mod_lt (mu - 1) h1
    have e2 := Nat.mod_add_div (mu - 1) la
    have e3 : mu + (la - 1 - (mu - 1) % la) = la * ((mu - 1) / la + 1) := by
      rw [Nat.mul_succ]; omega
    rw [show 2 * (mu + (la - 1 - (mu - 1) % la)) - (mu + (la - 1 - (mu - 1) % la)) = mu + (la - 1 - (mu - 1) % la) by omega, e3, Nat.mul_mod_right]
variable {F : Nat} {f : xM}
theorem nor_loop (hd : ∀ i, pX5_doneOn F f (nI (itr G s i)) = some (nI (itr G s (i + 1)))) (hlt : ∀ i, itr G s i < 1024) : ∀ (n j : Nat), (∃ i, j + 1 ≤ i ∧ i ≤ 1024 ∧ itr G s i = itr G s (2 * i)) → 1024 < j + n → ∃ i, 1 ≤ i ∧ itr G s i = itr G s (2 * i) ∧ pX5_nameOnRing_b23 F f n (nI (itr G s (j + 1))) (nI (itr G s (2 * (j + 1)))) (nI j) = some (nI (itr G s i)) := by
  intro n
  induction n with
  | zero => rintro j ⟨i, i1, i2, i3⟩ z; omega
  | succ n ih =>
    rintro j ⟨i, i1, i2, i3⟩ z
    rw [pX5_nameOnRing_b23, if_neg (show ¬ (1024 : Int32) ≤ nI j from nI_ge (b := 1024) (by omega) (by omega))]
    have l1 := hlt (j + 1)
    have l2 := hlt (2 * (j + 1))
    by_cases he : itr G s (j + 1) = itr G s (2 * (j + 1))
    · rw [if_pos (by rw [← he])]
      exact ⟨j + 1, by omega, he, rfl⟩
    · rw [if_neg (fun q => he (nI_inj (by omega) (by omega) q)), hd, Option.bind_some, hd, Option.bind_some, hd, Option.bind_some, show nI j + (1 : Int32) = nI (j + 1) from nI_1 j]
      refine ih (j + 1) ⟨i, ?_, i2, i3⟩ (by omega)
      rcases Nat.lt_or_ge (j + 1) i with q | q
      · omega
      · exact absurd (show i = j + 1 by omega) (fun e => he (by rw [← e]; exact i3))
theorem rto_loop (hd : ∀ i, pX5_doneOn F f (nI (itr G s i)) = some (nI (itr G s (i + 1)))) (hlt : ∀ i, itr G s i < 1024) (h : rho G s mu la) (hm : mu + la ≤ 1024) {i : Nat} (i1 : 1 ≤ i) (i2 : mu ≤ i) (i3 : i % la = 0) : ∀ (n k : Nat), k ≤ mu → mu < k + n → pX5_roundsToRing_b14 F f n (nI (itr G s k)) (nI (itr G s (i + k))) (nI k) = some (nI mu) := by
  have h1 := h.1
  intro n
  induction n with
  | zero => intro k z1 z2; omega
  | succ n ih =>
    intro k z1 z2
    rw [pX5_roundsToRing_b14, if_neg (show ¬ (1024 : Int32) ≤ nI k from nI_ge (b := 1024) (by omega) (by omega))]
    have l1 := hlt k
    have l2 := hlt (i + k)
    by_cases hk : k = mu
    · subst hk
      rw [if_pos]
      rw [rho_of h (Nat.le_refl _) (show k ≤ i + k by omega) (by rw [Nat.add_sub_cancel]; exact i3)]
    · rw [if_neg, hd, Option.bind_some, hd, Option.bind_some, show nI k + (1 : Int32) = nI (k + 1) from nI_1 k]
      · exact ih (k + 1) (by omega) (by omega)
      · intro q
        have := rho_key h (show k < i + k by omega) (nI_inj (by omega) (by omega) q)
        omega
theorem rof_loop (hd : ∀ i, pX5_doneOn F f (nI (itr G s i)) = some (nI (itr G s (i + 1)))) (hlt : ∀ i, itr G s i < 1024) (h : rho G s mu la) (hm : mu + la ≤ 1024) {i : Nat} (i2 : mu ≤ i) : ∀ (n k : Nat), 1 ≤ k → k ≤ la → la < k + n → pX5_roundsOfRing_b10 F f n (nI (itr G s i)) (nI (itr G s (i + k))) (nI k) = some (nI la) := by
  intro n
  induction n with
  | zero => intro k z0 z1 z2; omega
  | succ n ih =>
    intro k z0 z1 z2
    rw [pX5_roundsOfRing_b10]
    have l1 := hlt i
    have l2 := hlt (i + k)
    by_cases hk : k = la
    · subst hk
      rw [if_pos (show nI (itr G s (i + k)) = nI (itr G s i) by rw [rho_add h i i2])]
      split <;> rfl
    · rw [if_neg (show ¬ (1024 : Int32) ≤ nI k from nI_ge (b := 1024) (by omega) (by omega)), if_neg, hd, Option.bind_some, show nI k + (1 : Int32) = nI (k + 1) from nI_1 k]
      · exact ih (k + 1) (by omega) (by omega) (by omega)
      · intro q
        have := (rho_key h (show i < i + k by omega) (nI_inj (by omega) (by omega) q.symm)).2
        rw [Nat.add_sub_cancel_left, Nat.mod_eq_of_lt (by omega)] at this
        omega
theorem b64_eq {h : xM} {K : Int32 → Int64 → Int32 → Int32 → xM → Option (Int32 × xM)} {v1 : Int32} {v2 : Int64} {v4 : Int32} {v : Nat} (hv : v ≤ 1024) (hlt : ∀ i, itr G s i < 1024) (h14 : ∀ i, i < v → h 14 i = nI (itr G s i)) : ∀ (n k : Nat), k ≤ v → v < k + n → (∀ i, i < k → itr G s i ≠ itr G s v) → (∃ j, j < v ∧ itr G s j = itr G s v ∧ pX12_ring_b64 F K n v1 v2 v4 (nI v) (nI (itr G s v)) (nI k) h = some (if v4 = 0 then nI j else nI (v - j), h)) ∨ ((∀ i, i < v → itr G s i ≠ itr G s v) ∧ pX12_ring_b64 F K n v1 v2 v4 (nI v) (nI (itr G s v)) (nI k) h = K v1 v2 v4 (nI (v + 1)) (xu h 14 v (nI (itr G s v)))) := by
  intro n
  induction n with
  | zero => intro k z1 z2; omega
  | succ n ih =>
    intro k z1 z2 hd
    rw [pX12_ring_b64]
    by_cases hk : v ≤ k
    · right
      rw [if_pos (nI_le hk (by omega)), if_pos (xin_of (show v < 1026 by omega) (by omega)), nI_clamp (by omega), show nI v + (1 : Int32) = nI (v + 1) from nI_1 v]
      exact ⟨fun i hi => hd i (by omega), rfl⟩
    · have l1 := hlt k
      have l2 := hlt v
      rw [if_neg (nI_ge (by omega) (by omega)), if_pos (xin_of (show k < 1026 by omega) (by omega)), nI_clamp (by omega), h14 k (by omega)]
      by_cases he : itr G s k = itr G s v
      · left
        refine ⟨k, by omega, he, ?_⟩
        rw [if_pos (by rw [he]), show nI v - nI k = nI (v - k) from pk_sub (by omega)]
        split <;> rfl
      · rw [if_neg (fun q => he (nI_inj (by omega) (by omega) q)), show nI k + (1 : Int32) = nI (k + 1) from nI_1 k]
        refine ih (k + 1) (by omega) (by omega) (fun i hi => ?_)
        rcases Nat.lt_or_ge i k with q | q
        · exact hd i q
        · rw [show i = k by omega]; exact he
theorem ring_loop {h0 : xM} {v1 : Int32} {v2 : Int64} {v4 : Int32} {M : Nat} (hM : M ≤ 1024) (hF : 1030 < F) (hlt : ∀ i, itr G s i < M) (ha : ∀ h : xM, (∀ z, z ≠ 14 → h z = h0 z) → ∀ i, pX12_afterRow F h (nI (itr G s i)) v1 v2 = some (nI (itr G s (i + 1)))) : ∀ (n v : Nat) (h : xM), 1 ≤ v → M < v + n → (∀ z, z ≠ 14 → h z = h0 z) → (∀ i, i < v → h 14 i = nI (itr G s i)) → (∀ i j, i < j → j < v → itr G s i ≠ itr G s j) → ∃ mu la h', pX12_ring_b44 F n v1 v2 v4 (nI v) h = some (if v4 = 0 then nI mu else nI la, h') ∧ (∀ z, z ≠ 14 → h' z = h0 z) ∧ rho G s mu la ∧ mu + la ≤ M := by
  intro n
  induction n with
  | zero =>
    intro v h z1 z2 h1 h2 h3
    have := pigeon M v (itr G s) (fun i _ => hlt i) h3
    omega
  | succ n ih =>
    intro v h z1 z2 h1 h2 h3
    have hv := pigeon M v (itr G s) (fun i _ => hlt i) h3
    rw [pX12_ring_b44, show nI v - (1 : Int32) = nI (v - 1) by have := nI_pred (v - 1); rw [show v - 1 + 1 = v by omega] at this; exact this, if_pos (xin_of (show v - 1 < 1026 by omega) (by omega)), nI_clamp (by omega), h2 (v - 1) (by omega), ha h h1 (v - 1), Option.bind_some, show v - 1 + 1 = v by omega]
    rcases b64_eq (F := F) (G := G) (s := s) (h := h) (K := pX12_ring_b44 F n) (v1 := v1) (v2 := v2) (v4 := v4) (v := v) (by omega) (fun i => by have := hlt i; omega) h2 F 0 (by omega) (by omega) (fun i hi => by omega) with ⟨j, j1, j2, j3⟩ | ⟨j1, j2⟩
    · have j3' : pX12_ring_b64 F (pX12_ring_b44 F n) F v1 v2 v4 (nI v) (nI (itr G s v)) (0 : Int32) h = _ := j3
      refine ⟨j, v - j, h, j3', h1, ⟨by omega, by rw [show j + (v - j) = v by omega, j2], fun a b hab hb => h3 a b hab (by omega)⟩, by omega⟩
    · have j2' : pX12_ring_b64 F (pX12_ring_b44 F n) F v1 v2 v4 (nI v) (nI (itr G s v)) (0 : Int32) h = _ := j2
      rw [j2']
      refine ih (v + 1) _ (by omega) (by omega) (fun z hz => by rw [xu_ne hz]; exact h1 z hz) (fun i hi => ?_) (fun a b hab hb => ?_)
      · by_cases q : i = v
        · subst q; exact xu_same
        · rw [xu_neK q]; exact h2 i (by omega)
      · by_cases q : b = v
        · subst q; exact j1 a hab
        · exact h3 a b hab (by omega)
end ring
theorem okM_14 {h h' : xM} (a : ∀ z, z ≠ 14 → h' z = h z) : okM h h' := by
  refine ⟨?_, ?_, ?_, ?_, ?_, ?_, ?_, ?_, ?_, ?_, ?_, ?_, ?_⟩ <;> (rw [a _ (by decide)])
theorem in01 (v : Int32) : pX12_in v.toInt64 0 1 = 0 ↔ ¬ isN v 2 := in0_eq (m := 1) (by omega) rfl
theorem e_ring {n : Nat} {f : xM} {g : xN} {h : xM} {k : xN} (hn : n ≤ 100) (hR : Rel n f g h k) (v1 : Int32) (v2 : Int64) (v4 : Int32) : ∃ (F : Nat) (a : Int32 × xM) (b : Int32 × xM), pX11_ring F v1 v2 v4 f = some a ∧ pX12_ring F v1 v2 v4 h = some b ∧ a.1 = b.1 ∧ Rel (n + 1) a.2 g b.2 k := by
  obtain ⟨w, c, r, t, hW⟩ := Rel_open hR
  have hR2 := hW.rel
  generalize hh : xu h 0 0 (0 : Int32) = h2 at hW hR2
  obtain ⟨p1, p2, p3, p4, p5, p6, p7, p8, p9, p10, p11, p12, p13⟩ := RelW_P hW
  have hb := p4_le p2
  obtain ⟨K, hK⟩ := kinds_of (RelW_pg hW)
  obtain ⟨sd, hsd, u1, u2⟩ := (RelW_pg hW).1
  obtain ⟨z, f', z', r1, r2, r3, r4⟩ := rows_eq (F := 1100) (most := 3) (f := f) (h := h2) (by omega) (Or.inl rfl) p3 p2 p6 p10 p7 p11 v1 v2
  have r1' : pX5_read 1100 v1 3 v2 f = some (z, f') := r1
  have r2' : pX12_noRow 1100 h2 v1 3 v2 = some z' := r2
  have hR3 : Rel (n + 1) f' g h2 k := Rel_ok hR2 (Nat.le_refl _) (okC_row r3) okM.r0 (RelW_g hW)
  refine ⟨1100, ?_⟩
  unfold pX11_ring pX12_ring
  rw [hh]
  simp only [Option.bind_some, r1', r2']
  rcases r4 with ⟨rfl, rfl⟩ | ⟨rfl, rfl, N, R, n1, n2, rfl, rfl, hRR, g1, g2, hT⟩
  · rw [if_pos rfl, if_neg (by decide)]
    exact ⟨_, _, rfl, rfl, rfl, hR3⟩
  · rw [if_neg (by decide), if_pos rfl]
    by_cases hv : isN v4 2
    · rw [if_neg (fun z => (in01 v4).mp z hv)]
      obtain ⟨d, hd, rfl⟩ := hv
      rw [if_neg (nI_pos (by omega)), if_pos (show nI d ≤ (1 : Int32) from nI_le (b := 1) (by omega) (by omega))]
      have f4 : f' 10 0 = nI w := by rw [r3 10 (by decide) (by decide)]; exact p6
      have hG : ∀ x, x < 4 ^ w → apr w K (th3 R N) x N < 4 ^ w := fun x hx => apr_lt (K := K) p2 hT hx N (Nat.le_refl N)
      have hX := itr_lt (G := fun x => apr w K (th3 R N) x N) hG hsd
      have hdone : ∀ i, pX5_doneOn 1100 f' (nI (itr (fun x => apr w K (th3 R N) x N) sd i)) = some (nI (itr (fun x => apr w K (th3 R N) x N) sd (i + 1))) := fun i => doneOn_eq (F := 1100) (f := f') (K := K) (c := c) (by omega) p3 p2 f4 (fun i hi => ⟨(hK i hi).1, by rw [r3 19 (by decide) (by decide)]; exact (hK i hi).2.1⟩) (by omega) g1 g2 hT (hX i)
      obtain ⟨mu, la, h', l1, l2, l3, l4⟩ := ring_loop (G := fun x => apr w K (th3 R N) x N) (s := sd) (F := 1100) (h0 := h2) (v1 := nI N) (v2 := lN R) (v4 := nI d) (M := 4 ^ w) hb (by omega) hX (fun h' hh' i => afterRow_eq (F := 1100) (h := h') (K := K) (c := c) (by omega) p1 p3 p2 (by rw [hh' 0 (by decide)]; exact p7) (fun i hi => ⟨(hK i hi).1, by rw [hh' 7 (by decide)]; exact (hK i hi).2.2⟩) (by omega) hRR hT (hX i)) 1100 1 (xu h2 14 0 (nI sd)) (by omega) (by omega) (fun z hz => by rw [xu_ne hz]) (fun i hi => by rw [show i = 0 by omega]; exact xu_same) (fun i j _ _ => by omega)
      have l1' : pX12_ring_b44 1100 1100 (nI N) (lN R) (nI d) (1 : Int32) (xu h2 14 0 (h2 7 0)) = some (if nI d = 0 then nI mu else nI la, h') := by rw [u2]; exact l1
      have hR4 : Rel (n + 1) f' g h' k := Rel_ok hR3 (Nat.le_refl _) okC.r0 (okM_14 l2) (RelW_g hW)
      obtain ⟨i0, a1, a2, a3⟩ := rho_meet l3
      obtain ⟨i, b1, b2, b3⟩ := nor_loop hdone (fun i => by have := hX i; omega) 1100 0 ⟨i0, by omega, by omega, a3⟩ (by omega)
      have hi := rho_key l3 (show i < 2 * i by omega) b2
      have hi2 : i % la = 0 := by rw [← hi.2]; congr 1; omega
      have e0 : pX9_said f' = nI (itr (fun x => apr w K (th3 R N) x N) sd 0) := by unfold pX9_said; rw [r3 19 (by decide) (by decide)]; exact u1
      have c1 : pX5_nameOnRing 1100 f' = some (nI (itr (fun x => apr w K (th3 R N) x N) sd i)) := by
        unfold pX5_nameOnRing
        rw [e0, hdone, Option.bind_some, hdone, Option.bind_some]
        exact b3
      rw [l1', c1, Option.bind_some]
      by_cases d0 : d = 0
      · subst d0
        have c2 : pX5_roundsToRing 1100 f' (nI (itr (fun x => apr w K (th3 R N) x N) sd i)) = some (nI mu) := by
          unfold pX5_roundsToRing
          rw [e0]
          exact rto_loop hdone (fun i => by have := hX i; omega) l3 (by omega) b1 hi.1 hi2 1100 0 (by omega) (by omega)
        rw [if_pos (show nI 0 = 0 from rfl), if_pos (show nI 0 = 0 from rfl), c2]
        exact ⟨_, _, rfl, rfl, rfl, hR4⟩
      · have d0' : ¬ nI d = (0 : Int32) := fun z => d0 (nI_inj (b := 0) (by omega) (by omega) z)
        have c2 : pX5_roundsOfRing 1100 f' (nI (itr (fun x => apr w K (th3 R N) x N) sd i)) = some (nI la) := by
          unfold pX5_roundsOfRing
          rw [hdone, Option.bind_some]
          exact rof_loop hdone (fun i => by have := hX i; omega) l3 (by omega) hi.1 1100 1 (by omega) l3.1 (by omega)
        rw [if_neg d0', if_neg d0', c2]
        exact ⟨_, _, rfl, rfl, rfl, hR4⟩
    · rw [if_pos ((in01 v4).mpr hv)]
      by_cases z0 : v4 < 0
      · rw [if_pos z0]
        exact ⟨_, _, rfl, rfl, rfl, hR3⟩
      · rw [if_neg z0, if_neg ?_]
        · exact ⟨_, _, rfl, rfl, rfl, hR3⟩
        · intro q
          obtain ⟨j, hj, rfl⟩ := nI_of z0
          exact hv ⟨j, by have := (nI_leI (b := 1) hj (by omega)).mp q; omega, rfl⟩
