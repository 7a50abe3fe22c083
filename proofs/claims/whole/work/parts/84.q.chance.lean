/-! ===== chance ===== -/
def wrp (w s t : Nat) : Nat := if lt4 w s 0 ≠ lt4 w t 0 then 0 else if lt4 w s 1 ≠ lt4 w t 1 then 1 else if lt4 w s 2 ≠ lt4 w t 2 then 2 else if lt4 w s 3 ≠ lt4 w t 3 then 3 else 4
theorem wrp_eq {w s t p : Nat} (hp : p < 5) (hn : lt4 w s p ≠ lt4 w t p) (hq : ∀ q, q < p → lt4 w s q = lt4 w t q) : wrp w s t = p := by
  unfold wrp
  match p, hp with
  | 0, _ => rw [if_pos hn]
  | 1, _ => rw [if_neg (nn (hq 0 (by omega))), if_pos hn]
  | 2, _ => rw [if_neg (nn (hq 0 (by omega))), if_neg (nn (hq 1 (by omega))), if_pos hn]
  | 3, _ => rw [if_neg (nn (hq 0 (by omega))), if_neg (nn (hq 1 (by omega))), if_neg (nn (hq 2 (by omega))), if_pos hn]
  | 4, _ => rw [if_neg (nn (hq 0 (by omega))), if_neg (nn (hq 1 (by omega))), if_neg (nn (hq 2 (by omega))), if_neg (nn (hq 3 (by omega)))]
theorem all_eq {w s t : Nat} (h1 : 1 ≤ w) (hw : w ≤ 5) (hs : s < 4 ^ w) (ht : t < 4 ^ w) (hq : ∀ q, q < w → lt4 w s q = lt4 w t q) : s = t := by
  unfold lt4 at hq
  match w, h1, hw with
  | 1, _, _ =>
    have a0 := hq 0 (by omega)
    simp at a0 hs ht
    omega
  | 2, _, _ =>
    have a0 := hq 0 (by omega)
    have a1 := hq 1 (by omega)
    simp at a0 a1 hs ht
    omega
  | 3, _, _ =>
    have a0 := hq 0 (by omega)
    have a1 := hq 1 (by omega)
    have a2 := hq 2 (by omega)
    simp at a0 a1 a2 hs ht
    omega
  | 4, _, _ =>
    have a0 := hq 0 (by omega)
    have a1 := hq 1 (by omega)
    have a2 := hq 2 (by omega)
    have a3 := hq 3 (by omega)
    simp at a0 a1 a2 a3 hs ht
    omega
  | 5, _, _ =>
    have a0 := hq 0 (by omega)
    have a1 := hq 1 (by omega)
    have a2 := hq 2 (by omega)
    have a3 := hq 3 (by omega)
    have a4 := hq 4 (by omega)
    simp at a0 a1 a2 a3 a4 hs ht
    omega
section ch
variable {w t F s kd tt : Nat} {f h : xM}
theorem lw_loop (h1 : 1 ≤ w) (hw : w ≤ 5) (f4 : f 10 0 = nI w) (f6 : f 2 6 = nI t) (ht : t < 4 ^ w) (hs : s < 4 ^ w) (hne : s ≠ t) : ∀ (n p : Nat), p < w → w < p + n + 1 → (∀ q, q < p → lt4 w s q = lt4 w t q) → pX2_leastWrong_b2 F f n (nI s) (nI p) = some (nI (wrp w s t)) := by
  have hbb := p4_le hw
  intro n
  induction n with
  | zero => intro p z1 z2; omega
  | succ n ih =>
    intro p z1 z2 hq
    have l1 := lt4_lt w s p
    have l2 := lt4_lt w t p
    rw [pX2_leastWrong_b2, f4, show nI w - (1 : Int32) = nI (w - 1) by have := nI_pred (w - 1); rw [show w - 1 + 1 = w by omega] at this; exact this]
    by_cases hp : w - 1 ≤ p
    · rw [if_pos (nI_le hp (by omega)), wrp_eq (show p < 5 by omega) ?_ hq]
      intro e
      exact hne (all_eq h1 hw hs ht (fun q hq2 => by
        by_cases u : q = p
        · rw [u]; exact e
        · exact hq q (by omega)))
    · rw [if_neg (nI_ge (by omega) (by omega)), letterAt_eq hw f4 z1 (by omega), f6, letterAt_eq hw f4 z1 (by omega), show nI p + (1 : Int32) = nI (p + 1) from nI_1 p]
      by_cases e : lt4 w s p = lt4 w t p
      · rw [if_pos (by rw [e])]
        refine ih (p + 1) (by omega) (by omega) (fun q hq2 => ?_)
        by_cases u : q = p
        · rw [u]; exact e
        · exact hq q (by omega)
      · rw [if_neg (fun z => e (nI_inj (by omega) (by omega) z)), wrp_eq (show p < 5 by omega) e hq]
theorem wo_loop (hF : 5 < F) (h1 : 1 ≤ w) (hw : w ≤ 5) (h4 : h 0 4 = nI w) (h5 : h 0 5 = nI t) (ht : t < 4 ^ w) (hs : s < 4 ^ w) : ∀ (n p : Nat), p ≤ w → w < p + n → (∀ q, q < p → lt4 w s q = lt4 w t q) → pX12_wrongOf_b2 F h n (nI s) (nI p) = some (if s = t then -9 else nI (wrp w s t)) := by
  have hbb := p4_le hw
  intro n
  induction n with
  | zero => intro p z1 z2; omega
  | succ n ih =>
    intro p z1 z2 hq
    rw [pX12_wrongOf_b2, h4]
    by_cases hp : w ≤ p
    · rw [if_pos (nI_le hp (by omega)), if_pos (all_eq h1 hw hs ht (fun q hq2 => hq q (by omega)))]
    · have l1 := lt4_lt w s p
      have l2 := lt4_lt w t p
      rw [if_neg (nI_ge (by omega) (by omega)), letterOf_eq hF hw h4 (by omega) (by omega), Option.bind_some, h5, letterOf_eq hF hw h4 (by omega) (by omega), Option.bind_some, show nI p + (1 : Int32) = nI (p + 1) from nI_1 p]
      by_cases e : lt4 w s p = lt4 w t p
      · rw [if_pos (by rw [e])]
        refine ih (p + 1) (by omega) (by omega) (fun q hq2 => ?_)
        by_cases u : q = p
        · rw [u]; exact e
        · exact hq q (by omega)
      · rw [if_neg (fun z => e (nI_inj (by omega) (by omega) z)), if_neg (fun z => e (by rw [z])), wrp_eq (show p < 5 by omega) e hq]
def nxt (w t kd s : Nat) : Nat := nt4 w kd s (wrp w s t) (lt4 w t (wrp w s t))
theorem wrp_lt (h1 : 1 ≤ w) (hw : w ≤ 5) (ht : t < 4 ^ w) (hs : s < 4 ^ w) (hne : s ≠ t) : wrp w s t < w := by
  rcases Nat.lt_or_ge (wrp w s t) w with q | q
  · exact q
  · exfalso
    apply hne
    apply all_eq h1 hw hs ht
    intro p hp
    induction p using Nat.strongRecOn with
    | _ p ih =>
      by_cases e : lt4 w s p = lt4 w t p
      · exact e
      · have := wrp_eq (show p < 5 by omega) e (fun q hq => ih q hq (by omega))
        omega
theorem nxt_lt (h1 : 1 ≤ w) (hw : w ≤ 5) (ht : t < 4 ^ w) (hs : s < 4 ^ w) (hne : s ≠ t) : nxt w t kd s < 4 ^ w := nt4_lt hw (wrp_lt h1 hw ht hs hne) hs (lt4_lt _ _ _)
def wys (w t kd tt : Nat) : Nat → Nat → Nat
  | 0, s => if s = t then 1 else 0
  | d + 1, s => if s = t then 10 ^ (d + 1) else tt * wys w t kd tt d (nxt w t kd s) + (10 - tt) * wys w t kd tt d (nxt w t 0 s)
theorem wys_le (htt : tt ≤ 10) : ∀ d s, wys w t kd tt d s ≤ 10 ^ d := by
  intro d
  induction d with
  | zero => intro s; unfold wys; split <;> simp
  | succ d ih =>
    intro s
    unfold wys
    split
    · exact Nat.le_refl _
    · have a := Nat.mul_le_mul (Nat.le_refl tt) (ih (nxt w t kd s))
      have b := Nat.mul_le_mul (Nat.le_refl (10 - tt)) (ih (nxt w t 0 s))
      have e : tt * 10 ^ d + (10 - tt) * 10 ^ d = 10 ^ (d + 1) := by rw [← Nat.add_mul, show tt + (10 - tt) = 10 by omega, Nat.pow_succ, Nat.mul_comm]
      omega
theorem ten_loop {d : Nat} (hd : d ≤ 4) : ∀ (n j : Nat), j ≤ d → d < j + n → pX2_tenTo_b4 F n (nI d) (nI (10 ^ j)) (nI j) = some (nI (10 ^ d)) := by
  intro n
  induction n with
  | zero => intro j z1 z2; omega
  | succ n ih =>
    intro j z1 z2
    rw [pX2_tenTo_b4]
    by_cases hj : d ≤ j
    · rw [if_pos (nI_le hj (by omega)), show j = d by omega]
    · rw [if_neg (nI_ge (by omega) (by omega)), if_neg (show ¬ (4 : Int32) ≤ nI j from nI_ge (b := 4) (by omega) (by omega)), show nI (10 ^ j) * (10 : Int32) = nI (10 ^ j * 10) from pk_mul _ 10, ← Nat.pow_succ, show nI j + (1 : Int32) = nI (j + 1) from nI_1 j]
      exact ih (j + 1) (by omega) (by omega)
theorem ten_eq {d : Nat} (hF : 5 < F) (hd : d ≤ 4) : pX2_tenTo F (nI d) = some (nI (10 ^ d)) := ten_loop hd F 0 (by omega) (by omega)
theorem ways_eq (hF : 5 < F) (h1 : 1 ≤ w) (hw : w ≤ 5) (f4 : f 10 0 = nI w) (f6 : f 2 6 = nI t) (ht : t < 4 ^ w) (hk : kd < 4) (htt : tt ≤ 10) : ∀ (d n s : Nat), d < n → d ≤ 4 → s < 4 ^ w → pX2_waysToTruth F f n (nI s) (nI kd) (nI d) (nI tt) = some (nI (wys w t kd tt d s)) := by
  have hbb := p4_le hw
  intro d
  induction d with
  | zero =>
    intro n s hn hd hs
    obtain ⟨n, rfl⟩ : ∃ n', n = n' + 1 := ⟨n - 1, by omega⟩
    rw [pX2_waysToTruth, f6, ten_eq hF hd, Option.bind_some]
    unfold wys
    by_cases he : s = t
    · rw [if_pos (by rw [he]), if_pos he]
    · rw [if_neg (fun z => he (nI_inj (by omega) (by omega) z)), if_neg (show ¬ (0 : Int32) < nI 0 by decide), if_neg he]
      rfl
  | succ d ih =>
    intro n s hn hd hs
    obtain ⟨n, rfl⟩ : ∃ n', n = n' + 1 := ⟨n - 1, by omega⟩
    rw [pX2_waysToTruth, f6, ten_eq hF hd, Option.bind_some]
    rw [show wys w t kd tt (d + 1) s = if s = t then 10 ^ (d + 1) else tt * wys w t kd tt d (nxt w t kd s) + (10 - tt) * wys w t kd tt d (nxt w t 0 s) from rfl]
    by_cases he : s = t
    · rw [if_pos (by rw [he]), if_pos he]
    · have e1 : pX2_leastWrong F f (nI s) = some (nI (wrp w s t)) := lw_loop h1 hw f4 f6 ht hs he F 0 (by omega) (by omega) (fun q hq => by omega)
      have hwr := wrp_lt h1 hw ht hs he
      rw [if_neg (fun z => he (nI_inj (by omega) (by omega) z)), if_pos (show (0 : Int32) < nI (d + 1) from nI_lt (a := 0) (by omega) (by omega)), if_neg he, e1, Option.bind_some, letterAt_eq hw f4 hwr (by omega), noticed8_eq hw f4 hk hwr hs (lt4_lt _ _ _), show pX8_noticed f (0 : Int32) (nI s) (nI (wrp w s t)) (nI (lt4 w t (wrp w s t))) = nI (nt4 w 0 s (wrp w s t) (lt4 w t (wrp w s t))) from noticed8_eq hw f4 (show 0 < 4 by omega) hwr hs (lt4_lt _ _ _), show nI (d + 1) - (1 : Int32) = nI d from nI_pred d]
      have i1 := ih n (nxt w t kd s) (by omega) (by omega) (nxt_lt h1 hw ht hs he)
      have i2 := ih n (nxt w t 0 s) (by omega) (by omega) (nxt_lt h1 hw ht hs he)
      unfold nxt at i1 i2
      rw [i1, Option.bind_some, i2, Option.bind_some, pk_mul, show (10 : Int32) - nI tt = nI (10 - tt) from pk_sub (a := 10) htt, pk_mul, nI_add]
      rfl
/-! the reference: every path by its bits -/
def stp (w t kd x s : Nat) : Nat := if s = t then s else nxt w t (if x % 2 = 1 then kd else 0) s
def pv (w t kd tt : Nat) : Nat → Nat → Nat → Nat
  | 0, _, s => if s = t then 1 else 0
  | d + 1, x, s => (if x % 2 = 1 then tt else 10 - tt) * pv w t kd tt d (x / 2) (stp w t kd x s)
def sv (w t kd tt d s : Nat) : Nat → Nat
  | 0 => 0
  | n + 1 => sv w t kd tt d s n + pv w t kd tt d n s
theorem sv_two {d : Nat} : ∀ n, sv w t kd tt (d + 1) s (2 * n) = (10 - tt) * sv w t kd tt d (stp w t kd 0 s) n + tt * sv w t kd tt d (stp w t kd 1 s) n := by
  intro n
  induction n with
  | zero => rfl
  | succ n ih =>
    rw [show 2 * (n + 1) = 2 * n + 1 + 1 by omega]
    rw [sv, sv, ih, pv, pv, show (2 * n) / 2 = n by omega, show (2 * n + 1) / 2 = n by omega, if_neg (show ¬ (2 * n) % 2 = 1 by omega), if_pos (show (2 * n + 1) % 2 = 1 by omega)]
    have e0 : stp w t kd (2 * n) s = stp w t kd 0 s := by unfold stp; rw [show (2 * n) % 2 = 0 % 2 by omega]
    have e1 : stp w t kd (2 * n + 1) s = stp w t kd 1 s := by unfold stp; rw [show (2 * n + 1) % 2 = 1 % 2 by omega]
    rw [e0, e1, sv, sv, Nat.mul_add, Nat.mul_add]
    omega
theorem sv_eq (htt : tt ≤ 10) : ∀ d s, sv w t kd tt d s (2 ^ d) = wys w t kd tt d s := by
  intro d
  induction d with
  | zero => intro s; show 0 + pv w t kd tt 0 0 s = _; rw [Nat.zero_add]; rfl
  | succ d ih =>
    intro s
    rw [show 2 ^ (d + 1) = 2 * 2 ^ d by rw [Nat.pow_succ, Nat.mul_comm], sv_two, ih, ih]
    rw [show wys w t kd tt (d + 1) s = if s = t then 10 ^ (d + 1) else tt * wys w t kd tt d (nxt w t kd s) + (10 - tt) * wys w t kd tt d (nxt w t 0 s) from rfl]
    by_cases he : s = t
    · have e : ∀ x, stp w t kd x s = s := fun x => by unfold stp; rw [if_pos he]
      have e2 : wys w t kd tt d s = 10 ^ d := by cases d <;> (unfold wys; rw [if_pos he]) <;> rfl
      rw [e, e, if_pos he, e2, ← Nat.add_mul, show 10 - tt + tt = 10 by omega, Nat.pow_succ, Nat.mul_comm]
    · have e0 : stp w t kd 0 s = nxt w t 0 s := by unfold stp; rw [if_neg he]; rfl
      have e1 : stp w t kd 1 s = nxt w t kd s := by unfold stp; rw [if_neg he]; rfl
      rw [e0, e1, if_neg he, Nat.add_comm]
theorem has_eq2 {x i : Nat} (hx : x < 2 ^ 31) (hi : i < 10) : pX12_has (nI x) (nI i) = nI (x / 2 ^ i % 2) := by
  unfold pX12_has
  rw [nI_shr hx hi, show (1 : Int32) = nI 1 from rfl, nI_and, Nat.and_one_is_mod]
  rcases Nat.mod_two_eq_zero_or_one (x / 2 ^ i) with e | e
  · rw [e, if_neg (by decide)]; rfl
  · rw [e, if_pos rfl]
theorem c70_eq {j d x v : Nat} {v4 : Int32} {K48 : Int32 → Int32 → Int32 → Int32 → Int32 → Int32 → xM → Option (Int32 × xM)} (hF : 5 < F) (h1 : 1 ≤ w) (hw : w ≤ 5) (hj : j < 3) (h4 : h 0 4 = nI w) (h5 : h 0 5 = nI t) (hK : h 7 (2 + j) = nI kd) (ht : t < 4 ^ w) (hk : kd < 4) (htt : tt ≤ 10) (hd : d ≤ 4) (hx : x < 2 ^ 31) : ∀ (n i a s : Nat), i ≤ d → d < i + n → s < 4 ^ w → pX12_chance_b70 F K48 n (nI j) (nI d) (nI tt) v4 (nI v) (nI x) (nI a) (nI s) (nI i) h = K48 (nI j) (nI d) (nI tt) v4 (nI (v + a * pv w t kd tt (d - i) (x / 2 ^ i) s)) (nI (x + 1)) h := by
  have hbb := p4_le hw
  intro n
  induction n with
  | zero => intro i a s z1 z2; omega
  | succ n ih =>
    intro i a s z1 z2 hs
    rw [pX12_chance_b70, show nI x + (1 : Int32) = nI (x + 1) from nI_1 x]
    by_cases hi : d ≤ i
    · rw [if_pos (nI_le hi (by omega)), h5, show d - i = 0 by omega, pv, nI_add, show nI v + (0 : Int32) = nI v from nI_add v 0]
      by_cases he : s = t
      · rw [if_pos (by rw [he]), if_pos he, Nat.mul_one]
      · rw [if_neg (fun z => he (nI_inj (by omega) (by omega) z)), if_neg he, Nat.mul_zero]; rfl
    · obtain ⟨e, he⟩ : ∃ e, d - i = e + 1 := ⟨d - i - 1, by omega⟩
      have he2 : d - (i + 1) = e := by omega
      have wo : pX12_wrongOf F h (nI s) = some (if s = t then -9 else nI (wrp w s t)) := wo_loop hF h1 hw h4 h5 ht hs F 0 (by omega) (by omega) (fun q hq => by omega)
      have hx2 : x / 2 ^ i / 2 = x / 2 ^ (i + 1) := by rw [Nat.div_div_eq_div_mul, ← Nat.pow_succ]
      have hm : nI a * (if x / 2 ^ i % 2 = 1 then nI tt else nI (10 - tt)) = nI (a * (if x / 2 ^ i % 2 = 1 then tt else 10 - tt)) := by split <;> rw [pk_mul]
      rw [if_neg (nI_ge (by omega) (by omega)), wo, Option.bind_some, he, pv, hx2, has_eq2 hx (by omega), show (10 : Int32) - nI tt = nI (10 - tt) from pk_sub (a := 10) htt]
      have main : ∀ (bt : Nat) (sw : Nat), x / 2 ^ i % 2 = bt → (if bt = 1 then tt else 10 - tt) = sw → pX12_chance_b108 F K48 (pX12_chance_b70 F K48 n) (nI j) (nI d) (nI tt) v4 (nI v) (nI x) (nI s) (nI i) (nI bt) (if s = t then -9 else nI (wrp w s t)) (nI a) (nI sw) h = K48 (nI j) (nI d) (nI tt) v4 (nI (v + a * (sw * pv w t kd tt e (x / 2 ^ (i + 1)) (stp w t kd (x / 2 ^ i) s)))) (nI (x + 1)) h := by
        intro bt sw hbt hsw
        have hbt2 : bt < 2 := by rw [← hbt]; exact Nat.mod_lt _ (by decide)
        rw [pX12_chance_b108, pk_mul, show nI i + (1 : Int32) = nI (i + 1) from nI_1 i]
        by_cases hst : s = t
        · rw [if_pos hst, if_pos rfl, ih (i + 1) (a * sw) s (by omega) (by omega) hs, he2, Nat.mul_assoc, show stp w t kd (x / 2 ^ i) s = s by unfold stp; rw [if_pos hst]]
        · have hwr := wrp_lt h1 hw ht hs hst
          have b143 : ∀ kk : Nat, kk < 4 → pX12_chance_b143 F K48 (pX12_chance_b70 F K48 n) (nI j) (nI d) (nI tt) v4 (nI v) (nI x) (nI (a * sw)) (nI i) (nI (wrp w s t)) (nI s) (nI kk) h = K48 (nI j) (nI d) (nI tt) v4 (nI (v + a * (sw * pv w t kd tt e (x / 2 ^ (i + 1)) (nxt w t kk s)))) (nI (x + 1)) h := by
            intro kk hkk
            rw [pX12_chance_b143, h5, letterOf_eq hF hw h4 hwr (by omega), Option.bind_some, notice_eq hF h1 hw h4 hkk hwr hs (lt4_lt _ _ _), Option.bind_some, show nI i + (1 : Int32) = nI (i + 1) from nI_1 i]
            have := ih (i + 1) (a * sw) (nxt w t kk s) (by omega) (by omega) (nxt_lt h1 hw ht hs hst)
            rw [he2, Nat.mul_assoc] at this
            exact this
          rw [if_neg hst, if_neg (ne9 _ (by omega)), ad2, if_pos (xin_of (show 2 + j < 9 by omega) (by omega)), nI_clamp (show 2 + j < 2 ^ 31 by omega), hK, b143 kd hk]
          have b0 := b143 0 (by omega)
          rw [show (0 : Int32) = nI 0 from rfl, b0]
          unfold stp
          rw [if_neg hst, hbt]
          by_cases hb : bt = 0
          · rw [if_pos (by rw [hb]), if_neg (show ¬ bt = 1 by omega)]
          · rw [if_neg (fun z => hb (nI_inj (by omega) (by omega) z)), if_pos (show bt = 1 by omega)]
      rcases Nat.mod_two_eq_zero_or_one (x / 2 ^ i) with hb | hb
      · rw [hb, if_pos (show nI 0 = 0 from rfl), if_neg (show ¬ 0 = 1 by decide)]
        exact main 0 (10 - tt) hb rfl
      · rw [hb, if_neg (show ¬ nI 1 = 0 by decide), if_pos rfl]
        exact main 1 tt hb rfl
/-! greatest common divisors -/
theorem gcd_next (a b : Nat) : Nat.gcd b (a % b) = Nat.gcd a b := by rw [Nat.gcd_comm a b, Nat.gcd_rec b a, Nat.gcd_comm]
theorem half_lt {a b k : Nat} (hb : b < 2 ^ (k + 1)) (hr : 0 < a % b) : b % (a % b) < 2 ^ k := by
  rcases Nat.eq_zero_or_pos b with q | h0
  · subst q; rw [Nat.zero_mod]; exact Nat.two_pow_pos k
  have h1 := Nat.mod_lt a h0
  have h2 := Nat.mod_lt b hr
  have e : 2 ^ (k + 1) = 2 * 2 ^ k := by rw [Nat.pow_succ, Nat.mul_comm]
  generalize a % b = r at hr h1 h2
  by_cases c : 2 * r ≤ b
  · omega
  · have : b % r = b - r := by
      rw [Nat.mod_eq_sub_mod (by omega), Nat.mod_eq_of_lt (by omega)]
    omega
theorem gcdC {v0 v1 v2 : Int32} : ∀ (k n a b i : Nat), a < 2 ^ 31 → b < 2 ^ 31 → b < 2 ^ k → i + 2 * k < 64 → 2 * k < n → pX2_inLeastTerms_b8 F n v0 v1 v2 (nI a) (nI b) (nI i) = pX2_inLeastTerms_b39 F v0 v1 v2 (nI (Nat.gcd a b)) := by
  intro k
  induction k with
  | zero =>
    intro n a b i ha hb hk hi hn
    obtain ⟨n, rfl⟩ : ∃ n', n = n' + 1 := ⟨n - 1, by omega⟩
    have : b = 0 := by simp at hk; exact hk
    subst this
    rw [pX2_inLeastTerms_b8, if_neg (show ¬ (64 : Int32) ≤ nI i from nI_ge (b := 64) (by omega) (by omega)), if_pos (show nI 0 = 0 from rfl), Nat.gcd_zero_right]
  | succ k ih =>
    intro n a b i ha hb hk hi hn
    obtain ⟨n, rfl⟩ : ∃ n', n = n' + 2 := ⟨n - 2, by omega⟩
    rw [pX2_inLeastTerms_b8, if_neg (show ¬ (64 : Int32) ≤ nI i from nI_ge (b := 64) (by omega) (by omega))]
    by_cases h0 : b = 0
    · subst h0
      rw [if_pos (show nI 0 = 0 from rfl), Nat.gcd_zero_right]
    · have h0' : ¬ nI b = (0 : Int32) := nI_ne0 (by omega) hb
      have hm := Nat.mod_lt a (show 0 < b by omega)
      rw [if_neg h0', if_neg h0', pk_rem ha (by omega) hb, show nI i + (1 : Int32) = nI (i + 1) from nI_1 i, pX2_inLeastTerms_b8, if_neg (show ¬ (64 : Int32) ≤ nI (i + 1) from nI_ge (b := 64) (by omega) (by omega))]
      by_cases h1 : a % b = 0
      · rw [if_pos (show nI (a % b) = 0 by rw [h1]; rfl), ← gcd_next a b, h1, Nat.gcd_zero_right]
      · have h1' : ¬ nI (a % b) = (0 : Int32) := nI_ne0 (by omega) (by omega)
        rw [if_neg h1', if_neg h1', pk_rem hb (by omega) (by omega), show nI (i + 1) + (1 : Int32) = nI (i + 2) from nI_1 (i + 1)]
        have hm2 := Nat.mod_lt b (show 0 < a % b by omega)
        rw [ih n (a % b) (b % (a % b)) (i + 2) (by omega) (by omega) (half_lt hk (by omega)) (by omega) (by omega), gcd_next, gcd_next]
theorem gcdM : ∀ (k n a b : Nat), a < 2 ^ 31 → b < 2 ^ 31 → b < 2 ^ k → 2 * k < n → pX12_divisor_b13 F n (nI a) (nI b) = some (nI (Nat.gcd a b)) := by
  intro k
  induction k with
  | zero =>
    intro n a b ha hb hk hn
    obtain ⟨n, rfl⟩ : ∃ n', n = n' + 1 := ⟨n - 1, by omega⟩
    have : b = 0 := by simp at hk; exact hk
    subst this
    rw [pX12_divisor_b13, if_pos (show nI 0 = 0 from rfl), Nat.gcd_zero_right]
  | succ k ih =>
    intro n a b ha hb hk hn
    obtain ⟨n, rfl⟩ : ∃ n', n = n' + 2 := ⟨n - 2, by omega⟩
    rw [pX12_divisor_b13]
    by_cases h0 : b = 0
    · subst h0
      rw [if_pos (show nI 0 = 0 from rfl), Nat.gcd_zero_right]
    · have h0' : ¬ nI b = (0 : Int32) := nI_ne0 (by omega) hb
      have hm := Nat.mod_lt a (show 0 < b by omega)
      rw [if_neg h0', if_neg h0', pk_rem ha (by omega) hb, pX12_divisor_b13]
      by_cases h1 : a % b = 0
      · rw [if_pos (show nI (a % b) = 0 by rw [h1]; rfl), ← gcd_next a b, h1, Nat.gcd_zero_right]
      · have h1' : ¬ nI (a % b) = (0 : Int32) := nI_ne0 (by omega) (by omega)
        rw [if_neg h1', if_neg h1', pk_rem hb (by omega) (by omega)]
        have hm2 := Nat.mod_lt b (show 0 < a % b by omega)
        rw [ih n (a % b) (b % (a % b)) (by omega) (by omega) (half_lt hk (by omega)) (by omega), gcd_next, gcd_next]
theorem frac_eq {a b : Nat} {v : Int32} (hF : 60 < F) (ha : a < 2 ^ 31) (hb : b < 2 ^ 14) (h0 : 0 < b) : ∃ q, pX2_inLeastTerms F (nI a) (nI b) v = some q ∧ pX12_fraction F (nI a) (nI b) v = some q := by
  have e1 : pX2_inLeastTerms F (nI a) (nI b) v = pX2_inLeastTerms_b39 F (nI a) (nI b) v (nI (Nat.gcd a b)) := gcdC (F := F) 14 F a b 0 ha (by omega) hb (by omega) (by omega)
  have e2 : pX12_divisor F (nI a) (nI b) = some (nI (Nat.gcd a b)) := by
    unfold pX12_divisor
    rw [if_pos (nI_pos' ha)]
    exact gcdM 14 F a b ha (by omega) hb (by omega)
  have hg : 0 < Nat.gcd a b := Nat.gcd_pos_of_pos_right a h0
  have hgl : Nat.gcd a b ≤ b := Nat.gcd_le_right a h0
  have hg0 : ¬ nI (Nat.gcd a b) = (0 : Int32) := nI_ne0 hg (by omega)
  unfold pX12_fraction
  rw [e1, e2, Option.bind_some]
  unfold pX2_inLeastTerms_b39
  rw [if_neg hg0, if_neg hg0, if_neg hg0, if_neg hg0]
  by_cases hv : v = 0
  · rw [if_pos hv]; exact ⟨_, rfl, rfl⟩
  · rw [if_neg hv]; exact ⟨_, rfl, rfl⟩
theorem c48_eq {j d : Nat} {v4 : Int32} (hF : 5 < F) (h1 : 1 ≤ w) (hw : w ≤ 5) (hj : j < 3) (h4 : h 0 4 = nI w) (h5 : h 0 5 = nI t) (hK : h 7 (2 + j) = nI kd) (h70 : h 7 0 = nI s) (hs : s < 4 ^ w) (ht : t < 4 ^ w) (hk : kd < 4) (htt : tt ≤ 10) (hd : d ≤ 4) : ∀ (n x : Nat), x ≤ 2 ^ d → 2 ^ d < x + n → pX12_chance_b48 F n (nI j) (nI d) (nI tt) v4 (nI (sv w t kd tt d s x)) (nI x) h = Option.bind (pX12_fraction F (nI (sv w t kd tt d s (2 ^ d))) (nI (10 ^ d)) v4) fun q6 => some (q6, h) := by
  have hdd : 2 ^ d ≤ 16 := by
    have : 2 ^ d ≤ 2 ^ 4 := Nat.pow_le_pow_right (by decide) hd
    simpa using this
  intro n
  induction n with
  | zero => intro x z1 z2; omega
  | succ n ih =>
    intro x z1 z2
    rw [pX12_chance_b48, shl1 (show d < 10 by omega)]
    by_cases hx : 2 ^ d ≤ x
    · rw [if_pos (nI_le hx (by omega)), pow10 (show d < F by omega) (by omega), Option.bind_some, show x = 2 ^ d by omega]
    · rw [if_neg (nI_ge (by omega) (by omega)), h70]
      have := c70_eq (F := F) (v := sv w t kd tt d s x) (v4 := v4) (K48 := pX12_chance_b48 F n) (x := x) hF h1 hw hj h4 h5 hK ht hk htt hd (by omega) F 0 1 s (by omega) (by omega) hs
      have this' : pX12_chance_b70 F (pX12_chance_b48 F n) F (nI j) (nI d) (nI tt) v4 (nI (sv w t kd tt d s x)) (nI x) (1 : Int32) (nI s) (0 : Int32) h = _ := this
      rw [this', Nat.one_mul, Nat.sub_zero, Nat.pow_zero, Nat.div_one]
      exact ih (x + 1) (by omega) (by omega)
end ch
theorem in010 (v : Int32) : pX12_in v.toInt64 0 10 = 0 ↔ ¬ isN v 11 := in0_eq (m := 10) (by omega) rfl
theorem e_chance {n : Nat} {f : xM} {g : xN} {h : xM} {k : xN} (hn : n ≤ 100) (hR : Rel n f g h k) (v1 : Int32) (v2 : Int32) (v3 : Int32) (v4 : Int32) : ∃ (F : Nat) (a : Int32) (b : Int32 × xM), pX11_chance F f v1 v2 v3 v4 = some a ∧ pX12_chance F v1 v2 v3 v4 h = some b ∧ a = b.1 ∧ Rel (n + 1) f g b.2 k := by
  obtain ⟨w, c, r, t, hW⟩ := Rel_open hR
  have hR2 := hW.rel
  generalize hh : xu h 0 0 (0 : Int32) = h2 at hW hR2
  obtain ⟨p1, p2, p3, p4, p5, p6, p7, p8, p9, p10, p11, p12, p13⟩ := RelW_P hW
  have hb := p4_le p2
  obtain ⟨K, hK⟩ := kinds_of (RelW_pg hW)
  obtain ⟨sd, hsd, u1, u2⟩ := (RelW_pg hW).1
  refine ⟨100, ?_⟩
  unfold pX11_chance pX12_chance
  rw [hh]
  by_cases c1 : isN v1 c
  · rw [if_neg (fun z => (hasC p3 p10).mp z c1), if_pos ((noC p3 p11).mpr c1)]
    have hin := in15 v2 4 (by omega) 4 rfl
    by_cases c2 : ∃ N, 1 ≤ N ∧ N ≤ 4 ∧ v2 = nI N
    · rw [if_neg (fun z => hin.mp z c2)]
      obtain ⟨d, d1, d2, rfl⟩ := c2
      rw [if_neg (show ¬ nI d < (1 : Int32) from nI_nlt (b := 1) d1 (by omega)), if_neg (show ¬ (4 : Int32) < nI d from nI_nlt (a := 4) d2 (by omega))]
      by_cases c3 : isN v3 11
      · rw [if_neg (fun z => (in010 v3).mp z c3)]
        obtain ⟨tt, t1, rfl⟩ := c3
        obtain ⟨j, hj, rfl⟩ := c1
        obtain ⟨k1, k2, k3⟩ := hK j hj
        rw [if_neg (nI_pos (by omega)), if_pos (show nI tt ≤ (10 : Int32) from nI_le (b := 10) (by omega) (by omega))]
        have e1 : pX2_ofTruth 100 f (nI j) (nI d) (nI tt) = some (nI (wys w t (K j) tt d sd)) := by
          unfold pX2_ofTruth
          rw [kindOf_eq (show j < 3 by omega), Option.bind_some, k2, show pX9_said f = nI sd from u1, ways_eq (by omega) p1 p2 p6 p8 p5 k1 (by omega) d 6 sd (by omega) d2 hsd, Option.bind_some]
        have hle := wys_le (w := w) (t := t) (kd := K j) (tt := tt) (by omega) d sd
        have h10 : 10 ^ d ≤ 10000 := by
          have : 10 ^ d ≤ 10 ^ 4 := Nat.pow_le_pow_right (by decide) d2
          simpa using this
        obtain ⟨q, q1, q2⟩ := frac_eq (F := 100) (a := wys w t (K j) tt d sd) (b := 10 ^ d) (v := v4) (by omega) (by omega) (by omega) (Nat.pow_pos (by decide))
        have e2 := c48_eq (F := 100) (h := h2) (v4 := v4) (tt := tt) (by omega) p1 p2 (show j < 3 by omega) p7 p9 k3 u2 hsd p5 k1 (by omega) d2 100 0 (Nat.zero_le _) (by
          have : 2 ^ d ≤ 2 ^ 4 := Nat.pow_le_pow_right (by decide) d2
          omega)
        have e2' : pX12_chance_b48 100 100 (nI j) (nI d) (nI tt) v4 (0 : Int32) (0 : Int32) h2 = _ := e2
        rw [e1, Option.bind_some, ten_eq (by omega) d2, Option.bind_some, q1, e2', sv_eq (by omega), q2]
        exact ⟨_, _, rfl, rfl, rfl, hR2⟩
      · rw [if_pos ((in010 v3).mpr c3)]
        by_cases z0 : v3 < 0
        · rw [if_pos z0]
          exact ⟨_, _, rfl, rfl, rfl, hR2⟩
        · rw [if_neg z0, if_neg ?_]
          · exact ⟨_, _, rfl, rfl, rfl, hR2⟩
          · intro q
            obtain ⟨j, hj, rfl⟩ := nI_of z0
            exact c3 ⟨j, by have := (nI_leI (b := 10) hj (by omega)).mp q; omega, rfl⟩
    · rw [if_pos (hin.mpr c2)]
      by_cases z1 : v2 < (1 : Int32)
      · rw [if_pos z1]
        exact ⟨_, _, rfl, rfl, rfl, hR2⟩
      · rw [if_neg z1, if_pos ?_]
        · exact ⟨_, _, rfl, rfl, rfl, hR2⟩
        · have z2 : ¬ v2 ≤ (4 : Int32) := rng_neg (m := 4) (by omega) c2 z1
          exact Int32.not_le.mp z2
  · rw [if_pos ((hasC p3 p10).mpr c1), if_neg (fun z => c1 ((noC p3 p11).mp z))]
    exact ⟨_, _, rfl, rfl, rfl, hR2⟩
