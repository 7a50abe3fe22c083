/-! ===== the reference's rows one after another; righted, allRighted ===== -/
def frm (h0 h : xM) : Prop := (∀ z, z ≠ 8 → z ≠ 0 → h z = h0 z) ∧ ∀ y, y ≠ 25 → y ≠ 26 → h 0 y = h0 0 y
theorem frm_8 {h0 h h' : xM} (a : frm h0 h) (e : ∀ z, z ≠ 8 → h' z = h z) : frm h0 h' := ⟨fun z z1 z2 => by rw [e z z1, a.1 z z1 z2], fun y y1 y2 => by rw [e 0 (by decide), a.2 y y1 y2]⟩
theorem frm_25 {h0 h : xM} {u v : Int32} (a : frm h0 h) : frm h0 (xu (xu h 0 25 u) 0 26 v) := ⟨fun z z1 z2 => by rw [xu_ne z2, xu_ne z2, a.1 z z1 z2], fun y y1 y2 => by rw [xu_neK y2, xu_neK y1, a.2 y y1 y2]⟩
theorem rem10 {x : Nat} (hx : x < 2 ^ 31) : nI x - nI x / (1000 : Int32) * (1000 : Int32) = nI (x % 1000) := pk_rem (d := 1000) hx (by decide) (by decide)
section rt
variable {w c r t m F s : Nat} {K pe le b : Nat → Nat} {h : xM} {day : Int32}
theorem b53_eq {md : Int32} {N cnt : Nat} {Q : Nat → Prop} {h0 : xM} {K14 : Int32 → Int32 → xM → Option xM} (hN : N ≤ 2) (hcnt : cnt < 2 ^ 30) (hr : ∀ row, row < cnt → ∀ h, frm h0 h → ∃ q h', pX12_rights F (nI N) (nI row) md h = some (q, h') ∧ (∀ z, z ≠ 8 → h' z = h z) ∧ qR (Q row) q) (hsk : ∀ row, 2 ≤ N → (4 ≤ row % 10 ∨ 300 ≤ row % 1000) → ¬ Q row) : ∀ (n k : Nat) (h : xM), frm h0 h → h 0 25 = -9 → h 0 26 = -9 → k ≤ cnt → cnt < k + n → (∀ y, y < k → ¬ Q y) → ∃ h', frm h0 h' ∧ pX12_findRow_b53 F K14 n md (nI N) (nI cnt) (nI k) h = K14 md (nI (N + 1)) h' ∧ ((h' 0 25 = -9 ∧ h' 0 26 = -9 ∧ ∀ y, y < cnt → ¬ Q y) ∨ ∃ row, row < cnt ∧ Q row ∧ (∀ y, y < row → ¬ Q y) ∧ h' 0 25 = nI N ∧ h' 0 26 = nI row) := by
  intro n
  induction n with
  | zero => intro k h _ _ _ z1 z2; omega
  | succ n ih =>
    intro k h hI h25 h26 z1 z2 hi
    rw [pX12_findRow_b53]
    by_cases hk : cnt ≤ k
    · rw [if_pos (nI_le hk (by omega)), show nI N + (1 : Int32) = nI (N + 1) from nI_1 N]
      exact ⟨h, hI, rfl, Or.inl ⟨h25, h26, fun y hy => hi y (by omega)⟩⟩
    · rw [if_neg (nI_ge (by omega) (by omega)), if_pos h25, show nI k + (1 : Int32) = nI (k + 1) from nI_1 k, show nI k - nI k / (10 : Int32) * (10 : Int32) = nI (k % 10) from rm10 (by omega), rem10 (by omega)]
      have next : ¬ Q k → ∀ y, y < k + 1 → ¬ Q y := by
        intro hq y hy
        rcases Nat.lt_or_ge y k with u | u
        · exact hi y u
        · rw [show y = k by omega]; exact hq
      have main : ∃ h', frm h0 h' ∧ pX12_findRow_b94 F K14 (pX12_findRow_b53 F K14 n) md (nI N) (nI cnt) (nI k) h = K14 md (nI (N + 1)) h' ∧ ((h' 0 25 = -9 ∧ h' 0 26 = -9 ∧ ∀ y, y < cnt → ¬ Q y) ∨ ∃ row, row < cnt ∧ Q row ∧ (∀ y, y < row → ¬ Q y) ∧ h' 0 25 = nI N ∧ h' 0 26 = nI row) := by
        obtain ⟨q, h', q1, q2, q3⟩ := hr k (by omega) h hI
        rw [pX12_findRow_b94, q1, Option.bind_some]
        dsimp only
        rw [show nI k + (1 : Int32) = nI (k + 1) from nI_1 k]
        rcases q3 with ⟨rfl, q3⟩ | ⟨rfl, q3⟩
        · rw [if_neg (by decide)]
          refine ⟨_, frm_25 (frm_8 hI q2), ?_, Or.inr ⟨k, by omega, q3, hi, by rw [xu_neK (by decide), xu_same], xu_same⟩⟩
          obtain ⟨n', rfl⟩ : ∃ n', n = n' + 1 := ⟨n - 1, by omega⟩
          rw [pX12_findRow_b53, show nI N + (1 : Int32) = nI (N + 1) from nI_1 N]
          by_cases hk2 : cnt ≤ k + 1
          · rw [if_pos (nI_le hk2 (by omega))]
          · rw [if_neg (nI_ge (by omega) (by omega)), if_neg]
            rw [xu_neK (by decide), xu_same]
            exact ne9 N (by omega)
        · rw [if_pos rfl]
          exact ih (k + 1) h' (frm_8 hI q2) (by rw [q2 0 (by decide)]; exact h25) (by rw [q2 0 (by decide)]; exact h26) (by omega) (by omega) (next q3)
      by_cases hN2 : N < 2
      · rw [if_pos (show nI N < (2 : Int32) from nI_lt (b := 2) hN2 (by omega))]
        exact main
      · rw [if_neg (show ¬ nI N < (2 : Int32) from nI_nlt (b := 2) (by omega) (by omega))]
        by_cases c1 : 4 ≤ k % 10
        · rw [if_pos (show (4 : Int32) ≤ nI (k % 10) from nI_le (a := 4) c1 (by omega))]
          exact ih (k + 1) h hI h25 h26 (by omega) (by omega) (next (hsk k (by omega) (Or.inl c1)))
        · rw [if_neg (show ¬ (4 : Int32) ≤ nI (k % 10) from nI_ge (b := 4) (by omega) (by omega))]
          by_cases c2 : 300 ≤ k % 1000
          · rw [if_pos (show (300 : Int32) ≤ nI (k % 1000) from nI_le (a := 300) c2 (by omega))]
            exact ih (k + 1) h hI h25 h26 (by omega) (by omega) (next (hsk k (by omega) (Or.inr c2)))
          · rw [if_neg (show ¬ (300 : Int32) ≤ nI (k % 1000) from nI_ge (b := 300) (by omega) (by omega))]
            exact main
theorem b14_end {n : Nat} {md v2 : Int32} (h25 : ¬ h 0 25 = -9) : pX12_findRow_b14 F (n + 1) md v2 h = some h := by
  rw [pX12_findRow_b14, if_neg h25]
  split <;> rfl
theorem vt_300 {x : Nat} (hc : c ≤ 3) (h : vt c w x) : x < 300 := by have := h.1; omega
theorem findRow_eq {md : Int32} (hF : 300010 < F) (h1 : 1 ≤ w) (hw : w ≤ 5) (hc : c ≤ 3) (hr : r ≤ 4) (hK : ∀ i, i < c → K i < 4) (hmd : (md = 0 ∧ m = 0) ∨ (md = 1 ∧ m = r)) (ht : t < 4 ^ w) (hs : s < 4 ^ w) (hb : ∀ j, j < r → b j < 4 ^ w) (hM : rMc w c r t pe le h) (hp : pg8 c r K s day b (h 7)) : ∃ h', pX12_findRow F md h = some h' ∧ frm h h' ∧ sFound c w m t K pe le day s b (h' 0 25) (h' 0 26) := by
  obtain ⟨F', hF'⟩ : ∃ F', F = F' + 4 := ⟨F - 4, by omega⟩
  have hrg : ∀ N row, N ≤ 2 → (N = 1 → row < 1000) → (N = 2 → row < 1000000) → row < 2 ^ 31 → ∀ h', frm h h' → ∃ q h'', pX12_rights F (nI N) (nI row) md h' = some (q, h'') ∧ (∀ z, z ≠ 8 → h'' z = h' z) ∧ qR (rowQ c w m t K pe le day s b N row) q := by
    intro N row n1 n2 n3 n4 h' hI
    refine rights_eq (F := F) (by omega) h1 hw hc hr hK hmd ht hs hb n1 n2 n3 n4 ?_ ?_
    · obtain ⟨a1, a2, a3, a4, a5⟩ := hM
      unfold rMc
      rw [hI.2 4 (by decide) (by decide), hI.2 5 (by decide) (by decide), hI.2 6 (by decide) (by decide), hI.2 7 (by decide) (by decide), hI.1 2 (by decide) (by decide), hI.1 3 (by decide) (by decide)]
      exact ⟨a1, a2, a3, a4, a5⟩
    · rw [hI.1 7 (by decide) (by decide)]; exact hp
  have hsk : ∀ N row, 2 ≤ N → (4 ≤ row % 10 ∨ 300 ≤ row % 1000) → ¬ rowQ c w m t K pe le day s b N row := by
    intro N row n1 n2 hq
    unfold rowQ at hq
    rw [if_neg (by omega), if_neg (by omega)] at hq
    have a1 := hq.2.1.2.2
    have a2 := vt_300 hc hq.2.1
    omega
  have hI0 : frm h (xu (xu h 0 25 (-9 : Int32)) 0 26 (-9 : Int32)) := frm_25 ⟨fun _ _ _ => rfl, fun _ _ _ => rfl⟩
  have e25 : (xu (xu h 0 25 (-9 : Int32)) 0 26 (-9 : Int32)) 0 25 = -9 := by rw [xu_neK (by decide), xu_same]
  have e26 : (xu (xu h 0 25 (-9 : Int32)) 0 26 (-9 : Int32)) 0 26 = -9 := xu_same
  unfold pX12_findRow
  generalize xu (xu h 0 25 (-9 : Int32)) 0 26 (-9 : Int32) = g0 at hI0 e25 e26
  have u1 : pX12_findRow_b14 F F md (0 : Int32) g0 = pX12_findRow_b53 F (pX12_findRow_b14 F (F' + 3)) F md (0 : Int32) (1 : Int32) (0 : Int32) g0 := by
    rw [show pX12_findRow_b14 F F md (0 : Int32) g0 = pX12_findRow_b14 F (F' + 3 + 1) md (0 : Int32) g0 by rw [← hF'], pX12_findRow_b14, if_neg (by decide), if_pos e25, if_pos rfl]
  have u2 : ∀ g : xM, g 0 25 = -9 → pX12_findRow_b14 F (F' + 3) md (nI 1) g = pX12_findRow_b53 F (pX12_findRow_b14 F (F' + 2)) F md (nI 1) (nI 300) (nI 0) g := by
    intro g hg
    rw [pX12_findRow_b14, if_neg (by decide), if_pos hg, if_neg (by decide), if_pos (show nI 1 = 1 from rfl)]
    rfl
  have u3 : ∀ g : xM, g 0 25 = -9 → pX12_findRow_b14 F (F' + 2) md (nI 2) g = pX12_findRow_b53 F (pX12_findRow_b14 F (F' + 1)) F md (nI 2) (nI 300000) (nI 0) g := by
    intro g hg
    rw [pX12_findRow_b14, if_neg (by decide), if_pos hg, if_neg (by decide), if_neg (by decide)]
    rfl
  obtain ⟨g1, a1, a2, a3⟩ := b53_eq (F := F) (md := md) (N := 0) (cnt := 1) (Q := rowQ c w m t K pe le day s b 0) (h0 := h) (K14 := pX12_findRow_b14 F (F' + 3)) (by omega) (by omega) (fun row hrow h' hI => hrg 0 row (by omega) (by omega) (by omega) (by omega) h' hI) (hsk 0) F 0 g0 hI0 e25 e26 (by omega) (by omega) (fun y hy => by omega)
  have a2' : pX12_findRow_b53 F (pX12_findRow_b14 F (F' + 3)) F md (0 : Int32) (1 : Int32) (0 : Int32) g0 = _ := a2
  rw [u1, a2']
  rcases a3 with ⟨a3, a4, a5⟩ | ⟨row, r1, r2, r3, r4, r5⟩
  · have nf : ¬ fin1 m t s b := a5 0 (by omega)
    rw [u2 g1 a3]
    obtain ⟨g2, b1, b2, b3⟩ := b53_eq (F := F) (md := md) (N := 1) (cnt := 300) (Q := rowQ c w m t K pe le day s b 1) (h0 := h) (K14 := pX12_findRow_b14 F (F' + 2)) (by omega) (by omega) (fun row hrow h' hI => hrg 1 row (by omega) (by omega) (by omega) (by omega) h' hI) (hsk 1) F 0 g1 a1 a3 a4 (by omega) (by omega) (fun y hy => by omega)
    rw [b2]
    rcases b3 with ⟨b3, b4, b5⟩ | ⟨row, r1, r2, r3, r4, r5⟩
    · have nf1 : ∀ x, vt c w x → ¬ gd1 w m t K pe le day s b x := fun x hx hg => b5 x (vt_300 hc hx) ⟨hx, hg⟩
      rw [u3 g2 b3]
      obtain ⟨g3, c1, c2, c3⟩ := b53_eq (F := F) (md := md) (N := 2) (cnt := 300000) (Q := rowQ c w m t K pe le day s b 2) (h0 := h) (K14 := pX12_findRow_b14 F (F' + 1)) (by omega) (by omega) (fun row hrow h' hI => hrg 2 row (by omega) (by omega) (by omega) (by omega) h' hI) (hsk 2) F 0 g2 b1 b3 b4 (by omega) (by omega) (fun y hy => by omega)
      rw [c2]
      have two : ∀ x y, vt c w x → vt c w y → gd1 w m t K pe le (day + 1) (one w K x s) (bl1 w K pe le day b x) y → rowQ c w m t K pe le day s b 2 (x * 1000 + y) := by
        intro x y hx hy hg
        have y1 := vt_300 hc hy
        show vt c w ((x * 1000 + y) / 1000) ∧ vt c w ((x * 1000 + y) % 1000) ∧ gd1 w m t K pe le (day + 1) (one w K ((x * 1000 + y) / 1000) s) (bl1 w K pe le day b ((x * 1000 + y) / 1000)) ((x * 1000 + y) % 1000)
        rw [show (x * 1000 + y) / 1000 = x by omega, show (x * 1000 + y) % 1000 = y by omega]
        exact ⟨hx, hy, hg⟩
      rcases c3 with ⟨c3, c4, c5⟩ | ⟨row, r1, r2, r3, r4, r5⟩
      · refine ⟨g3, ?_, c1, Or.inr (Or.inr ⟨nf, nf1, Or.inl ⟨c3, c4, ?_⟩⟩)⟩
        · rw [pX12_findRow_b14, if_pos (by decide)]
        · rintro x hx ⟨y, hy, hg⟩
          have x1 := vt_300 hc hx
          have y1 := vt_300 hc hy
          exact c5 (x * 1000 + y) (by omega) (two x y hx hy hg)
      · refine ⟨g3, ?_, c1, Or.inr (Or.inr ⟨nf, nf1, Or.inr ⟨r4, ?_, ?_⟩⟩)⟩
        · exact b14_end (by rw [r4]; exact ne9 2 (by omega))
        · have r2' : vt c w (row / 1000) ∧ vt c w (row % 1000) ∧ gd1 w m t K pe le (day + 1) (one w K (row / 1000) s) (bl1 w K pe le day b (row / 1000)) (row % 1000) := r2
          obtain ⟨q1, q2, q3⟩ := r2'
          refine Or.inr ⟨row / 1000, row % 1000, by rw [r5]; congr 1; omega, q1, q2, q3, fun z hz hv hg => ?_, ?_⟩
          · exact r3 (row / 1000 * 1000 + z) (by omega) (two _ z q1 hv hg)
          · rintro z hz hv ⟨y, hy, hg⟩
            have y1 := vt_300 hc hy
            exact r3 (z * 1000 + y) (by omega) (two z y hv hy hg)
        · rw [r5]; exact ne9 row (by omega)
    · have r2' : vt c w row ∧ gd1 w m t K pe le day s b row := r2
      refine ⟨g2, ?_, b1, Or.inr (Or.inl ⟨nf, row, r4, r5, r2'.1, r2'.2, fun y hy hv hg => r3 y hy ⟨hv, hg⟩⟩)⟩
      exact b14_end (by rw [r4]; exact ne9 1 (by omega))
  · refine ⟨g1, ?_, a1, Or.inl ⟨r2, r4, ?_⟩⟩
    · exact b14_end (by rw [r4]; exact ne9 0 (by omega))
    · rw [r5, show row = 0 by omega]; rfl
theorem least1 {P : Nat → Prop} {x y : Nat} (hx : vt c w x) (px : P x) (lx : ∀ z, z < x → vt c w z → ¬ P z) (hy : vt c w y) (py : P y) (ly : ∀ z, z < y → vt c w z → ¬ P z) : x = y := by
  rcases Nat.lt_trichotomy x y with q | q | q
  · exact absurd px (ly x q hx)
  · exact q
  · exact absurd py (lx y q hy)
theorem sFound_one {u v u' v' : Int32} (a : sFound c w m t K pe le day s b u v) (a' : sFound c w m t K pe le day s b u' v') : u = u' ∧ v = v' := by
  rcases a with ⟨p1, p2, p3⟩ | ⟨p1, x, p2, p3, p4, p5, p6⟩ | ⟨p1, p2, p3⟩
  · rcases a' with ⟨q1, q2, q3⟩ | ⟨q1, _⟩ | ⟨q1, _⟩
    · exact ⟨p2.trans q2.symm, p3.trans q3.symm⟩
    · exact absurd p1 q1
    · exact absurd p1 q1
  · rcases a' with ⟨q1, q2, q3⟩ | ⟨q1, y, q2, q3, q4, q5, q6⟩ | ⟨q1, q2, q3⟩
    · exact absurd q1 p1
    · exact ⟨p2.trans q2.symm, by rw [p3, q3, least1 p4 p5 p6 q4 q5 q6]⟩
    · exact absurd p5 (q2 x p4)
  · rcases a' with ⟨q1, q2, q3⟩ | ⟨q1, y, q2, q3, q4, q5, q6⟩ | ⟨q1, q2, q3⟩
    · exact absurd q1 p1
    · exact absurd q5 (p2 y q4)
    · rcases p3 with ⟨p3, p4, p5⟩ | ⟨p3, p4, p5⟩
      · rcases q3 with ⟨q3, q4, q5⟩ | ⟨q3, q4, q5⟩
        · exact ⟨p3.trans q3.symm, p4.trans q4.symm⟩
        · rcases q4 with ⟨q4, _⟩ | ⟨x, y, q4, hx, hy, hg, _, _⟩
          · exact absurd q4 q5
          · exact absurd ⟨y, hy, hg⟩ (p5 x hx)
      · rcases p4 with ⟨p4, _⟩ | ⟨x, y, p4, hx, hy, hg, l1, l2⟩
        · exact absurd p4 p5
        · rcases q3 with ⟨q3, q4, q5⟩ | ⟨q3, q4, q5⟩
          · exact absurd ⟨y, hy, hg⟩ (q5 x hx)
          · rcases q4 with ⟨q4, _⟩ | ⟨x', y', q4, hx', hy', hg', l1', l2'⟩
            · exact absurd q4 q5
            · have e := least1 (P := gd2 c w m t K pe le day s b) hx ⟨y, hy, hg⟩ l2 hx' ⟨y', hy', hg'⟩ l2'
              subst e
              have e := least1 (P := gd1 w m t K pe le (day + 1) (one w K x s) (bl1 w K pe le day b x)) hy hg l1 hy' hg' l1'
              subst e
              exact ⟨p3.trans q3.symm, p4.trans q4.symm⟩
end rt
theorem okC_rt {f f' : xM} (h : ∀ x, x ≠ 23 → x ≠ 6 → f' x = f x) : okC f f' := by
  refine ⟨?_, ?_, ?_, ?_, ?_, ?_, ?_, ?_, ?_, ?_, ?_⟩ <;> (rw [h _ (by decide) (by decide)])
theorem okM_rt {h h' : xM} (a : frm h h') : okM h h' := by
  refine ⟨?_, ?_, ?_, ?_, ?_, ?_, ?_, ?_, ?_, ?_, ?_, ?_, ?_⟩ <;> first | exact a.2 _ (by decide) (by decide) | exact a.1 _ (by decide) (by decide)
/-- the pages as numbers -/
theorem page_of {w c r t n : Nat} {f : xM} {g : xN} {h : xM} {k : xN} (hW : RelW w c r t n f g h k) : ∃ (K b pe le : Nat → Nat) (s : Nat), s < 4 ^ w ∧ f 19 0 = nI s ∧ (∀ j, j < r → b j < 4 ^ w ∧ f 19 (5 + j) = nI (b j)) ∧ rFc w c r t K pe le f ∧ rMc w c r t pe le h ∧ pg8 c r K s (f 19 1) b (h 7) := by
  obtain ⟨p1, p2, p3, p4, p5, p6, p7, p8, p9, p10, p11, p12, p13⟩ := RelW_P hW
  have hp := RelW_pg hW
  have hD := RelW_D hW
  obtain ⟨K, hK⟩ := kinds_of hp
  obtain ⟨⟨sd, hsd, u1, u2⟩, g2, -, g4⟩ := hp
  have hb : ∃ b : Nat → Nat, ∀ j, j < r → b j < 4 ^ w ∧ f 19 (5 + j) = nI (b j) ∧ h 7 (5 + j) = nI (b j) := by
    refine ⟨fun j => if hj : j < r then (g4 j hj).choose else 0, fun j hj => ?_⟩
    simp only [dif_pos hj]
    exact (g4 j hj).choose_spec
  obtain ⟨b, hb⟩ := hb
  have hd : ∃ pe le : Nat → Nat, ∀ j, j < r → 1 ≤ pe j ∧ pe j ≤ 4 ∧ f 17 j = nI (pe j) ∧ h 2 j = nI (pe j) ∧ f 18 j = nI (le j) ∧ h 3 j = nI (le j) := by
    refine ⟨fun j => if hj : j < r then (hD j hj).choose else 0, fun j => if hj : j < r then (hD j hj).choose_spec.choose else 0, fun j hj => ?_⟩
    simp only [dif_pos hj]
    obtain ⟨d1, d2, d3, d4, d5, d6, d7⟩ := (hD j hj).choose_spec.choose_spec
    exact ⟨d1, d2, d4, d5, d6, d7⟩
  obtain ⟨pe, le, hd⟩ := hd
  exact ⟨K, b, pe, le, sd, hsd, u1, fun j hj => ⟨(hb j hj).1, (hb j hj).2.1⟩, ⟨p6, p10, p8, fun i hi => ⟨(hK i hi).1, (hK i hi).2.1⟩, fun j hj => ⟨(hd j hj).1, (hd j hj).2.1, (hd j hj).2.2.1, (hd j hj).2.2.2.2.1⟩⟩, ⟨p7, p9, p11, p13, fun j hj => ⟨(hd j hj).1, (hd j hj).2.1, (hd j hj).2.2.2.1, (hd j hj).2.2.2.2.2⟩⟩, ⟨u2, g2.symm, fun i hi => (hK i hi).2.2, fun j hj => (hb j hj).2.2⟩⟩
theorem righting {n : Nat} {f : xM} {g : xN} {h : xM} {k : xN} {w c r t m : Nat} {md : Int32} (hW : RelW w c r t (n + 1) f g h k) (hmd : (md = 0 ∧ m = 0) ∨ (md = 1 ∧ m = r)) : ∃ f' h', pX4_search 300100 (nI m) f = some f' ∧ pX12_findRow 300100 md h = some h' ∧ f' 6 1 = h' 0 25 ∧ f' 6 2 = h' 0 26 ∧ Rel (n + 1) f' g h' k := by
  have hR2 := hW.rel
  obtain ⟨p1, p2, p3, p4, p5, p6, p7, p8, p9, p10, p11, p12, p13⟩ := RelW_P hW
  obtain ⟨K, b, pe, le, s, hs, u1, u2, u3, u4, u5⟩ := page_of hW
  obtain ⟨f', a1, a2, a3⟩ := search_eq (F := 300100) (f := f) (m := m) (day := f 19 1) (by omega) p2 p3 p4 (by omega) p5 hs u3 p12 u1 rfl u2
  obtain ⟨h', b1, b2, b3⟩ := findRow_eq (F := 300100) (md := md) (m := m) (by omega) p1 p2 p3 p4 (fun i hi => (u3.2.2.2.1 i hi).1) hmd p5 hs (fun j hj => (u2 j hj).1) u4 u5
  obtain ⟨e1, e2⟩ := sFound_one a3 b3
  exact ⟨f', h', a1, b1, e1, e2, Rel_ok hR2 (Nat.le_refl _) (okC_rt a2) (okM_rt b2) (RelW_g hW)⟩
theorem le1_no {v1 : Int32} (hv : ¬ isN v1 2) (z0 : ¬ v1 < 0) : ¬ v1 ≤ (1 : Int32) := by
  intro q
  obtain ⟨j, hj, rfl⟩ := nI_of z0
  exact hv ⟨j, by have := (nI_leI (b := 1) hj (by omega)).mp q; omega, rfl⟩
theorem e_righted {n : Nat} {f : xM} {g : xN} {h : xM} {k : xN} (hn : n ≤ 100) (hR : Rel n f g h k) (v1 : Int32) : ∃ (F : Nat) (a : Int32 × xM) (b : Int32 × xM), pX11_righted F v1 f = some a ∧ pX12_righted F v1 h = some b ∧ a.1 = b.1 ∧ Rel (n + 1) a.2 g b.2 k := by
  obtain ⟨w, c, r, t, hW⟩ := Rel_open hR
  have hR2 := hW.rel
  generalize hh : xu h 0 0 (0 : Int32) = h2 at hW hR2
  refine ⟨300100, ?_⟩
  unfold pX11_righted pX12_righted
  rw [hh]
  by_cases hv : isN v1 2
  · rw [if_neg (fun z => (in01 v1).mp z hv)]
    obtain ⟨d, hd, rfl⟩ := hv
    rw [if_neg (nI_pos (by omega)), if_pos (show nI d ≤ (1 : Int32) from nI_le (b := 1) (by omega) (by omega))]
    obtain ⟨f', h', a1, a2, a3, a4, a5⟩ := righting (m := 0) (md := 0) hW (Or.inl ⟨rfl, rfl⟩)
    have a1' : pX4_search 300100 (0 : Int32) f = some f' := a1
    rw [a1', a2, Option.bind_some, Option.bind_some]
    by_cases d0 : nI d = 0
    · rw [if_pos d0, if_pos d0]
      exact ⟨_, _, rfl, rfl, a3, a5⟩
    · rw [if_neg d0, if_neg d0]
      exact ⟨_, _, rfl, rfl, a4, a5⟩
  · rw [if_pos ((in01 v1).mpr hv)]
    by_cases z0 : v1 < 0
    · rw [if_pos z0]
      exact ⟨_, _, rfl, rfl, rfl, hR2⟩
    · rw [if_neg z0, if_neg (le1_no hv z0)]
      exact ⟨_, _, rfl, rfl, rfl, hR2⟩
theorem e_allRighted {n : Nat} {f : xM} {g : xN} {h : xM} {k : xN} (hn : n ≤ 100) (hR : Rel n f g h k) (v1 : Int32) : ∃ (F : Nat) (a : Int32 × xM) (b : Int32 × xM), pX11_allRighted F v1 f = some a ∧ pX12_allRighted F v1 h = some b ∧ a.1 = b.1 ∧ Rel (n + 1) a.2 g b.2 k := by
  obtain ⟨w, c, r, t, hW⟩ := Rel_open hR
  have hR2 := hW.rel
  generalize hh : xu h 0 0 (0 : Int32) = h2 at hW hR2
  obtain ⟨p1, p2, p3, p4, p5, p6, p7, p8, p9, p10, p11, p12, p13⟩ := RelW_P hW
  refine ⟨300100, ?_⟩
  unfold pX11_allRighted pX12_allRighted
  rw [hh]
  by_cases hv : isN v1 2
  · rw [if_neg (fun z => (in01 v1).mp z hv)]
    obtain ⟨d, hd, rfl⟩ := hv
    rw [if_neg (nI_pos (by omega)), if_pos (show nI d ≤ (1 : Int32) from nI_le (b := 1) (by omega) (by omega))]
    obtain ⟨f', h', a1, a2, a3, a4, a5⟩ := righting (m := r) (md := 1) hW (Or.inr ⟨rfl, rfl⟩)
    rw [p12, a1, a2, Option.bind_some, Option.bind_some]
    by_cases d0 : nI d = 0
    · rw [if_pos d0, if_pos d0]
      exact ⟨_, _, rfl, rfl, a3, a5⟩
    · rw [if_neg d0, if_neg d0]
      exact ⟨_, _, rfl, rfl, a4, a5⟩
  · rw [if_pos ((in01 v1).mpr hv)]
    by_cases z0 : v1 < 0
    · rw [if_pos z0]
      exact ⟨_, _, rfl, rfl, rfl, hR2⟩
    · rw [if_neg z0, if_neg (le1_no hv z0)]
      exact ⟨_, _, rfl, rfl, rfl, hR2⟩
