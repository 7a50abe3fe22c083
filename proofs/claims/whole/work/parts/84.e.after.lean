theorem okC_row {f f' : xM} (h : ∀ x, x ≠ 22 → x ≠ 5 → f' x = f x) : okC f f' := by
  refine ⟨?_, ?_, ?_, ?_, ?_, ?_, ?_, ?_, ?_, ?_, ?_⟩ <;> (rw [h _ (by decide) (by decide)])
theorem ne9 (s : Nat) (hs : s < 2 ^ 31) : ¬ nI s = (-9 : Int32) := by
  intro q
  have := nI_pos hs
  rw [q] at this
  exact this (by decide)
/-- the pure facts of a state, without its acts -/
theorem Rel_open {n : Nat} {f : xM} {g : xN} {h : xM} {k : xN} (hR : Rel n f g h k) : ∃ w c r t, RelW w c r t (n + 1) f g (xu h 0 0 0) k := Rel_W (Rel_ok hR (Nat.le_succ n) okC.r0 (okM_t 0) (Rel_g hR))
theorem e_after {n : Nat} {f : xM} {g : xN} {h : xM} {k : xN} (hn : n ≤ 100) (hR : Rel n f g h k) (v1 : Int32) (v2 : Int32) (v3 : Int64) : ∃ (F : Nat) (a : Int32 × xM) (b : Int32 × xM), pX11_after F v1 v2 v3 f = some a ∧ pX12_after F v1 v2 v3 h = some b ∧ a.1 = b.1 ∧ Rel (n + 1) a.2 g b.2 k := by
  obtain ⟨w, c, r, t, hW⟩ := Rel_open hR
  have hR2 := hW.rel
  generalize hh : xu h 0 0 (0 : Int32) = h2 at hW hR2
  obtain ⟨p1, p2, p3, p4, p5, p6, p7, p8, p9, p10, p11, p12, p13⟩ := RelW_P hW
  have hb := p4_le p2
  obtain ⟨K, hK⟩ := kinds_of (RelW_pg hW)
  obtain ⟨q, q1, q2, q3⟩ := names_eq (F := 20) (f := f) (h := h2) (by omega) p1 p2 p7 p6 v1
  obtain ⟨z, f', z', r1, r2, r3, r4⟩ := rows_eq (F := 20) (most := 4) (f := f) (h := h2) (by omega) (Or.inr rfl) p3 p2 p6 p10 p7 p11 v2 v3
  have r1' : pX5_read 20 v2 4 v3 f = some (z, f') := r1
  have r2' : pX12_noRow 20 h2 v2 4 v3 = some z' := r2
  have hR3 : Rel (n + 1) f' g h2 k := Rel_ok hR2 (Nat.le_refl _) (okC_row r3) okM.r0 (RelW_g hW)
  refine ⟨20, ?_⟩
  unfold pX11_after pX12_after
  rw [hh, q1, q2]
  simp only [Option.bind_some, r1', r2']
  rcases q3 with rfl | ⟨s, hs, rfl⟩
  · rw [if_pos rfl, if_pos rfl]
    exact ⟨_, _, rfl, rfl, rfl, hR2⟩
  · rw [if_neg (ne9 s (by omega)), if_neg (ne9 s (by omega))]
    rcases r4 with ⟨rfl, rfl⟩ | ⟨rfl, rfl, N, R, n1, n2, rfl, rfl, hRR, g1, g2, hT⟩
    · rw [if_pos rfl, if_neg (by decide)]
      exact ⟨_, _, rfl, rfl, rfl, hR3⟩
    · rw [if_neg (by decide), if_pos rfl]
      have e1 := afterRow_eq (F := 20) (K := K) (c := c) (by omega) p1 p3 p2 p7 (fun i hi => ⟨(hK i hi).1, (hK i hi).2.2⟩) n2 hRR hT hs
      have e2 := doneOn_eq (F := 20) (f := f') (K := K) (c := c) (by omega) p3 p2 (by rw [r3 10 (by decide) (by decide)]; exact p6) (fun i hi => ⟨(hK i hi).1, by rw [r3 19 (by decide) (by decide)]; exact (hK i hi).2.1⟩) n2 g1 g2 hT hs
      have hlt := apr_lt (K := K) p2 hT hs N (Nat.le_refl N)
      obtain ⟨tr, ht1, ht2⟩ := told_eq (F := 20) (f := f') (h := h2) (w := w) (s := apr w K (th3 R N) s N) (by omega) p2 p7 (by rw [r3 10 (by decide) (by decide)]; exact p6) (by omega)
      simp only [e1, e2, Option.bind_some, ht1, ht2]
      exact ⟨_, _, rfl, rfl, rfl, hR3⟩
theorem who_loop {F w c p x s d : Nat} {f h : xM} {K : Nat → Nat} (hF : 5 < F) (h1 : 1 ≤ w) (hw : w ≤ 5) (hc : c ≤ 3) (f4 : f 10 0 = nI w) (h4 : h 0 4 = nI w) (f6 : f 2 4 = nI c) (h6 : h 0 6 = nI c) (hK : ∀ i, i < c → K i < 4 ∧ f 19 (2 + i) = nI (K i) ∧ h 7 (2 + i) = nI (K i)) (hp : p < w) (hx : x < 4) (hs : s < 4 ^ w) : ∀ (n j : Nat) (a : Int32), j ≤ c → c < j + n → ∃ q, pX11_who_b62 F f n (nI p) (nI x) (nI s) (nI d) a (nI j) = some q ∧ pX12_who_b58 F n (nI p) (nI x) (nI s) (nI d) a (nI j) h = some (q, h) := by
  intro n
  induction n with
  | zero => intro j a z1 z2; omega
  | succ n ih =>
    intro j a z1 z2
    rw [pX11_who_b62, pX12_who_b58, f6, h6]
    by_cases hj : c ≤ j
    · rw [if_pos (nI_le hj (by omega)), if_pos (nI_le hj (by omega))]
      exact ⟨a, rfl, rfl⟩
    · obtain ⟨k1, k2, k3⟩ := hK j (by omega)
      simp only [if_neg (nI_ge (show j < c by omega) (by omega)), noticed6_eq hw f4 (show j < 3 by omega) k1 k2 hp hs hx, ad2, if_pos (xin_of (k := 2 + j) (n := 9) (by omega) (by omega)), nI_clamp (show 2 + j < 2 ^ 31 by omega), k3, notice_eq hF h1 hw h4 k1 hp hs hx, Option.bind_some, or0, show nI j + (1 : Int32) = nI (j + 1) from nI_1 j]
      by_cases hq : nI (nt4 w (K j) s p x) = nI d
      · simp only [if_pos hq]
        exact ih (j + 1) _ (by omega) (by omega)
      · simp only [if_neg hq]
        exact ih (j + 1) _ (by omega) (by omega)
theorem e_who {n : Nat} {f : xM} {g : xN} {h : xM} {k : xN} (hn : n ≤ 100) (hR : Rel n f g h k) (v1 : Int32) (v2 : Int32) (v3 : Int32) (v4 : Int32) : ∃ (F : Nat) (a : Int32) (b : Int32 × xM), pX11_who F f v1 v2 v3 v4 = some a ∧ pX12_who F v1 v2 v3 v4 h = some b ∧ a = b.1 ∧ Rel (n + 1) f g b.2 k := by
  obtain ⟨w, c, r, t, hW⟩ := Rel_open hR
  have hR2 := hW.rel
  generalize hh : xu h 0 0 (0 : Int32) = h2 at hW hR2
  obtain ⟨p1, p2, p3, p4, p5, p6, p7, p8, p9, p10, p11, p12, p13⟩ := RelW_P hW
  have hb := p4_le p2
  obtain ⟨K, hK⟩ := kinds_of (RelW_pg hW)
  obtain ⟨q, q1, q2, q3⟩ := names_eq (F := 20) (f := f) (h := h2) (by omega) p1 p2 p7 p6 v1
  obtain ⟨z, z1, z2, z3⟩ := names_eq (F := 20) (f := f) (h := h2) (by omega) p1 p2 p7 p6 v2
  refine ⟨20, ?_⟩
  unfold pX11_who pX12_who
  rw [hh, q1, q2]
  simp only [Option.bind_some, z1, z2]
  rcases q3 with rfl | ⟨s, hs, rfl⟩
  · rw [if_pos rfl, if_pos rfl]
    exact ⟨-2, (-2, h2), rfl, rfl, rfl, hR2⟩
  · rw [if_neg (ne9 s (by omega)), if_neg (ne9 s (by omega))]
    rcases z3 with rfl | ⟨d, hd, rfl⟩
    · rw [if_pos rfl, if_pos rfl]
      exact ⟨-2, (-2, h2), rfl, rfl, rfl, hR2⟩
    · rw [if_neg (ne9 d (by omega)), if_neg (ne9 d (by omega))]
      by_cases u2 : isN v3 w
      · rw [if_pos ((noPl p2 p7).mpr u2)]
        by_cases u3 : isN v4 4
        · rw [if_pos (noLe.mpr u3), if_neg (fun z => (isNot p2 p6).mp z ⟨u2, u3⟩)]
          obtain ⟨p, hp, rfl⟩ := u2
          obtain ⟨x, hx, rfl⟩ := u3
          obtain ⟨y, y1, y2⟩ := who_loop (F := 20) (c := c) (p := p) (x := x) (s := s) (d := d) (K := K) (by omega) p1 p2 p3 p6 p7 p10 p11 hK hp hx hs 20 0 0 (by omega) (by omega)
          exact ⟨y, (y, h2), y1, y2, rfl, hR2⟩
        · rw [if_neg (fun z => u3 (noLe.mp z)), if_pos ((isNot p2 p6).mpr (fun z => u3 z.2))]
          exact ⟨-2, (-2, h2), rfl, rfl, rfl, hR2⟩
      · rw [if_neg (fun z => u2 ((noPl p2 p7).mp z)), if_pos ((isNot p2 p6).mpr (fun z => u2 z.1))]
        exact ⟨-2, (-2, h2), rfl, rfl, rfl, hR2⟩
