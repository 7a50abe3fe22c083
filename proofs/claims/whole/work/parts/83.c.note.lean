def RelW (w c r t n : Nat) (f : xM) (g : xN) (h : xM) (k : xN) : Prop := ∃ (a A : Nat) (b0 b1 : Bool), rT f h ∧ rP w c r t f h ∧ rD r f h ∧ pgR w c r (f 19) (h 7) ∧ rA n w c r a A f h ∧ rK w c r b0 b1 f h ∧ g 0 10 = k 0 24
theorem Rel_W {n : Nat} {f : xM} {g : xN} {h : xM} {k : xN} (hR : Rel n f g h k) : ∃ w c r t, RelW w c r t n f g h k := hR
theorem RelW.rel {w c r t n : Nat} {f : xM} {g : xN} {h : xM} {k : xN} (hR : RelW w c r t n f g h k) : Rel n f g h k := ⟨w, c, r, t, hR⟩
theorem pgR_congr {w c r : Nat} {u u' v v' : Nat → Int32} (hc : c ≤ 3) (hr : r ≤ 4) (hu : ∀ j, j < 9 → u' j = u j) (hv : ∀ j, j < 9 → v' j = v j) (h : pgR w c r u v) : pgR w c r u' v' := by
  obtain ⟨⟨s, h1, h2, h3⟩, h4, h5, h6⟩ := h
  refine ⟨⟨s, h1, by rw [hu 0 (by omega)]; exact h2, by rw [hv 0 (by omega)]; exact h3⟩, by rw [hu 1 (by omega), hv 1 (by omega)]; exact h4, fun i hi => ?_, fun i hi => ?_⟩
  · obtain ⟨q, q1, q2, q3⟩ := h5 i hi
    exact ⟨q, q1, by rw [hu _ (by omega)]; exact q2, by rw [hv _ (by omega)]; exact q3⟩
  · obtain ⟨q, q1, q2, q3⟩ := h6 i hi
    exact ⟨q, q1, by rw [hu _ (by omega)]; exact q2, by rw [hv _ (by omega)]; exact q3⟩
/-- another page in the same place -/
theorem RelW_page {w c r t n : Nat} {f f' : xM} {g : xN} {h h' : xM} {k : xN} (hR : RelW w c r t n f g h k) (hf : ∀ x, x ≠ 19 → f' x = f x) (hh : ∀ x, x ≠ 7 → h' x = h x) (hp : pgR w c r (f' 19) (h' 7)) : RelW w c r t n f' g h' k := by
  obtain ⟨a, A, b0, b1, hT, hP, hD, -, hA, hK, hs⟩ := hR
  unfold rT rP rD rA rK at *
  refine ⟨a, A, b0, b1, ?_, ?_, ?_, hp, ?_, ?_, hs⟩
  · unfold rT; rw [hf 1 (by decide), hf 13 (by decide), hh 0 (by decide), hh 1 (by decide)]; exact hT
  · unfold rP; rw [hf 10 (by decide), hf 2 (by decide), hh 0 (by decide)]; exact hP
  · unfold rD; rw [hf 17 (by decide), hf 18 (by decide), hh 2 (by decide), hh 3 (by decide)]; exact hD
  · unfold rA; rw [hf 3 (by decide), hf 21 (by decide), hh 0 (by decide), hh 9 (by decide)]; exact hA
  · unfold rK; rw [hf 0 (by decide), hf 20 (by decide), hh 11 (by decide), hh 10 (by decide)]; exact hK
/-- an act is noted on both sides -/
theorem note_Rel {w c r t n F : Nat} {f : xM} {g : xN} {h : xM} {k : xN} (hn : n ≤ 100) (hF : 130 < F) (hR : RelW w c r t n f g h k) : ∃ f' h', pX3_note f = some f' ∧ pX12_note F (xu h 0 0 0) = some h' ∧ RelW w c r t (n + 1) f' g h' k ∧ f' 19 = f 19 ∧ h' 7 = h 7 := by
  obtain ⟨a, A, b0, b1, hT, hP, hD, hp, ⟨q1, q2, q3, q4, q5, q6, q7⟩, hK, hs⟩ := hR
  obtain ⟨h', m0, m1, m2, m3, m4, m5⟩ := noteM (F := F) (a := a) (h := xu h 0 0 0) hF q1 (by rw [xu_neK (by decide)]; exact q6)
  have c3 : c ≤ 3 := hP.2.2.1
  have r4 : r ≤ 4 := hP.2.2.2.1
  have h0 : ∀ y, y ≠ 21 → y ≠ 0 → h' 0 y = h 0 y := fun y z1 z2 => by rw [m2 y z1, xu_neK z2]
  have hx : ∀ x, x ≠ 0 → x ≠ 9 → h' x = h x := fun x z1 z2 => by rw [m3 x z1 z2, xu_ne z1]
  refine ⟨_, h', noteC q1 (by omega) q5 q4, m0, ⟨min (a + 1) 14, A + 1, b0, b1, ?_, ?_, ?_, ?_, ⟨by omega, by omega, by omega, ?_, ?_, m1, ?_⟩, ?_, hs⟩, ?_, hx 7 (by decide) (by decide)⟩
  · unfold rT at *
    rw [xu_ne (by decide : (1 : Nat) ≠ 3), xu_ne (by decide : (1 : Nat) ≠ 3), cpy2_ne (by decide : (1 : Nat) ≠ 21), xu_ne (by decide : (13 : Nat) ≠ 3), xu_ne (by decide : (13 : Nat) ≠ 3), cpy2_ne (by decide : (13 : Nat) ≠ 21), h0 2 (by decide) (by decide), hx 1 (by decide) (by decide)]; exact hT
  · unfold rP at *
    rw [xu_ne (by decide : (10 : Nat) ≠ 3), xu_ne (by decide : (10 : Nat) ≠ 3), cpy2_ne (by decide : (10 : Nat) ≠ 21), xu_ne (by decide : (2 : Nat) ≠ 3), xu_ne (by decide : (2 : Nat) ≠ 3), cpy2_ne (by decide : (2 : Nat) ≠ 21), h0 4 (by decide) (by decide), h0 5 (by decide) (by decide), h0 6 (by decide) (by decide), h0 7 (by decide) (by decide)]; exact hP
  · unfold rD at *
    rw [xu_ne (by decide : (17 : Nat) ≠ 3), xu_ne (by decide : (17 : Nat) ≠ 3), cpy2_ne (by decide : (17 : Nat) ≠ 21), xu_ne (by decide : (18 : Nat) ≠ 3), xu_ne (by decide : (18 : Nat) ≠ 3), cpy2_ne (by decide : (18 : Nat) ≠ 21), hx 2 (by decide) (by decide), hx 3 (by decide) (by decide)]; exact hD
  · rw [xu_ne (by decide : (19 : Nat) ≠ 3), xu_ne (by decide : (19 : Nat) ≠ 3), cpy2_ne (by decide : (19 : Nat) ≠ 21), hx 7 (by decide) (by decide)]; exact hp
  · exact xu_same
  · rw [xu_neK (by decide)]; exact xu_same
  · intro i hi
    have hm : A % 14 < 14 := Nat.mod_lt _ (by decide)
    rw [xu_ne (by decide : (21 : Nat) ≠ 3), xu_ne (by decide : (21 : Nat) ≠ 3)]
    by_cases hl : i = min a 13
    · subst hl
      refine pgR_congr c3 r4 (fun j hj => ?_) (fun j hj => ?_) hp
      · show cpy2 f 21 (9 * (A % 14)) 19 0 9 21 (9 * ((A + 1 - min (a + 1) 14 + min a 13) % 14) + j) = f 19 j
        have e : (A + 1 - min (a + 1) 14 + min a 13) % 14 = A % 14 := by omega
        rw [e, cpy2_in (by omega) (by omega)]
        congr 1; omega
      · show h' 9 (9 * min a 13 + j) = h 7 j
        rw [m4 j hj, xu_ne (by decide)]
    · have hi2 : i < min a 13 := by omega
      have hi3 : (if a = 14 then i + 1 else i) < a := by split <;> omega
      refine pgR_congr c3 r4 (fun j hj => ?_) (fun j hj => ?_) (q7 _ hi3)
      · show cpy2 f 21 (9 * (A % 14)) 19 0 9 21 (9 * ((A + 1 - min (a + 1) 14 + i) % 14) + j) = f 21 (9 * ((A - a + if a = 14 then i + 1 else i) % 14) + j)
        have e : (A + 1 - min (a + 1) 14 + i) % 14 = (A - a + if a = 14 then i + 1 else i) % 14 := by
          congr 1
          split <;> omega
        have e2 : (A - a + if a = 14 then i + 1 else i) % 14 ≠ A % 14 := by
          split <;> omega
        rw [e, cpy2_out (by omega)]
      · show h' 9 (9 * i + j) = h 9 (9 * (if a = 14 then i + 1 else i) + j)
        rw [m5 i j hj hi2, xu_ne (by decide)]
  · unfold rK at *
    rw [xu_ne (by decide : (0 : Nat) ≠ 3), xu_ne (by decide : (0 : Nat) ≠ 3), cpy2_ne (by decide : (0 : Nat) ≠ 21), xu_ne (by decide : (20 : Nat) ≠ 3), xu_ne (by decide : (20 : Nat) ≠ 3), cpy2_ne (by decide : (20 : Nat) ≠ 21), hx 11 (by decide) (by decide), hx 10 (by decide) (by decide)]; exact hK
  · rw [xu_ne (by decide : (19 : Nat) ≠ 3), xu_ne (by decide : (19 : Nat) ≠ 3), cpy2_ne (by decide : (19 : Nat) ≠ 21)]
theorem e_quiet {n : Nat} {f : xM} {g : xN} {h : xM} {k : xN} (hn : n ≤ 100) (hR : Rel n f g h k) : ∃ (F : Nat) (a : Int32 × xM) (b : Int32 × xM), pX11_quiet f = some a ∧ pX12_quiet F h = some b ∧ a.1 = b.1 ∧ Rel (n + 1) a.2 g b.2 k := by
  obtain ⟨w, c, r, t, hW⟩ := Rel_W hR
  obtain ⟨f', h', n1, n2, hW', ef, eh⟩ := note_Rel (F := 140) hn (by omega) hW
  have hp : pgR w c r (f' 19) (h' 7) := by obtain ⟨a, A, b0, b1, -, -, -, hp, -⟩ := hW'; exact hp
  refine ⟨140, _, _, by rw [pX11_quiet, n1]; rfl, by rw [pX12_quiet, n2]; rfl, ?_, ?_⟩
  · show xu f' 19 1 (f' 19 1 + 1) 19 1 = xu h' 7 1 (h' 7 1 + 1) 7 1
    rw [xu_same, xu_same, hp.2.1]
  · refine (RelW_page hW' (fun x hx => xu_ne hx) (fun x hx => xu_ne hx) ?_).rel
    obtain ⟨⟨s, h1, h2, h3⟩, h4, h5, h6⟩ := hp
    refine ⟨⟨s, h1, ?_, ?_⟩, ?_, fun i hi => ?_, fun i hi => ?_⟩
    · show xu f' 19 1 _ 19 0 = _; rw [xu_neK (by decide)]; exact h2
    · show xu h' 7 1 _ 7 0 = _; rw [xu_neK (by decide)]; exact h3
    · show xu f' 19 1 _ 19 1 = xu h' 7 1 _ 7 1; rw [xu_same, xu_same, h4]
    · obtain ⟨q, q1, q2, q3⟩ := h5 i hi
      exact ⟨q, q1, by show xu f' 19 1 _ 19 (2 + i) = _; rw [xu_neK (by omega)]; exact q2, by show xu h' 7 1 _ 7 (2 + i) = _; rw [xu_neK (by omega)]; exact q3⟩
    · obtain ⟨q, q1, q2, q3⟩ := h6 i hi
      exact ⟨q, q1, by show xu f' 19 1 _ 19 (5 + i) = _; rw [xu_neK (by omega)]; exact q2, by show xu h' 7 1 _ 7 (5 + i) = _; rw [xu_neK (by omega)]; exact q3⟩
