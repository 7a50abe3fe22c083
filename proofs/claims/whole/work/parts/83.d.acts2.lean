theorem RelW_pg {w c r t n : Nat} {f : xM} {g : xN} {h : xM} {k : xN} (hW : RelW w c r t n f g h k) : pgR w c r (f 19) (h 7) := by obtain ⟨a, A, b0, b1, -, -, -, hp, -⟩ := hW; exact hp
theorem RelW_P {w c r t n : Nat} {f : xM} {g : xN} {h : xM} {k : xN} (hW : RelW w c r t n f g h k) : rP w c r t f h := by obtain ⟨a, A, b0, b1, -, hp, -⟩ := hW; exact hp
theorem RelW_D {w c r t n : Nat} {f : xM} {g : xN} {h : xM} {k : xN} (hW : RelW w c r t n f g h k) : rD r f h := by obtain ⟨a, A, b0, b1, -, -, hp, -⟩ := hW; exact hp
theorem RelW_g {w c r t n : Nat} {f : xM} {g : xN} {h : xM} {k : xN} (hW : RelW w c r t n f g h k) : g 0 10 = k 0 24 := by obtain ⟨a, A, b0, b1, -, -, -, -, -, -, hp⟩ := hW; exact hp
theorem setBelief_eq {f : xM} {j : Nat} {v : Int32} (hj : j < 4) : pX9_setBelief (nI j) v f = some (xu f 19 (5 + j) v) := by
  unfold pX9_setBelief
  rw [if_neg (nI_pos (by omega)), if_neg (show ¬ (4 : Int32) ≤ nI j from nI_ge (b := 4) hj (by omega)), ad5, if_pos (xin_of (by omega) (by omega)), nI_clamp (by omega)]
theorem setKind_eq {f : xM} {j : Nat} {v : Int32} (hj : j < 3) : pX9_setKind (nI j) v f = some (xu f 19 (2 + j) v) := by
  unfold pX9_setKind
  rw [if_neg (nI_pos (by omega)), if_neg (show ¬ (3 : Int32) ≤ nI j from nI_ge (b := 3) hj (by omega)), ad2, if_pos (xin_of (by omega) (by omega)), nI_clamp (by omega)]
/-- one belief, one kind, SAID or the day of a page anew -/
theorem pgR_belief {w c r j q : Nat} {u v : Nat → Int32} (hc : c ≤ 3) (h : pgR w c r u v) (hq : q < 4 ^ w) : pgR w c r (upd u (5 + j) (nI q)) (upd v (5 + j) (nI q)) := by
  obtain ⟨⟨s, h1, h2, h3⟩, h4, h5, h6⟩ := h
  refine ⟨⟨s, h1, by rw [pk_un (by omega)]; exact h2, by rw [pk_un (by omega)]; exact h3⟩, by rw [pk_un (by omega), pk_un (by omega)]; exact h4, fun i hi => ?_, fun i hi => ?_⟩
  · obtain ⟨z, q1, q2, q3⟩ := h5 i hi
    exact ⟨z, q1, by rw [pk_un (by omega)]; exact q2, by rw [pk_un (by omega)]; exact q3⟩
  · by_cases hij : i = j
    · subst hij
      exact ⟨q, hq, pk_us, pk_us⟩
    · obtain ⟨z, q1, q2, q3⟩ := h6 i hi
      exact ⟨z, q1, by rw [pk_un (by omega)]; exact q2, by rw [pk_un (by omega)]; exact q3⟩
theorem pgR_kind {w c r j q : Nat} {u v : Nat → Int32} (hc : c ≤ 3) (hj : j < c) (h : pgR w c r u v) (hq : q < 4) : pgR w c r (upd u (2 + j) (nI q)) (upd v (2 + j) (nI q)) := by
  obtain ⟨⟨s, h1, h2, h3⟩, h4, h5, h6⟩ := h
  refine ⟨⟨s, h1, by rw [pk_un (by omega)]; exact h2, by rw [pk_un (by omega)]; exact h3⟩, by rw [pk_un (by omega), pk_un (by omega)]; exact h4, fun i hi => ?_, fun i hi => ?_⟩
  · by_cases hij : i = j
    · subst hij
      exact ⟨q, hq, pk_us, pk_us⟩
    · obtain ⟨z, q1, q2, q3⟩ := h5 i hi
      exact ⟨z, q1, by rw [pk_un (by omega)]; exact q2, by rw [pk_un (by omega)]; exact q3⟩
  · obtain ⟨z, q1, q2, q3⟩ := h6 i hi
    exact ⟨z, q1, by rw [pk_un (by omega)]; exact q2, by rw [pk_un (by omega)]; exact q3⟩
theorem pgR_said {w c r q : Nat} {u v : Nat → Int32} (h : pgR w c r u v) (hq : q < 4 ^ w) : pgR w c r (upd u 0 (nI q)) (upd v 0 (nI q)) := by
  obtain ⟨⟨s, h1, h2, h3⟩, h4, h5, h6⟩ := h
  refine ⟨⟨q, hq, pk_us, pk_us⟩, by rw [pk_un (by omega), pk_un (by omega)]; exact h4, fun i hi => ?_, fun i hi => ?_⟩
  · obtain ⟨z, q1, q2, q3⟩ := h5 i hi
    exact ⟨z, q1, by rw [pk_un (by omega)]; exact q2, by rw [pk_un (by omega)]; exact q3⟩
  · obtain ⟨z, q1, q2, q3⟩ := h6 i hi
    exact ⟨z, q1, by rw [pk_un (by omega)]; exact q2, by rw [pk_un (by omega)]; exact q3⟩
theorem pgR_day {w c r : Nat} {d : Int32} {u v : Nat → Int32} (h : pgR w c r u v) : pgR w c r (upd u 1 d) (upd v 1 d) := by
  obtain ⟨⟨s, h1, h2, h3⟩, h4, h5, h6⟩ := h
  refine ⟨⟨s, h1, by rw [pk_un (by omega)]; exact h2, by rw [pk_un (by omega)]; exact h3⟩, by rw [pk_us, pk_us], fun i hi => ?_, fun i hi => ?_⟩
  · obtain ⟨z, q1, q2, q3⟩ := h5 i hi
    exact ⟨z, q1, by rw [pk_un (by omega)]; exact q2, by rw [pk_un (by omega)]; exact q3⟩
  · obtain ⟨z, q1, q2, q3⟩ := h6 i hi
    exact ⟨z, q1, by rw [pk_un (by omega)]; exact q2, by rw [pk_un (by omega)]; exact q3⟩
theorem e_tell {n : Nat} {f : xM} {g : xN} {h : xM} {k : xN} (hn : n ≤ 100) (hR : Rel n f g h k) (v1 : Int32) (v2 : Int32) : ∃ (F : Nat) (a : Int32 × xM) (b : Int32 × xM), pX11_tell F v1 v2 f = some a ∧ pX12_tell F v1 v2 h = some b ∧ a.1 = b.1 ∧ Rel (n + 1) a.2 g b.2 k := by
  obtain ⟨w, c, r, t, hW⟩ := Rel_W hR
  obtain ⟨p1, p2, p3, p4, p5, p6, p7, p8, p9, p10, p11, p12, p13⟩ := RelW_P hW
  have hb := p4_le p2
  have hR2 : Rel (n + 1) f g (xu h 0 0 0) k := Rel_ok hR (by omega) okC.r0 (okM_t 0) (RelW_g hW)
  obtain ⟨f', h', n1, n2, hW', ef, eh⟩ := note_Rel (F := 140) hn (by omega) hW
  obtain ⟨-, -, -, -, -, p6', p7', -⟩ := RelW_P hW'
  obtain ⟨hp1, hp2, hp3, hp4⟩ := RelW_pg hW
  have hp' := RelW_pg hW'
  generalize hh : xu h 0 0 (0 : Int32) = h2 at hR2 n2
  have e7 : h2 0 7 = nI r := by rw [← hh, xu_neK (by decide)]; exact p13
  have m7 : h2 7 = h 7 := by rw [← hh]; exact xu_ne (by decide)
  refine ⟨140, ?_⟩
  unfold pX11_tell pX12_tell
  simp only [hh]
  by_cases u1 : isN v1 r
  · rw [if_neg (fun z => (hasR p4 p12).mp z u1), if_pos ((noR p4 e7).mpr u1)]
    by_cases u2 : isN v2 r
    · rw [if_neg (fun z => (hasR p4 p12).mp z u2), if_pos ((noR p4 e7).mpr u2)]
      obtain ⟨i, hi, rfl⟩ := u1
      obtain ⟨j, hj, rfl⟩ := u2
      by_cases hij : i = j
      · subst hij
        rw [if_pos rfl, if_pos rfl]
        exact ⟨_, _, rfl, rfl, rfl, hR2⟩
      · have hne : ¬ nI i = nI j := fun q => hij (nI_inj (by omega) (by omega) q)
        obtain ⟨qi, qi1, qi2, qi3⟩ := hp4 i hi
        obtain ⟨qj, qj1, qj2, qj3⟩ := hp4 j hj
        have x1 : xin (nI (5 + i)) 9 := xin_of (by omega) (by omega)
        have x2 : xin (nI (5 + j)) 9 := xin_of (by omega) (by omega)
        have y1 : (nI (5 + i)).toNatClampNeg = 5 + i := nI_clamp (by omega)
        have y2 : (nI (5 + j)).toNatClampNeg = 5 + j := nI_clamp (by omega)
        simp only [if_neg hne, beliefOf_eq (f := f) (show i < 4 by omega), beliefOf_eq (f := f) (show j < 4 by omega), Option.bind_some, ad5, if_pos x1, if_pos x2, y1, y2, m7, qi2, qj2, qi3, qj3]
        by_cases hq : nI qi = nI qj
        · rw [if_pos hq, if_pos hq]
          exact ⟨_, _, rfl, rfl, rfl, hR2⟩
        · rw [if_neg hq, if_neg hq, n1, n2]
          simp only [Option.bind_some, setBelief_eq (f := f') (show i < 4 by omega)]
          have z1 : h' 7 (5 + j) = nI qj := by rw [eh]; exact qj3
          simp only [z1, xu_same]
          obtain ⟨tr, ht1, ht2⟩ := told_eq (F := 140) (f := xu f' 19 (5 + i) (nI qj)) (h := xu h' 7 (5 + i) (nI qj)) (w := w) (s := qj) (by omega) p2 (by rw [xu_ne (by decide)]; exact p7') (by rw [xu_ne (by decide)]; exact p6') (by omega)
          rw [ht1, ht2]
          refine ⟨_, _, rfl, rfl, rfl, (RelW_page hW' (fun x hx => xu_ne hx) (fun x hx => xu_ne hx) ?_).rel⟩
          show pgR w c r (xu f' 19 (5 + i) (nI qj) 19) (xu h' 7 (5 + i) (nI qj) 7)
          rw [xu_row, xu_row]
          exact pgR_belief p3 hp' qj1
    · rw [if_pos ((hasR p4 p12).mpr u2), if_neg (fun z => u2 ((noR p4 e7).mp z))]
      exact ⟨_, _, rfl, rfl, rfl, hR2⟩
  · rw [if_pos ((hasR p4 p12).mpr u1), if_neg (fun z => u1 ((noR p4 e7).mp z))]
    exact ⟨_, _, rfl, rfl, rfl, hR2⟩
theorem e_learn {n : Nat} {f : xM} {g : xN} {h : xM} {k : xN} (hn : n ≤ 100) (hR : Rel n f g h k) (v1 : Int32) (v2 : Int32) : ∃ (F : Nat) (a : Int32 × xM) (b : Int32 × xM), pX11_learn v1 v2 f = some a ∧ pX12_learn F v1 v2 h = some b ∧ a.1 = b.1 ∧ Rel (n + 1) a.2 g b.2 k := by
  obtain ⟨w, c, r, t, hW⟩ := Rel_W hR
  obtain ⟨p1, p2, p3, p4, p5, p6, p7, p8, p9, p10, p11, p12, p13⟩ := RelW_P hW
  have hR2 : Rel (n + 1) f g (xu h 0 0 0) k := Rel_ok hR (by omega) okC.r0 (okM_t 0) (RelW_g hW)
  obtain ⟨f', h', n1, n2, hW', ef, eh⟩ := note_Rel (F := 140) hn (by omega) hW
  obtain ⟨hp1, hp2, hp3, hp4⟩ := RelW_pg hW
  have hp' := RelW_pg hW'
  generalize hh : xu h 0 0 (0 : Int32) = h2 at hR2 n2
  have e6 : h2 0 6 = nI c := by rw [← hh, xu_neK (by decide)]; exact p11
  have m7 : h2 7 = h 7 := by rw [← hh]; exact xu_ne (by decide)
  refine ⟨140, ?_⟩
  unfold pX11_learn pX12_learn
  simp only [hh]
  by_cases u1 : isN v1 c
  · rw [if_neg (fun z => (hasC p3 p10).mp z u1), if_pos ((noC p3 e6).mpr u1)]
    obtain ⟨i, hi, rfl⟩ := u1
    obtain ⟨qi, qi1, qi2, qi3⟩ := hp3 i hi
    have x1 : xin (nI (2 + i)) 9 := xin_of (by omega) (by omega)
    have y1 : (nI (2 + i)).toNatClampNeg = 2 + i := nI_clamp (by omega)
    by_cases u2 : isN v2 4
    · obtain ⟨z1, z2⟩ := (isN_iff (by omega)).mp u2
      have z3 : v2 < (4 : Int32) := z2
      have z4 : ¬ pX12_in v2.toInt64 0 3 = 0 := by rw [in0_eq (m := 3) (by omega) rfl]; exact nn u2
      obtain ⟨j, hj, rfl⟩ := u2
      simp only [if_neg z1, if_pos z3, if_neg z4, kindOf_eq (f := f) (show i < 3 by omega), Option.bind_some, ad2, if_pos x1, y1, m7, qi2, qi3]
      by_cases hq : nI qi = nI j
      · rw [if_pos hq, if_pos hq]
        exact ⟨_, _, rfl, rfl, rfl, hR2⟩
      · rw [if_neg hq, if_neg hq, n1, n2]
        simp only [Option.bind_some, setKind_eq (f := f') (show i < 3 by omega)]
        refine ⟨_, _, rfl, rfl, rfl, (RelW_page hW' (fun x hx => xu_ne hx) (fun x hx => xu_ne hx) ?_).rel⟩
        show pgR w c r (xu f' 19 (2 + i) (nI j) 19) (xu h' 7 (2 + i) (nI j) 7)
        rw [xu_row, xu_row]
        exact pgR_kind p3 hi hp' hj
    · have z4 : pX12_in v2.toInt64 0 3 = 0 := by rw [in0_eq (m := 3) (by omega) rfl]; exact u2
      rw [if_pos z4]
      refine ⟨(-2, f), (-2, h2), ?_, rfl, rfl, hR2⟩
      by_cases z1 : v2 < 0
      · rw [if_pos z1]
      · rw [if_neg z1, if_neg]
        intro z3
        exact u2 ((isN_iff (by omega)).mpr ⟨z1, z3⟩)
  · rw [if_pos ((hasC p3 p10).mpr u1), if_neg (fun z => u1 ((noC p3 e6).mp z))]
    exact ⟨_, _, rfl, rfl, rfl, hR2⟩
