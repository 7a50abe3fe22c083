def pX9_nextDay (f : xM) : xM := (xu f 19 1 ((f 19 1) + (1 : Int32)))
set_option maxRecDepth 100000 in
set_option maxHeartbeats 4000000 in
theorem tX9_nextDay {g : xN} {f : xM} {r : xM} (h : pX9_nextDay f = r) : XT mX9_nextDay 0 [.ref 11] f g (none, r, g) := by
  unfold pX9_nextDay at h
  refine XT.of (L := [some (.ref 11)]) [some (.ref 11)] rfl (Nat.le_of_ble_eq_true rfl) rfl (xle_c xle_e) ?_
  refine X.aload_n (i := 0) dX9_nextDay_0 rfl rfl ?_
  refine X.getR (k0 := 0) kX9 sC_11 (Nat.le_of_ble_eq_true rfl) rfl lfX9_11 dX9_nextDay_1 ?_
  refine X.iconst (v := (1 : Int32)) dX9_nextDay_4 (by decide) ?_
  refine X.dup2 dX9_nextDay_5 rfl rfl ?_
  refine X.ialdK (m := 1) sC_19 (by decide) (by decide) dX9_nextDay_6 ?_
  refine X.iconst (v := (1 : Int32)) dX9_nextDay_7 (by decide) ?_
  refine X.iadd dX9_nextDay_8 ?_
  refine X.iastK (m := 1) sC_19 (by decide) (by decide) dX9_nextDay_9 ?_
  subst h
  exact X.vret dX9_nextDay_10 rfl rfl
def pX6_printNotice_b24 (F : Nat) : Nat → Int32 → Int32 → Int32 → Int32 → xM → Option (xM)
  | 0, _, _, _, _, _ => none
  | n + 1, v1, v2, v3, v4, f => (if (f 2 5) ≤ v4 then some ((pX9_nextDay f)) else (Option.bind (pX6_readsOn f v4 (pX9_day f)) fun q3 => (if q3 = 0 then (pX6_printNotice_b24 F n v1 v2 v3 (v4 + (1 : Int32)) f) else (Option.bind (pX9_beliefOf f v4) fun q5 => (Option.bind (pX6_noticed f v1 q5 v2 v3) fun q6 => (Option.bind (pX9_setBelief v4 q6 f) fun q7 => (pX6_printNotice_b24 F n v1 v2 v3 (v4 + (1 : Int32)) q7)))))))
set_option maxRecDepth 100000 in
set_option maxHeartbeats 4000000 in
theorem tX6_printNotice_b24 {F : Nat} {g : xN} : ∀ (n : Nat) {v1 : Int32} {v2 : Int32} {v3 : Int32} {v4 : Int32} {f : xM} {r : xM}, pX6_printNotice_b24 F n v1 v2 v3 v4 f = some r → X mX6_printNotice 3 (none, r, g) 24 [some (.ref 2), some (.int v1), some (.int v2), some (.int v3), some (.int v4)] [] f g := by
  intro n
  induction n with
  | zero => intro v1 v2 v3 v4 f r h; cases h
  | succ n ih =>
    intro v1 v2 v3 v4 f r h
    rw [pX6_printNotice_b24] at h
    refine X.iload (i := 4) dX6_printNotice_24 rfl ?_
    refine X.aload_n (i := 0) dX6_printNotice_26 rfl rfl ?_
    refine X.getI (k0 := 5) kX6 sC_2 (Nat.le_of_ble_eq_true rfl) rfl lfX6_36 dX6_printNotice_27 ?_
    refine X.icmp_ge (tgt := 80) dX6_printNotice_30 (by decide) (fun c2 => ?_) (fun c2 => ?_)
    · rw [if_pos c2] at h
      refine X.aload_n (i := 0) dX6_printNotice_80 rfl rfl ?_
      refine X.getR (k0 := 1) kX6 sC_2 (Nat.le_of_ble_eq_true rfl) rfl lfX6_21 dX6_printNotice_81 ?_
      refine X.callVN (μ' := mX9_nextDay) (As := []) (st := []) (st1 := []) (r := none) (f' := (pX9_nextDay f)) (g' := g) (tX9_nextDay rfl) (Nat.le_of_ble_eq_true rfl) cwX9_nextDay rfl mnX6_114 sC_11 kX9 rfl rfl rfl (Nat.le_of_ble_eq_true rfl) dX6_printNotice_84 ?_
      obtain rfl := Option.some.inj h
      exact X.vret dX6_printNotice_87 rfl rfl
    · rw [if_neg c2] at h
      refine X.aload_n (i := 0) dX6_printNotice_33 rfl rfl ?_
      refine X.iload (i := 4) dX6_printNotice_34 rfl ?_
      refine X.aload_n (i := 0) dX6_printNotice_36 rfl rfl ?_
      refine X.getR (k0 := 1) kX6 sC_2 (Nat.le_of_ble_eq_true rfl) rfl lfX6_21 dX6_printNotice_37 ?_
      refine X.callVN (μ' := mX9_day) (As := []) (st := [.int v4, .ref 2]) (st1 := [.int (pX9_day f), .int v4, .ref 2]) (r := some (.int (pX9_day f))) (f' := f) (g' := g) (tX9_day rfl) (Nat.le_of_ble_eq_true rfl) cwX9_day rfl mnX6_93 sC_11 kX9 rfl rfl rfl (Nat.le_of_ble_eq_true rfl) dX6_printNotice_40 ?_
      obtain ⟨q3, e3, h⟩ := xbind h
      try dsimp only at h
      refine X.callV (μ' := mX6_readsOn) (As := [.int v4, .int (pX9_day f)]) (st := []) (st1 := [.int q3]) (r := some (.int q3)) (f' := f) (g' := g) (tX6_readsOn e3) (Nat.le_of_ble_eq_true rfl) cwX6_readsOn rfl mlX6_97 sC_2 kX6 rfl rfl rfl (Nat.le_of_ble_eq_true rfl) dX6_printNotice_43 ?_
      refine X.if_eq (tgt := 74) dX6_printNotice_46 (by decide) (fun c4 => ?_) (fun c4 => ?_)
      · rw [if_pos c4] at h
        refine X.iinc (i := 4) (v := (v4 + (1 : Int32))) (L' := [some (.ref 2), some (.int v1), some (.int v2), some (.int v3), some (.int (v4 + (1 : Int32)))]) dX6_printNotice_74 rfl rfl (Nat.le_of_ble_eq_true rfl) rfl ?_
        refine X.goto (tgt := 24) dX6_printNotice_77 (by decide) ?_
        exact X.weaken (xle_c (xle_c (xle_c (xle_c (xle_c xle_e))))) (ih h)
      · rw [if_neg c4] at h
        refine X.aload_n (i := 0) dX6_printNotice_49 rfl rfl ?_
        refine X.getR (k0 := 1) kX6 sC_2 (Nat.le_of_ble_eq_true rfl) rfl lfX6_21 dX6_printNotice_50 ?_
        refine X.iload (i := 4) dX6_printNotice_53 rfl ?_
        refine X.aload_n (i := 0) dX6_printNotice_55 rfl rfl ?_
        refine X.iload_n (i := 1) dX6_printNotice_56 rfl rfl ?_
        refine X.aload_n (i := 0) dX6_printNotice_57 rfl rfl ?_
        refine X.getR (k0 := 1) kX6 sC_2 (Nat.le_of_ble_eq_true rfl) rfl lfX6_21 dX6_printNotice_58 ?_
        refine X.iload (i := 4) dX6_printNotice_61 rfl ?_
        obtain ⟨q5, e5, h⟩ := xbind h
        try dsimp only at h
        refine X.callVN (μ' := mX9_beliefOf) (As := [.int v4]) (st := [.int v1, .ref 2, .int v4, .ref 11]) (st1 := [.int q5, .int v1, .ref 2, .int v4, .ref 11]) (r := some (.int q5)) (f' := f) (g' := g) (tX9_beliefOf e5) (Nat.le_of_ble_eq_true rfl) cwX9_beliefOf rfl mnX6_101 sC_11 kX9 rfl rfl rfl (Nat.le_of_ble_eq_true rfl) dX6_printNotice_63 ?_
        refine X.iload_n (i := 2) dX6_printNotice_66 rfl rfl ?_
        refine X.iload_n (i := 3) dX6_printNotice_67 rfl rfl ?_
        obtain ⟨q6, e6, h⟩ := xbind h
        try dsimp only at h
        refine X.callV (μ' := mX6_noticed) (As := [.int v1, .int q5, .int v2, .int v3]) (st := [.int v4, .ref 11]) (st1 := [.int q6, .int v4, .ref 11]) (r := some (.int q6)) (f' := f) (g' := g) (tX6_noticed e6) (Nat.le_of_ble_eq_true rfl) cwX6_noticed rfl mlX6_113 sC_2 kX6 rfl rfl rfl (Nat.le_of_ble_eq_true rfl) dX6_printNotice_68 ?_
        obtain ⟨q7, e7, h⟩ := xbind h
        try dsimp only at h
        refine X.callVN (μ' := mX9_setBelief) (As := [.int v4, .int q6]) (st := []) (st1 := []) (r := none) (f' := q7) (g' := g) (tX9_setBelief e7) (Nat.le_of_ble_eq_true rfl) cwX9_setBelief rfl mnX6_76 sC_11 kX9 rfl rfl rfl (Nat.le_of_ble_eq_true rfl) dX6_printNotice_71 ?_
        refine X.iinc (i := 4) (v := (v4 + (1 : Int32))) (L' := [some (.ref 2), some (.int v1), some (.int v2), some (.int v3), some (.int (v4 + (1 : Int32)))]) dX6_printNotice_74 rfl rfl (Nat.le_of_ble_eq_true rfl) rfl ?_
        refine X.goto (tgt := 24) dX6_printNotice_77 (by decide) ?_
        exact X.weaken (xle_c (xle_c (xle_c (xle_c (xle_c xle_e))))) (ih h)
def pX6_printNotice (F : Nat) (v1 : Int32) (v2 : Int32) (v3 : Int32) (f : xM) : Option (xM) := (Option.bind (pX6_noticed f v1 (pX9_said f) v2 v3) fun q1 => (pX6_printNotice_b24 F F v1 v2 v3 (0 : Int32) (pX9_setSaid q1 f)))
set_option maxRecDepth 100000 in
set_option maxHeartbeats 4000000 in
theorem tX6_printNotice {F : Nat} {g : xN} {v1 : Int32} {v2 : Int32} {v3 : Int32} {f : xM} {r : xM} (h : pX6_printNotice F v1 v2 v3 f = some r) : XT mX6_printNotice 3 [.ref 2, .int v1, .int v2, .int v3] f g (none, r, g) := by
  unfold pX6_printNotice at h
  refine XT.of (L := [some (.ref 2), some (.int v1), some (.int v2), some (.int v3), none]) [some (.ref 2), some (.int v1), some (.int v2), some (.int v3)] rfl (Nat.le_of_ble_eq_true rfl) rfl (xle_c (xle_c (xle_c (xle_c (xle_z xle_e))))) ?_
  refine X.aload_n (i := 0) dX6_printNotice_0 rfl rfl ?_
  refine X.getR (k0 := 1) kX6 sC_2 (Nat.le_of_ble_eq_true rfl) rfl lfX6_21 dX6_printNotice_1 ?_
  refine X.aload_n (i := 0) dX6_printNotice_4 rfl rfl ?_
  refine X.iload_n (i := 1) dX6_printNotice_5 rfl rfl ?_
  refine X.aload_n (i := 0) dX6_printNotice_6 rfl rfl ?_
  refine X.getR (k0 := 1) kX6 sC_2 (Nat.le_of_ble_eq_true rfl) rfl lfX6_21 dX6_printNotice_7 ?_
  refine X.callVN (μ' := mX9_said) (As := []) (st := [.int v1, .ref 2, .ref 11]) (st1 := [.int (pX9_said f), .int v1, .ref 2, .ref 11]) (r := some (.int (pX9_said f))) (f' := f) (g' := g) (tX9_said rfl) (Nat.le_of_ble_eq_true rfl) cwX9_said rfl mnX6_111 sC_11 kX9 rfl rfl rfl (Nat.le_of_ble_eq_true rfl) dX6_printNotice_10 ?_
  refine X.iload_n (i := 2) dX6_printNotice_13 rfl rfl ?_
  refine X.iload_n (i := 3) dX6_printNotice_14 rfl rfl ?_
  obtain ⟨q1, e1, h⟩ := xbind h
  try dsimp only at h
  refine X.callV (μ' := mX6_noticed) (As := [.int v1, .int (pX9_said f), .int v2, .int v3]) (st := [.ref 11]) (st1 := [.int q1, .ref 11]) (r := some (.int q1)) (f' := f) (g' := g) (tX6_noticed e1) (Nat.le_of_ble_eq_true rfl) cwX6_noticed rfl mlX6_113 sC_2 kX6 rfl rfl rfl (Nat.le_of_ble_eq_true rfl) dX6_printNotice_15 ?_
  refine X.callVN (μ' := mX9_setSaid) (As := [.int q1]) (st := []) (st1 := []) (r := none) (f' := (pX9_setSaid q1 f)) (g' := g) (tX9_setSaid rfl) (Nat.le_of_ble_eq_true rfl) cwX9_setSaid rfl mnX6_62 sC_11 kX9 rfl rfl rfl (Nat.le_of_ble_eq_true rfl) dX6_printNotice_18 ?_
  refine X.iconst (v := (0 : Int32)) dX6_printNotice_21 (by decide) ?_
  refine X.istore (i := 4) (L' := [some (.ref 2), some (.int v1), some (.int v2), some (.int v3), some (.int (0 : Int32))]) dX6_printNotice_22 (Nat.le_of_ble_eq_true rfl) rfl ?_
  exact X.weaken (xle_c (xle_c (xle_c (xle_c (xle_c xle_e))))) (tX6_printNotice_b24 F h)
def pX11_print (F : Nat) (v1 : Int32) (v2 : Int32) (v3 : Int32) (f : xM) : Option (Int32 × xM) := (if (pX6_hasCompositor f v1) = 0 then some (((-1 : Int32), f)) else (if (pX6_isNoticeFor f v2 v3) = 0 then some (((-2 : Int32), f)) else (Option.bind (pX3_note f) fun q3 => (Option.bind (pX6_printNotice F v1 v2 v3 q3) fun q4 => (Option.bind (pX8_told F q4 (pX9_said q4)) fun q5 => some ((q5, q4)))))))
set_option maxRecDepth 100000 in
set_option maxHeartbeats 4000000 in
theorem tX11_print {F : Nat} {g : xN} {v1 : Int32} {v2 : Int32} {v3 : Int32} {f : xM} {r : Int32 × xM} (h : pX11_print F v1 v2 v3 f = some r) : XT mX11_print 4 [.ref 0, .int v1, .int v2, .int v3] f g (some (.int r.1), r.2, g) := by
  unfold pX11_print at h
  refine XT.of (L := [some (.ref 0), some (.int v1), some (.int v2), some (.int v3)]) [some (.ref 0), some (.int v1), some (.int v2), some (.int v3)] rfl (Nat.le_of_ble_eq_true rfl) rfl (xle_c (xle_c (xle_c (xle_c xle_e)))) ?_
  refine X.aload_n (i := 0) dX11_print_0 rfl rfl ?_
  refine X.getR (k0 := 1) kX11 sC_0 (Nat.le_of_ble_eq_true rfl) rfl lfX11_19 dX11_print_1 ?_
  refine X.iload_n (i := 1) dX11_print_4 rfl rfl ?_
  refine X.callVN (μ' := mX6_hasCompositor) (As := [.int v1]) (st := []) (st1 := [.int (pX6_hasCompositor f v1)]) (r := some (.int (pX6_hasCompositor f v1))) (f' := f) (g' := g) (tX6_hasCompositor rfl) (Nat.le_of_ble_eq_true rfl) cwX6_hasCompositor rfl mnX11_146 sC_2 kX6 rfl rfl rfl (Nat.le_of_ble_eq_true rfl) dX11_print_5 ?_
  refine X.if_ne (tgt := 13) dX11_print_8 (by decide) (fun c1 => ?_) (fun c1 => ?_)
  · rw [if_neg c1] at h
    refine X.aload_n (i := 0) dX11_print_13 rfl rfl ?_
    refine X.getR (k0 := 1) kX11 sC_0 (Nat.le_of_ble_eq_true rfl) rfl lfX11_19 dX11_print_14 ?_
    refine X.iload_n (i := 2) dX11_print_17 rfl rfl ?_
    refine X.iload_n (i := 3) dX11_print_18 rfl rfl ?_
    refine X.callVN (μ' := mX6_isNoticeFor) (As := [.int v2, .int v3]) (st := []) (st1 := [.int (pX6_isNoticeFor f v2 v3)]) (r := some (.int (pX6_isNoticeFor f v2 v3))) (f' := f) (g' := g) (tX6_isNoticeFor rfl) (Nat.le_of_ble_eq_true rfl) cwX6_isNoticeFor rfl mnX11_164 sC_2 kX6 rfl rfl rfl (Nat.le_of_ble_eq_true rfl) dX11_print_19 ?_
    refine X.if_ne (tgt := 28) dX11_print_22 (by decide) (fun c2 => ?_) (fun c2 => ?_)
    · rw [if_neg c2] at h
      refine X.aload_n (i := 0) dX11_print_28 rfl rfl ?_
      refine X.getR (k0 := 2) kX11 sC_0 (Nat.le_of_ble_eq_true rfl) rfl lfX11_26 dX11_print_29 ?_
      refine X.aload_n (i := 0) dX11_print_32 rfl rfl ?_
      refine X.getR (k0 := 1) kX11 sC_0 (Nat.le_of_ble_eq_true rfl) rfl lfX11_19 dX11_print_33 ?_
      refine X.getRN (k0 := 1) kX6 sC_2 (Nat.le_of_ble_eq_true rfl) rfl lnX11_106 dX11_print_36 ?_
      obtain ⟨q3, e3, h⟩ := xbind h
      try dsimp only at h
      refine X.callVN (μ' := mX3_note) (As := [.ref 11]) (st := []) (st1 := []) (r := none) (f' := q3) (g' := g) (tX3_note e3) (Nat.le_of_ble_eq_true rfl) cwX3_note rfl mnX11_168 sC_3 kX3 rfl rfl rfl (Nat.le_of_ble_eq_true rfl) dX11_print_39 ?_
      refine X.aload_n (i := 0) dX11_print_42 rfl rfl ?_
      refine X.getR (k0 := 1) kX11 sC_0 (Nat.le_of_ble_eq_true rfl) rfl lfX11_19 dX11_print_43 ?_
      refine X.iload_n (i := 1) dX11_print_46 rfl rfl ?_
      refine X.iload_n (i := 2) dX11_print_47 rfl rfl ?_
      refine X.iload_n (i := 3) dX11_print_48 rfl rfl ?_
      obtain ⟨q4, e4, h⟩ := xbind h
      try dsimp only at h
      refine X.callVN (μ' := mX6_printNotice) (As := [.int v1, .int v2, .int v3]) (st := []) (st1 := []) (r := none) (f' := q4) (g' := g) (tX6_printNotice e4) (Nat.le_of_ble_eq_true rfl) cwX6_printNotice rfl mnX11_172 sC_2 kX6 rfl rfl rfl (Nat.le_of_ble_eq_true rfl) dX11_print_49 ?_
      refine X.aload_n (i := 0) dX11_print_52 rfl rfl ?_
      refine X.getR (k0 := 1) kX11 sC_0 (Nat.le_of_ble_eq_true rfl) rfl lfX11_19 dX11_print_53 ?_
      refine X.getRN (k0 := 0) kX6 sC_2 (Nat.le_of_ble_eq_true rfl) rfl lnX11_110 dX11_print_56 ?_
      refine X.aload_n (i := 0) dX11_print_59 rfl rfl ?_
      refine X.getR (k0 := 1) kX11 sC_0 (Nat.le_of_ble_eq_true rfl) rfl lfX11_19 dX11_print_60 ?_
      refine X.getRN (k0 := 1) kX6 sC_2 (Nat.le_of_ble_eq_true rfl) rfl lnX11_106 dX11_print_63 ?_
      refine X.callVN (μ' := mX9_said) (As := []) (st := [.ref 10]) (st1 := [.int (pX9_said q4), .ref 10]) (r := some (.int (pX9_said q4))) (f' := q4) (g' := g) (tX9_said rfl) (Nat.le_of_ble_eq_true rfl) cwX9_said rfl mnX11_126 sC_11 kX9 rfl rfl rfl (Nat.le_of_ble_eq_true rfl) dX11_print_66 ?_
      obtain ⟨q5, e5, h⟩ := xbind h
      try dsimp only at h
      refine X.callVN (μ' := mX8_told) (As := [.int (pX9_said q4)]) (st := []) (st1 := [.int q5]) (r := some (.int q5)) (f' := q4) (g' := g) (tX8_told e5) (Nat.le_of_ble_eq_true rfl) cwX8_told rfl mnX11_122 sC_10 kX8 rfl rfl rfl (Nat.le_of_ble_eq_true rfl) dX11_print_69 ?_
      obtain rfl := Option.some.inj h
      exact X.iret dX11_print_72 rfl rfl
    · rw [if_pos c2] at h
      refine X.bipush (v := (-2 : Int32)) dX11_print_25 (by decide) ?_
      obtain rfl := Option.some.inj h
      exact X.iret dX11_print_27 rfl rfl
  · rw [if_pos c1] at h
    refine X.iconst (v := (-1 : Int32)) dX11_print_11 (by decide) ?_
    obtain rfl := Option.some.inj h
    exact X.iret dX11_print_12 rfl rfl
def pX11_quiet (f : xM) : Option (Int32 × xM) := (Option.bind (pX3_note f) fun q1 => some (((pX9_day (pX9_nextDay q1)), (pX9_nextDay q1))))
set_option maxRecDepth 100000 in
set_option maxHeartbeats 4000000 in
theorem tX11_quiet {g : xN} {f : xM} {r : Int32 × xM} (h : pX11_quiet f = some r) : XT mX11_quiet 3 [.ref 0] f g (some (.int r.1), r.2, g) := by
  unfold pX11_quiet at h
  refine XT.of (L := [some (.ref 0)]) [some (.ref 0)] rfl (Nat.le_of_ble_eq_true rfl) rfl (xle_c xle_e) ?_
  refine X.aload_n (i := 0) dX11_quiet_0 rfl rfl ?_
  refine X.getR (k0 := 2) kX11 sC_0 (Nat.le_of_ble_eq_true rfl) rfl lfX11_26 dX11_quiet_1 ?_
  refine X.aload_n (i := 0) dX11_quiet_4 rfl rfl ?_
  refine X.getR (k0 := 1) kX11 sC_0 (Nat.le_of_ble_eq_true rfl) rfl lfX11_19 dX11_quiet_5 ?_
  refine X.getRN (k0 := 1) kX6 sC_2 (Nat.le_of_ble_eq_true rfl) rfl lnX11_106 dX11_quiet_8 ?_
  obtain ⟨q1, e1, h⟩ := xbind h
  try dsimp only at h
  refine X.callVN (μ' := mX3_note) (As := [.ref 11]) (st := []) (st1 := []) (r := none) (f' := q1) (g' := g) (tX3_note e1) (Nat.le_of_ble_eq_true rfl) cwX3_note rfl mnX11_168 sC_3 kX3 rfl rfl rfl (Nat.le_of_ble_eq_true rfl) dX11_quiet_11 ?_
  refine X.aload_n (i := 0) dX11_quiet_14 rfl rfl ?_
  refine X.getR (k0 := 1) kX11 sC_0 (Nat.le_of_ble_eq_true rfl) rfl lfX11_19 dX11_quiet_15 ?_
  refine X.getRN (k0 := 1) kX6 sC_2 (Nat.le_of_ble_eq_true rfl) rfl lnX11_106 dX11_quiet_18 ?_
  refine X.callVN (μ' := mX9_nextDay) (As := []) (st := []) (st1 := []) (r := none) (f' := (pX9_nextDay q1)) (g' := g) (tX9_nextDay rfl) (Nat.le_of_ble_eq_true rfl) cwX9_nextDay rfl mnX11_176 sC_11 kX9 rfl rfl rfl (Nat.le_of_ble_eq_true rfl) dX11_quiet_21 ?_
  refine X.aload_n (i := 0) dX11_quiet_24 rfl rfl ?_
  refine X.getR (k0 := 1) kX11 sC_0 (Nat.le_of_ble_eq_true rfl) rfl lfX11_19 dX11_quiet_25 ?_
  refine X.getRN (k0 := 1) kX6 sC_2 (Nat.le_of_ble_eq_true rfl) rfl lnX11_106 dX11_quiet_28 ?_
  refine X.callVN (μ' := mX9_day) (As := []) (st := []) (st1 := [.int (pX9_day (pX9_nextDay q1))]) (r := some (.int (pX9_day (pX9_nextDay q1)))) (f' := (pX9_nextDay q1)) (g' := g) (tX9_day rfl) (Nat.le_of_ble_eq_true rfl) cwX9_day rfl mnX11_134 sC_11 kX9 rfl rfl rfl (Nat.le_of_ble_eq_true rfl) dX11_quiet_31 ?_
  obtain rfl := Option.some.inj h
  exact X.iret dX11_quiet_34 rfl rfl
def pX11_tell (F : Nat) (v1 : Int32) (v2 : Int32) (f : xM) : Option (Int32 × xM) := (if (pX6_hasReader f v1) = 0 then some (((-1 : Int32), f)) else (if (pX6_hasReader f v2) = 0 then some (((-1 : Int32), f)) else (if v1 = v2 then some (((-2 : Int32), f)) else (Option.bind (pX9_beliefOf f v2) fun q4 => (Option.bind (pX9_beliefOf f v1) fun q5 => (if q5 = q4 then some (((-3 : Int32), f)) else (Option.bind (pX3_note f) fun q7 => (Option.bind (pX9_setBelief v1 q4 q7) fun q8 => (Option.bind (pX8_told F q8 q4) fun q9 => some ((q9, q8)))))))))))
set_option maxRecDepth 100000 in
set_option maxHeartbeats 4000000 in
theorem tX11_tell {F : Nat} {g : xN} {v1 : Int32} {v2 : Int32} {f : xM} {r : Int32 × xM} (h : pX11_tell F v1 v2 f = some r) : XT mX11_tell 3 [.ref 0, .int v1, .int v2] f g (some (.int r.1), r.2, g) := by
  unfold pX11_tell at h
  refine XT.of (L := [some (.ref 0), some (.int v1), some (.int v2), none]) [some (.ref 0), some (.int v1), some (.int v2)] rfl (Nat.le_of_ble_eq_true rfl) rfl (xle_c (xle_c (xle_c (xle_z xle_e)))) ?_
  refine X.aload_n (i := 0) dX11_tell_0 rfl rfl ?_
  refine X.getR (k0 := 1) kX11 sC_0 (Nat.le_of_ble_eq_true rfl) rfl lfX11_19 dX11_tell_1 ?_
  refine X.iload_n (i := 1) dX11_tell_4 rfl rfl ?_
  refine X.callVN (μ' := mX6_hasReader) (As := [.int v1]) (st := []) (st1 := [.int (pX6_hasReader f v1)]) (r := some (.int (pX6_hasReader f v1))) (f' := f) (g' := g) (tX6_hasReader rfl) (Nat.le_of_ble_eq_true rfl) cwX6_hasReader rfl mnX11_152 sC_2 kX6 rfl rfl rfl (Nat.le_of_ble_eq_true rfl) dX11_tell_5 ?_
  refine X.if_eq (tgt := 22) dX11_tell_8 (by decide) (fun c1 => ?_) (fun c1 => ?_)
  · rw [if_pos c1] at h
    refine X.iconst (v := (-1 : Int32)) dX11_tell_22 (by decide) ?_
    obtain rfl := Option.some.inj h
    exact X.iret dX11_tell_23 rfl rfl
  · rw [if_neg c1] at h
    refine X.aload_n (i := 0) dX11_tell_11 rfl rfl ?_
    refine X.getR (k0 := 1) kX11 sC_0 (Nat.le_of_ble_eq_true rfl) rfl lfX11_19 dX11_tell_12 ?_
    refine X.iload_n (i := 2) dX11_tell_15 rfl rfl ?_
    refine X.callVN (μ' := mX6_hasReader) (As := [.int v2]) (st := []) (st1 := [.int (pX6_hasReader f v2)]) (r := some (.int (pX6_hasReader f v2))) (f' := f) (g' := g) (tX6_hasReader rfl) (Nat.le_of_ble_eq_true rfl) cwX6_hasReader rfl mnX11_152 sC_2 kX6 rfl rfl rfl (Nat.le_of_ble_eq_true rfl) dX11_tell_16 ?_
    refine X.if_ne (tgt := 24) dX11_tell_19 (by decide) (fun c2 => ?_) (fun c2 => ?_)
    · rw [if_neg c2] at h
      refine X.iload_n (i := 1) dX11_tell_24 rfl rfl ?_
      refine X.iload_n (i := 2) dX11_tell_25 rfl rfl ?_
      refine X.icmp_ne (tgt := 32) dX11_tell_26 (by decide) (fun c3 => ?_) (fun c3 => ?_)
      · rw [if_neg c3] at h
        refine X.aload_n (i := 0) dX11_tell_32 rfl rfl ?_
        refine X.getR (k0 := 1) kX11 sC_0 (Nat.le_of_ble_eq_true rfl) rfl lfX11_19 dX11_tell_33 ?_
        refine X.getRN (k0 := 1) kX6 sC_2 (Nat.le_of_ble_eq_true rfl) rfl lnX11_106 dX11_tell_36 ?_
        refine X.iload_n (i := 2) dX11_tell_39 rfl rfl ?_
        obtain ⟨q4, e4, h⟩ := xbind h
        try dsimp only at h
        refine X.callVN (μ' := mX9_beliefOf) (As := [.int v2]) (st := []) (st1 := [.int q4]) (r := some (.int q4)) (f' := f) (g' := g) (tX9_beliefOf e4) (Nat.le_of_ble_eq_true rfl) cwX9_beliefOf rfl mnX11_161 sC_11 kX9 rfl rfl rfl (Nat.le_of_ble_eq_true rfl) dX11_tell_40 ?_
        refine X.istore_n (i := 3) (L' := [some (.ref 0), some (.int v1), some (.int v2), some (.int q4)]) dX11_tell_43 rfl (Nat.le_of_ble_eq_true rfl) rfl ?_
        refine X.aload_n (i := 0) dX11_tell_44 rfl rfl ?_
        refine X.getR (k0 := 1) kX11 sC_0 (Nat.le_of_ble_eq_true rfl) rfl lfX11_19 dX11_tell_45 ?_
        refine X.getRN (k0 := 1) kX6 sC_2 (Nat.le_of_ble_eq_true rfl) rfl lnX11_106 dX11_tell_48 ?_
        refine X.iload_n (i := 1) dX11_tell_51 rfl rfl ?_
        obtain ⟨q5, e5, h⟩ := xbind h
        try dsimp only at h
        refine X.callVN (μ' := mX9_beliefOf) (As := [.int v1]) (st := []) (st1 := [.int q5]) (r := some (.int q5)) (f' := f) (g' := g) (tX9_beliefOf e5) (Nat.le_of_ble_eq_true rfl) cwX9_beliefOf rfl mnX11_161 sC_11 kX9 rfl rfl rfl (Nat.le_of_ble_eq_true rfl) dX11_tell_52 ?_
        refine X.iload_n (i := 3) dX11_tell_55 rfl rfl ?_
        refine X.icmp_ne (tgt := 62) dX11_tell_56 (by decide) (fun c6 => ?_) (fun c6 => ?_)
        · rw [if_neg c6] at h
          refine X.aload_n (i := 0) dX11_tell_62 rfl rfl ?_
          refine X.getR (k0 := 2) kX11 sC_0 (Nat.le_of_ble_eq_true rfl) rfl lfX11_26 dX11_tell_63 ?_
          refine X.aload_n (i := 0) dX11_tell_66 rfl rfl ?_
          refine X.getR (k0 := 1) kX11 sC_0 (Nat.le_of_ble_eq_true rfl) rfl lfX11_19 dX11_tell_67 ?_
          refine X.getRN (k0 := 1) kX6 sC_2 (Nat.le_of_ble_eq_true rfl) rfl lnX11_106 dX11_tell_70 ?_
          obtain ⟨q7, e7, h⟩ := xbind h
          try dsimp only at h
          refine X.callVN (μ' := mX3_note) (As := [.ref 11]) (st := []) (st1 := []) (r := none) (f' := q7) (g' := g) (tX3_note e7) (Nat.le_of_ble_eq_true rfl) cwX3_note rfl mnX11_168 sC_3 kX3 rfl rfl rfl (Nat.le_of_ble_eq_true rfl) dX11_tell_73 ?_
          refine X.aload_n (i := 0) dX11_tell_76 rfl rfl ?_
          refine X.getR (k0 := 1) kX11 sC_0 (Nat.le_of_ble_eq_true rfl) rfl lfX11_19 dX11_tell_77 ?_
          refine X.getRN (k0 := 1) kX6 sC_2 (Nat.le_of_ble_eq_true rfl) rfl lnX11_106 dX11_tell_80 ?_
          refine X.iload_n (i := 1) dX11_tell_83 rfl rfl ?_
          refine X.iload_n (i := 3) dX11_tell_84 rfl rfl ?_
          obtain ⟨q8, e8, h⟩ := xbind h
          try dsimp only at h
          refine X.callVN (μ' := mX9_setBelief) (As := [.int v1, .int q4]) (st := []) (st1 := []) (r := none) (f' := q8) (g' := g) (tX9_setBelief e8) (Nat.le_of_ble_eq_true rfl) cwX9_setBelief rfl mnX11_179 sC_11 kX9 rfl rfl rfl (Nat.le_of_ble_eq_true rfl) dX11_tell_85 ?_
          refine X.aload_n (i := 0) dX11_tell_88 rfl rfl ?_
          refine X.getR (k0 := 1) kX11 sC_0 (Nat.le_of_ble_eq_true rfl) rfl lfX11_19 dX11_tell_89 ?_
          refine X.getRN (k0 := 0) kX6 sC_2 (Nat.le_of_ble_eq_true rfl) rfl lnX11_110 dX11_tell_92 ?_
          refine X.iload_n (i := 3) dX11_tell_95 rfl rfl ?_
          obtain ⟨q9, e9, h⟩ := xbind h
          try dsimp only at h
          refine X.callVN (μ' := mX8_told) (As := [.int q4]) (st := []) (st1 := [.int q9]) (r := some (.int q9)) (f' := q8) (g' := g) (tX8_told e9) (Nat.le_of_ble_eq_true rfl) cwX8_told rfl mnX11_122 sC_10 kX8 rfl rfl rfl (Nat.le_of_ble_eq_true rfl) dX11_tell_96 ?_
          obtain rfl := Option.some.inj h
          exact X.iret dX11_tell_99 rfl rfl
        · rw [if_pos c6] at h
          refine X.bipush (v := (-3 : Int32)) dX11_tell_59 (by decide) ?_
          obtain rfl := Option.some.inj h
          exact X.iret dX11_tell_61 rfl rfl
      · rw [if_pos c3] at h
        refine X.bipush (v := (-2 : Int32)) dX11_tell_29 (by decide) ?_
        obtain rfl := Option.some.inj h
        exact X.iret dX11_tell_31 rfl rfl
    · rw [if_pos c2] at h
      refine X.iconst (v := (-1 : Int32)) dX11_tell_22 (by decide) ?_
      obtain rfl := Option.some.inj h
      exact X.iret dX11_tell_23 rfl rfl
def pX11_learn (v1 : Int32) (v2 : Int32) (f : xM) : Option (Int32 × xM) := (if (pX6_hasCompositor f v1) = 0 then some (((-1 : Int32), f)) else (if v2 < 0 then some (((-2 : Int32), f)) else (if v2 < (4 : Int32) then (Option.bind (pX9_kindOf f v1) fun q4 => (if q4 = v2 then some (((-3 : Int32), f)) else (Option.bind (pX3_note f) fun q6 => (Option.bind (pX9_setKind v1 v2 q6) fun q7 => some ((q4, q7)))))) else some (((-2 : Int32), f)))))
set_option maxRecDepth 100000 in
set_option maxHeartbeats 4000000 in
theorem tX11_learn {g : xN} {v1 : Int32} {v2 : Int32} {f : xM} {r : Int32 × xM} (h : pX11_learn v1 v2 f = some r) : XT mX11_learn 3 [.ref 0, .int v1, .int v2] f g (some (.int r.1), r.2, g) := by
  unfold pX11_learn at h
  refine XT.of (L := [some (.ref 0), some (.int v1), some (.int v2), none]) [some (.ref 0), some (.int v1), some (.int v2)] rfl (Nat.le_of_ble_eq_true rfl) rfl (xle_c (xle_c (xle_c (xle_z xle_e)))) ?_
  refine X.aload_n (i := 0) dX11_learn_0 rfl rfl ?_
  refine X.getR (k0 := 1) kX11 sC_0 (Nat.le_of_ble_eq_true rfl) rfl lfX11_19 dX11_learn_1 ?_
  refine X.iload_n (i := 1) dX11_learn_4 rfl rfl ?_
  refine X.callVN (μ' := mX6_hasCompositor) (As := [.int v1]) (st := []) (st1 := [.int (pX6_hasCompositor f v1)]) (r := some (.int (pX6_hasCompositor f v1))) (f' := f) (g' := g) (tX6_hasCompositor rfl) (Nat.le_of_ble_eq_true rfl) cwX6_hasCompositor rfl mnX11_146 sC_2 kX6 rfl rfl rfl (Nat.le_of_ble_eq_true rfl) dX11_learn_5 ?_
  refine X.if_ne (tgt := 13) dX11_learn_8 (by decide) (fun c1 => ?_) (fun c1 => ?_)
  · rw [if_neg c1] at h
    refine X.iload_n (i := 2) dX11_learn_13 rfl rfl ?_
    refine X.if_lt (tgt := 22) dX11_learn_14 (by decide) (fun c2 => ?_) (fun c2 => ?_)
    · rw [if_pos c2] at h
      refine X.bipush (v := (-2 : Int32)) dX11_learn_22 (by decide) ?_
      obtain rfl := Option.some.inj h
      exact X.iret dX11_learn_24 rfl rfl
    · rw [if_neg c2] at h
      refine X.iload_n (i := 2) dX11_learn_17 rfl rfl ?_
      refine X.iconst (v := (4 : Int32)) dX11_learn_18 (by decide) ?_
      refine X.icmp_lt (tgt := 25) dX11_learn_19 (by decide) (fun c3 => ?_) (fun c3 => ?_)
      · rw [if_pos c3] at h
        refine X.aload_n (i := 0) dX11_learn_25 rfl rfl ?_
        refine X.getR (k0 := 1) kX11 sC_0 (Nat.le_of_ble_eq_true rfl) rfl lfX11_19 dX11_learn_26 ?_
        refine X.getRN (k0 := 1) kX6 sC_2 (Nat.le_of_ble_eq_true rfl) rfl lnX11_106 dX11_learn_29 ?_
        refine X.iload_n (i := 1) dX11_learn_32 rfl rfl ?_
        obtain ⟨q4, e4, h⟩ := xbind h
        try dsimp only at h
        refine X.callVN (μ' := mX9_kindOf) (As := [.int v1]) (st := []) (st1 := [.int q4]) (r := some (.int q4)) (f' := f) (g' := g) (tX9_kindOf e4) (Nat.le_of_ble_eq_true rfl) cwX9_kindOf rfl mnX11_149 sC_11 kX9 rfl rfl rfl (Nat.le_of_ble_eq_true rfl) dX11_learn_33 ?_
        refine X.istore_n (i := 3) (L' := [some (.ref 0), some (.int v1), some (.int v2), some (.int q4)]) dX11_learn_36 rfl (Nat.le_of_ble_eq_true rfl) rfl ?_
        refine X.iload_n (i := 3) dX11_learn_37 rfl rfl ?_
        refine X.iload_n (i := 2) dX11_learn_38 rfl rfl ?_
        refine X.icmp_ne (tgt := 45) dX11_learn_39 (by decide) (fun c5 => ?_) (fun c5 => ?_)
        · rw [if_neg c5] at h
          refine X.aload_n (i := 0) dX11_learn_45 rfl rfl ?_
          refine X.getR (k0 := 2) kX11 sC_0 (Nat.le_of_ble_eq_true rfl) rfl lfX11_26 dX11_learn_46 ?_
          refine X.aload_n (i := 0) dX11_learn_49 rfl rfl ?_
          refine X.getR (k0 := 1) kX11 sC_0 (Nat.le_of_ble_eq_true rfl) rfl lfX11_19 dX11_learn_50 ?_
          refine X.getRN (k0 := 1) kX6 sC_2 (Nat.le_of_ble_eq_true rfl) rfl lnX11_106 dX11_learn_53 ?_
          obtain ⟨q6, e6, h⟩ := xbind h
          try dsimp only at h
          refine X.callVN (μ' := mX3_note) (As := [.ref 11]) (st := []) (st1 := []) (r := none) (f' := q6) (g' := g) (tX3_note e6) (Nat.le_of_ble_eq_true rfl) cwX3_note rfl mnX11_168 sC_3 kX3 rfl rfl rfl (Nat.le_of_ble_eq_true rfl) dX11_learn_56 ?_
          refine X.aload_n (i := 0) dX11_learn_59 rfl rfl ?_
          refine X.getR (k0 := 1) kX11 sC_0 (Nat.le_of_ble_eq_true rfl) rfl lfX11_19 dX11_learn_60 ?_
          refine X.getRN (k0 := 1) kX6 sC_2 (Nat.le_of_ble_eq_true rfl) rfl lnX11_106 dX11_learn_63 ?_
          refine X.iload_n (i := 1) dX11_learn_66 rfl rfl ?_
          refine X.iload_n (i := 2) dX11_learn_67 rfl rfl ?_
          obtain ⟨q7, e7, h⟩ := xbind h
          try dsimp only at h
          refine X.callVN (μ' := mX9_setKind) (As := [.int v1, .int v2]) (st := []) (st1 := []) (r := none) (f' := q7) (g' := g) (tX9_setKind e7) (Nat.le_of_ble_eq_true rfl) cwX9_setKind rfl mnX11_183 sC_11 kX9 rfl rfl rfl (Nat.le_of_ble_eq_true rfl) dX11_learn_68 ?_
          refine X.iload_n (i := 3) dX11_learn_71 rfl rfl ?_
          obtain rfl := Option.some.inj h
          exact X.iret dX11_learn_72 rfl rfl
        · rw [if_pos c5] at h
          refine X.bipush (v := (-3 : Int32)) dX11_learn_42 (by decide) ?_
          obtain rfl := Option.some.inj h
          exact X.iret dX11_learn_44 rfl rfl
      · rw [if_neg c3] at h
        refine X.bipush (v := (-2 : Int32)) dX11_learn_22 (by decide) ?_
        obtain rfl := Option.some.inj h
        exact X.iret dX11_learn_24 rfl rfl
  · rw [if_pos c1] at h
    refine X.iconst (v := (-1 : Int32)) dX11_learn_11 (by decide) ?_
    obtain rfl := Option.some.inj h
    exact X.iret dX11_learn_12 rfl rfl
def pX7_fetch_12 (v1 : Int32) (f : xM) : Option (xM) := (if (pX7_holds_12 v1) = 0 then some (f) else (if xcok (v1 * (9 : Int32)) (0 : Int32) (9 : Int32) 126 9 then some ((xrow f 19 (va_cpy (f 21) (f 19) (v1 * (9 : Int32)).toNatClampNeg (0 : Int32).toNatClampNeg (9 : Int32).toNatClampNeg))) else none))
set_option maxRecDepth 100000 in
set_option maxHeartbeats 4000000 in
theorem tX7_fetch_12 {g : xN} {v1 : Int32} {f : xM} {r : xM} (h : pX7_fetch_12 v1 f = some r) : XT mX7_fetch 1 [.ref 12, .int v1, .ref 11] f g (none, r, g) := by
  unfold pX7_fetch_12 at h
  refine XT.of (L := [some (.ref 12), some (.int v1), some (.ref 11)]) [some (.ref 12), some (.int v1), some (.ref 11)] rfl (Nat.le_of_ble_eq_true rfl) rfl (xle_c (xle_c (xle_c xle_e))) ?_
  refine X.aload_n (i := 0) dX7_fetch_0 rfl rfl ?_
  refine X.iload_n (i := 1) dX7_fetch_1 rfl rfl ?_
  refine X.callV (μ' := mX7_holds) (As := [.int v1]) (st := []) (st1 := [.int (pX7_holds_12 v1)]) (r := some (.int (pX7_holds_12 v1))) (f' := f) (g' := g) (tX7_holds_12 rfl) (Nat.le_of_ble_eq_true rfl) cwX7_holds rfl mlX7_21 sC_12 kX7 rfl rfl rfl (Nat.le_of_ble_eq_true rfl) dX7_fetch_2 ?_
  refine X.if_eq (tgt := 26) dX7_fetch_5 (by decide) (fun c1 => ?_) (fun c1 => ?_)
  · rw [if_pos c1] at h
    obtain rfl := Option.some.inj h
    exact X.vret dX7_fetch_26 rfl rfl
  · rw [if_neg c1] at h
    refine X.aload_n (i := 0) dX7_fetch_8 rfl rfl ?_
    refine X.getR (k0 := 0) kX7 sC_12 (Nat.le_of_ble_eq_true rfl) rfl lfX7_15 dX7_fetch_9 ?_
    refine X.iload_n (i := 1) dX7_fetch_12 rfl rfl ?_
    refine X.bipush (v := (9 : Int32)) dX7_fetch_13 (by decide) ?_
    refine X.imul dX7_fetch_15 ?_
    refine X.aload_n (i := 2) dX7_fetch_16 rfl rfl ?_
    refine X.getRN (k0 := 0) kX9 sC_11 (Nat.le_of_ble_eq_true rfl) rfl lnX7_25 dX7_fetch_17 ?_
    refine X.iconst (v := (0 : Int32)) dX7_fetch_20 (by decide) ?_
    refine X.bipush (v := (9 : Int32)) dX7_fetch_21 (by decide) ?_
    by_cases c2 : xcok (v1 * (9 : Int32)) (0 : Int32) (9 : Int32) 126 9
    rotate_left
    · rw [if_neg c2] at h; cases h
    rw [if_pos c2] at h
    refine X.copy mlX7_28 lnat lstatc linitS sC_21 sC_19 c2.1 c2.2.1 c2.2.2.1 c2.2.2.2.1 c2.2.2.2.2 (by decide) (Nat.le_of_ble_eq_true rfl) dX7_fetch_23 ?_
    obtain rfl := Option.some.inj h
    exact X.vret dX7_fetch_26 rfl rfl
def pX3_bringBack (f : xM) : Option (Int32 × xM) := (if (f 3 2) ≤ 0 then some (((0 : Int32), f)) else (if 0 < (f 3 1) then (Option.bind (pX7_fetch_12 (((xu (xu f 3 1 ((f 3 1) - (1 : Int32))) 3 2 (((xu f 3 1 ((f 3 1) - (1 : Int32))) 3 2) - (1 : Int32))) 3 1) - ((xu (xu f 3 1 ((f 3 1) - (1 : Int32))) 3 2 (((xu f 3 1 ((f 3 1) - (1 : Int32))) 3 2) - (1 : Int32))) 3 1) / (14 : Int32) * (14 : Int32)) (xu (xu f 3 1 ((f 3 1) - (1 : Int32))) 3 2 (((xu f 3 1 ((f 3 1) - (1 : Int32))) 3 2) - (1 : Int32)))) fun q3 => some (((1 : Int32), q3))) else some (((0 : Int32), f))))
set_option maxRecDepth 100000 in
set_option maxHeartbeats 4000000 in
theorem tX3_bringBack {g : xN} {f : xM} {r : Int32 × xM} (h : pX3_bringBack f = some r) : XT mX3_bringBack 2 [.ref 3, .ref 11] f g (some (.int r.1), r.2, g) := by
  unfold pX3_bringBack at h
  refine XT.of (L := [some (.ref 3), some (.ref 11)]) [some (.ref 3), some (.ref 11)] rfl (Nat.le_of_ble_eq_true rfl) rfl (xle_c (xle_c xle_e)) ?_
  refine X.aload_n (i := 0) dX3_bringBack_0 rfl rfl ?_
  refine X.getI (k0 := 2) kX3 sC_3 (Nat.le_of_ble_eq_true rfl) rfl lfX3_22 dX3_bringBack_1 ?_
  refine X.if_le (tgt := 14) dX3_bringBack_4 (by decide) (fun c1 => ?_) (fun c1 => ?_)
  · rw [if_pos c1] at h
    refine X.iconst (v := (0 : Int32)) dX3_bringBack_14 (by decide) ?_
    obtain rfl := Option.some.inj h
    exact X.zret dX3_bringBack_15 rfl rfl rfl
  · rw [if_neg c1] at h
    refine X.aload_n (i := 0) dX3_bringBack_7 rfl rfl ?_
    refine X.getI (k0 := 1) kX3 sC_3 (Nat.le_of_ble_eq_true rfl) rfl lfX3_18 dX3_bringBack_8 ?_
    refine X.if_gt (tgt := 16) dX3_bringBack_11 (by decide) (fun c2 => ?_) (fun c2 => ?_)
    · rw [if_pos c2] at h
      refine X.aload_n (i := 0) dX3_bringBack_16 rfl rfl ?_
      refine X.dup dX3_bringBack_17 rfl ?_
      refine X.getI (k0 := 1) kX3 sC_3 (Nat.le_of_ble_eq_true rfl) rfl lfX3_18 dX3_bringBack_18 ?_
      refine X.iconst (v := (1 : Int32)) dX3_bringBack_21 (by decide) ?_
      refine X.isub dX3_bringBack_22 ?_
      refine X.putI (k0 := 1) kX3 sC_3 (Nat.le_of_ble_eq_true rfl) rfl lfX3_18 rfl rfl dX3_bringBack_23 ?_
      refine X.aload_n (i := 0) dX3_bringBack_26 rfl rfl ?_
      refine X.dup dX3_bringBack_27 rfl ?_
      refine X.getI (k0 := 2) kX3 sC_3 (Nat.le_of_ble_eq_true rfl) rfl lfX3_22 dX3_bringBack_28 ?_
      refine X.iconst (v := (1 : Int32)) dX3_bringBack_31 (by decide) ?_
      refine X.isub dX3_bringBack_32 ?_
      refine X.putI (k0 := 2) kX3 sC_3 (Nat.le_of_ble_eq_true rfl) rfl lfX3_22 rfl rfl dX3_bringBack_33 ?_
      refine X.aload_n (i := 0) dX3_bringBack_36 rfl rfl ?_
      refine X.getR (k0 := 0) kX3 sC_3 (Nat.le_of_ble_eq_true rfl) rfl lfX3_14 dX3_bringBack_37 ?_
      refine X.aload_n (i := 0) dX3_bringBack_40 rfl rfl ?_
      refine X.getI (k0 := 1) kX3 sC_3 (Nat.le_of_ble_eq_true rfl) rfl lfX3_18 dX3_bringBack_41 ?_
      refine X.bipush (v := (14 : Int32)) dX3_bringBack_44 (by decide) ?_
      refine X.irem dX3_bringBack_46 (by decide) ?_
      refine X.aload_n (i := 1) dX3_bringBack_47 rfl rfl ?_
      obtain ⟨q3, e3, h⟩ := xbind h
      try dsimp only at h
      refine X.callVN (μ' := mX7_fetch) (As := [.int (((xu (xu f 3 1 ((f 3 1) - (1 : Int32))) 3 2 (((xu f 3 1 ((f 3 1) - (1 : Int32))) 3 2) - (1 : Int32))) 3 1) - ((xu (xu f 3 1 ((f 3 1) - (1 : Int32))) 3 2 (((xu f 3 1 ((f 3 1) - (1 : Int32))) 3 2) - (1 : Int32))) 3 1) / (14 : Int32) * (14 : Int32)), .ref 11]) (st := []) (st1 := []) (r := none) (f' := q3) (g' := g) (tX7_fetch_12 e3) (Nat.le_of_ble_eq_true rfl) cwX7_fetch rfl mnX3_35 sC_12 kX7 rfl rfl rfl (Nat.le_of_ble_eq_true rfl) dX3_bringBack_48 ?_
      refine X.iconst (v := (1 : Int32)) dX3_bringBack_51 (by decide) ?_
      obtain rfl := Option.some.inj h
      exact X.zret dX3_bringBack_52 rfl rfl rfl
    · rw [if_neg c2] at h
      refine X.iconst (v := (0 : Int32)) dX3_bringBack_14 (by decide) ?_
      obtain rfl := Option.some.inj h
      exact X.zret dX3_bringBack_15 rfl rfl rfl
def pX11_undo (f : xM) : Option (Int32 × xM) := (Option.bind (pX3_bringBack f) fun q1 => (if q1.1 = 0 then some (((-3 : Int32), q1.2)) else some (((q1.2 3 2), q1.2))))
set_option maxRecDepth 100000 in
set_option maxHeartbeats 4000000 in
theorem tX11_undo {g : xN} {f : xM} {r : Int32 × xM} (h : pX11_undo f = some r) : XT mX11_undo 3 [.ref 0] f g (some (.int r.1), r.2, g) := by
  unfold pX11_undo at h
  refine XT.of (L := [some (.ref 0)]) [some (.ref 0)] rfl (Nat.le_of_ble_eq_true rfl) rfl (xle_c xle_e) ?_
  refine X.aload_n (i := 0) dX11_undo_0 rfl rfl ?_
  refine X.getR (k0 := 2) kX11 sC_0 (Nat.le_of_ble_eq_true rfl) rfl lfX11_26 dX11_undo_1 ?_
  refine X.aload_n (i := 0) dX11_undo_4 rfl rfl ?_
  refine X.getR (k0 := 1) kX11 sC_0 (Nat.le_of_ble_eq_true rfl) rfl lfX11_19 dX11_undo_5 ?_
  refine X.getRN (k0 := 1) kX6 sC_2 (Nat.le_of_ble_eq_true rfl) rfl lnX11_106 dX11_undo_8 ?_
  obtain ⟨q1, e1, h⟩ := xbind h
  try dsimp only at h
  refine X.callVN (μ' := mX3_bringBack) (As := [.ref 11]) (st := []) (st1 := [.int q1.1]) (r := some (.int q1.1)) (f' := q1.2) (g' := g) (tX3_bringBack e1) (Nat.le_of_ble_eq_true rfl) cwX3_bringBack rfl mnX11_186 sC_3 kX3 rfl rfl rfl (Nat.le_of_ble_eq_true rfl) dX11_undo_11 ?_
  refine X.if_eq (tgt := 27) dX11_undo_14 (by decide) (fun c2 => ?_) (fun c2 => ?_)
  · rw [if_pos c2] at h
    refine X.bipush (v := (-3 : Int32)) dX11_undo_27 (by decide) ?_
    obtain rfl := Option.some.inj h
    exact X.iret dX11_undo_29 rfl rfl
  · rw [if_neg c2] at h
    refine X.aload_n (i := 0) dX11_undo_17 rfl rfl ?_
    refine X.getR (k0 := 2) kX11 sC_0 (Nat.le_of_ble_eq_true rfl) rfl lfX11_26 dX11_undo_18 ?_
    refine X.getIN (k0 := 2) kX3 sC_3 (Nat.le_of_ble_eq_true rfl) rfl lnX11_143 dX11_undo_21 ?_
    refine X.goto (tgt := 29) dX11_undo_24 (by decide) ?_
    obtain rfl := Option.some.inj h
    exact X.iret dX11_undo_29 rfl rfl
def pX8_packed_b19 (F : Nat) (f : xM) : Nat → Int32 → Int32 → Int32 → Option (Int32)
  | 0, _, _, _ => none
  | n + 1, v2, v3, v4 => (if v4 < 0 then (if v3 = 0 then some (v2) else some ((-9 : Int32))) else (if (v3 - v3 / (10 : Int32) * (10 : Int32)) ≤ (3 : Int32) then (pX8_packed_b19 F f n (pX8_withLetter f v2 v4 (v3 - v3 / (10 : Int32) * (10 : Int32))) (v3 / (10 : Int32)) (v4 + (-1 : Int32))) else some ((-9 : Int32))))
set_option maxRecDepth 100000 in
set_option maxHeartbeats 4000000 in
theorem tX8_packed_b19 {F : Nat} {f : xM} {g : xN} : ∀ (n : Nat) {v2 : Int32} {v3 : Int32} {v4 : Int32} {r : Int32}, pX8_packed_b19 F f n v2 v3 v4 = some r → X mX8_packed 1 (some (.int r), f, g) 19 [some (.ref 10), none, some (.int v2), some (.int v3), some (.int v4)] [] f g := by
  intro n
  induction n with
  | zero => intro v2 v3 v4 r h; cases h
  | succ n ih =>
    intro v2 v3 v4 r h
    rw [pX8_packed_b19] at h
    refine X.iload (i := 4) dX8_packed_19 rfl ?_
    refine X.if_lt (tgt := 58) dX8_packed_21 (by decide) (fun c2 => ?_) (fun c2 => ?_)
    · rw [if_pos c2] at h
      refine X.iload_n (i := 3) dX8_packed_58 rfl rfl ?_
      refine X.if_ne (tgt := 66) dX8_packed_59 (by decide) (fun c3 => ?_) (fun c3 => ?_)
      · rw [if_neg c3] at h
        refine X.bipush (v := (-9 : Int32)) dX8_packed_66 (by decide) ?_
        obtain rfl := Option.some.inj h
        exact X.iret dX8_packed_68 rfl rfl
      · rw [if_pos c3] at h
        refine X.iload_n (i := 2) dX8_packed_62 rfl rfl ?_
        refine X.goto (tgt := 68) dX8_packed_63 (by decide) ?_
        obtain rfl := Option.some.inj h
        exact X.iret dX8_packed_68 rfl rfl
    · rw [if_neg c2] at h
      refine X.iload_n (i := 3) dX8_packed_24 rfl rfl ?_
      refine X.bipush (v := (10 : Int32)) dX8_packed_25 (by decide) ?_
      refine X.irem dX8_packed_27 (by decide) ?_
      refine X.iconst (v := (3 : Int32)) dX8_packed_28 (by decide) ?_
      refine X.icmp_le (tgt := 35) dX8_packed_29 (by decide) (fun c4 => ?_) (fun c4 => ?_)
      · rw [if_pos c4] at h
        refine X.aload_n (i := 0) dX8_packed_35 rfl rfl ?_
        refine X.iload_n (i := 2) dX8_packed_36 rfl rfl ?_
        refine X.iload (i := 4) dX8_packed_37 rfl ?_
        refine X.iload_n (i := 3) dX8_packed_39 rfl rfl ?_
        refine X.bipush (v := (10 : Int32)) dX8_packed_40 (by decide) ?_
        refine X.irem dX8_packed_42 (by decide) ?_
        refine X.callV (μ' := mX8_withLetter) (As := [.int v2, .int v4, .int (v3 - v3 / (10 : Int32) * (10 : Int32))]) (st := []) (st1 := [.int (pX8_withLetter f v2 v4 (v3 - v3 / (10 : Int32) * (10 : Int32)))]) (r := some (.int (pX8_withLetter f v2 v4 (v3 - v3 / (10 : Int32) * (10 : Int32))))) (f' := f) (g' := g) (tX8_withLetter rfl) (Nat.le_of_ble_eq_true rfl) cwX8_withLetter rfl mlX8_19 sC_10 kX8 rfl rfl rfl (Nat.le_of_ble_eq_true rfl) dX8_packed_43 ?_
        refine X.istore_n (i := 2) (L' := [some (.ref 10), none, some (.int (pX8_withLetter f v2 v4 (v3 - v3 / (10 : Int32) * (10 : Int32)))), some (.int v3), some (.int v4)]) dX8_packed_46 rfl (Nat.le_of_ble_eq_true rfl) rfl ?_
        refine X.iload_n (i := 3) dX8_packed_47 rfl rfl ?_
        refine X.bipush (v := (10 : Int32)) dX8_packed_48 (by decide) ?_
        refine X.idiv dX8_packed_50 (by decide) ?_
        refine X.istore_n (i := 3) (L' := [some (.ref 10), none, some (.int (pX8_withLetter f v2 v4 (v3 - v3 / (10 : Int32) * (10 : Int32)))), some (.int (v3 / (10 : Int32))), some (.int v4)]) dX8_packed_51 rfl (Nat.le_of_ble_eq_true rfl) rfl ?_
        refine X.iinc (i := 4) (v := (v4 + (-1 : Int32))) (L' := [some (.ref 10), none, some (.int (pX8_withLetter f v2 v4 (v3 - v3 / (10 : Int32) * (10 : Int32)))), some (.int (v3 / (10 : Int32))), some (.int (v4 + (-1 : Int32)))]) dX8_packed_52 rfl rfl (Nat.le_of_ble_eq_true rfl) rfl ?_
        refine X.goto (tgt := 19) dX8_packed_55 (by decide) ?_
        exact X.weaken (xle_c (xle_n (xle_c (xle_c (xle_c xle_e))))) (ih h)
      · rw [if_neg c4] at h
        refine X.bipush (v := (-9 : Int32)) dX8_packed_32 (by decide) ?_
        obtain rfl := Option.some.inj h
        exact X.iret dX8_packed_34 rfl rfl
def pX8_packed (F : Nat) (f : xM) (v1 : Int32) : Option (Int32) := (if 0 ≤ v1 then (pX8_packed_b19 F f F (0 : Int32) v1 ((f 10 0) - (1 : Int32))) else some ((-9 : Int32)))
set_option maxRecDepth 100000 in
set_option maxHeartbeats 4000000 in
theorem tX8_packed {F : Nat} {f : xM} {g : xN} {v1 : Int32} {r : Int32} (h : pX8_packed F f v1 = some r) : XT mX8_packed 1 [.ref 10, .int v1] f g (some (.int r), f, g) := by
  unfold pX8_packed at h
  refine XT.of (L := [some (.ref 10), some (.int v1), none, none, none]) [some (.ref 10), some (.int v1)] rfl (Nat.le_of_ble_eq_true rfl) rfl (xle_c (xle_c (xle_z (xle_z (xle_z xle_e))))) ?_
  refine X.iload_n (i := 1) dX8_packed_0 rfl rfl ?_
  refine X.if_ge (tgt := 7) dX8_packed_1 (by decide) (fun c1 => ?_) (fun c1 => ?_)
  · rw [if_pos c1] at h
    refine X.iconst (v := (0 : Int32)) dX8_packed_7 (by decide) ?_
    refine X.istore_n (i := 2) (L' := [some (.ref 10), some (.int v1), some (.int (0 : Int32)), none, none]) dX8_packed_8 rfl (Nat.le_of_ble_eq_true rfl) rfl ?_
    refine X.iload_n (i := 1) dX8_packed_9 rfl rfl ?_
    refine X.istore_n (i := 3) (L' := [some (.ref 10), some (.int v1), some (.int (0 : Int32)), some (.int v1), none]) dX8_packed_10 rfl (Nat.le_of_ble_eq_true rfl) rfl ?_
    refine X.aload_n (i := 0) dX8_packed_11 rfl rfl ?_
    refine X.getI (k0 := 0) kX8 sC_10 (Nat.le_of_ble_eq_true rfl) rfl lfX8_9 dX8_packed_12 ?_
    refine X.iconst (v := (1 : Int32)) dX8_packed_15 (by decide) ?_
    refine X.isub dX8_packed_16 ?_
    refine X.istore (i := 4) (L' := [some (.ref 10), some (.int v1), some (.int (0 : Int32)), some (.int v1), some (.int ((f 10 0) - (1 : Int32)))]) dX8_packed_17 (Nat.le_of_ble_eq_true rfl) rfl ?_
    exact X.weaken (xle_c (xle_n (xle_c (xle_c (xle_c xle_e))))) (tX8_packed_b19 F h)
  · rw [if_neg c1] at h
    refine X.bipush (v := (-9 : Int32)) dX8_packed_4 (by decide) ?_
    obtain rfl := Option.some.inj h
    exact X.iret dX8_packed_6 rfl rfl
def pX5_read_b37 (F : Nat) : Nat → Int32 → Int64 → Int32 → xM → Option (Int32 × xM)
  | 0, _, _, _, _ => none
  | n + 1, v2, v6, v8, f => (if v8 < 0 then (if (lg_cmp v6 (0 : Int64)) = 0 then some (((1 : Int32), (xu f 5 1 v2))) else some (((0 : Int32), (xu f 5 1 v2)))) else (if (pX6_hasCompositor f ((v6 - v6 / (1000 : Int64) * (1000 : Int64)).toInt32 / (100 : Int32))) = 0 then some (((0 : Int32), f)) else (if (pX6_isNoticeFor f (((v6 - v6 / (1000 : Int64) * (1000 : Int64)).toInt32 / (10 : Int32)) - ((v6 - v6 / (1000 : Int64) * (1000 : Int64)).toInt32 / (10 : Int32)) / (10 : Int32) * (10 : Int32)) ((v6 - v6 / (1000 : Int64) * (1000 : Int64)).toInt32 - (v6 - v6 / (1000 : Int64) * (1000 : Int64)).toInt32 / (10 : Int32) * (10 : Int32))) = 0 then some (((0 : Int32), f)) else (if xin v8 4 then (pX5_read_b37 F n v2 (v6 / (1000 : Int64)) (v8 + (-1 : Int32)) (xu f 22 v8.toNatClampNeg (v6 - v6 / (1000 : Int64) * (1000 : Int64)).toInt32)) else none))))
set_option maxRecDepth 100000 in
set_option maxHeartbeats 4000000 in
theorem tX5_read_b37 {F : Nat} {g : xN} : ∀ (n : Nat) {v2 : Int32} {v6 : Int64} {v8 : Int32} {f : xM} {r : Int32 × xM}, pX5_read_b37 F n v2 v6 v8 f = some r → X mX5_read 2 (some (.int r.1), r.2, g) 37 [some (.ref 5), some (.ref 2), some (.int v2), none, none, none, some (.long v6), none, some (.int v8), none] [] f g := by
  intro n
  induction n with
  | zero => intro v2 v6 v8 f r h; cases h
  | succ n ih =>
    intro v2 v6 v8 f r h
    rw [pX5_read_b37] at h
    refine X.iload (i := 8) dX5_read_37 rfl ?_
    refine X.if_lt (tgt := 108) dX5_read_39 (by decide) (fun c5 => ?_) (fun c5 => ?_)
    · rw [if_pos c5] at h
      refine X.aload_n (i := 0) dX5_read_108 rfl rfl ?_
      refine X.iload_n (i := 2) dX5_read_109 rfl rfl ?_
      refine X.putI (k0 := 1) kX5 sC_5 (Nat.le_of_ble_eq_true rfl) rfl lfX5_15 rfl rfl dX5_read_110 ?_
      refine X.lload (i := 6) dX5_read_113 rfl ?_
      refine X.lconst (v := (0 : Int64)) dX5_read_115 (by decide) ?_
      refine X.lcmp dX5_read_116 ?_
      refine X.if_ne (tgt := 124) dX5_read_117 (by decide) (fun c6 => ?_) (fun c6 => ?_)
      · rw [if_neg c6] at h
        refine X.iconst (v := (0 : Int32)) dX5_read_124 (by decide) ?_
        obtain rfl := Option.some.inj h
        exact X.zret dX5_read_125 rfl rfl rfl
      · rw [if_pos c6] at h
        refine X.iconst (v := (1 : Int32)) dX5_read_120 (by decide) ?_
        refine X.goto (tgt := 125) dX5_read_121 (by decide) ?_
        obtain rfl := Option.some.inj h
        exact X.zret dX5_read_125 rfl rfl rfl
    · rw [if_neg c5] at h
      refine X.lload (i := 6) dX5_read_42 rfl ?_
      refine X.ldc2 dX5_read_44 lcX5_19 ?_
      refine X.lrem dX5_read_47 (by decide) ?_
      refine X.l2i dX5_read_48 ?_
      refine X.istore (i := 9) (L' := [some (.ref 5), some (.ref 2), some (.int v2), none, none, none, some (.long v6), none, some (.int v8), some (.int (v6 - v6 / (1000 : Int64) * (1000 : Int64)).toInt32)]) dX5_read_49 (Nat.le_of_ble_eq_true rfl) rfl ?_
      refine X.aload_n (i := 1) dX5_read_51 rfl rfl ?_
      refine X.iload (i := 9) dX5_read_52 rfl ?_
      refine X.bipush (v := (100 : Int32)) dX5_read_54 (by decide) ?_
      refine X.idiv dX5_read_56 (by decide) ?_
      refine X.callVN (μ' := mX6_hasCompositor) (As := [.int ((v6 - v6 / (1000 : Int64) * (1000 : Int64)).toInt32 / (100 : Int32))]) (st := []) (st1 := [.int (pX6_hasCompositor f ((v6 - v6 / (1000 : Int64) * (1000 : Int64)).toInt32 / (100 : Int32)))]) (r := some (.int (pX6_hasCompositor f ((v6 - v6 / (1000 : Int64) * (1000 : Int64)).toInt32 / (100 : Int32))))) (f' := f) (g' := g) (tX6_hasCompositor rfl) (Nat.le_of_ble_eq_true rfl) cwX6_hasCompositor rfl mnX5_21 sC_2 kX6 rfl rfl rfl (Nat.le_of_ble_eq_true rfl) dX5_read_57 ?_
      refine X.if_eq (tgt := 83) dX5_read_60 (by decide) (fun c7 => ?_) (fun c7 => ?_)
      · rw [if_pos c7] at h
        refine X.iconst (v := (0 : Int32)) dX5_read_83 (by decide) ?_
        obtain rfl := Option.some.inj h
        exact X.zret dX5_read_84 rfl rfl rfl
      · rw [if_neg c7] at h
        refine X.aload_n (i := 1) dX5_read_63 rfl rfl ?_
        refine X.iload (i := 9) dX5_read_64 rfl ?_
        refine X.bipush (v := (10 : Int32)) dX5_read_66 (by decide) ?_
        refine X.idiv dX5_read_68 (by decide) ?_
        refine X.bipush (v := (10 : Int32)) dX5_read_69 (by decide) ?_
        refine X.irem dX5_read_71 (by decide) ?_
        refine X.iload (i := 9) dX5_read_72 rfl ?_
        refine X.bipush (v := (10 : Int32)) dX5_read_74 (by decide) ?_
        refine X.irem dX5_read_76 (by decide) ?_
        refine X.callVN (μ' := mX6_isNoticeFor) (As := [.int (((v6 - v6 / (1000 : Int64) * (1000 : Int64)).toInt32 / (10 : Int32)) - ((v6 - v6 / (1000 : Int64) * (1000 : Int64)).toInt32 / (10 : Int32)) / (10 : Int32) * (10 : Int32)), .int ((v6 - v6 / (1000 : Int64) * (1000 : Int64)).toInt32 - (v6 - v6 / (1000 : Int64) * (1000 : Int64)).toInt32 / (10 : Int32) * (10 : Int32))]) (st := []) (st1 := [.int (pX6_isNoticeFor f (((v6 - v6 / (1000 : Int64) * (1000 : Int64)).toInt32 / (10 : Int32)) - ((v6 - v6 / (1000 : Int64) * (1000 : Int64)).toInt32 / (10 : Int32)) / (10 : Int32) * (10 : Int32)) ((v6 - v6 / (1000 : Int64) * (1000 : Int64)).toInt32 - (v6 - v6 / (1000 : Int64) * (1000 : Int64)).toInt32 / (10 : Int32) * (10 : Int32)))]) (r := some (.int (pX6_isNoticeFor f (((v6 - v6 / (1000 : Int64) * (1000 : Int64)).toInt32 / (10 : Int32)) - ((v6 - v6 / (1000 : Int64) * (1000 : Int64)).toInt32 / (10 : Int32)) / (10 : Int32) * (10 : Int32)) ((v6 - v6 / (1000 : Int64) * (1000 : Int64)).toInt32 - (v6 - v6 / (1000 : Int64) * (1000 : Int64)).toInt32 / (10 : Int32) * (10 : Int32))))) (f' := f) (g' := g) (tX6_isNoticeFor rfl) (Nat.le_of_ble_eq_true rfl) cwX6_isNoticeFor rfl mnX5_27 sC_2 kX6 rfl rfl rfl (Nat.le_of_ble_eq_true rfl) dX5_read_77 ?_
        refine X.if_ne (tgt := 85) dX5_read_80 (by decide) (fun c8 => ?_) (fun c8 => ?_)
        · rw [if_neg c8] at h
          refine X.aload_n (i := 0) dX5_read_85 rfl rfl ?_
          refine X.getR (k0 := 0) kX5 sC_5 (Nat.le_of_ble_eq_true rfl) rfl lfX5_9 dX5_read_86 ?_
          refine X.iload (i := 8) dX5_read_89 rfl ?_
          refine X.iload (i := 9) dX5_read_91 rfl ?_
          by_cases c9 : xin v8 4
          rotate_left
          · rw [if_neg c9] at h; cases h
          rw [if_pos c9] at h
          refine X.iast sC_22 c9 dX5_read_93 ?_
          refine X.lload (i := 6) dX5_read_94 rfl ?_
          refine X.ldc2 dX5_read_96 lcX5_19 ?_
          refine X.ldiv dX5_read_99 (by decide) ?_
          refine X.lstore (i := 6) (L' := [some (.ref 5), some (.ref 2), some (.int v2), none, none, none, some (.long (v6 / (1000 : Int64))), none, some (.int v8), some (.int (v6 - v6 / (1000 : Int64) * (1000 : Int64)).toInt32)]) dX5_read_100 (Nat.le_of_ble_eq_true rfl) rfl ?_
          refine X.iinc (i := 8) (v := (v8 + (-1 : Int32))) (L' := [some (.ref 5), some (.ref 2), some (.int v2), none, none, none, some (.long (v6 / (1000 : Int64))), none, some (.int (v8 + (-1 : Int32))), some (.int (v6 - v6 / (1000 : Int64) * (1000 : Int64)).toInt32)]) dX5_read_102 rfl rfl (Nat.le_of_ble_eq_true rfl) rfl ?_
          refine X.goto (tgt := 37) dX5_read_105 (by decide) ?_
          exact X.weaken (xle_c (xle_c (xle_c (xle_n (xle_n (xle_n (xle_c (xle_n (xle_c (xle_n xle_e)))))))))) (ih h)
        · rw [if_pos c8] at h
          refine X.iconst (v := (0 : Int32)) dX5_read_83 (by decide) ?_
          obtain rfl := Option.some.inj h
          exact X.zret dX5_read_84 rfl rfl rfl
def pX5_read (F : Nat) (v2 : Int32) (v3 : Int32) (v4 : Int64) (f : xM) : Option (Int32 × xM) := (if v2 < (1 : Int32) then some (((0 : Int32), f)) else (if v3 < v2 then some (((0 : Int32), f)) else (if (4 : Int32) < v2 then some (((0 : Int32), f)) else (if 0 ≤ (lg_cmp v4 (0 : Int64)) then (pX5_read_b37 F F v2 v4 (v2 - (1 : Int32)) f) else some (((0 : Int32), f))))))
set_option maxRecDepth 100000 in
set_option maxHeartbeats 4000000 in
theorem tX5_read {F : Nat} {g : xN} {v2 : Int32} {v3 : Int32} {v4 : Int64} {f : xM} {r : Int32 × xM} (h : pX5_read F v2 v3 v4 f = some r) : XT mX5_read 2 [.ref 5, .ref 2, .int v2, .int v3, .long v4] f g (some (.int r.1), r.2, g) := by
  unfold pX5_read at h
  refine XT.of (L := [some (.ref 5), some (.ref 2), some (.int v2), some (.int v3), some (.long v4), none, none, none, none, none]) [some (.ref 5), some (.ref 2), some (.int v2), some (.int v3), some (.long v4), none] rfl (Nat.le_of_ble_eq_true rfl) rfl (xle_c (xle_c (xle_c (xle_c (xle_c (xle_n (xle_z (xle_z (xle_z (xle_z xle_e)))))))))) ?_
  refine X.iload_n (i := 2) dX5_read_0 rfl rfl ?_
  refine X.iconst (v := (1 : Int32)) dX5_read_1 (by decide) ?_
  refine X.icmp_lt (tgt := 26) dX5_read_2 (by decide) (fun c1 => ?_) (fun c1 => ?_)
  · rw [if_pos c1] at h
    refine X.iconst (v := (0 : Int32)) dX5_read_26 (by decide) ?_
    obtain rfl := Option.some.inj h
    exact X.zret dX5_read_27 rfl rfl rfl
  · rw [if_neg c1] at h
    refine X.iload_n (i := 2) dX5_read_5 rfl rfl ?_
    refine X.iload_n (i := 3) dX5_read_6 rfl rfl ?_
    refine X.icmp_gt (tgt := 26) dX5_read_7 (by decide) (fun c2 => ?_) (fun c2 => ?_)
    · rw [if_pos c2] at h
      refine X.iconst (v := (0 : Int32)) dX5_read_26 (by decide) ?_
      obtain rfl := Option.some.inj h
      exact X.zret dX5_read_27 rfl rfl rfl
    · rw [if_neg c2] at h
      refine X.iload_n (i := 2) dX5_read_10 rfl rfl ?_
      refine X.aload_n (i := 0) dX5_read_11 rfl rfl ?_
      refine X.getR (k0 := 0) kX5 sC_5 (Nat.le_of_ble_eq_true rfl) rfl lfX5_9 dX5_read_12 ?_
      refine X.alen (v := (4 : Int32)) sC_22 (by decide) dX5_read_15 ?_
      refine X.icmp_gt (tgt := 26) dX5_read_16 (by decide) (fun c3 => ?_) (fun c3 => ?_)
      · rw [if_pos c3] at h
        refine X.iconst (v := (0 : Int32)) dX5_read_26 (by decide) ?_
        obtain rfl := Option.some.inj h
        exact X.zret dX5_read_27 rfl rfl rfl
      · rw [if_neg c3] at h
        refine X.lload (i := 4) dX5_read_19 rfl ?_
        refine X.lconst (v := (0 : Int64)) dX5_read_21 (by decide) ?_
        refine X.lcmp dX5_read_22 ?_
        refine X.if_ge (tgt := 28) dX5_read_23 (by decide) (fun c4 => ?_) (fun c4 => ?_)
        · rw [if_pos c4] at h
          refine X.lload (i := 4) dX5_read_28 rfl ?_
          refine X.lstore (i := 6) (L' := [some (.ref 5), some (.ref 2), some (.int v2), some (.int v3), some (.long v4), none, some (.long v4), none, none, none]) dX5_read_30 (Nat.le_of_ble_eq_true rfl) rfl ?_
          refine X.iload_n (i := 2) dX5_read_32 rfl rfl ?_
          refine X.iconst (v := (1 : Int32)) dX5_read_33 (by decide) ?_
          refine X.isub dX5_read_34 ?_
          refine X.istore (i := 8) (L' := [some (.ref 5), some (.ref 2), some (.int v2), some (.int v3), some (.long v4), none, some (.long v4), none, some (.int (v2 - (1 : Int32))), none]) dX5_read_35 (Nat.le_of_ble_eq_true rfl) rfl ?_
          exact X.weaken (xle_c (xle_c (xle_c (xle_n (xle_n (xle_n (xle_c (xle_n (xle_c (xle_n xle_e)))))))))) (tX5_read_b37 F h)
        · rw [if_neg c4] at h
          refine X.iconst (v := (0 : Int32)) dX5_read_26 (by decide) ?_
          obtain rfl := Option.some.inj h
          exact X.zret dX5_read_27 rfl rfl rfl
def pX5_doneOn_b5 (F : Nat) (f : xM) : Nat → Int32 → Int32 → Option (Int32)
  | 0, _, _ => none
  | n + 1, v3, v4 => (if (f 5 1) ≤ v4 then some (v3) else (if (4 : Int32) ≤ v4 then some (v3) else (if xin v4 4 then (Option.bind (pX6_noticed f ((f 22 v4.toNatClampNeg) / (100 : Int32)) v3 (((f 22 v4.toNatClampNeg) / (10 : Int32)) - ((f 22 v4.toNatClampNeg) / (10 : Int32)) / (10 : Int32) * (10 : Int32)) ((f 22 v4.toNatClampNeg) - (f 22 v4.toNatClampNeg) / (10 : Int32) * (10 : Int32))) fun q4 => (pX5_doneOn_b5 F f n q4 (v4 + (1 : Int32)))) else none)))
set_option maxRecDepth 100000 in
set_option maxHeartbeats 4000000 in
theorem tX5_doneOn_b5 {F : Nat} {f : xM} {g : xN} : ∀ (n : Nat) {v3 : Int32} {v4 : Int32} {r : Int32}, pX5_doneOn_b5 F f n v3 v4 = some r → X mX5_doneOn 3 (some (.int r), f, g) 5 [some (.ref 5), some (.ref 2), none, some (.int v3), some (.int v4), none] [] f g := by
  intro n
  induction n with
  | zero => intro v3 v4 r h; cases h
  | succ n ih =>
    intro v3 v4 r h
    rw [pX5_doneOn_b5] at h
    refine X.iload (i := 4) dX5_doneOn_5 rfl ?_
    refine X.aload_n (i := 0) dX5_doneOn_7 rfl rfl ?_
    refine X.getI (k0 := 1) kX5 sC_5 (Nat.le_of_ble_eq_true rfl) rfl lfX5_15 dX5_doneOn_8 ?_
    refine X.icmp_ge (tgt := 63) dX5_doneOn_11 (by decide) (fun c1 => ?_) (fun c1 => ?_)
    · rw [if_pos c1] at h
      refine X.iload_n (i := 3) dX5_doneOn_63 rfl rfl ?_
      obtain rfl := Option.some.inj h
      exact X.iret dX5_doneOn_64 rfl rfl
    · rw [if_neg c1] at h
      refine X.iload (i := 4) dX5_doneOn_14 rfl ?_
      refine X.aload_n (i := 0) dX5_doneOn_16 rfl rfl ?_
      refine X.getR (k0 := 0) kX5 sC_5 (Nat.le_of_ble_eq_true rfl) rfl lfX5_9 dX5_doneOn_17 ?_
      refine X.alen (v := (4 : Int32)) sC_22 (by decide) dX5_doneOn_20 ?_
      refine X.icmp_ge (tgt := 63) dX5_doneOn_21 (by decide) (fun c2 => ?_) (fun c2 => ?_)
      · rw [if_pos c2] at h
        refine X.iload_n (i := 3) dX5_doneOn_63 rfl rfl ?_
        obtain rfl := Option.some.inj h
        exact X.iret dX5_doneOn_64 rfl rfl
      · rw [if_neg c2] at h
        refine X.aload_n (i := 0) dX5_doneOn_24 rfl rfl ?_
        refine X.getR (k0 := 0) kX5 sC_5 (Nat.le_of_ble_eq_true rfl) rfl lfX5_9 dX5_doneOn_25 ?_
        refine X.iload (i := 4) dX5_doneOn_28 rfl ?_
        by_cases c3 : xin v4 4
        rotate_left
        · rw [if_neg c3] at h; cases h
        rw [if_pos c3] at h
        refine X.iald sC_22 c3 dX5_doneOn_30 ?_
        refine X.istore (i := 5) (L' := [some (.ref 5), some (.ref 2), none, some (.int v3), some (.int v4), some (.int (f 22 v4.toNatClampNeg))]) dX5_doneOn_31 (Nat.le_of_ble_eq_true rfl) rfl ?_
        refine X.aload_n (i := 1) dX5_doneOn_33 rfl rfl ?_
        refine X.iload (i := 5) dX5_doneOn_34 rfl ?_
        refine X.bipush (v := (100 : Int32)) dX5_doneOn_36 (by decide) ?_
        refine X.idiv dX5_doneOn_38 (by decide) ?_
        refine X.iload_n (i := 3) dX5_doneOn_39 rfl rfl ?_
        refine X.iload (i := 5) dX5_doneOn_40 rfl ?_
        refine X.bipush (v := (10 : Int32)) dX5_doneOn_42 (by decide) ?_
        refine X.idiv dX5_doneOn_44 (by decide) ?_
        refine X.bipush (v := (10 : Int32)) dX5_doneOn_45 (by decide) ?_
        refine X.irem dX5_doneOn_47 (by decide) ?_
        refine X.iload (i := 5) dX5_doneOn_48 rfl ?_
        refine X.bipush (v := (10 : Int32)) dX5_doneOn_50 (by decide) ?_
        refine X.irem dX5_doneOn_52 (by decide) ?_
        obtain ⟨q4, e4, h⟩ := xbind h
        try dsimp only at h
        refine X.callVN (μ' := mX6_noticed) (As := [.int ((f 22 v4.toNatClampNeg) / (100 : Int32)), .int v3, .int (((f 22 v4.toNatClampNeg) / (10 : Int32)) - ((f 22 v4.toNatClampNeg) / (10 : Int32)) / (10 : Int32) * (10 : Int32)), .int ((f 22 v4.toNatClampNeg) - (f 22 v4.toNatClampNeg) / (10 : Int32) * (10 : Int32))]) (st := []) (st1 := [.int q4]) (r := some (.int q4)) (f' := f) (g' := g) (tX6_noticed e4) (Nat.le_of_ble_eq_true rfl) cwX6_noticed rfl mnX5_31 sC_2 kX6 rfl rfl rfl (Nat.le_of_ble_eq_true rfl) dX5_doneOn_53 ?_
        refine X.istore_n (i := 3) (L' := [some (.ref 5), some (.ref 2), none, some (.int q4), some (.int v4), some (.int (f 22 v4.toNatClampNeg))]) dX5_doneOn_56 rfl (Nat.le_of_ble_eq_true rfl) rfl ?_
        refine X.iinc (i := 4) (v := (v4 + (1 : Int32))) (L' := [some (.ref 5), some (.ref 2), none, some (.int q4), some (.int (v4 + (1 : Int32))), some (.int (f 22 v4.toNatClampNeg))]) dX5_doneOn_57 rfl rfl (Nat.le_of_ble_eq_true rfl) rfl ?_
        refine X.goto (tgt := 5) dX5_doneOn_60 (by decide) ?_
        exact X.weaken (xle_c (xle_c (xle_n (xle_c (xle_c (xle_n xle_e)))))) (ih h)
def pX5_doneOn (F : Nat) (f : xM) (v2 : Int32) : Option (Int32) := (pX5_doneOn_b5 F f F v2 (0 : Int32))
set_option maxRecDepth 100000 in
set_option maxHeartbeats 4000000 in
theorem tX5_doneOn {F : Nat} {f : xM} {g : xN} {v2 : Int32} {r : Int32} (h : pX5_doneOn F f v2 = some r) : XT mX5_doneOn 3 [.ref 5, .ref 2, .int v2] f g (some (.int r), f, g) := by
  unfold pX5_doneOn at h
  refine XT.of (L := [some (.ref 5), some (.ref 2), some (.int v2), none, none, none]) [some (.ref 5), some (.ref 2), some (.int v2)] rfl (Nat.le_of_ble_eq_true rfl) rfl (xle_c (xle_c (xle_c (xle_z (xle_z (xle_z xle_e)))))) ?_
  refine X.iload_n (i := 2) dX5_doneOn_0 rfl rfl ?_
  refine X.istore_n (i := 3) (L' := [some (.ref 5), some (.ref 2), some (.int v2), some (.int v2), none, none]) dX5_doneOn_1 rfl (Nat.le_of_ble_eq_true rfl) rfl ?_
  refine X.iconst (v := (0 : Int32)) dX5_doneOn_2 (by decide) ?_
  refine X.istore (i := 4) (L' := [some (.ref 5), some (.ref 2), some (.int v2), some (.int v2), some (.int (0 : Int32)), none]) dX5_doneOn_3 (Nat.le_of_ble_eq_true rfl) rfl ?_
  exact X.weaken (xle_c (xle_c (xle_n (xle_c (xle_c (xle_n xle_e)))))) (tX5_doneOn_b5 F h)
def pX11_after (F : Nat) (v1 : Int32) (v2 : Int32) (v3 : Int64) (f : xM) : Option (Int32 × xM) := (Option.bind (pX8_packed F f v1) fun q1 => (if q1 = (-9 : Int32) then some (((-2 : Int32), f)) else (Option.bind (pX5_read F v2 (4 : Int32) v3 f) fun q3 => (if q3.1 = 0 then some (((-2 : Int32), q3.2)) else (Option.bind (pX5_doneOn F q3.2 q1) fun q5 => (Option.bind (pX8_told F q3.2 q5) fun q6 => some ((q6, q3.2))))))))
set_option maxRecDepth 100000 in
set_option maxHeartbeats 4000000 in
theorem tX11_after {F : Nat} {g : xN} {v1 : Int32} {v2 : Int32} {v3 : Int64} {f : xM} {r : Int32 × xM} (h : pX11_after F v1 v2 v3 f = some r) : XT mX11_after 4 [.ref 0, .int v1, .int v2, .long v3] f g (some (.int r.1), r.2, g) := by
  unfold pX11_after at h
  refine XT.of (L := [some (.ref 0), some (.int v1), some (.int v2), some (.long v3), none, none]) [some (.ref 0), some (.int v1), some (.int v2), some (.long v3), none] rfl (Nat.le_of_ble_eq_true rfl) rfl (xle_c (xle_c (xle_c (xle_c (xle_n (xle_z xle_e)))))) ?_
  refine X.aload_n (i := 0) dX11_after_0 rfl rfl ?_
  refine X.getR (k0 := 1) kX11 sC_0 (Nat.le_of_ble_eq_true rfl) rfl lfX11_19 dX11_after_1 ?_
  refine X.getRN (k0 := 0) kX6 sC_2 (Nat.le_of_ble_eq_true rfl) rfl lnX11_110 dX11_after_4 ?_
  refine X.iload_n (i := 1) dX11_after_7 rfl rfl ?_
  obtain ⟨q1, e1, h⟩ := xbind h
  try dsimp only at h
  refine X.callVN (μ' := mX8_packed) (As := [.int v1]) (st := []) (st1 := [.int q1]) (r := some (.int q1)) (f' := f) (g' := g) (tX8_packed e1) (Nat.le_of_ble_eq_true rfl) cwX8_packed rfl mnX11_190 sC_10 kX8 rfl rfl rfl (Nat.le_of_ble_eq_true rfl) dX11_after_8 ?_
  refine X.istore (i := 5) (L' := [some (.ref 0), some (.int v1), some (.int v2), some (.long v3), none, some (.int q1)]) dX11_after_11 (Nat.le_of_ble_eq_true rfl) rfl ?_
  refine X.iload (i := 5) dX11_after_13 rfl ?_
  refine X.bipush (v := (-9 : Int32)) dX11_after_15 (by decide) ?_
  refine X.icmp_eq (tgt := 37) dX11_after_17 (by decide) (fun c2 => ?_) (fun c2 => ?_)
  · rw [if_pos c2] at h
    refine X.bipush (v := (-2 : Int32)) dX11_after_37 (by decide) ?_
    obtain rfl := Option.some.inj h
    exact X.iret dX11_after_39 rfl rfl
  · rw [if_neg c2] at h
    refine X.aload_n (i := 0) dX11_after_20 rfl rfl ?_
    refine X.getR (k0 := 4) kX11 sC_0 (Nat.le_of_ble_eq_true rfl) rfl lfX11_42 dX11_after_21 ?_
    refine X.aload_n (i := 0) dX11_after_24 rfl rfl ?_
    refine X.getR (k0 := 1) kX11 sC_0 (Nat.le_of_ble_eq_true rfl) rfl lfX11_19 dX11_after_25 ?_
    refine X.iload_n (i := 2) dX11_after_28 rfl rfl ?_
    refine X.iconst (v := (4 : Int32)) dX11_after_29 (by decide) ?_
    refine X.lload_n (i := 3) dX11_after_30 rfl rfl ?_
    obtain ⟨q3, e3, h⟩ := xbind h
    try dsimp only at h
    refine X.callVN (μ' := mX5_read) (As := [.ref 2, .int v2, .int (4 : Int32), .long v3]) (st := []) (st1 := [.int q3.1]) (r := some (.int q3.1)) (f' := q3.2) (g' := g) (tX5_read e3) (Nat.le_of_ble_eq_true rfl) cwX5_read rfl mnX11_193 sC_5 kX5 rfl rfl rfl (Nat.le_of_ble_eq_true rfl) dX11_after_31 ?_
    refine X.if_ne (tgt := 40) dX11_after_34 (by decide) (fun c4 => ?_) (fun c4 => ?_)
    · rw [if_neg c4] at h
      refine X.aload_n (i := 0) dX11_after_40 rfl rfl ?_
      refine X.getR (k0 := 1) kX11 sC_0 (Nat.le_of_ble_eq_true rfl) rfl lfX11_19 dX11_after_41 ?_
      refine X.getRN (k0 := 0) kX6 sC_2 (Nat.le_of_ble_eq_true rfl) rfl lnX11_110 dX11_after_44 ?_
      refine X.aload_n (i := 0) dX11_after_47 rfl rfl ?_
      refine X.getR (k0 := 4) kX11 sC_0 (Nat.le_of_ble_eq_true rfl) rfl lfX11_42 dX11_after_48 ?_
      refine X.aload_n (i := 0) dX11_after_51 rfl rfl ?_
      refine X.getR (k0 := 1) kX11 sC_0 (Nat.le_of_ble_eq_true rfl) rfl lfX11_19 dX11_after_52 ?_
      refine X.iload (i := 5) dX11_after_55 rfl ?_
      obtain ⟨q5, e5, h⟩ := xbind h
      try dsimp only at h
      refine X.callVN (μ' := mX5_doneOn) (As := [.ref 2, .int q1]) (st := [.ref 10]) (st1 := [.int q5, .ref 10]) (r := some (.int q5)) (f' := q3.2) (g' := g) (tX5_doneOn e5) (Nat.le_of_ble_eq_true rfl) cwX5_doneOn rfl mnX11_197 sC_5 kX5 rfl rfl rfl (Nat.le_of_ble_eq_true rfl) dX11_after_57 ?_
      obtain ⟨q6, e6, h⟩ := xbind h
      try dsimp only at h
      refine X.callVN (μ' := mX8_told) (As := [.int q5]) (st := []) (st1 := [.int q6]) (r := some (.int q6)) (f' := q3.2) (g' := g) (tX8_told e6) (Nat.le_of_ble_eq_true rfl) cwX8_told rfl mnX11_122 sC_10 kX8 rfl rfl rfl (Nat.le_of_ble_eq_true rfl) dX11_after_60 ?_
      obtain rfl := Option.some.inj h
      exact X.iret dX11_after_63 rfl rfl
    · rw [if_pos c4] at h
      refine X.bipush (v := (-2 : Int32)) dX11_after_37 (by decide) ?_
      obtain rfl := Option.some.inj h
      exact X.iret dX11_after_39 rfl rfl
def pX4_isRighted (F : Nat) (f : xM) (v1 : Int32) : Option (Int32) := (if (pX9_said f) = (f 2 6) then (Option.bind (pX6_believingTruth F f) fun q2 => (if (q2 &&& (((1 : Int32) <<< (v1 &&& 31)) - (1 : Int32))) = (((1 : Int32) <<< (v1 &&& 31)) - (1 : Int32)) then some ((1 : Int32)) else some ((0 : Int32)))) else some ((0 : Int32)))
set_option maxRecDepth 100000 in
set_option maxHeartbeats 4000000 in
theorem tX4_isRighted {F : Nat} {f : xM} {g : xN} {v1 : Int32} {r : Int32} (h : pX4_isRighted F f v1 = some r) : XT mX4_isRighted 2 [.ref 2, .int v1] f g (some (.int r), f, g) := by
  unfold pX4_isRighted at h
  refine XT.of (L := [some (.ref 2), some (.int v1), none]) [some (.ref 2), some (.int v1)] rfl (Nat.le_of_ble_eq_true rfl) rfl (xle_c (xle_c (xle_z xle_e))) ?_
  refine X.iconst (v := (1 : Int32)) dX4_isRighted_0 (by decide) ?_
  refine X.iload_n (i := 1) dX4_isRighted_1 rfl rfl ?_
  refine X.ishl dX4_isRighted_2 ?_
  refine X.iconst (v := (1 : Int32)) dX4_isRighted_3 (by decide) ?_
  refine X.isub dX4_isRighted_4 ?_
  refine X.istore_n (i := 2) (L' := [some (.ref 2), some (.int v1), some (.int (((1 : Int32) <<< (v1 &&& 31)) - (1 : Int32)))]) dX4_isRighted_5 rfl (Nat.le_of_ble_eq_true rfl) rfl ?_
  refine X.aload_n (i := 0) dX4_isRighted_6 rfl rfl ?_
  refine X.getRN (k0 := 1) kX6 sC_2 (Nat.le_of_ble_eq_true rfl) rfl lnX4_30 dX4_isRighted_7 ?_
  refine X.callVN (μ' := mX9_said) (As := []) (st := []) (st1 := [.int (pX9_said f)]) (r := some (.int (pX9_said f))) (f' := f) (g' := g) (tX9_said rfl) (Nat.le_of_ble_eq_true rfl) cwX9_said rfl mnX4_36 sC_11 kX9 rfl rfl rfl (Nat.le_of_ble_eq_true rfl) dX4_isRighted_10 ?_
  refine X.aload_n (i := 0) dX4_isRighted_13 rfl rfl ?_
  refine X.getIN (k0 := 6) kX6 sC_2 (Nat.le_of_ble_eq_true rfl) rfl lnX4_53 dX4_isRighted_14 ?_
  refine X.icmp_ne (tgt := 34) dX4_isRighted_17 (by decide) (fun c1 => ?_) (fun c1 => ?_)
  · rw [if_neg c1] at h
    refine X.iconst (v := (0 : Int32)) dX4_isRighted_34 (by decide) ?_
    obtain rfl := Option.some.inj h
    exact X.zret dX4_isRighted_35 rfl rfl rfl
  · rw [if_pos c1] at h
    refine X.aload_n (i := 0) dX4_isRighted_20 rfl rfl ?_
    obtain ⟨q2, e2, h⟩ := xbind h
    try dsimp only at h
    refine X.callVN (μ' := mX6_believingTruth) (As := []) (st := []) (st1 := [.int q2]) (r := some (.int q2)) (f' := f) (g' := g) (tX6_believingTruth e2) (Nat.le_of_ble_eq_true rfl) cwX6_believingTruth rfl mnX4_56 sC_2 kX6 rfl rfl rfl (Nat.le_of_ble_eq_true rfl) dX4_isRighted_21 ?_
    refine X.iload_n (i := 2) dX4_isRighted_24 rfl rfl ?_
    refine X.iand dX4_isRighted_25 ?_
    refine X.iload_n (i := 2) dX4_isRighted_26 rfl rfl ?_
    refine X.icmp_ne (tgt := 34) dX4_isRighted_27 (by decide) (fun c3 => ?_) (fun c3 => ?_)
    · rw [if_neg c3] at h
      refine X.iconst (v := (0 : Int32)) dX4_isRighted_34 (by decide) ?_
      obtain rfl := Option.some.inj h
      exact X.zret dX4_isRighted_35 rfl rfl rfl
    · rw [if_pos c3] at h
      refine X.iconst (v := (1 : Int32)) dX4_isRighted_30 (by decide) ?_
      refine X.goto (tgt := 35) dX4_isRighted_31 (by decide) ?_
      obtain rfl := Option.some.inj h
      exact X.zret dX4_isRighted_35 rfl rfl rfl
def pX4_readBeliefs_b2 (F : Nat) : Nat → Int32 → Int32 → xM → Option (xM)
  | 0, _, _, _ => none
  | n + 1, v2, v3, f => (if v2 ≤ v3 then some (f) else (if (4 : Int32) ≤ v3 then some (f) else (Option.bind (pX9_beliefOf f v3) fun q3 => (if xin v3 4 then (pX4_readBeliefs_b2 F n v2 (v3 + (1 : Int32)) (xu f 23 v3.toNatClampNeg q3)) else none))))
set_option maxRecDepth 100000 in
set_option maxHeartbeats 4000000 in
theorem tX4_readBeliefs_b2 {F : Nat} {g : xN} : ∀ (n : Nat) {v2 : Int32} {v3 : Int32} {f : xM} {r : xM}, pX4_readBeliefs_b2 F n v2 v3 f = some r → X mX4_readBeliefs 1 (none, r, g) 2 [some (.ref 6), some (.ref 2), some (.int v2), some (.int v3)] [] f g := by
  intro n
  induction n with
  | zero => intro v2 v3 f r h; cases h
  | succ n ih =>
    intro v2 v3 f r h
    rw [pX4_readBeliefs_b2] at h
    refine X.iload_n (i := 3) dX4_readBeliefs_2 rfl rfl ?_
    refine X.iload_n (i := 2) dX4_readBeliefs_3 rfl rfl ?_
    refine X.icmp_ge (tgt := 36) dX4_readBeliefs_4 (by decide) (fun c1 => ?_) (fun c1 => ?_)
    · rw [if_pos c1] at h
      obtain rfl := Option.some.inj h
      exact X.vret dX4_readBeliefs_36 rfl rfl
    · rw [if_neg c1] at h
      refine X.iload_n (i := 3) dX4_readBeliefs_7 rfl rfl ?_
      refine X.aload_n (i := 0) dX4_readBeliefs_8 rfl rfl ?_
      refine X.getR (k0 := 0) kX4 sC_6 (Nat.le_of_ble_eq_true rfl) rfl lfX4_9 dX4_readBeliefs_9 ?_
      refine X.alen (v := (4 : Int32)) sC_23 (by decide) dX4_readBeliefs_12 ?_
      refine X.icmp_ge (tgt := 36) dX4_readBeliefs_13 (by decide) (fun c2 => ?_) (fun c2 => ?_)
      · rw [if_pos c2] at h
        obtain rfl := Option.some.inj h
        exact X.vret dX4_readBeliefs_36 rfl rfl
      · rw [if_neg c2] at h
        refine X.aload_n (i := 0) dX4_readBeliefs_16 rfl rfl ?_
        refine X.getR (k0 := 0) kX4 sC_6 (Nat.le_of_ble_eq_true rfl) rfl lfX4_9 dX4_readBeliefs_17 ?_
        refine X.iload_n (i := 3) dX4_readBeliefs_20 rfl rfl ?_
        refine X.aload_n (i := 1) dX4_readBeliefs_21 rfl rfl ?_
        refine X.getRN (k0 := 1) kX6 sC_2 (Nat.le_of_ble_eq_true rfl) rfl lnX4_30 dX4_readBeliefs_22 ?_
        refine X.iload_n (i := 3) dX4_readBeliefs_25 rfl rfl ?_
        obtain ⟨q3, e3, h⟩ := xbind h
        try dsimp only at h
        refine X.callVN (μ' := mX9_beliefOf) (As := [.int v3]) (st := [.int v3, .ref 23]) (st1 := [.int q3, .int v3, .ref 23]) (r := some (.int q3)) (f' := f) (g' := g) (tX9_beliefOf e3) (Nat.le_of_ble_eq_true rfl) cwX9_beliefOf rfl mnX4_59 sC_11 kX9 rfl rfl rfl (Nat.le_of_ble_eq_true rfl) dX4_readBeliefs_26 ?_
        by_cases c4 : xin v3 4
        rotate_left
        · rw [if_neg c4] at h; cases h
        rw [if_pos c4] at h
        refine X.iast sC_23 c4 dX4_readBeliefs_29 ?_
        refine X.iinc (i := 3) (v := (v3 + (1 : Int32))) (L' := [some (.ref 6), some (.ref 2), some (.int v2), some (.int (v3 + (1 : Int32)))]) dX4_readBeliefs_30 rfl rfl (Nat.le_of_ble_eq_true rfl) rfl ?_
        refine X.goto (tgt := 2) dX4_readBeliefs_33 (by decide) ?_
        exact X.weaken (xle_c (xle_c (xle_c (xle_c xle_e)))) (ih h)
def pX4_readBeliefs (F : Nat) (v2 : Int32) (f : xM) : Option (xM) := (pX4_readBeliefs_b2 F F v2 (0 : Int32) f)
set_option maxRecDepth 100000 in
set_option maxHeartbeats 4000000 in
theorem tX4_readBeliefs {F : Nat} {g : xN} {v2 : Int32} {f : xM} {r : xM} (h : pX4_readBeliefs F v2 f = some r) : XT mX4_readBeliefs 1 [.ref 6, .ref 2, .int v2] f g (none, r, g) := by
  unfold pX4_readBeliefs at h
  refine XT.of (L := [some (.ref 6), some (.ref 2), some (.int v2), none]) [some (.ref 6), some (.ref 2), some (.int v2)] rfl (Nat.le_of_ble_eq_true rfl) rfl (xle_c (xle_c (xle_c (xle_z xle_e)))) ?_
  refine X.iconst (v := (0 : Int32)) dX4_readBeliefs_0 (by decide) ?_
  refine X.istore_n (i := 3) (L' := [some (.ref 6), some (.ref 2), some (.int v2), some (.int (0 : Int32))]) dX4_readBeliefs_1 rfl (Nat.le_of_ble_eq_true rfl) rfl ?_
  exact X.weaken (xle_c (xle_c (xle_c (xle_c xle_e)))) (tX4_readBeliefs_b2 F h)
def pX4_rightsBeliefs_b3 (F : Nat) (f : xM) : Nat → Int32 → Int32 → Int32 → Int32 → Int32 → Int32 → Option (Int32)
  | 0, _, _, _, _, _, _ => none
  | n + 1, v2, v3, v4, v5, v6, v7 => (if v2 ≤ v7 then some ((1 : Int32)) else (if (4 : Int32) ≤ v7 then some ((1 : Int32)) else (if xin v7 4 then (Option.bind (pX6_readsOn f v7 v3) fun q4 => (if q4 = 0 then (if (f 23 v7.toNatClampNeg) = (f 2 6) then (pX4_rightsBeliefs_b3 F f n v2 v3 v4 v5 v6 (v7 + (1 : Int32))) else some ((0 : Int32))) else (if (pX8_noticed f v4 (f 23 v7.toNatClampNeg) v5 v6) = (f 2 6) then (pX4_rightsBeliefs_b3 F f n v2 v3 v4 v5 v6 (v7 + (1 : Int32))) else some ((0 : Int32))))) else none)))
set_option maxRecDepth 100000 in
set_option maxHeartbeats 4000000 in
theorem tX4_rightsBeliefs_b3 {F : Nat} {f : xM} {g : xN} : ∀ (n : Nat) {v2 : Int32} {v3 : Int32} {v4 : Int32} {v5 : Int32} {v6 : Int32} {v7 : Int32} {r : Int32}, pX4_rightsBeliefs_b3 F f n v2 v3 v4 v5 v6 v7 = some r → X mX4_rightsBeliefs 2 (some (.int r), f, g) 3 [some (.ref 6), some (.ref 2), some (.int v2), some (.int v3), some (.int v4), some (.int v5), some (.int v6), some (.int v7), none] [] f g := by
  intro n
  induction n with
  | zero => intro v2 v3 v4 v5 v6 v7 r h; cases h
  | succ n ih =>
    intro v2 v3 v4 v5 v6 v7 r h
    rw [pX4_rightsBeliefs_b3] at h
    refine X.iload (i := 7) dX4_rightsBeliefs_3 rfl ?_
    refine X.iload_n (i := 2) dX4_rightsBeliefs_5 rfl rfl ?_
    refine X.icmp_ge (tgt := 72) dX4_rightsBeliefs_6 (by decide) (fun c1 => ?_) (fun c1 => ?_)
    · rw [if_pos c1] at h
      refine X.iconst (v := (1 : Int32)) dX4_rightsBeliefs_72 (by decide) ?_
      obtain rfl := Option.some.inj h
      exact X.zret dX4_rightsBeliefs_73 rfl rfl rfl
    · rw [if_neg c1] at h
      refine X.iload (i := 7) dX4_rightsBeliefs_9 rfl ?_
      refine X.aload_n (i := 0) dX4_rightsBeliefs_11 rfl rfl ?_
      refine X.getR (k0 := 0) kX4 sC_6 (Nat.le_of_ble_eq_true rfl) rfl lfX4_9 dX4_rightsBeliefs_12 ?_
      refine X.alen (v := (4 : Int32)) sC_23 (by decide) dX4_rightsBeliefs_15 ?_
      refine X.icmp_ge (tgt := 72) dX4_rightsBeliefs_16 (by decide) (fun c2 => ?_) (fun c2 => ?_)
      · rw [if_pos c2] at h
        refine X.iconst (v := (1 : Int32)) dX4_rightsBeliefs_72 (by decide) ?_
        obtain rfl := Option.some.inj h
        exact X.zret dX4_rightsBeliefs_73 rfl rfl rfl
      · rw [if_neg c2] at h
        refine X.aload_n (i := 0) dX4_rightsBeliefs_19 rfl rfl ?_
        refine X.getR (k0 := 0) kX4 sC_6 (Nat.le_of_ble_eq_true rfl) rfl lfX4_9 dX4_rightsBeliefs_20 ?_
        refine X.iload (i := 7) dX4_rightsBeliefs_23 rfl ?_
        by_cases c3 : xin v7 4
        rotate_left
        · rw [if_neg c3] at h; cases h
        rw [if_pos c3] at h
        refine X.iald sC_23 c3 dX4_rightsBeliefs_25 ?_
        refine X.istore (i := 8) (L' := [some (.ref 6), some (.ref 2), some (.int v2), some (.int v3), some (.int v4), some (.int v5), some (.int v6), some (.int v7), some (.int (f 23 v7.toNatClampNeg))]) dX4_rightsBeliefs_26 (Nat.le_of_ble_eq_true rfl) rfl ?_
        refine X.aload_n (i := 1) dX4_rightsBeliefs_28 rfl rfl ?_
        refine X.iload (i := 7) dX4_rightsBeliefs_29 rfl ?_
        refine X.iload_n (i := 3) dX4_rightsBeliefs_31 rfl rfl ?_
        obtain ⟨q4, e4, h⟩ := xbind h
        try dsimp only at h
        refine X.callVN (μ' := mX6_readsOn) (As := [.int v7, .int v3]) (st := []) (st1 := [.int q4]) (r := some (.int q4)) (f' := f) (g' := g) (tX6_readsOn e4) (Nat.le_of_ble_eq_true rfl) cwX6_readsOn rfl mnX4_83 sC_2 kX6 rfl rfl rfl (Nat.le_of_ble_eq_true rfl) dX4_rightsBeliefs_32 ?_
        refine X.if_eq (tgt := 55) dX4_rightsBeliefs_35 (by decide) (fun c5 => ?_) (fun c5 => ?_)
        · rw [if_pos c5] at h
          refine X.iload (i := 8) dX4_rightsBeliefs_55 rfl ?_
          refine X.aload_n (i := 1) dX4_rightsBeliefs_57 rfl rfl ?_
          refine X.getIN (k0 := 6) kX6 sC_2 (Nat.le_of_ble_eq_true rfl) rfl lnX4_53 dX4_rightsBeliefs_58 ?_
          refine X.icmp_eq (tgt := 66) dX4_rightsBeliefs_61 (by decide) (fun c6 => ?_) (fun c6 => ?_)
          · rw [if_pos c6] at h
            refine X.iinc (i := 7) (v := (v7 + (1 : Int32))) (L' := [some (.ref 6), some (.ref 2), some (.int v2), some (.int v3), some (.int v4), some (.int v5), some (.int v6), some (.int (v7 + (1 : Int32))), some (.int (f 23 v7.toNatClampNeg))]) dX4_rightsBeliefs_66 rfl rfl (Nat.le_of_ble_eq_true rfl) rfl ?_
            refine X.goto (tgt := 3) dX4_rightsBeliefs_69 (by decide) ?_
            exact X.weaken (xle_c (xle_c (xle_c (xle_c (xle_c (xle_c (xle_c (xle_c (xle_n xle_e))))))))) (ih h)
          · rw [if_neg c6] at h
            refine X.iconst (v := (0 : Int32)) dX4_rightsBeliefs_64 (by decide) ?_
            obtain rfl := Option.some.inj h
            exact X.zret dX4_rightsBeliefs_65 rfl rfl rfl
        · rw [if_neg c5] at h
          refine X.aload_n (i := 1) dX4_rightsBeliefs_38 rfl rfl ?_
          refine X.getRN (k0 := 0) kX6 sC_2 (Nat.le_of_ble_eq_true rfl) rfl lnX4_66 dX4_rightsBeliefs_39 ?_
          refine X.iload (i := 4) dX4_rightsBeliefs_42 rfl ?_
          refine X.iload (i := 8) dX4_rightsBeliefs_44 rfl ?_
          refine X.iload (i := 5) dX4_rightsBeliefs_46 rfl ?_
          refine X.iload (i := 6) dX4_rightsBeliefs_48 rfl ?_
          refine X.callVN (μ' := mX8_noticed) (As := [.int v4, .int (f 23 v7.toNatClampNeg), .int v5, .int v6]) (st := []) (st1 := [.int (pX8_noticed f v4 (f 23 v7.toNatClampNeg) v5 v6)]) (r := some (.int (pX8_noticed f v4 (f 23 v7.toNatClampNeg) v5 v6))) (f' := f) (g' := g) (tX8_noticed rfl) (Nat.le_of_ble_eq_true rfl) cwX8_noticed rfl mnX4_90 sC_10 kX8 rfl rfl rfl (Nat.le_of_ble_eq_true rfl) dX4_rightsBeliefs_50 ?_
          refine X.istore (i := 8) (L' := [some (.ref 6), some (.ref 2), some (.int v2), some (.int v3), some (.int v4), some (.int v5), some (.int v6), some (.int v7), some (.int (pX8_noticed f v4 (f 23 v7.toNatClampNeg) v5 v6))]) dX4_rightsBeliefs_53 (Nat.le_of_ble_eq_true rfl) rfl ?_
          refine X.iload (i := 8) dX4_rightsBeliefs_55 rfl ?_
          refine X.aload_n (i := 1) dX4_rightsBeliefs_57 rfl rfl ?_
          refine X.getIN (k0 := 6) kX6 sC_2 (Nat.le_of_ble_eq_true rfl) rfl lnX4_53 dX4_rightsBeliefs_58 ?_
          refine X.icmp_eq (tgt := 66) dX4_rightsBeliefs_61 (by decide) (fun c7 => ?_) (fun c7 => ?_)
          · rw [if_pos c7] at h
            refine X.iinc (i := 7) (v := (v7 + (1 : Int32))) (L' := [some (.ref 6), some (.ref 2), some (.int v2), some (.int v3), some (.int v4), some (.int v5), some (.int v6), some (.int (v7 + (1 : Int32))), some (.int (pX8_noticed f v4 (f 23 v7.toNatClampNeg) v5 v6))]) dX4_rightsBeliefs_66 rfl rfl (Nat.le_of_ble_eq_true rfl) rfl ?_
            refine X.goto (tgt := 3) dX4_rightsBeliefs_69 (by decide) ?_
            exact X.weaken (xle_c (xle_c (xle_c (xle_c (xle_c (xle_c (xle_c (xle_c (xle_n xle_e))))))))) (ih h)
          · rw [if_neg c7] at h
            refine X.iconst (v := (0 : Int32)) dX4_rightsBeliefs_64 (by decide) ?_
            obtain rfl := Option.some.inj h
            exact X.zret dX4_rightsBeliefs_65 rfl rfl rfl
def pX4_rightsBeliefs (F : Nat) (f : xM) (v2 : Int32) (v3 : Int32) (v4 : Int32) (v5 : Int32) (v6 : Int32) : Option (Int32) := (pX4_rightsBeliefs_b3 F f F v2 v3 v4 v5 v6 (0 : Int32))
set_option maxRecDepth 100000 in
set_option maxHeartbeats 4000000 in
theorem tX4_rightsBeliefs {F : Nat} {f : xM} {g : xN} {v2 : Int32} {v3 : Int32} {v4 : Int32} {v5 : Int32} {v6 : Int32} {r : Int32} (h : pX4_rightsBeliefs F f v2 v3 v4 v5 v6 = some r) : XT mX4_rightsBeliefs 2 [.ref 6, .ref 2, .int v2, .int v3, .int v4, .int v5, .int v6] f g (some (.int r), f, g) := by
  unfold pX4_rightsBeliefs at h
  refine XT.of (L := [some (.ref 6), some (.ref 2), some (.int v2), some (.int v3), some (.int v4), some (.int v5), some (.int v6), none, none]) [some (.ref 6), some (.ref 2), some (.int v2), some (.int v3), some (.int v4), some (.int v5), some (.int v6)] rfl (Nat.le_of_ble_eq_true rfl) rfl (xle_c (xle_c (xle_c (xle_c (xle_c (xle_c (xle_c (xle_z (xle_z xle_e))))))))) ?_
  refine X.iconst (v := (0 : Int32)) dX4_rightsBeliefs_0 (by decide) ?_
  refine X.istore (i := 7) (L' := [some (.ref 6), some (.ref 2), some (.int v2), some (.int v3), some (.int v4), some (.int v5), some (.int v6), some (.int (0 : Int32)), none]) dX4_rightsBeliefs_1 (Nat.le_of_ble_eq_true rfl) rfl ?_
  exact X.weaken (xle_c (xle_c (xle_c (xle_c (xle_c (xle_c (xle_c (xle_c (xle_n xle_e))))))))) (tX4_rightsBeliefs_b3 F h)
def pX4_lastNotice_b41 (F : Nat) (f : xM) (K3 : Int32 → Int32 → Int32 → Int32 → Option (Int32)) (K26 : Int32 → Int32 → Int32 → Int32 → Int32 → Int32 → Option (Int32)) : Nat → Int32 → Int32 → Int32 → Int32 → Int32 → Int32 → Int32 → Option (Int32)
  | 0, _, _, _, _, _, _, _ => none
  | n + 1, v2, v3, v4, v5, v6, v7, v8 => (if (4 : Int32) ≤ v8 then (K26 v2 v3 v4 v5 v6 (v7 + (1 : Int32))) else (if (pX8_noticed f v6 v2 v7 v8) = (f 2 6) then (Option.bind (pX4_rightsBeliefs F f v3 v4 v6 v7 v8) fun q6 => (if q6 = 0 then (pX4_lastNotice_b41 F f K3 K26 n v2 v3 v4 v5 v6 v7 (v8 + (1 : Int32))) else some (((((100 : Int32) * v5) + ((10 : Int32) * v7)) + v8)))) else (pX4_lastNotice_b41 F f K3 K26 n v2 v3 v4 v5 v6 v7 (v8 + (1 : Int32)))))
set_option maxRecDepth 100000 in
set_option maxHeartbeats 4000000 in
theorem tX4_lastNotice_b41 {F : Nat} {f : xM} {g : xN} {K3 : Int32 → Int32 → Int32 → Int32 → Option (Int32)} (hK3 : ∀ {v2 : Int32} {v3 : Int32} {v4 : Int32} {v5 : Int32} {r : Int32}, K3 v2 v3 v4 v5 = some r → X mX4_lastNotice 3 (some (.int r), f, g) 3 [some (.ref 6), some (.ref 2), some (.int v2), some (.int v3), some (.int v4), some (.int v5), none, none, none] [] f g) {K26 : Int32 → Int32 → Int32 → Int32 → Int32 → Int32 → Option (Int32)} (hK26 : ∀ {v2 : Int32} {v3 : Int32} {v4 : Int32} {v5 : Int32} {v6 : Int32} {v7 : Int32} {r : Int32}, K26 v2 v3 v4 v5 v6 v7 = some r → X mX4_lastNotice 3 (some (.int r), f, g) 26 [some (.ref 6), some (.ref 2), some (.int v2), some (.int v3), some (.int v4), some (.int v5), some (.int v6), some (.int v7), none] [] f g) : ∀ (n : Nat) {v2 : Int32} {v3 : Int32} {v4 : Int32} {v5 : Int32} {v6 : Int32} {v7 : Int32} {v8 : Int32} {r : Int32}, pX4_lastNotice_b41 F f K3 K26 n v2 v3 v4 v5 v6 v7 v8 = some r → X mX4_lastNotice 3 (some (.int r), f, g) 41 [some (.ref 6), some (.ref 2), some (.int v2), some (.int v3), some (.int v4), some (.int v5), some (.int v6), some (.int v7), some (.int v8)] [] f g := by
  intro n
  induction n with
  | zero => intro v2 v3 v4 v5 v6 v7 v8 r h; cases h
  | succ n ih =>
    intro v2 v3 v4 v5 v6 v7 v8 r h
    rw [pX4_lastNotice_b41] at h
    refine X.iload (i := 8) dX4_lastNotice_41 rfl ?_
    refine X.iconst (v := (4 : Int32)) dX4_lastNotice_43 (by decide) ?_
    refine X.icmp_ge (tgt := 106) dX4_lastNotice_44 (by decide) (fun c4 => ?_) (fun c4 => ?_)
    · rw [if_pos c4] at h
      refine X.iinc (i := 7) (v := (v7 + (1 : Int32))) (L' := [some (.ref 6), some (.ref 2), some (.int v2), some (.int v3), some (.int v4), some (.int v5), some (.int v6), some (.int (v7 + (1 : Int32))), some (.int v8)]) dX4_lastNotice_106 rfl rfl (Nat.le_of_ble_eq_true rfl) rfl ?_
      refine X.goto (tgt := 26) dX4_lastNotice_109 (by decide) ?_
      exact X.weaken (xle_c (xle_c (xle_c (xle_c (xle_c (xle_c (xle_c (xle_c (xle_n xle_e))))))))) (hK26 h)
    · rw [if_neg c4] at h
      refine X.aload_n (i := 1) dX4_lastNotice_47 rfl rfl ?_
      refine X.getRN (k0 := 0) kX6 sC_2 (Nat.le_of_ble_eq_true rfl) rfl lnX4_66 dX4_lastNotice_48 ?_
      refine X.iload (i := 6) dX4_lastNotice_51 rfl ?_
      refine X.iload_n (i := 2) dX4_lastNotice_53 rfl rfl ?_
      refine X.iload (i := 7) dX4_lastNotice_54 rfl ?_
      refine X.iload (i := 8) dX4_lastNotice_56 rfl ?_
      refine X.callVN (μ' := mX8_noticed) (As := [.int v6, .int v2, .int v7, .int v8]) (st := []) (st1 := [.int (pX8_noticed f v6 v2 v7 v8)]) (r := some (.int (pX8_noticed f v6 v2 v7 v8))) (f' := f) (g' := g) (tX8_noticed rfl) (Nat.le_of_ble_eq_true rfl) cwX8_noticed rfl mnX4_90 sC_10 kX8 rfl rfl rfl (Nat.le_of_ble_eq_true rfl) dX4_lastNotice_58 ?_
      refine X.aload_n (i := 1) dX4_lastNotice_61 rfl rfl ?_
      refine X.getIN (k0 := 6) kX6 sC_2 (Nat.le_of_ble_eq_true rfl) rfl lnX4_53 dX4_lastNotice_62 ?_
      refine X.icmp_ne (tgt := 100) dX4_lastNotice_65 (by decide) (fun c5 => ?_) (fun c5 => ?_)
      · rw [if_neg c5] at h
        refine X.iinc (i := 8) (v := (v8 + (1 : Int32))) (L' := [some (.ref 6), some (.ref 2), some (.int v2), some (.int v3), some (.int v4), some (.int v5), some (.int v6), some (.int v7), some (.int (v8 + (1 : Int32)))]) dX4_lastNotice_100 rfl rfl (Nat.le_of_ble_eq_true rfl) rfl ?_
        refine X.goto (tgt := 41) dX4_lastNotice_103 (by decide) ?_
        exact X.weaken (xle_c (xle_c (xle_c (xle_c (xle_c (xle_c (xle_c (xle_c (xle_c xle_e))))))))) (ih h)
      · rw [if_pos c5] at h
        refine X.aload_n (i := 0) dX4_lastNotice_68 rfl rfl ?_
        refine X.aload_n (i := 1) dX4_lastNotice_69 rfl rfl ?_
        refine X.iload_n (i := 3) dX4_lastNotice_70 rfl rfl ?_
        refine X.iload (i := 4) dX4_lastNotice_71 rfl ?_
        refine X.iload (i := 6) dX4_lastNotice_73 rfl ?_
        refine X.iload (i := 7) dX4_lastNotice_75 rfl ?_
        refine X.iload (i := 8) dX4_lastNotice_77 rfl ?_
        obtain ⟨q6, e6, h⟩ := xbind h
        try dsimp only at h
        refine X.callV (μ' := mX4_rightsBeliefs) (As := [.ref 2, .int v3, .int v4, .int v6, .int v7, .int v8]) (st := []) (st1 := [.int q6]) (r := some (.int q6)) (f' := f) (g' := g) (tX4_rightsBeliefs e6) (Nat.le_of_ble_eq_true rfl) cwX4_rightsBeliefs rfl mlX4_91 sC_6 kX4 rfl rfl rfl (Nat.le_of_ble_eq_true rfl) dX4_lastNotice_79 ?_
        refine X.if_eq (tgt := 100) dX4_lastNotice_82 (by decide) (fun c7 => ?_) (fun c7 => ?_)
        · rw [if_pos c7] at h
          refine X.iinc (i := 8) (v := (v8 + (1 : Int32))) (L' := [some (.ref 6), some (.ref 2), some (.int v2), some (.int v3), some (.int v4), some (.int v5), some (.int v6), some (.int v7), some (.int (v8 + (1 : Int32)))]) dX4_lastNotice_100 rfl rfl (Nat.le_of_ble_eq_true rfl) rfl ?_
          refine X.goto (tgt := 41) dX4_lastNotice_103 (by decide) ?_
          exact X.weaken (xle_c (xle_c (xle_c (xle_c (xle_c (xle_c (xle_c (xle_c (xle_c xle_e))))))))) (ih h)
        · rw [if_neg c7] at h
          refine X.bipush (v := (100 : Int32)) dX4_lastNotice_85 (by decide) ?_
          refine X.iload (i := 5) dX4_lastNotice_87 rfl ?_
          refine X.imul dX4_lastNotice_89 ?_
          refine X.bipush (v := (10 : Int32)) dX4_lastNotice_90 (by decide) ?_
          refine X.iload (i := 7) dX4_lastNotice_92 rfl ?_
          refine X.imul dX4_lastNotice_94 ?_
          refine X.iadd dX4_lastNotice_95 ?_
          refine X.iload (i := 8) dX4_lastNotice_96 rfl ?_
          refine X.iadd dX4_lastNotice_98 ?_
          obtain rfl := Option.some.inj h
          exact X.iret dX4_lastNotice_99 rfl rfl
def pX4_lastNotice_b26 (F : Nat) (f : xM) (K3 : Int32 → Int32 → Int32 → Int32 → Option (Int32)) : Nat → Int32 → Int32 → Int32 → Int32 → Int32 → Int32 → Option (Int32)
  | 0, _, _, _, _, _, _ => none
  | n + 1, v2, v3, v4, v5, v6, v7 => (if (f 10 0) ≤ v7 then (K3 v2 v3 v4 (v5 + (1 : Int32))) else (pX4_lastNotice_b41 F f K3 (pX4_lastNotice_b26 F f K3 n) F v2 v3 v4 v5 v6 v7 (0 : Int32)))
set_option maxRecDepth 100000 in
set_option maxHeartbeats 4000000 in
theorem tX4_lastNotice_b26 {F : Nat} {f : xM} {g : xN} {K3 : Int32 → Int32 → Int32 → Int32 → Option (Int32)} (hK3 : ∀ {v2 : Int32} {v3 : Int32} {v4 : Int32} {v5 : Int32} {r : Int32}, K3 v2 v3 v4 v5 = some r → X mX4_lastNotice 3 (some (.int r), f, g) 3 [some (.ref 6), some (.ref 2), some (.int v2), some (.int v3), some (.int v4), some (.int v5), none, none, none] [] f g) : ∀ (n : Nat) {v2 : Int32} {v3 : Int32} {v4 : Int32} {v5 : Int32} {v6 : Int32} {v7 : Int32} {r : Int32}, pX4_lastNotice_b26 F f K3 n v2 v3 v4 v5 v6 v7 = some r → X mX4_lastNotice 3 (some (.int r), f, g) 26 [some (.ref 6), some (.ref 2), some (.int v2), some (.int v3), some (.int v4), some (.int v5), some (.int v6), some (.int v7), none] [] f g := by
  intro n
  induction n with
  | zero => intro v2 v3 v4 v5 v6 v7 r h; cases h
  | succ n ih =>
    intro v2 v3 v4 v5 v6 v7 r h
    rw [pX4_lastNotice_b26] at h
    refine X.iload (i := 7) dX4_lastNotice_26 rfl ?_
    refine X.aload_n (i := 1) dX4_lastNotice_28 rfl rfl ?_
    refine X.getRN (k0 := 0) kX6 sC_2 (Nat.le_of_ble_eq_true rfl) rfl lnX4_66 dX4_lastNotice_29 ?_
    refine X.getIN (k0 := 0) kX8 sC_10 (Nat.le_of_ble_eq_true rfl) rfl lnX4_70 dX4_lastNotice_32 ?_
    refine X.icmp_ge (tgt := 112) dX4_lastNotice_35 (by decide) (fun c3 => ?_) (fun c3 => ?_)
    · rw [if_pos c3] at h
      refine X.iinc (i := 5) (v := (v5 + (1 : Int32))) (L' := [some (.ref 6), some (.ref 2), some (.int v2), some (.int v3), some (.int v4), some (.int (v5 + (1 : Int32))), some (.int v6), some (.int v7), none]) dX4_lastNotice_112 rfl rfl (Nat.le_of_ble_eq_true rfl) rfl ?_
      refine X.goto (tgt := 3) dX4_lastNotice_115 (by decide) ?_
      exact X.weaken (xle_c (xle_c (xle_c (xle_c (xle_c (xle_c (xle_n (xle_n (xle_n xle_e))))))))) (hK3 h)
    · rw [if_neg c3] at h
      refine X.iconst (v := (0 : Int32)) dX4_lastNotice_38 (by decide) ?_
      refine X.istore (i := 8) (L' := [some (.ref 6), some (.ref 2), some (.int v2), some (.int v3), some (.int v4), some (.int v5), some (.int v6), some (.int v7), some (.int (0 : Int32))]) dX4_lastNotice_39 (Nat.le_of_ble_eq_true rfl) rfl ?_
      exact X.weaken (xle_c (xle_c (xle_c (xle_c (xle_c (xle_c (xle_c (xle_c (xle_c xle_e))))))))) (tX4_lastNotice_b41 hK3 ih F h)
def pX4_lastNotice_b3 (F : Nat) (f : xM) : Nat → Int32 → Int32 → Int32 → Int32 → Option (Int32)
  | 0, _, _, _, _ => none
  | n + 1, v2, v3, v4, v5 => (if (f 2 4) ≤ v5 then some ((-9 : Int32)) else (Option.bind (pX9_kindOf f v5) fun q2 => (pX4_lastNotice_b26 F f (pX4_lastNotice_b3 F f n) F v2 v3 v4 v5 q2 (0 : Int32))))
set_option maxRecDepth 100000 in
set_option maxHeartbeats 4000000 in
theorem tX4_lastNotice_b3 {F : Nat} {f : xM} {g : xN} : ∀ (n : Nat) {v2 : Int32} {v3 : Int32} {v4 : Int32} {v5 : Int32} {r : Int32}, pX4_lastNotice_b3 F f n v2 v3 v4 v5 = some r → X mX4_lastNotice 3 (some (.int r), f, g) 3 [some (.ref 6), some (.ref 2), some (.int v2), some (.int v3), some (.int v4), some (.int v5), none, none, none] [] f g := by
  intro n
  induction n with
  | zero => intro v2 v3 v4 v5 r h; cases h
  | succ n ih =>
    intro v2 v3 v4 v5 r h
    rw [pX4_lastNotice_b3] at h
    refine X.iload (i := 5) dX4_lastNotice_3 rfl ?_
    refine X.aload_n (i := 1) dX4_lastNotice_5 rfl rfl ?_
    refine X.getIN (k0 := 4) kX6 sC_2 (Nat.le_of_ble_eq_true rfl) rfl lnX4_63 dX4_lastNotice_6 ?_
    refine X.icmp_ge (tgt := 118) dX4_lastNotice_9 (by decide) (fun c1 => ?_) (fun c1 => ?_)
    · rw [if_pos c1] at h
      refine X.bipush (v := (-9 : Int32)) dX4_lastNotice_118 (by decide) ?_
      obtain rfl := Option.some.inj h
      exact X.iret dX4_lastNotice_120 rfl rfl
    · rw [if_neg c1] at h
      refine X.aload_n (i := 1) dX4_lastNotice_12 rfl rfl ?_
      refine X.getRN (k0 := 1) kX6 sC_2 (Nat.le_of_ble_eq_true rfl) rfl lnX4_30 dX4_lastNotice_13 ?_
      refine X.iload (i := 5) dX4_lastNotice_16 rfl ?_
      obtain ⟨q2, e2, h⟩ := xbind h
      try dsimp only at h
      refine X.callVN (μ' := mX9_kindOf) (As := [.int v5]) (st := []) (st1 := [.int q2]) (r := some (.int q2)) (f' := f) (g' := g) (tX9_kindOf e2) (Nat.le_of_ble_eq_true rfl) cwX9_kindOf rfl mnX4_87 sC_11 kX9 rfl rfl rfl (Nat.le_of_ble_eq_true rfl) dX4_lastNotice_18 ?_
      refine X.istore (i := 6) (L' := [some (.ref 6), some (.ref 2), some (.int v2), some (.int v3), some (.int v4), some (.int v5), some (.int q2), none, none]) dX4_lastNotice_21 (Nat.le_of_ble_eq_true rfl) rfl ?_
      refine X.iconst (v := (0 : Int32)) dX4_lastNotice_23 (by decide) ?_
      refine X.istore (i := 7) (L' := [some (.ref 6), some (.ref 2), some (.int v2), some (.int v3), some (.int v4), some (.int v5), some (.int q2), some (.int (0 : Int32)), none]) dX4_lastNotice_24 (Nat.le_of_ble_eq_true rfl) rfl ?_
      exact X.weaken (xle_c (xle_c (xle_c (xle_c (xle_c (xle_c (xle_c (xle_c (xle_n xle_e))))))))) (tX4_lastNotice_b26 ih F h)
def pX4_lastNotice (F : Nat) (f : xM) (v2 : Int32) (v3 : Int32) (v4 : Int32) : Option (Int32) := (pX4_lastNotice_b3 F f F v2 v3 v4 (0 : Int32))
set_option maxRecDepth 100000 in
set_option maxHeartbeats 4000000 in
theorem tX4_lastNotice {F : Nat} {f : xM} {g : xN} {v2 : Int32} {v3 : Int32} {v4 : Int32} {r : Int32} (h : pX4_lastNotice F f v2 v3 v4 = some r) : XT mX4_lastNotice 3 [.ref 6, .ref 2, .int v2, .int v3, .int v4] f g (some (.int r), f, g) := by
  unfold pX4_lastNotice at h
  refine XT.of (L := [some (.ref 6), some (.ref 2), some (.int v2), some (.int v3), some (.int v4), none, none, none, none]) [some (.ref 6), some (.ref 2), some (.int v2), some (.int v3), some (.int v4)] rfl (Nat.le_of_ble_eq_true rfl) rfl (xle_c (xle_c (xle_c (xle_c (xle_c (xle_z (xle_z (xle_z (xle_z xle_e))))))))) ?_
  refine X.iconst (v := (0 : Int32)) dX4_lastNotice_0 (by decide) ?_
  refine X.istore (i := 5) (L' := [some (.ref 6), some (.ref 2), some (.int v2), some (.int v3), some (.int v4), some (.int (0 : Int32)), none, none, none]) dX4_lastNotice_1 (Nat.le_of_ble_eq_true rfl) rfl ?_
  exact X.weaken (xle_c (xle_c (xle_c (xle_c (xle_c (xle_c (xle_n (xle_n (xle_n xle_e))))))))) (tX4_lastNotice_b3 F h)
def pX4_readAhead_b3 (F : Nat) : Nat → Int32 → Int32 → Int32 → Int32 → Int32 → xM → Option (xM)
  | 0, _, _, _, _, _, _ => none
  | n + 1, v2, v3, v4, v5, v6, f => (if v2 ≤ v6 then some (f) else (if (4 : Int32) ≤ v6 then some (f) else (Option.bind (pX9_beliefOf f v6) fun q3 => (Option.bind (pX6_readsOn f v6 (pX9_day f)) fun q4 => (if q4 = 0 then (if xin v6 4 then (pX4_readAhead_b3 F n v2 v3 v4 v5 (v6 + (1 : Int32)) (xu f 23 v6.toNatClampNeg q3)) else none) else (Option.bind (pX6_noticed f v3 q3 v4 v5) fun q7 => (if xin v6 4 then (pX4_readAhead_b3 F n v2 v3 v4 v5 (v6 + (1 : Int32)) (xu f 23 v6.toNatClampNeg q7)) else none)))))))
set_option maxRecDepth 100000 in
set_option maxHeartbeats 4000000 in
theorem tX4_readAhead_b3 {F : Nat} {g : xN} : ∀ (n : Nat) {v2 : Int32} {v3 : Int32} {v4 : Int32} {v5 : Int32} {v6 : Int32} {f : xM} {r : xM}, pX4_readAhead_b3 F n v2 v3 v4 v5 v6 f = some r → X mX4_readAhead 3 (none, r, g) 3 [some (.ref 6), some (.ref 2), some (.int v2), some (.int v3), some (.int v4), some (.int v5), some (.int v6), none] [] f g := by
  intro n
  induction n with
  | zero => intro v2 v3 v4 v5 v6 f r h; cases h
  | succ n ih =>
    intro v2 v3 v4 v5 v6 f r h
    rw [pX4_readAhead_b3] at h
    refine X.iload (i := 6) dX4_readAhead_3 rfl ?_
    refine X.iload_n (i := 2) dX4_readAhead_5 rfl rfl ?_
    refine X.icmp_ge (tgt := 75) dX4_readAhead_6 (by decide) (fun c1 => ?_) (fun c1 => ?_)
    · rw [if_pos c1] at h
      obtain rfl := Option.some.inj h
      exact X.vret dX4_readAhead_75 rfl rfl
    · rw [if_neg c1] at h
      refine X.iload (i := 6) dX4_readAhead_9 rfl ?_
      refine X.aload_n (i := 0) dX4_readAhead_11 rfl rfl ?_
      refine X.getR (k0 := 0) kX4 sC_6 (Nat.le_of_ble_eq_true rfl) rfl lfX4_9 dX4_readAhead_12 ?_
      refine X.alen (v := (4 : Int32)) sC_23 (by decide) dX4_readAhead_15 ?_
      refine X.icmp_ge (tgt := 75) dX4_readAhead_16 (by decide) (fun c2 => ?_) (fun c2 => ?_)
      · rw [if_pos c2] at h
        obtain rfl := Option.some.inj h
        exact X.vret dX4_readAhead_75 rfl rfl
      · rw [if_neg c2] at h
        refine X.aload_n (i := 1) dX4_readAhead_19 rfl rfl ?_
        refine X.getRN (k0 := 1) kX6 sC_2 (Nat.le_of_ble_eq_true rfl) rfl lnX4_30 dX4_readAhead_20 ?_
        refine X.iload (i := 6) dX4_readAhead_23 rfl ?_
        obtain ⟨q3, e3, h⟩ := xbind h
        try dsimp only at h
        refine X.callVN (μ' := mX9_beliefOf) (As := [.int v6]) (st := []) (st1 := [.int q3]) (r := some (.int q3)) (f' := f) (g' := g) (tX9_beliefOf e3) (Nat.le_of_ble_eq_true rfl) cwX9_beliefOf rfl mnX4_59 sC_11 kX9 rfl rfl rfl (Nat.le_of_ble_eq_true rfl) dX4_readAhead_25 ?_
        refine X.istore (i := 7) (L' := [some (.ref 6), some (.ref 2), some (.int v2), some (.int v3), some (.int v4), some (.int v5), some (.int v6), some (.int q3)]) dX4_readAhead_28 (Nat.le_of_ble_eq_true rfl) rfl ?_
        refine X.aload_n (i := 0) dX4_readAhead_30 rfl rfl ?_
        refine X.getR (k0 := 0) kX4 sC_6 (Nat.le_of_ble_eq_true rfl) rfl lfX4_9 dX4_readAhead_31 ?_
        refine X.iload (i := 6) dX4_readAhead_34 rfl ?_
        refine X.aload_n (i := 1) dX4_readAhead_36 rfl rfl ?_
        refine X.iload (i := 6) dX4_readAhead_37 rfl ?_
        refine X.aload_n (i := 1) dX4_readAhead_39 rfl rfl ?_
        refine X.getRN (k0 := 1) kX6 sC_2 (Nat.le_of_ble_eq_true rfl) rfl lnX4_30 dX4_readAhead_40 ?_
        refine X.callVN (μ' := mX9_day) (As := []) (st := [.int v6, .ref 2, .int v6, .ref 23]) (st1 := [.int (pX9_day f), .int v6, .ref 2, .int v6, .ref 23]) (r := some (.int (pX9_day f))) (f' := f) (g' := g) (tX9_day rfl) (Nat.le_of_ble_eq_true rfl) cwX9_day rfl mnX4_42 sC_11 kX9 rfl rfl rfl (Nat.le_of_ble_eq_true rfl) dX4_readAhead_43 ?_
        obtain ⟨q4, e4, h⟩ := xbind h
        try dsimp only at h
        refine X.callVN (μ' := mX6_readsOn) (As := [.int v6, .int (pX9_day f)]) (st := [.int v6, .ref 23]) (st1 := [.int q4, .int v6, .ref 23]) (r := some (.int q4)) (f' := f) (g' := g) (tX6_readsOn e4) (Nat.le_of_ble_eq_true rfl) cwX6_readsOn rfl mnX4_83 sC_2 kX6 rfl rfl rfl (Nat.le_of_ble_eq_true rfl) dX4_readAhead_46 ?_
        refine X.if_eq (tgt := 66) dX4_readAhead_49 (by decide) (fun c5 => ?_) (fun c5 => ?_)
        · rw [if_pos c5] at h
          refine X.iload (i := 7) dX4_readAhead_66 rfl ?_
          by_cases c6 : xin v6 4
          rotate_left
          · rw [if_neg c6] at h; cases h
          rw [if_pos c6] at h
          refine X.iast sC_23 c6 dX4_readAhead_68 ?_
          refine X.iinc (i := 6) (v := (v6 + (1 : Int32))) (L' := [some (.ref 6), some (.ref 2), some (.int v2), some (.int v3), some (.int v4), some (.int v5), some (.int (v6 + (1 : Int32))), some (.int q3)]) dX4_readAhead_69 rfl rfl (Nat.le_of_ble_eq_true rfl) rfl ?_
          refine X.goto (tgt := 3) dX4_readAhead_72 (by decide) ?_
          exact X.weaken (xle_c (xle_c (xle_c (xle_c (xle_c (xle_c (xle_c (xle_n xle_e)))))))) (ih h)
        · rw [if_neg c5] at h
          refine X.aload_n (i := 1) dX4_readAhead_52 rfl rfl ?_
          refine X.iload_n (i := 3) dX4_readAhead_53 rfl rfl ?_
          refine X.iload (i := 7) dX4_readAhead_54 rfl ?_
          refine X.iload (i := 4) dX4_readAhead_56 rfl ?_
          refine X.iload (i := 5) dX4_readAhead_58 rfl ?_
          obtain ⟨q7, e7, h⟩ := xbind h
          try dsimp only at h
          refine X.callVN (μ' := mX6_noticed) (As := [.int v3, .int q3, .int v4, .int v5]) (st := [.int v6, .ref 23]) (st1 := [.int q7, .int v6, .ref 23]) (r := some (.int q7)) (f' := f) (g' := g) (tX6_noticed e7) (Nat.le_of_ble_eq_true rfl) cwX6_noticed rfl mnX4_79 sC_2 kX6 rfl rfl rfl (Nat.le_of_ble_eq_true rfl) dX4_readAhead_60 ?_
          refine X.goto (tgt := 68) dX4_readAhead_63 (by decide) ?_
          by_cases c8 : xin v6 4
          rotate_left
          · rw [if_neg c8] at h; cases h
          rw [if_pos c8] at h
          refine X.iast sC_23 c8 dX4_readAhead_68 ?_
          refine X.iinc (i := 6) (v := (v6 + (1 : Int32))) (L' := [some (.ref 6), some (.ref 2), some (.int v2), some (.int v3), some (.int v4), some (.int v5), some (.int (v6 + (1 : Int32))), some (.int q3)]) dX4_readAhead_69 rfl rfl (Nat.le_of_ble_eq_true rfl) rfl ?_
          refine X.goto (tgt := 3) dX4_readAhead_72 (by decide) ?_
          exact X.weaken (xle_c (xle_c (xle_c (xle_c (xle_c (xle_c (xle_c (xle_n xle_e)))))))) (ih h)
def pX4_readAhead (F : Nat) (v2 : Int32) (v3 : Int32) (v4 : Int32) (v5 : Int32) (f : xM) : Option (xM) := (pX4_readAhead_b3 F F v2 v3 v4 v5 (0 : Int32) f)
set_option maxRecDepth 100000 in
set_option maxHeartbeats 4000000 in
theorem tX4_readAhead {F : Nat} {g : xN} {v2 : Int32} {v3 : Int32} {v4 : Int32} {v5 : Int32} {f : xM} {r : xM} (h : pX4_readAhead F v2 v3 v4 v5 f = some r) : XT mX4_readAhead 3 [.ref 6, .ref 2, .int v2, .int v3, .int v4, .int v5] f g (none, r, g) := by
  unfold pX4_readAhead at h
  refine XT.of (L := [some (.ref 6), some (.ref 2), some (.int v2), some (.int v3), some (.int v4), some (.int v5), none, none]) [some (.ref 6), some (.ref 2), some (.int v2), some (.int v3), some (.int v4), some (.int v5)] rfl (Nat.le_of_ble_eq_true rfl) rfl (xle_c (xle_c (xle_c (xle_c (xle_c (xle_c (xle_z (xle_z xle_e)))))))) ?_
  refine X.iconst (v := (0 : Int32)) dX4_readAhead_0 (by decide) ?_
  refine X.istore (i := 6) (L' := [some (.ref 6), some (.ref 2), some (.int v2), some (.int v3), some (.int v4), some (.int v5), some (.int (0 : Int32)), none]) dX4_readAhead_1 (Nat.le_of_ble_eq_true rfl) rfl ?_
  exact X.weaken (xle_c (xle_c (xle_c (xle_c (xle_c (xle_c (xle_c (xle_n xle_e)))))))) (tX4_readAhead_b3 F h)
def pX4_twoNotices_b38 (F : Nat) (K11 : Int32 → Int32 → Int32 → xM → Option (Int32 × xM)) (K23 : Int32 → Int32 → Int32 → Int32 → xM → Option (Int32 × xM)) : Nat → Int32 → Int32 → Int32 → Int32 → Int32 → xM → Option (Int32 × xM)
  | 0, _, _, _, _, _, _ => none
  | n + 1, v2, v3, v4, v5, v6, f => (if (4 : Int32) ≤ v6 then (K23 v2 v3 v4 (v5 + (1 : Int32)) f) else (Option.bind (pX4_readAhead F v2 v4 v5 v6 f) fun q4 => (Option.bind (pX6_noticed q4 v4 (pX9_said q4) v5 v6) fun q5 => (Option.bind (pX4_lastNotice F q4 q5 v2 (v3 + (1 : Int32))) fun q6 => (if q6 = (-9 : Int32) then (pX4_twoNotices_b38 F K11 K23 n v2 v3 v4 v5 (v6 + (1 : Int32)) q4) else some ((((((((100 : Int32) * v4) + ((10 : Int32) * v5)) + v6) * (1000 : Int32)) + q6), q4)))))))
set_option maxRecDepth 100000 in
set_option maxHeartbeats 4000000 in
theorem tX4_twoNotices_b38 {F : Nat} {g : xN} {K11 : Int32 → Int32 → Int32 → xM → Option (Int32 × xM)} (hK11 : ∀ {v2 : Int32} {v3 : Int32} {v4 : Int32} {f : xM} {r : Int32 × xM}, K11 v2 v3 v4 f = some r → X mX4_twoNotices 4 (some (.int r.1), r.2, g) 11 [some (.ref 6), some (.ref 2), some (.int v2), some (.int v3), some (.int v4), none, none, none] [] f g) {K23 : Int32 → Int32 → Int32 → Int32 → xM → Option (Int32 × xM)} (hK23 : ∀ {v2 : Int32} {v3 : Int32} {v4 : Int32} {v5 : Int32} {f : xM} {r : Int32 × xM}, K23 v2 v3 v4 v5 f = some r → X mX4_twoNotices 4 (some (.int r.1), r.2, g) 23 [some (.ref 6), some (.ref 2), some (.int v2), some (.int v3), some (.int v4), some (.int v5), none, none] [] f g) : ∀ (n : Nat) {v2 : Int32} {v3 : Int32} {v4 : Int32} {v5 : Int32} {v6 : Int32} {f : xM} {r : Int32 × xM}, pX4_twoNotices_b38 F K11 K23 n v2 v3 v4 v5 v6 f = some r → X mX4_twoNotices 4 (some (.int r.1), r.2, g) 38 [some (.ref 6), some (.ref 2), some (.int v2), some (.int v3), some (.int v4), some (.int v5), some (.int v6), none] [] f g := by
  intro n
  induction n with
  | zero => intro v2 v3 v4 v5 v6 f r h; cases h
  | succ n ih =>
    intro v2 v3 v4 v5 v6 f r h
    rw [pX4_twoNotices_b38] at h
    refine X.iload (i := 6) dX4_twoNotices_38 rfl ?_
    refine X.iconst (v := (4 : Int32)) dX4_twoNotices_40 (by decide) ?_
    refine X.icmp_ge (tgt := 119) dX4_twoNotices_41 (by decide) (fun c3 => ?_) (fun c3 => ?_)
    · rw [if_pos c3] at h
      refine X.iinc (i := 5) (v := (v5 + (1 : Int32))) (L' := [some (.ref 6), some (.ref 2), some (.int v2), some (.int v3), some (.int v4), some (.int (v5 + (1 : Int32))), some (.int v6), none]) dX4_twoNotices_119 rfl rfl (Nat.le_of_ble_eq_true rfl) rfl ?_
      refine X.goto (tgt := 23) dX4_twoNotices_122 (by decide) ?_
      exact X.weaken (xle_c (xle_c (xle_c (xle_c (xle_c (xle_c (xle_n (xle_n xle_e)))))))) (hK23 h)
    · rw [if_neg c3] at h
      refine X.aload_n (i := 0) dX4_twoNotices_44 rfl rfl ?_
      refine X.aload_n (i := 1) dX4_twoNotices_45 rfl rfl ?_
      refine X.iload_n (i := 2) dX4_twoNotices_46 rfl rfl ?_
      refine X.iload (i := 4) dX4_twoNotices_47 rfl ?_
      refine X.iload (i := 5) dX4_twoNotices_49 rfl ?_
      refine X.iload (i := 6) dX4_twoNotices_51 rfl ?_
      obtain ⟨q4, e4, h⟩ := xbind h
      try dsimp only at h
      refine X.callV (μ' := mX4_readAhead) (As := [.ref 2, .int v2, .int v4, .int v5, .int v6]) (st := []) (st1 := []) (r := none) (f' := q4) (g' := g) (tX4_readAhead e4) (Nat.le_of_ble_eq_true rfl) cwX4_readAhead rfl mlX4_75 sC_6 kX4 rfl rfl rfl (Nat.le_of_ble_eq_true rfl) dX4_twoNotices_53 ?_
      refine X.aload_n (i := 0) dX4_twoNotices_56 rfl rfl ?_
      refine X.aload_n (i := 1) dX4_twoNotices_57 rfl rfl ?_
      refine X.aload_n (i := 1) dX4_twoNotices_58 rfl rfl ?_
      refine X.iload (i := 4) dX4_twoNotices_59 rfl ?_
      refine X.aload_n (i := 1) dX4_twoNotices_61 rfl rfl ?_
      refine X.getRN (k0 := 1) kX6 sC_2 (Nat.le_of_ble_eq_true rfl) rfl lnX4_30 dX4_twoNotices_62 ?_
      refine X.callVN (μ' := mX9_said) (As := []) (st := [.int v4, .ref 2, .ref 2, .ref 6]) (st1 := [.int (pX9_said q4), .int v4, .ref 2, .ref 2, .ref 6]) (r := some (.int (pX9_said q4))) (f' := q4) (g' := g) (tX9_said rfl) (Nat.le_of_ble_eq_true rfl) cwX9_said rfl mnX4_36 sC_11 kX9 rfl rfl rfl (Nat.le_of_ble_eq_true rfl) dX4_twoNotices_65 ?_
      refine X.iload (i := 5) dX4_twoNotices_68 rfl ?_
      refine X.iload (i := 6) dX4_twoNotices_70 rfl ?_
      obtain ⟨q5, e5, h⟩ := xbind h
      try dsimp only at h
      refine X.callVN (μ' := mX6_noticed) (As := [.int v4, .int (pX9_said q4), .int v5, .int v6]) (st := [.ref 2, .ref 6]) (st1 := [.int q5, .ref 2, .ref 6]) (r := some (.int q5)) (f' := q4) (g' := g) (tX6_noticed e5) (Nat.le_of_ble_eq_true rfl) cwX6_noticed rfl mnX4_79 sC_2 kX6 rfl rfl rfl (Nat.le_of_ble_eq_true rfl) dX4_twoNotices_72 ?_
      refine X.iload_n (i := 2) dX4_twoNotices_75 rfl rfl ?_
      refine X.iload_n (i := 3) dX4_twoNotices_76 rfl rfl ?_
      refine X.iconst (v := (1 : Int32)) dX4_twoNotices_77 (by decide) ?_
      refine X.iadd dX4_twoNotices_78 ?_
      obtain ⟨q6, e6, h⟩ := xbind h
      try dsimp only at h
      refine X.callV (μ' := mX4_lastNotice) (As := [.ref 2, .int q5, .int v2, .int (v3 + (1 : Int32))]) (st := []) (st1 := [.int q6]) (r := some (.int q6)) (f' := q4) (g' := g) (tX4_lastNotice e6) (Nat.le_of_ble_eq_true rfl) cwX4_lastNotice rfl mlX4_45 sC_6 kX4 rfl rfl rfl (Nat.le_of_ble_eq_true rfl) dX4_twoNotices_79 ?_
      refine X.istore (i := 7) (L' := [some (.ref 6), some (.ref 2), some (.int v2), some (.int v3), some (.int v4), some (.int v5), some (.int v6), some (.int q6)]) dX4_twoNotices_82 (Nat.le_of_ble_eq_true rfl) rfl ?_
      refine X.iload (i := 7) dX4_twoNotices_84 rfl ?_
      refine X.bipush (v := (-9 : Int32)) dX4_twoNotices_86 (by decide) ?_
      refine X.icmp_eq (tgt := 113) dX4_twoNotices_88 (by decide) (fun c7 => ?_) (fun c7 => ?_)
      · rw [if_pos c7] at h
        refine X.iinc (i := 6) (v := (v6 + (1 : Int32))) (L' := [some (.ref 6), some (.ref 2), some (.int v2), some (.int v3), some (.int v4), some (.int v5), some (.int (v6 + (1 : Int32))), some (.int q6)]) dX4_twoNotices_113 rfl rfl (Nat.le_of_ble_eq_true rfl) rfl ?_
        refine X.goto (tgt := 38) dX4_twoNotices_116 (by decide) ?_
        exact X.weaken (xle_c (xle_c (xle_c (xle_c (xle_c (xle_c (xle_c (xle_n xle_e)))))))) (ih h)
      · rw [if_neg c7] at h
        refine X.bipush (v := (100 : Int32)) dX4_twoNotices_91 (by decide) ?_
        refine X.iload (i := 4) dX4_twoNotices_93 rfl ?_
        refine X.imul dX4_twoNotices_95 ?_
        refine X.bipush (v := (10 : Int32)) dX4_twoNotices_96 (by decide) ?_
        refine X.iload (i := 5) dX4_twoNotices_98 rfl ?_
        refine X.imul dX4_twoNotices_100 ?_
        refine X.iadd dX4_twoNotices_101 ?_
        refine X.iload (i := 6) dX4_twoNotices_102 rfl ?_
        refine X.iadd dX4_twoNotices_104 ?_
        refine X.sipush (v := (1000 : Int32)) dX4_twoNotices_105 (by decide) ?_
        refine X.imul dX4_twoNotices_108 ?_
        refine X.iload (i := 7) dX4_twoNotices_109 rfl ?_
        refine X.iadd dX4_twoNotices_111 ?_
        obtain rfl := Option.some.inj h
        exact X.iret dX4_twoNotices_112 rfl rfl
def pX4_twoNotices_b23 (F : Nat) (K11 : Int32 → Int32 → Int32 → xM → Option (Int32 × xM)) : Nat → Int32 → Int32 → Int32 → Int32 → xM → Option (Int32 × xM)
  | 0, _, _, _, _, _ => none
  | n + 1, v2, v3, v4, v5, f => (if (f 10 0) ≤ v5 then (K11 v2 v3 (v4 + (1 : Int32)) f) else (pX4_twoNotices_b38 F K11 (pX4_twoNotices_b23 F K11 n) F v2 v3 v4 v5 (0 : Int32) f))
set_option maxRecDepth 100000 in
set_option maxHeartbeats 4000000 in
theorem tX4_twoNotices_b23 {F : Nat} {g : xN} {K11 : Int32 → Int32 → Int32 → xM → Option (Int32 × xM)} (hK11 : ∀ {v2 : Int32} {v3 : Int32} {v4 : Int32} {f : xM} {r : Int32 × xM}, K11 v2 v3 v4 f = some r → X mX4_twoNotices 4 (some (.int r.1), r.2, g) 11 [some (.ref 6), some (.ref 2), some (.int v2), some (.int v3), some (.int v4), none, none, none] [] f g) : ∀ (n : Nat) {v2 : Int32} {v3 : Int32} {v4 : Int32} {v5 : Int32} {f : xM} {r : Int32 × xM}, pX4_twoNotices_b23 F K11 n v2 v3 v4 v5 f = some r → X mX4_twoNotices 4 (some (.int r.1), r.2, g) 23 [some (.ref 6), some (.ref 2), some (.int v2), some (.int v3), some (.int v4), some (.int v5), none, none] [] f g := by
  intro n
  induction n with
  | zero => intro v2 v3 v4 v5 f r h; cases h
  | succ n ih =>
    intro v2 v3 v4 v5 f r h
    rw [pX4_twoNotices_b23] at h
    refine X.iload (i := 5) dX4_twoNotices_23 rfl ?_
    refine X.aload_n (i := 1) dX4_twoNotices_25 rfl rfl ?_
    refine X.getRN (k0 := 0) kX6 sC_2 (Nat.le_of_ble_eq_true rfl) rfl lnX4_66 dX4_twoNotices_26 ?_
    refine X.getIN (k0 := 0) kX8 sC_10 (Nat.le_of_ble_eq_true rfl) rfl lnX4_70 dX4_twoNotices_29 ?_
    refine X.icmp_ge (tgt := 125) dX4_twoNotices_32 (by decide) (fun c2 => ?_) (fun c2 => ?_)
    · rw [if_pos c2] at h
      refine X.iinc (i := 4) (v := (v4 + (1 : Int32))) (L' := [some (.ref 6), some (.ref 2), some (.int v2), some (.int v3), some (.int (v4 + (1 : Int32))), some (.int v5), none, none]) dX4_twoNotices_125 rfl rfl (Nat.le_of_ble_eq_true rfl) rfl ?_
      refine X.goto (tgt := 11) dX4_twoNotices_128 (by decide) ?_
      exact X.weaken (xle_c (xle_c (xle_c (xle_c (xle_c (xle_n (xle_n (xle_n xle_e)))))))) (hK11 h)
    · rw [if_neg c2] at h
      refine X.iconst (v := (0 : Int32)) dX4_twoNotices_35 (by decide) ?_
      refine X.istore (i := 6) (L' := [some (.ref 6), some (.ref 2), some (.int v2), some (.int v3), some (.int v4), some (.int v5), some (.int (0 : Int32)), none]) dX4_twoNotices_36 (Nat.le_of_ble_eq_true rfl) rfl ?_
      exact X.weaken (xle_c (xle_c (xle_c (xle_c (xle_c (xle_c (xle_c (xle_n xle_e)))))))) (tX4_twoNotices_b38 hK11 ih F h)
def pX4_twoNotices_b11 (F : Nat) : Nat → Int32 → Int32 → Int32 → xM → Option (Int32 × xM)
  | 0, _, _, _, _ => none
  | n + 1, v2, v3, v4, f => (if (f 2 4) ≤ v4 then some (((-9 : Int32), f)) else (pX4_twoNotices_b23 F (pX4_twoNotices_b11 F n) F v2 v3 v4 (0 : Int32) f))
set_option maxRecDepth 100000 in
set_option maxHeartbeats 4000000 in
theorem tX4_twoNotices_b11 {F : Nat} {g : xN} : ∀ (n : Nat) {v2 : Int32} {v3 : Int32} {v4 : Int32} {f : xM} {r : Int32 × xM}, pX4_twoNotices_b11 F n v2 v3 v4 f = some r → X mX4_twoNotices 4 (some (.int r.1), r.2, g) 11 [some (.ref 6), some (.ref 2), some (.int v2), some (.int v3), some (.int v4), none, none, none] [] f g := by
  intro n
  induction n with
  | zero => intro v2 v3 v4 f r h; cases h
  | succ n ih =>
    intro v2 v3 v4 f r h
    rw [pX4_twoNotices_b11] at h
    refine X.iload (i := 4) dX4_twoNotices_11 rfl ?_
    refine X.aload_n (i := 1) dX4_twoNotices_13 rfl rfl ?_
    refine X.getIN (k0 := 4) kX6 sC_2 (Nat.le_of_ble_eq_true rfl) rfl lnX4_63 dX4_twoNotices_14 ?_
    refine X.icmp_ge (tgt := 131) dX4_twoNotices_17 (by decide) (fun c1 => ?_) (fun c1 => ?_)
    · rw [if_pos c1] at h
      refine X.bipush (v := (-9 : Int32)) dX4_twoNotices_131 (by decide) ?_
      obtain rfl := Option.some.inj h
      exact X.iret dX4_twoNotices_133 rfl rfl
    · rw [if_neg c1] at h
      refine X.iconst (v := (0 : Int32)) dX4_twoNotices_20 (by decide) ?_
      refine X.istore (i := 5) (L' := [some (.ref 6), some (.ref 2), some (.int v2), some (.int v3), some (.int v4), some (.int (0 : Int32)), none, none]) dX4_twoNotices_21 (Nat.le_of_ble_eq_true rfl) rfl ?_
      exact X.weaken (xle_c (xle_c (xle_c (xle_c (xle_c (xle_c (xle_n (xle_n xle_e)))))))) (tX4_twoNotices_b23 ih F h)
def pX4_twoNotices (F : Nat) (v2 : Int32) (f : xM) : Option (Int32 × xM) := (pX4_twoNotices_b11 F F v2 (pX9_day f) (0 : Int32) f)
set_option maxRecDepth 100000 in
set_option maxHeartbeats 4000000 in
theorem tX4_twoNotices {F : Nat} {g : xN} {v2 : Int32} {f : xM} {r : Int32 × xM} (h : pX4_twoNotices F v2 f = some r) : XT mX4_twoNotices 4 [.ref 6, .ref 2, .int v2] f g (some (.int r.1), r.2, g) := by
  unfold pX4_twoNotices at h
  refine XT.of (L := [some (.ref 6), some (.ref 2), some (.int v2), none, none, none, none, none]) [some (.ref 6), some (.ref 2), some (.int v2)] rfl (Nat.le_of_ble_eq_true rfl) rfl (xle_c (xle_c (xle_c (xle_z (xle_z (xle_z (xle_z (xle_z xle_e)))))))) ?_
  refine X.aload_n (i := 1) dX4_twoNotices_0 rfl rfl ?_
  refine X.getRN (k0 := 1) kX6 sC_2 (Nat.le_of_ble_eq_true rfl) rfl lnX4_30 dX4_twoNotices_1 ?_
  refine X.callVN (μ' := mX9_day) (As := []) (st := []) (st1 := [.int (pX9_day f)]) (r := some (.int (pX9_day f))) (f' := f) (g' := g) (tX9_day rfl) (Nat.le_of_ble_eq_true rfl) cwX9_day rfl mnX4_42 sC_11 kX9 rfl rfl rfl (Nat.le_of_ble_eq_true rfl) dX4_twoNotices_4 ?_
  refine X.istore_n (i := 3) (L' := [some (.ref 6), some (.ref 2), some (.int v2), some (.int (pX9_day f)), none, none, none, none]) dX4_twoNotices_7 rfl (Nat.le_of_ble_eq_true rfl) rfl ?_
  refine X.iconst (v := (0 : Int32)) dX4_twoNotices_8 (by decide) ?_
  refine X.istore (i := 4) (L' := [some (.ref 6), some (.ref 2), some (.int v2), some (.int (pX9_day f)), some (.int (0 : Int32)), none, none, none]) dX4_twoNotices_9 (Nat.le_of_ble_eq_true rfl) rfl ?_
  exact X.weaken (xle_c (xle_c (xle_c (xle_c (xle_c (xle_n (xle_n (xle_n xle_e)))))))) (tX4_twoNotices_b11 F h)
def pX4_search (F : Nat) (v2 : Int32) (f : xM) : Option (xM) := (Option.bind (pX4_isRighted F (xu (xu f 6 1 (-9 : Int32)) 6 2 (-9 : Int32)) v2) fun q1 => (if q1 = 0 then (Option.bind (pX4_readBeliefs F v2 (xu (xu f 6 1 (-9 : Int32)) 6 2 (-9 : Int32))) fun q3 => (Option.bind (pX4_lastNotice F q3 (pX9_said q3) v2 (pX9_day q3)) fun q4 => (if q4 = (-9 : Int32) then (Option.bind (pX4_twoNotices F v2 q3) fun q6 => (if q6.1 = (-9 : Int32) then some (q6.2) else some ((xu (xu q6.2 6 1 (2 : Int32)) 6 2 q6.1)))) else some ((xu (xu q3 6 1 (1 : Int32)) 6 2 q4))))) else some ((xu (xu (xu (xu f 6 1 (-9 : Int32)) 6 2 (-9 : Int32)) 6 1 (0 : Int32)) 6 2 (0 : Int32)))))
set_option maxRecDepth 100000 in
set_option maxHeartbeats 4000000 in
theorem tX4_search {F : Nat} {g : xN} {v2 : Int32} {f : xM} {r : xM} (h : pX4_search F v2 f = some r) : XT mX4_search 5 [.ref 6, .ref 2, .int v2] f g (none, r, g) := by
  unfold pX4_search at h
  refine XT.of (L := [some (.ref 6), some (.ref 2), some (.int v2), none, none]) [some (.ref 6), some (.ref 2), some (.int v2)] rfl (Nat.le_of_ble_eq_true rfl) rfl (xle_c (xle_c (xle_c (xle_z (xle_z xle_e))))) ?_
  refine X.aload_n (i := 0) dX4_search_0 rfl rfl ?_
  refine X.bipush (v := (-9 : Int32)) dX4_search_1 (by decide) ?_
  refine X.putI (k0 := 1) kX4 sC_6 (Nat.le_of_ble_eq_true rfl) rfl lfX4_15 rfl rfl dX4_search_3 ?_
  refine X.aload_n (i := 0) dX4_search_6 rfl rfl ?_
  refine X.bipush (v := (-9 : Int32)) dX4_search_7 (by decide) ?_
  refine X.putI (k0 := 2) kX4 sC_6 (Nat.le_of_ble_eq_true rfl) rfl lfX4_19 rfl rfl dX4_search_9 ?_
  refine X.aload_n (i := 1) dX4_search_12 rfl rfl ?_
  refine X.iload_n (i := 2) dX4_search_13 rfl rfl ?_
  obtain ⟨q1, e1, h⟩ := xbind h
  try dsimp only at h
  refine X.callS (μ' := mX4_isRighted) (As := [.ref 2, .int v2]) (st := []) (st1 := [.int q1]) (r := some (.int q1)) (f' := (xu (xu f 6 1 (-9 : Int32)) 6 2 (-9 : Int32))) (g' := g) (tX4_isRighted e1) (Nat.le_of_ble_eq_true rfl) cwX4_isRighted rfl mlX4_22 rfl rfl rfl (Nat.le_of_ble_eq_true rfl) dX4_search_14 ?_
  refine X.if_eq (tgt := 31) dX4_search_17 (by decide) (fun c2 => ?_) (fun c2 => ?_)
  · rw [if_pos c2] at h
    refine X.aload_n (i := 0) dX4_search_31 rfl rfl ?_
    refine X.aload_n (i := 1) dX4_search_32 rfl rfl ?_
    refine X.iload_n (i := 2) dX4_search_33 rfl rfl ?_
    obtain ⟨q3, e3, h⟩ := xbind h
    try dsimp only at h
    refine X.callV (μ' := mX4_readBeliefs) (As := [.ref 2, .int v2]) (st := []) (st1 := []) (r := none) (f' := q3) (g' := g) (tX4_readBeliefs e3) (Nat.le_of_ble_eq_true rfl) cwX4_readBeliefs rfl mlX4_26 sC_6 kX4 rfl rfl rfl (Nat.le_of_ble_eq_true rfl) dX4_search_34 ?_
    refine X.aload_n (i := 0) dX4_search_37 rfl rfl ?_
    refine X.aload_n (i := 1) dX4_search_38 rfl rfl ?_
    refine X.aload_n (i := 1) dX4_search_39 rfl rfl ?_
    refine X.getRN (k0 := 1) kX6 sC_2 (Nat.le_of_ble_eq_true rfl) rfl lnX4_30 dX4_search_40 ?_
    refine X.callVN (μ' := mX9_said) (As := []) (st := [.ref 2, .ref 6]) (st1 := [.int (pX9_said q3), .ref 2, .ref 6]) (r := some (.int (pX9_said q3))) (f' := q3) (g' := g) (tX9_said rfl) (Nat.le_of_ble_eq_true rfl) cwX9_said rfl mnX4_36 sC_11 kX9 rfl rfl rfl (Nat.le_of_ble_eq_true rfl) dX4_search_43 ?_
    refine X.iload_n (i := 2) dX4_search_46 rfl rfl ?_
    refine X.aload_n (i := 1) dX4_search_47 rfl rfl ?_
    refine X.getRN (k0 := 1) kX6 sC_2 (Nat.le_of_ble_eq_true rfl) rfl lnX4_30 dX4_search_48 ?_
    refine X.callVN (μ' := mX9_day) (As := []) (st := [.int v2, .int (pX9_said q3), .ref 2, .ref 6]) (st1 := [.int (pX9_day q3), .int v2, .int (pX9_said q3), .ref 2, .ref 6]) (r := some (.int (pX9_day q3))) (f' := q3) (g' := g) (tX9_day rfl) (Nat.le_of_ble_eq_true rfl) cwX9_day rfl mnX4_42 sC_11 kX9 rfl rfl rfl (Nat.le_of_ble_eq_true rfl) dX4_search_51 ?_
    obtain ⟨q4, e4, h⟩ := xbind h
    try dsimp only at h
    refine X.callV (μ' := mX4_lastNotice) (As := [.ref 2, .int (pX9_said q3), .int v2, .int (pX9_day q3)]) (st := []) (st1 := [.int q4]) (r := some (.int q4)) (f' := q3) (g' := g) (tX4_lastNotice e4) (Nat.le_of_ble_eq_true rfl) cwX4_lastNotice rfl mlX4_45 sC_6 kX4 rfl rfl rfl (Nat.le_of_ble_eq_true rfl) dX4_search_54 ?_
    refine X.istore_n (i := 3) (L' := [some (.ref 6), some (.ref 2), some (.int v2), some (.int q4), none]) dX4_search_57 rfl (Nat.le_of_ble_eq_true rfl) rfl ?_
    refine X.iload_n (i := 3) dX4_search_58 rfl rfl ?_
    refine X.bipush (v := (-9 : Int32)) dX4_search_59 (by decide) ?_
    refine X.icmp_eq (tgt := 75) dX4_search_61 (by decide) (fun c5 => ?_) (fun c5 => ?_)
    · rw [if_pos c5] at h
      refine X.aload_n (i := 0) dX4_search_75 rfl rfl ?_
      refine X.aload_n (i := 1) dX4_search_76 rfl rfl ?_
      refine X.iload_n (i := 2) dX4_search_77 rfl rfl ?_
      obtain ⟨q6, e6, h⟩ := xbind h
      try dsimp only at h
      refine X.callV (μ' := mX4_twoNotices) (As := [.ref 2, .int v2]) (st := []) (st1 := [.int q6.1]) (r := some (.int q6.1)) (f' := q6.2) (g' := g) (tX4_twoNotices e6) (Nat.le_of_ble_eq_true rfl) cwX4_twoNotices rfl mlX4_49 sC_6 kX4 rfl rfl rfl (Nat.le_of_ble_eq_true rfl) dX4_search_78 ?_
      refine X.istore (i := 4) (L' := [some (.ref 6), some (.ref 2), some (.int v2), some (.int q4), some (.int q6.1)]) dX4_search_81 (Nat.le_of_ble_eq_true rfl) rfl ?_
      refine X.iload (i := 4) dX4_search_83 rfl ?_
      refine X.bipush (v := (-9 : Int32)) dX4_search_85 (by decide) ?_
      refine X.icmp_eq (tgt := 101) dX4_search_87 (by decide) (fun c7 => ?_) (fun c7 => ?_)
      · rw [if_pos c7] at h
        obtain rfl := Option.some.inj h
        exact X.vret dX4_search_101 rfl rfl
      · rw [if_neg c7] at h
        refine X.aload_n (i := 0) dX4_search_90 rfl rfl ?_
        refine X.iconst (v := (2 : Int32)) dX4_search_91 (by decide) ?_
        refine X.putI (k0 := 1) kX4 sC_6 (Nat.le_of_ble_eq_true rfl) rfl lfX4_15 rfl rfl dX4_search_92 ?_
        refine X.aload_n (i := 0) dX4_search_95 rfl rfl ?_
        refine X.iload (i := 4) dX4_search_96 rfl ?_
        refine X.putI (k0 := 2) kX4 sC_6 (Nat.le_of_ble_eq_true rfl) rfl lfX4_19 rfl rfl dX4_search_98 ?_
        obtain rfl := Option.some.inj h
        exact X.vret dX4_search_101 rfl rfl
    · rw [if_neg c5] at h
      refine X.aload_n (i := 0) dX4_search_64 rfl rfl ?_
      refine X.iconst (v := (1 : Int32)) dX4_search_65 (by decide) ?_
      refine X.putI (k0 := 1) kX4 sC_6 (Nat.le_of_ble_eq_true rfl) rfl lfX4_15 rfl rfl dX4_search_66 ?_
      refine X.aload_n (i := 0) dX4_search_69 rfl rfl ?_
      refine X.iload_n (i := 3) dX4_search_70 rfl rfl ?_
      refine X.putI (k0 := 2) kX4 sC_6 (Nat.le_of_ble_eq_true rfl) rfl lfX4_19 rfl rfl dX4_search_71 ?_
      obtain rfl := Option.some.inj h
      exact X.vret dX4_search_74 rfl rfl
  · rw [if_neg c2] at h
    refine X.aload_n (i := 0) dX4_search_20 rfl rfl ?_
    refine X.iconst (v := (0 : Int32)) dX4_search_21 (by decide) ?_
    refine X.putI (k0 := 1) kX4 sC_6 (Nat.le_of_ble_eq_true rfl) rfl lfX4_15 rfl rfl dX4_search_22 ?_
    refine X.aload_n (i := 0) dX4_search_25 rfl rfl ?_
    refine X.iconst (v := (0 : Int32)) dX4_search_26 (by decide) ?_
    refine X.putI (k0 := 2) kX4 sC_6 (Nat.le_of_ble_eq_true rfl) rfl lfX4_19 rfl rfl dX4_search_27 ?_
    obtain rfl := Option.some.inj h
    exact X.vret dX4_search_30 rfl rfl
def pX11_righted (F : Nat) (v1 : Int32) (f : xM) : Option (Int32 × xM) := (if v1 < 0 then some (((-2 : Int32), f)) else (if v1 ≤ (1 : Int32) then (Option.bind (pX4_search F (0 : Int32) f) fun q3 => (if v1 = 0 then some (((q3 6 1), q3)) else some (((q3 6 2), q3)))) else some (((-2 : Int32), f))))
set_option maxRecDepth 100000 in
set_option maxHeartbeats 4000000 in
theorem tX11_righted {F : Nat} {g : xN} {v1 : Int32} {f : xM} {r : Int32 × xM} (h : pX11_righted F v1 f = some r) : XT mX11_righted 6 [.ref 0, .int v1] f g (some (.int r.1), r.2, g) := by
  unfold pX11_righted at h
  refine XT.of (L := [some (.ref 0), some (.int v1)]) [some (.ref 0), some (.int v1)] rfl (Nat.le_of_ble_eq_true rfl) rfl (xle_c (xle_c xle_e)) ?_
  refine X.iload_n (i := 1) dX11_righted_0 rfl rfl ?_
  refine X.if_lt (tgt := 9) dX11_righted_1 (by decide) (fun c1 => ?_) (fun c1 => ?_)
  · rw [if_pos c1] at h
    refine X.bipush (v := (-2 : Int32)) dX11_righted_9 (by decide) ?_
    obtain rfl := Option.some.inj h
    exact X.iret dX11_righted_11 rfl rfl
  · rw [if_neg c1] at h
    refine X.iload_n (i := 1) dX11_righted_4 rfl rfl ?_
    refine X.iconst (v := (1 : Int32)) dX11_righted_5 (by decide) ?_
    refine X.icmp_le (tgt := 12) dX11_righted_6 (by decide) (fun c2 => ?_) (fun c2 => ?_)
    · rw [if_pos c2] at h
      refine X.aload_n (i := 0) dX11_righted_12 rfl rfl ?_
      refine X.getR (k0 := 5) kX11 sC_0 (Nat.le_of_ble_eq_true rfl) rfl lfX11_49 dX11_righted_13 ?_
      refine X.aload_n (i := 0) dX11_righted_16 rfl rfl ?_
      refine X.getR (k0 := 1) kX11 sC_0 (Nat.le_of_ble_eq_true rfl) rfl lfX11_19 dX11_righted_17 ?_
      refine X.iconst (v := (0 : Int32)) dX11_righted_20 (by decide) ?_
      obtain ⟨q3, e3, h⟩ := xbind h
      try dsimp only at h
      refine X.callVN (μ' := mX4_search) (As := [.ref 2, .int (0 : Int32)]) (st := []) (st1 := []) (r := none) (f' := q3) (g' := g) (tX4_search e3) (Nat.le_of_ble_eq_true rfl) cwX4_search rfl mnX11_201 sC_6 kX4 rfl rfl rfl (Nat.le_of_ble_eq_true rfl) dX11_righted_21 ?_
      refine X.iload_n (i := 1) dX11_righted_24 rfl rfl ?_
      refine X.if_ne (tgt := 38) dX11_righted_25 (by decide) (fun c4 => ?_) (fun c4 => ?_)
      · rw [if_neg c4] at h
        refine X.aload_n (i := 0) dX11_righted_38 rfl rfl ?_
        refine X.getR (k0 := 5) kX11 sC_0 (Nat.le_of_ble_eq_true rfl) rfl lfX11_49 dX11_righted_39 ?_
        refine X.getIN (k0 := 2) kX4 sC_6 (Nat.le_of_ble_eq_true rfl) rfl lnX11_208 dX11_righted_42 ?_
        obtain rfl := Option.some.inj h
        exact X.iret dX11_righted_45 rfl rfl
      · rw [if_pos c4] at h
        refine X.aload_n (i := 0) dX11_righted_28 rfl rfl ?_
        refine X.getR (k0 := 5) kX11 sC_0 (Nat.le_of_ble_eq_true rfl) rfl lfX11_49 dX11_righted_29 ?_
        refine X.getIN (k0 := 1) kX4 sC_6 (Nat.le_of_ble_eq_true rfl) rfl lnX11_205 dX11_righted_32 ?_
        refine X.goto (tgt := 45) dX11_righted_35 (by decide) ?_
        obtain rfl := Option.some.inj h
        exact X.iret dX11_righted_45 rfl rfl
    · rw [if_neg c2] at h
      refine X.bipush (v := (-2 : Int32)) dX11_righted_9 (by decide) ?_
      obtain rfl := Option.some.inj h
      exact X.iret dX11_righted_11 rfl rfl
def pX11_allRighted (F : Nat) (v1 : Int32) (f : xM) : Option (Int32 × xM) := (if v1 < 0 then some (((-2 : Int32), f)) else (if v1 ≤ (1 : Int32) then (Option.bind (pX4_search F (f 2 5) f) fun q3 => (if v1 = 0 then some (((q3 6 1), q3)) else some (((q3 6 2), q3)))) else some (((-2 : Int32), f))))
set_option maxRecDepth 100000 in
set_option maxHeartbeats 4000000 in
theorem tX11_allRighted {F : Nat} {g : xN} {v1 : Int32} {f : xM} {r : Int32 × xM} (h : pX11_allRighted F v1 f = some r) : XT mX11_allRighted 6 [.ref 0, .int v1] f g (some (.int r.1), r.2, g) := by
  unfold pX11_allRighted at h
  refine XT.of (L := [some (.ref 0), some (.int v1)]) [some (.ref 0), some (.int v1)] rfl (Nat.le_of_ble_eq_true rfl) rfl (xle_c (xle_c xle_e)) ?_
  refine X.iload_n (i := 1) dX11_allRighted_0 rfl rfl ?_
  refine X.if_lt (tgt := 9) dX11_allRighted_1 (by decide) (fun c1 => ?_) (fun c1 => ?_)
  · rw [if_pos c1] at h
    refine X.bipush (v := (-2 : Int32)) dX11_allRighted_9 (by decide) ?_
    obtain rfl := Option.some.inj h
    exact X.iret dX11_allRighted_11 rfl rfl
  · rw [if_neg c1] at h
    refine X.iload_n (i := 1) dX11_allRighted_4 rfl rfl ?_
    refine X.iconst (v := (1 : Int32)) dX11_allRighted_5 (by decide) ?_
    refine X.icmp_le (tgt := 12) dX11_allRighted_6 (by decide) (fun c2 => ?_) (fun c2 => ?_)
    · rw [if_pos c2] at h
      refine X.aload_n (i := 0) dX11_allRighted_12 rfl rfl ?_
      refine X.getR (k0 := 5) kX11 sC_0 (Nat.le_of_ble_eq_true rfl) rfl lfX11_49 dX11_allRighted_13 ?_
      refine X.aload_n (i := 0) dX11_allRighted_16 rfl rfl ?_
      refine X.getR (k0 := 1) kX11 sC_0 (Nat.le_of_ble_eq_true rfl) rfl lfX11_19 dX11_allRighted_17 ?_
      refine X.aload_n (i := 0) dX11_allRighted_20 rfl rfl ?_
      refine X.getR (k0 := 1) kX11 sC_0 (Nat.le_of_ble_eq_true rfl) rfl lfX11_19 dX11_allRighted_21 ?_
      refine X.getIN (k0 := 5) kX6 sC_2 (Nat.le_of_ble_eq_true rfl) rfl lnX11_103 dX11_allRighted_24 ?_
      obtain ⟨q3, e3, h⟩ := xbind h
      try dsimp only at h
      refine X.callVN (μ' := mX4_search) (As := [.ref 2, .int (f 2 5)]) (st := []) (st1 := []) (r := none) (f' := q3) (g' := g) (tX4_search e3) (Nat.le_of_ble_eq_true rfl) cwX4_search rfl mnX11_201 sC_6 kX4 rfl rfl rfl (Nat.le_of_ble_eq_true rfl) dX11_allRighted_27 ?_
      refine X.iload_n (i := 1) dX11_allRighted_30 rfl rfl ?_
      refine X.if_ne (tgt := 44) dX11_allRighted_31 (by decide) (fun c4 => ?_) (fun c4 => ?_)
      · rw [if_neg c4] at h
        refine X.aload_n (i := 0) dX11_allRighted_44 rfl rfl ?_
        refine X.getR (k0 := 5) kX11 sC_0 (Nat.le_of_ble_eq_true rfl) rfl lfX11_49 dX11_allRighted_45 ?_
        refine X.getIN (k0 := 2) kX4 sC_6 (Nat.le_of_ble_eq_true rfl) rfl lnX11_208 dX11_allRighted_48 ?_
        obtain rfl := Option.some.inj h
        exact X.iret dX11_allRighted_51 rfl rfl
      · rw [if_pos c4] at h
        refine X.aload_n (i := 0) dX11_allRighted_34 rfl rfl ?_
        refine X.getR (k0 := 5) kX11 sC_0 (Nat.le_of_ble_eq_true rfl) rfl lfX11_49 dX11_allRighted_35 ?_
        refine X.getIN (k0 := 1) kX4 sC_6 (Nat.le_of_ble_eq_true rfl) rfl lnX11_205 dX11_allRighted_38 ?_
        refine X.goto (tgt := 51) dX11_allRighted_41 (by decide) ?_
        obtain rfl := Option.some.inj h
        exact X.iret dX11_allRighted_51 rfl rfl
    · rw [if_neg c2] at h
      refine X.bipush (v := (-2 : Int32)) dX11_allRighted_9 (by decide) ?_
      obtain rfl := Option.some.inj h
      exact X.iret dX11_allRighted_11 rfl rfl
def pX5_nameOnRing_b23 (F : Nat) (f : xM) : Nat → Int32 → Int32 → Int32 → Option (Int32)
  | 0, _, _, _ => none
  | n + 1, v2, v3, v4 => (if (1024 : Int32) ≤ v4 then some (v2) else (if v2 = v3 then some (v2) else (Option.bind (pX5_doneOn F f v2) fun q5 => (Option.bind (pX5_doneOn F f v3) fun q6 => (Option.bind (pX5_doneOn F f q6) fun q7 => (pX5_nameOnRing_b23 F f n q5 q7 (v4 + (1 : Int32))))))))
set_option maxRecDepth 100000 in
set_option maxHeartbeats 4000000 in
theorem tX5_nameOnRing_b23 {F : Nat} {f : xM} {g : xN} : ∀ (n : Nat) {v2 : Int32} {v3 : Int32} {v4 : Int32} {r : Int32}, pX5_nameOnRing_b23 F f n v2 v3 v4 = some r → X mX5_nameOnRing 4 (some (.int r), f, g) 23 [some (.ref 5), some (.ref 2), some (.int v2), some (.int v3), some (.int v4)] [] f g := by
  intro n
  induction n with
  | zero => intro v2 v3 v4 r h; cases h
  | succ n ih =>
    intro v2 v3 v4 r h
    rw [pX5_nameOnRing_b23] at h
    refine X.iload (i := 4) dX5_nameOnRing_23 rfl ?_
    refine X.sipush (v := (1024 : Int32)) dX5_nameOnRing_25 (by decide) ?_
    refine X.icmp_ge (tgt := 61) dX5_nameOnRing_28 (by decide) (fun c3 => ?_) (fun c3 => ?_)
    · rw [if_pos c3] at h
      refine X.iload_n (i := 2) dX5_nameOnRing_61 rfl rfl ?_
      obtain rfl := Option.some.inj h
      exact X.iret dX5_nameOnRing_62 rfl rfl
    · rw [if_neg c3] at h
      refine X.iload_n (i := 2) dX5_nameOnRing_31 rfl rfl ?_
      refine X.iload_n (i := 3) dX5_nameOnRing_32 rfl rfl ?_
      refine X.icmp_eq (tgt := 61) dX5_nameOnRing_33 (by decide) (fun c4 => ?_) (fun c4 => ?_)
      · rw [if_pos c4] at h
        refine X.iload_n (i := 2) dX5_nameOnRing_61 rfl rfl ?_
        obtain rfl := Option.some.inj h
        exact X.iret dX5_nameOnRing_62 rfl rfl
      · rw [if_neg c4] at h
        refine X.aload_n (i := 0) dX5_nameOnRing_36 rfl rfl ?_
        refine X.aload_n (i := 1) dX5_nameOnRing_37 rfl rfl ?_
        refine X.iload_n (i := 2) dX5_nameOnRing_38 rfl rfl ?_
        obtain ⟨q5, e5, h⟩ := xbind h
        try dsimp only at h
        refine X.callV (μ' := mX5_doneOn) (As := [.ref 2, .int v2]) (st := []) (st1 := [.int q5]) (r := some (.int q5)) (f' := f) (g' := g) (tX5_doneOn e5) (Nat.le_of_ble_eq_true rfl) cwX5_doneOn rfl mlX5_45 sC_5 kX5 rfl rfl rfl (Nat.le_of_ble_eq_true rfl) dX5_nameOnRing_39 ?_
        refine X.istore_n (i := 2) (L' := [some (.ref 5), some (.ref 2), some (.int q5), some (.int v3), some (.int v4)]) dX5_nameOnRing_42 rfl (Nat.le_of_ble_eq_true rfl) rfl ?_
        refine X.aload_n (i := 0) dX5_nameOnRing_43 rfl rfl ?_
        refine X.aload_n (i := 1) dX5_nameOnRing_44 rfl rfl ?_
        refine X.aload_n (i := 0) dX5_nameOnRing_45 rfl rfl ?_
        refine X.aload_n (i := 1) dX5_nameOnRing_46 rfl rfl ?_
        refine X.iload_n (i := 3) dX5_nameOnRing_47 rfl rfl ?_
        obtain ⟨q6, e6, h⟩ := xbind h
        try dsimp only at h
        refine X.callV (μ' := mX5_doneOn) (As := [.ref 2, .int v3]) (st := [.ref 2, .ref 5]) (st1 := [.int q6, .ref 2, .ref 5]) (r := some (.int q6)) (f' := f) (g' := g) (tX5_doneOn e6) (Nat.le_of_ble_eq_true rfl) cwX5_doneOn rfl mlX5_45 sC_5 kX5 rfl rfl rfl (Nat.le_of_ble_eq_true rfl) dX5_nameOnRing_48 ?_
        obtain ⟨q7, e7, h⟩ := xbind h
        try dsimp only at h
        refine X.callV (μ' := mX5_doneOn) (As := [.ref 2, .int q6]) (st := []) (st1 := [.int q7]) (r := some (.int q7)) (f' := f) (g' := g) (tX5_doneOn e7) (Nat.le_of_ble_eq_true rfl) cwX5_doneOn rfl mlX5_45 sC_5 kX5 rfl rfl rfl (Nat.le_of_ble_eq_true rfl) dX5_nameOnRing_51 ?_
        refine X.istore_n (i := 3) (L' := [some (.ref 5), some (.ref 2), some (.int q5), some (.int q7), some (.int v4)]) dX5_nameOnRing_54 rfl (Nat.le_of_ble_eq_true rfl) rfl ?_
        refine X.iinc (i := 4) (v := (v4 + (1 : Int32))) (L' := [some (.ref 5), some (.ref 2), some (.int q5), some (.int q7), some (.int (v4 + (1 : Int32)))]) dX5_nameOnRing_55 rfl rfl (Nat.le_of_ble_eq_true rfl) rfl ?_
        refine X.goto (tgt := 23) dX5_nameOnRing_58 (by decide) ?_
        exact X.weaken (xle_c (xle_c (xle_c (xle_c (xle_c xle_e))))) (ih h)
def pX5_nameOnRing (F : Nat) (f : xM) : Option (Int32) := (Option.bind (pX5_doneOn F f (pX9_said f)) fun q1 => (Option.bind (pX5_doneOn F f q1) fun q2 => (pX5_nameOnRing_b23 F f F q1 q2 (0 : Int32))))
set_option maxRecDepth 100000 in
set_option maxHeartbeats 4000000 in
theorem tX5_nameOnRing {F : Nat} {f : xM} {g : xN} {r : Int32} (h : pX5_nameOnRing F f = some r) : XT mX5_nameOnRing 4 [.ref 5, .ref 2] f g (some (.int r), f, g) := by
  unfold pX5_nameOnRing at h
  refine XT.of (L := [some (.ref 5), some (.ref 2), none, none, none]) [some (.ref 5), some (.ref 2)] rfl (Nat.le_of_ble_eq_true rfl) rfl (xle_c (xle_c (xle_z (xle_z (xle_z xle_e))))) ?_
  refine X.aload_n (i := 0) dX5_nameOnRing_0 rfl rfl ?_
  refine X.aload_n (i := 1) dX5_nameOnRing_1 rfl rfl ?_
  refine X.aload_n (i := 1) dX5_nameOnRing_2 rfl rfl ?_
  refine X.getRN (k0 := 1) kX6 sC_2 (Nat.le_of_ble_eq_true rfl) rfl lnX5_35 dX5_nameOnRing_3 ?_
  refine X.callVN (μ' := mX9_said) (As := []) (st := [.ref 2, .ref 5]) (st1 := [.int (pX9_said f), .ref 2, .ref 5]) (r := some (.int (pX9_said f))) (f' := f) (g' := g) (tX9_said rfl) (Nat.le_of_ble_eq_true rfl) cwX9_said rfl mnX5_39 sC_11 kX9 rfl rfl rfl (Nat.le_of_ble_eq_true rfl) dX5_nameOnRing_6 ?_
  obtain ⟨q1, e1, h⟩ := xbind h
  try dsimp only at h
  refine X.callV (μ' := mX5_doneOn) (As := [.ref 2, .int (pX9_said f)]) (st := []) (st1 := [.int q1]) (r := some (.int q1)) (f' := f) (g' := g) (tX5_doneOn e1) (Nat.le_of_ble_eq_true rfl) cwX5_doneOn rfl mlX5_45 sC_5 kX5 rfl rfl rfl (Nat.le_of_ble_eq_true rfl) dX5_nameOnRing_9 ?_
  refine X.istore_n (i := 2) (L' := [some (.ref 5), some (.ref 2), some (.int q1), none, none]) dX5_nameOnRing_12 rfl (Nat.le_of_ble_eq_true rfl) rfl ?_
  refine X.aload_n (i := 0) dX5_nameOnRing_13 rfl rfl ?_
  refine X.aload_n (i := 1) dX5_nameOnRing_14 rfl rfl ?_
  refine X.iload_n (i := 2) dX5_nameOnRing_15 rfl rfl ?_
  obtain ⟨q2, e2, h⟩ := xbind h
  try dsimp only at h
  refine X.callV (μ' := mX5_doneOn) (As := [.ref 2, .int q1]) (st := []) (st1 := [.int q2]) (r := some (.int q2)) (f' := f) (g' := g) (tX5_doneOn e2) (Nat.le_of_ble_eq_true rfl) cwX5_doneOn rfl mlX5_45 sC_5 kX5 rfl rfl rfl (Nat.le_of_ble_eq_true rfl) dX5_nameOnRing_16 ?_
  refine X.istore_n (i := 3) (L' := [some (.ref 5), some (.ref 2), some (.int q1), some (.int q2), none]) dX5_nameOnRing_19 rfl (Nat.le_of_ble_eq_true rfl) rfl ?_
  refine X.iconst (v := (0 : Int32)) dX5_nameOnRing_20 (by decide) ?_
  refine X.istore (i := 4) (L' := [some (.ref 5), some (.ref 2), some (.int q1), some (.int q2), some (.int (0 : Int32))]) dX5_nameOnRing_21 (Nat.le_of_ble_eq_true rfl) rfl ?_
  exact X.weaken (xle_c (xle_c (xle_c (xle_c (xle_c xle_e))))) (tX5_nameOnRing_b23 F h)
def pX5_roundsToRing_b14 (F : Nat) (f : xM) : Nat → Int32 → Int32 → Int32 → Option (Int32)
  | 0, _, _, _ => none
  | n + 1, v3, v4, v5 => (if (1024 : Int32) ≤ v5 then some (v5) else (if v3 = v4 then some (v5) else (Option.bind (pX5_doneOn F f v3) fun q3 => (Option.bind (pX5_doneOn F f v4) fun q4 => (pX5_roundsToRing_b14 F f n q3 q4 (v5 + (1 : Int32)))))))
set_option maxRecDepth 100000 in
set_option maxHeartbeats 4000000 in
theorem tX5_roundsToRing_b14 {F : Nat} {f : xM} {g : xN} : ∀ (n : Nat) {v3 : Int32} {v4 : Int32} {v5 : Int32} {r : Int32}, pX5_roundsToRing_b14 F f n v3 v4 v5 = some r → X mX5_roundsToRing 4 (some (.int r), f, g) 14 [some (.ref 5), some (.ref 2), none, some (.int v3), some (.int v4), some (.int v5)] [] f g := by
  intro n
  induction n with
  | zero => intro v3 v4 v5 r h; cases h
  | succ n ih =>
    intro v3 v4 v5 r h
    rw [pX5_roundsToRing_b14] at h
    refine X.iload (i := 5) dX5_roundsToRing_14 rfl ?_
    refine X.sipush (v := (1024 : Int32)) dX5_roundsToRing_16 (by decide) ?_
    refine X.icmp_ge (tgt := 50) dX5_roundsToRing_19 (by decide) (fun c1 => ?_) (fun c1 => ?_)
    · rw [if_pos c1] at h
      refine X.iload (i := 5) dX5_roundsToRing_50 rfl ?_
      obtain rfl := Option.some.inj h
      exact X.iret dX5_roundsToRing_52 rfl rfl
    · rw [if_neg c1] at h
      refine X.iload_n (i := 3) dX5_roundsToRing_22 rfl rfl ?_
      refine X.iload (i := 4) dX5_roundsToRing_23 rfl ?_
      refine X.icmp_eq (tgt := 50) dX5_roundsToRing_25 (by decide) (fun c2 => ?_) (fun c2 => ?_)
      · rw [if_pos c2] at h
        refine X.iload (i := 5) dX5_roundsToRing_50 rfl ?_
        obtain rfl := Option.some.inj h
        exact X.iret dX5_roundsToRing_52 rfl rfl
      · rw [if_neg c2] at h
        refine X.aload_n (i := 0) dX5_roundsToRing_28 rfl rfl ?_
        refine X.aload_n (i := 1) dX5_roundsToRing_29 rfl rfl ?_
        refine X.iload_n (i := 3) dX5_roundsToRing_30 rfl rfl ?_
        obtain ⟨q3, e3, h⟩ := xbind h
        try dsimp only at h
        refine X.callV (μ' := mX5_doneOn) (As := [.ref 2, .int v3]) (st := []) (st1 := [.int q3]) (r := some (.int q3)) (f' := f) (g' := g) (tX5_doneOn e3) (Nat.le_of_ble_eq_true rfl) cwX5_doneOn rfl mlX5_45 sC_5 kX5 rfl rfl rfl (Nat.le_of_ble_eq_true rfl) dX5_roundsToRing_31 ?_
        refine X.istore_n (i := 3) (L' := [some (.ref 5), some (.ref 2), none, some (.int q3), some (.int v4), some (.int v5)]) dX5_roundsToRing_34 rfl (Nat.le_of_ble_eq_true rfl) rfl ?_
        refine X.aload_n (i := 0) dX5_roundsToRing_35 rfl rfl ?_
        refine X.aload_n (i := 1) dX5_roundsToRing_36 rfl rfl ?_
        refine X.iload (i := 4) dX5_roundsToRing_37 rfl ?_
        obtain ⟨q4, e4, h⟩ := xbind h
        try dsimp only at h
        refine X.callV (μ' := mX5_doneOn) (As := [.ref 2, .int v4]) (st := []) (st1 := [.int q4]) (r := some (.int q4)) (f' := f) (g' := g) (tX5_doneOn e4) (Nat.le_of_ble_eq_true rfl) cwX5_doneOn rfl mlX5_45 sC_5 kX5 rfl rfl rfl (Nat.le_of_ble_eq_true rfl) dX5_roundsToRing_39 ?_
        refine X.istore (i := 4) (L' := [some (.ref 5), some (.ref 2), none, some (.int q3), some (.int q4), some (.int v5)]) dX5_roundsToRing_42 (Nat.le_of_ble_eq_true rfl) rfl ?_
        refine X.iinc (i := 5) (v := (v5 + (1 : Int32))) (L' := [some (.ref 5), some (.ref 2), none, some (.int q3), some (.int q4), some (.int (v5 + (1 : Int32)))]) dX5_roundsToRing_44 rfl rfl (Nat.le_of_ble_eq_true rfl) rfl ?_
        refine X.goto (tgt := 14) dX5_roundsToRing_47 (by decide) ?_
        exact X.weaken (xle_c (xle_c (xle_n (xle_c (xle_c (xle_c xle_e)))))) (ih h)
def pX5_roundsToRing (F : Nat) (f : xM) (v2 : Int32) : Option (Int32) := (pX5_roundsToRing_b14 F f F (pX9_said f) v2 (0 : Int32))
set_option maxRecDepth 100000 in
set_option maxHeartbeats 4000000 in
theorem tX5_roundsToRing {F : Nat} {f : xM} {g : xN} {v2 : Int32} {r : Int32} (h : pX5_roundsToRing F f v2 = some r) : XT mX5_roundsToRing 4 [.ref 5, .ref 2, .int v2] f g (some (.int r), f, g) := by
  unfold pX5_roundsToRing at h
  refine XT.of (L := [some (.ref 5), some (.ref 2), some (.int v2), none, none, none]) [some (.ref 5), some (.ref 2), some (.int v2)] rfl (Nat.le_of_ble_eq_true rfl) rfl (xle_c (xle_c (xle_c (xle_z (xle_z (xle_z xle_e)))))) ?_
  refine X.aload_n (i := 1) dX5_roundsToRing_0 rfl rfl ?_
  refine X.getRN (k0 := 1) kX6 sC_2 (Nat.le_of_ble_eq_true rfl) rfl lnX5_35 dX5_roundsToRing_1 ?_
  refine X.callVN (μ' := mX9_said) (As := []) (st := []) (st1 := [.int (pX9_said f)]) (r := some (.int (pX9_said f))) (f' := f) (g' := g) (tX9_said rfl) (Nat.le_of_ble_eq_true rfl) cwX9_said rfl mnX5_39 sC_11 kX9 rfl rfl rfl (Nat.le_of_ble_eq_true rfl) dX5_roundsToRing_4 ?_
  refine X.istore_n (i := 3) (L' := [some (.ref 5), some (.ref 2), some (.int v2), some (.int (pX9_said f)), none, none]) dX5_roundsToRing_7 rfl (Nat.le_of_ble_eq_true rfl) rfl ?_
  refine X.iload_n (i := 2) dX5_roundsToRing_8 rfl rfl ?_
  refine X.istore (i := 4) (L' := [some (.ref 5), some (.ref 2), some (.int v2), some (.int (pX9_said f)), some (.int v2), none]) dX5_roundsToRing_9 (Nat.le_of_ble_eq_true rfl) rfl ?_
  refine X.iconst (v := (0 : Int32)) dX5_roundsToRing_11 (by decide) ?_
  refine X.istore (i := 5) (L' := [some (.ref 5), some (.ref 2), some (.int v2), some (.int (pX9_said f)), some (.int v2), some (.int (0 : Int32))]) dX5_roundsToRing_12 (Nat.le_of_ble_eq_true rfl) rfl ?_
  exact X.weaken (xle_c (xle_c (xle_n (xle_c (xle_c (xle_c xle_e)))))) (tX5_roundsToRing_b14 F h)
def pX5_roundsOfRing_b10 (F : Nat) (f : xM) : Nat → Int32 → Int32 → Int32 → Option (Int32)
  | 0, _, _, _ => none
  | n + 1, v2, v3, v4 => (if (1024 : Int32) ≤ v4 then some (v4) else (if v3 = v2 then some (v4) else (Option.bind (pX5_doneOn F f v3) fun q4 => (pX5_roundsOfRing_b10 F f n v2 q4 (v4 + (1 : Int32))))))
set_option maxRecDepth 100000 in
set_option maxHeartbeats 4000000 in
theorem tX5_roundsOfRing_b10 {F : Nat} {f : xM} {g : xN} : ∀ (n : Nat) {v2 : Int32} {v3 : Int32} {v4 : Int32} {r : Int32}, pX5_roundsOfRing_b10 F f n v2 v3 v4 = some r → X mX5_roundsOfRing 4 (some (.int r), f, g) 10 [some (.ref 5), some (.ref 2), some (.int v2), some (.int v3), some (.int v4)] [] f g := by
  intro n
  induction n with
  | zero => intro v2 v3 v4 r h; cases h
  | succ n ih =>
    intro v2 v3 v4 r h
    rw [pX5_roundsOfRing_b10] at h
    refine X.iload (i := 4) dX5_roundsOfRing_10 rfl ?_
    refine X.sipush (v := (1024 : Int32)) dX5_roundsOfRing_12 (by decide) ?_
    refine X.icmp_ge (tgt := 36) dX5_roundsOfRing_15 (by decide) (fun c2 => ?_) (fun c2 => ?_)
    · rw [if_pos c2] at h
      refine X.iload (i := 4) dX5_roundsOfRing_36 rfl ?_
      obtain rfl := Option.some.inj h
      exact X.iret dX5_roundsOfRing_38 rfl rfl
    · rw [if_neg c2] at h
      refine X.iload_n (i := 3) dX5_roundsOfRing_18 rfl rfl ?_
      refine X.iload_n (i := 2) dX5_roundsOfRing_19 rfl rfl ?_
      refine X.icmp_eq (tgt := 36) dX5_roundsOfRing_20 (by decide) (fun c3 => ?_) (fun c3 => ?_)
      · rw [if_pos c3] at h
        refine X.iload (i := 4) dX5_roundsOfRing_36 rfl ?_
        obtain rfl := Option.some.inj h
        exact X.iret dX5_roundsOfRing_38 rfl rfl
      · rw [if_neg c3] at h
        refine X.aload_n (i := 0) dX5_roundsOfRing_23 rfl rfl ?_
        refine X.aload_n (i := 1) dX5_roundsOfRing_24 rfl rfl ?_
        refine X.iload_n (i := 3) dX5_roundsOfRing_25 rfl rfl ?_
        obtain ⟨q4, e4, h⟩ := xbind h
        try dsimp only at h
        refine X.callV (μ' := mX5_doneOn) (As := [.ref 2, .int v3]) (st := []) (st1 := [.int q4]) (r := some (.int q4)) (f' := f) (g' := g) (tX5_doneOn e4) (Nat.le_of_ble_eq_true rfl) cwX5_doneOn rfl mlX5_45 sC_5 kX5 rfl rfl rfl (Nat.le_of_ble_eq_true rfl) dX5_roundsOfRing_26 ?_
        refine X.istore_n (i := 3) (L' := [some (.ref 5), some (.ref 2), some (.int v2), some (.int q4), some (.int v4)]) dX5_roundsOfRing_29 rfl (Nat.le_of_ble_eq_true rfl) rfl ?_
        refine X.iinc (i := 4) (v := (v4 + (1 : Int32))) (L' := [some (.ref 5), some (.ref 2), some (.int v2), some (.int q4), some (.int (v4 + (1 : Int32)))]) dX5_roundsOfRing_30 rfl rfl (Nat.le_of_ble_eq_true rfl) rfl ?_
        refine X.goto (tgt := 10) dX5_roundsOfRing_33 (by decide) ?_
        exact X.weaken (xle_c (xle_c (xle_c (xle_c (xle_c xle_e))))) (ih h)
def pX5_roundsOfRing (F : Nat) (f : xM) (v2 : Int32) : Option (Int32) := (Option.bind (pX5_doneOn F f v2) fun q1 => (pX5_roundsOfRing_b10 F f F v2 q1 (1 : Int32)))
set_option maxRecDepth 100000 in
set_option maxHeartbeats 4000000 in
theorem tX5_roundsOfRing {F : Nat} {f : xM} {g : xN} {v2 : Int32} {r : Int32} (h : pX5_roundsOfRing F f v2 = some r) : XT mX5_roundsOfRing 4 [.ref 5, .ref 2, .int v2] f g (some (.int r), f, g) := by
  unfold pX5_roundsOfRing at h
  refine XT.of (L := [some (.ref 5), some (.ref 2), some (.int v2), none, none]) [some (.ref 5), some (.ref 2), some (.int v2)] rfl (Nat.le_of_ble_eq_true rfl) rfl (xle_c (xle_c (xle_c (xle_z (xle_z xle_e))))) ?_
  refine X.aload_n (i := 0) dX5_roundsOfRing_0 rfl rfl ?_
  refine X.aload_n (i := 1) dX5_roundsOfRing_1 rfl rfl ?_
  refine X.iload_n (i := 2) dX5_roundsOfRing_2 rfl rfl ?_
  obtain ⟨q1, e1, h⟩ := xbind h
  try dsimp only at h
  refine X.callV (μ' := mX5_doneOn) (As := [.ref 2, .int v2]) (st := []) (st1 := [.int q1]) (r := some (.int q1)) (f' := f) (g' := g) (tX5_doneOn e1) (Nat.le_of_ble_eq_true rfl) cwX5_doneOn rfl mlX5_45 sC_5 kX5 rfl rfl rfl (Nat.le_of_ble_eq_true rfl) dX5_roundsOfRing_3 ?_
  refine X.istore_n (i := 3) (L' := [some (.ref 5), some (.ref 2), some (.int v2), some (.int q1), none]) dX5_roundsOfRing_6 rfl (Nat.le_of_ble_eq_true rfl) rfl ?_
  refine X.iconst (v := (1 : Int32)) dX5_roundsOfRing_7 (by decide) ?_
  refine X.istore (i := 4) (L' := [some (.ref 5), some (.ref 2), some (.int v2), some (.int q1), some (.int (1 : Int32))]) dX5_roundsOfRing_8 (Nat.le_of_ble_eq_true rfl) rfl ?_
  exact X.weaken (xle_c (xle_c (xle_c (xle_c (xle_c xle_e))))) (tX5_roundsOfRing_b10 F h)
def pX11_ring (F : Nat) (v1 : Int32) (v2 : Int64) (v4 : Int32) (f : xM) : Option (Int32 × xM) := (Option.bind (pX5_read F v1 (3 : Int32) v2 f) fun q1 => (if q1.1 = 0 then some (((-2 : Int32), q1.2)) else (if v4 < 0 then some (((-2 : Int32), q1.2)) else (if v4 ≤ (1 : Int32) then (Option.bind (pX5_nameOnRing F q1.2) fun q5 => (if v4 = 0 then (Option.bind (pX5_roundsToRing F q1.2 q5) fun q8 => some ((q8, q1.2))) else (Option.bind (pX5_roundsOfRing F q1.2 q5) fun q7 => some ((q7, q1.2))))) else some (((-2 : Int32), q1.2))))))
set_option maxRecDepth 100000 in
set_option maxHeartbeats 4000000 in
theorem tX11_ring {F : Nat} {g : xN} {v1 : Int32} {v2 : Int64} {v4 : Int32} {f : xM} {r : Int32 × xM} (h : pX11_ring F v1 v2 v4 f = some r) : XT mX11_ring 5 [.ref 0, .int v1, .long v2, .int v4] f g (some (.int r.1), r.2, g) := by
  unfold pX11_ring at h
  refine XT.of (L := [some (.ref 0), some (.int v1), some (.long v2), none, some (.int v4), none]) [some (.ref 0), some (.int v1), some (.long v2), none, some (.int v4)] rfl (Nat.le_of_ble_eq_true rfl) rfl (xle_c (xle_c (xle_c (xle_n (xle_c (xle_z xle_e)))))) ?_
  refine X.aload_n (i := 0) dX11_ring_0 rfl rfl ?_
  refine X.getR (k0 := 4) kX11 sC_0 (Nat.le_of_ble_eq_true rfl) rfl lfX11_42 dX11_ring_1 ?_
  refine X.aload_n (i := 0) dX11_ring_4 rfl rfl ?_
  refine X.getR (k0 := 1) kX11 sC_0 (Nat.le_of_ble_eq_true rfl) rfl lfX11_19 dX11_ring_5 ?_
  refine X.iload_n (i := 1) dX11_ring_8 rfl rfl ?_
  refine X.iconst (v := (3 : Int32)) dX11_ring_9 (by decide) ?_
  refine X.lload_n (i := 2) dX11_ring_10 rfl rfl ?_
  obtain ⟨q1, e1, h⟩ := xbind h
  try dsimp only at h
  refine X.callVN (μ' := mX5_read) (As := [.ref 2, .int v1, .int (3 : Int32), .long v2]) (st := []) (st1 := [.int q1.1]) (r := some (.int q1.1)) (f' := q1.2) (g' := g) (tX5_read e1) (Nat.le_of_ble_eq_true rfl) cwX5_read rfl mnX11_193 sC_5 kX5 rfl rfl rfl (Nat.le_of_ble_eq_true rfl) dX11_ring_11 ?_
  refine X.if_eq (tgt := 28) dX11_ring_14 (by decide) (fun c2 => ?_) (fun c2 => ?_)
  · rw [if_pos c2] at h
    refine X.bipush (v := (-2 : Int32)) dX11_ring_28 (by decide) ?_
    obtain rfl := Option.some.inj h
    exact X.iret dX11_ring_30 rfl rfl
  · rw [if_neg c2] at h
    refine X.iload (i := 4) dX11_ring_17 rfl ?_
    refine X.if_lt (tgt := 28) dX11_ring_19 (by decide) (fun c3 => ?_) (fun c3 => ?_)
    · rw [if_pos c3] at h
      refine X.bipush (v := (-2 : Int32)) dX11_ring_28 (by decide) ?_
      obtain rfl := Option.some.inj h
      exact X.iret dX11_ring_30 rfl rfl
    · rw [if_neg c3] at h
      refine X.iload (i := 4) dX11_ring_22 rfl ?_
      refine X.iconst (v := (1 : Int32)) dX11_ring_24 (by decide) ?_
      refine X.icmp_le (tgt := 31) dX11_ring_25 (by decide) (fun c4 => ?_) (fun c4 => ?_)
      · rw [if_pos c4] at h
        refine X.aload_n (i := 0) dX11_ring_31 rfl rfl ?_
        refine X.getR (k0 := 4) kX11 sC_0 (Nat.le_of_ble_eq_true rfl) rfl lfX11_42 dX11_ring_32 ?_
        refine X.aload_n (i := 0) dX11_ring_35 rfl rfl ?_
        refine X.getR (k0 := 1) kX11 sC_0 (Nat.le_of_ble_eq_true rfl) rfl lfX11_19 dX11_ring_36 ?_
        obtain ⟨q5, e5, h⟩ := xbind h
        try dsimp only at h
        refine X.callVN (μ' := mX5_nameOnRing) (As := [.ref 2]) (st := []) (st1 := [.int q5]) (r := some (.int q5)) (f' := q1.2) (g' := g) (tX5_nameOnRing e5) (Nat.le_of_ble_eq_true rfl) cwX5_nameOnRing rfl mnX11_211 sC_5 kX5 rfl rfl rfl (Nat.le_of_ble_eq_true rfl) dX11_ring_39 ?_
        refine X.istore (i := 5) (L' := [some (.ref 0), some (.int v1), some (.long v2), none, some (.int v4), some (.int q5)]) dX11_ring_42 (Nat.le_of_ble_eq_true rfl) rfl ?_
        refine X.iload (i := 4) dX11_ring_44 rfl ?_
        refine X.if_ne (tgt := 65) dX11_ring_46 (by decide) (fun c6 => ?_) (fun c6 => ?_)
        · rw [if_neg c6] at h
          refine X.aload_n (i := 0) dX11_ring_65 rfl rfl ?_
          refine X.getR (k0 := 4) kX11 sC_0 (Nat.le_of_ble_eq_true rfl) rfl lfX11_42 dX11_ring_66 ?_
          refine X.aload_n (i := 0) dX11_ring_69 rfl rfl ?_
          refine X.getR (k0 := 1) kX11 sC_0 (Nat.le_of_ble_eq_true rfl) rfl lfX11_19 dX11_ring_70 ?_
          refine X.iload (i := 5) dX11_ring_73 rfl ?_
          obtain ⟨q7, e7, h⟩ := xbind h
          try dsimp only at h
          refine X.callVN (μ' := mX5_roundsOfRing) (As := [.ref 2, .int q5]) (st := []) (st1 := [.int q7]) (r := some (.int q7)) (f' := q1.2) (g' := g) (tX5_roundsOfRing e7) (Nat.le_of_ble_eq_true rfl) cwX5_roundsOfRing rfl mnX11_218 sC_5 kX5 rfl rfl rfl (Nat.le_of_ble_eq_true rfl) dX11_ring_75 ?_
          obtain rfl := Option.some.inj h
          exact X.iret dX11_ring_78 rfl rfl
        · rw [if_pos c6] at h
          refine X.aload_n (i := 0) dX11_ring_49 rfl rfl ?_
          refine X.getR (k0 := 4) kX11 sC_0 (Nat.le_of_ble_eq_true rfl) rfl lfX11_42 dX11_ring_50 ?_
          refine X.aload_n (i := 0) dX11_ring_53 rfl rfl ?_
          refine X.getR (k0 := 1) kX11 sC_0 (Nat.le_of_ble_eq_true rfl) rfl lfX11_19 dX11_ring_54 ?_
          refine X.iload (i := 5) dX11_ring_57 rfl ?_
          obtain ⟨q8, e8, h⟩ := xbind h
          try dsimp only at h
          refine X.callVN (μ' := mX5_roundsToRing) (As := [.ref 2, .int q5]) (st := []) (st1 := [.int q8]) (r := some (.int q8)) (f' := q1.2) (g' := g) (tX5_roundsToRing e8) (Nat.le_of_ble_eq_true rfl) cwX5_roundsToRing rfl mnX11_215 sC_5 kX5 rfl rfl rfl (Nat.le_of_ble_eq_true rfl) dX11_ring_59 ?_
          refine X.goto (tgt := 78) dX11_ring_62 (by decide) ?_
          obtain rfl := Option.some.inj h
          exact X.iret dX11_ring_78 rfl rfl
      · rw [if_neg c4] at h
        refine X.bipush (v := (-2 : Int32)) dX11_ring_28 (by decide) ?_
        obtain rfl := Option.some.inj h
        exact X.iret dX11_ring_30 rfl rfl
def pX8_names (f : xM) : Int32 := ((1 : Int32) <<< (((2 : Int32) * (f 10 0)) &&& 31))
set_option maxRecDepth 100000 in
set_option maxHeartbeats 4000000 in
theorem tX8_names {f : xM} {g : xN} {r : Int32} (h : pX8_names f = r) : XT mX8_names 0 [.ref 10] f g (some (.int r), f, g) := by
  unfold pX8_names at h
  refine XT.of (L := [some (.ref 10)]) [some (.ref 10)] rfl (Nat.le_of_ble_eq_true rfl) rfl (xle_c xle_e) ?_
  refine X.iconst (v := (1 : Int32)) dX8_names_0 (by decide) ?_
  refine X.iconst (v := (2 : Int32)) dX8_names_1 (by decide) ?_
  refine X.aload_n (i := 0) dX8_names_2 rfl rfl ?_
  refine X.getI (k0 := 0) kX8 sC_10 (Nat.le_of_ble_eq_true rfl) rfl lfX8_9 dX8_names_3 ?_
  refine X.imul dX8_names_6 ?_
  refine X.ishl dX8_names_7 ?_
  subst h
  exact X.iret dX8_names_8 rfl rfl
def pX8_placesAlike_b4 (F : Nat) (f : xM) : Nat → Int32 → Int32 → Int32 → Option (Int32)
  | 0, _, _, _ => none
  | n + 1, v1, v2, v3 => (if (f 10 0) ≤ v3 then some (v2) else (if (pX8_letterAt f v1 v3) = 0 then (pX8_placesAlike_b4 F f n v1 (v2 ||| ((1 : Int32) <<< (v3 &&& 31))) (v3 + (1 : Int32))) else (pX8_placesAlike_b4 F f n v1 v2 (v3 + (1 : Int32)))))
set_option maxRecDepth 100000 in
set_option maxHeartbeats 4000000 in
theorem tX8_placesAlike_b4 {F : Nat} {f : xM} {g : xN} : ∀ (n : Nat) {v1 : Int32} {v2 : Int32} {v3 : Int32} {r : Int32}, pX8_placesAlike_b4 F f n v1 v2 v3 = some r → X mX8_placesAlike 1 (some (.int r), f, g) 4 [some (.ref 10), some (.int v1), some (.int v2), some (.int v3)] [] f g := by
  intro n
  induction n with
  | zero => intro v1 v2 v3 r h; cases h
  | succ n ih =>
    intro v1 v2 v3 r h
    rw [pX8_placesAlike_b4] at h
    refine X.iload_n (i := 3) dX8_placesAlike_4 rfl rfl ?_
    refine X.aload_n (i := 0) dX8_placesAlike_5 rfl rfl ?_
    refine X.getI (k0 := 0) kX8 sC_10 (Nat.le_of_ble_eq_true rfl) rfl lfX8_9 dX8_placesAlike_6 ?_
    refine X.icmp_ge (tgt := 33) dX8_placesAlike_9 (by decide) (fun c1 => ?_) (fun c1 => ?_)
    · rw [if_pos c1] at h
      refine X.iload_n (i := 2) dX8_placesAlike_33 rfl rfl ?_
      obtain rfl := Option.some.inj h
      exact X.iret dX8_placesAlike_34 rfl rfl
    · rw [if_neg c1] at h
      refine X.aload_n (i := 0) dX8_placesAlike_12 rfl rfl ?_
      refine X.iload_n (i := 1) dX8_placesAlike_13 rfl rfl ?_
      refine X.iload_n (i := 3) dX8_placesAlike_14 rfl rfl ?_
      refine X.callV (μ' := mX8_letterAt) (As := [.int v1, .int v3]) (st := []) (st1 := [.int (pX8_letterAt f v1 v3)]) (r := some (.int (pX8_letterAt f v1 v3))) (f' := f) (g' := g) (tX8_letterAt rfl) (Nat.le_of_ble_eq_true rfl) cwX8_letterAt rfl mlX8_23 sC_10 kX8 rfl rfl rfl (Nat.le_of_ble_eq_true rfl) dX8_placesAlike_15 ?_
      refine X.if_ne (tgt := 27) dX8_placesAlike_18 (by decide) (fun c2 => ?_) (fun c2 => ?_)
      · rw [if_neg c2] at h
        refine X.iinc (i := 3) (v := (v3 + (1 : Int32))) (L' := [some (.ref 10), some (.int v1), some (.int v2), some (.int (v3 + (1 : Int32)))]) dX8_placesAlike_27 rfl rfl (Nat.le_of_ble_eq_true rfl) rfl ?_
        refine X.goto (tgt := 4) dX8_placesAlike_30 (by decide) ?_
        exact X.weaken (xle_c (xle_c (xle_c (xle_c xle_e)))) (ih h)
      · rw [if_pos c2] at h
        refine X.iload_n (i := 2) dX8_placesAlike_21 rfl rfl ?_
        refine X.iconst (v := (1 : Int32)) dX8_placesAlike_22 (by decide) ?_
        refine X.iload_n (i := 3) dX8_placesAlike_23 rfl rfl ?_
        refine X.ishl dX8_placesAlike_24 ?_
        refine X.ior dX8_placesAlike_25 ?_
        refine X.istore_n (i := 2) (L' := [some (.ref 10), some (.int v1), some (.int (v2 ||| ((1 : Int32) <<< (v3 &&& 31)))), some (.int v3)]) dX8_placesAlike_26 rfl (Nat.le_of_ble_eq_true rfl) rfl ?_
        refine X.iinc (i := 3) (v := (v3 + (1 : Int32))) (L' := [some (.ref 10), some (.int v1), some (.int (v2 ||| ((1 : Int32) <<< (v3 &&& 31)))), some (.int (v3 + (1 : Int32)))]) dX8_placesAlike_27 rfl rfl (Nat.le_of_ble_eq_true rfl) rfl ?_
        refine X.goto (tgt := 4) dX8_placesAlike_30 (by decide) ?_
        exact X.weaken (xle_c (xle_c (xle_c (xle_c xle_e)))) (ih h)
def pX8_placesAlike (F : Nat) (f : xM) (v1 : Int32) : Option (Int32) := (pX8_placesAlike_b4 F f F v1 (0 : Int32) (0 : Int32))
set_option maxRecDepth 100000 in
set_option maxHeartbeats 4000000 in
theorem tX8_placesAlike {F : Nat} {f : xM} {g : xN} {v1 : Int32} {r : Int32} (h : pX8_placesAlike F f v1 = some r) : XT mX8_placesAlike 1 [.ref 10, .int v1] f g (some (.int r), f, g) := by
  unfold pX8_placesAlike at h
  refine XT.of (L := [some (.ref 10), some (.int v1), none, none]) [some (.ref 10), some (.int v1)] rfl (Nat.le_of_ble_eq_true rfl) rfl (xle_c (xle_c (xle_z (xle_z xle_e)))) ?_
  refine X.iconst (v := (0 : Int32)) dX8_placesAlike_0 (by decide) ?_
  refine X.istore_n (i := 2) (L' := [some (.ref 10), some (.int v1), some (.int (0 : Int32)), none]) dX8_placesAlike_1 rfl (Nat.le_of_ble_eq_true rfl) rfl ?_
  refine X.iconst (v := (0 : Int32)) dX8_placesAlike_2 (by decide) ?_
  refine X.istore_n (i := 3) (L' := [some (.ref 10), some (.int v1), some (.int (0 : Int32)), some (.int (0 : Int32))]) dX8_placesAlike_3 rfl (Nat.le_of_ble_eq_true rfl) rfl ?_
  exact X.weaken (xle_c (xle_c (xle_c (xle_c xle_e)))) (tX8_placesAlike_b4 F h)
def pX11_first_b97 (F : Nat) (K44 : Int32 → Int32 → Int32 → Int32 → Int32 → xM → Option (Int32 × xM)) (v4 : Int32) (v5 : Int32) (v7 : Int32) (v8 : Int32) (s0 : Int32) (f : xM) : Option (Int32 × xM) := (K44 v4 (v5 + (1 : Int32)) s0 (v7 ||| (v8 ^^^ s0)) (v8 + (1 : Int32)) f)
set_option maxRecDepth 100000 in
set_option maxHeartbeats 4000000 in
theorem tX11_first_b97 {F : Nat} {g : xN} {K44 : Int32 → Int32 → Int32 → Int32 → Int32 → xM → Option (Int32 × xM)} (hK44 : ∀ {v4 : Int32} {v5 : Int32} {v6 : Int32} {v7 : Int32} {v8 : Int32} {f : xM} {r : Int32 × xM}, K44 v4 v5 v6 v7 v8 f = some r → X mX11_first 4 (some (.int r.1), r.2, g) 44 [some (.ref 0), none, none, none, some (.int v4), some (.int v5), some (.int v6), some (.int v7), some (.int v8)] [] f g) {v4 : Int32} {v5 : Int32} {v7 : Int32} {v8 : Int32} {s0 : Int32} {f : xM} {r : Int32 × xM} (h : pX11_first_b97 F K44 v4 v5 v7 v8 s0 f = some r) : X mX11_first 4 (some (.int r.1), r.2, g) 97 [some (.ref 0), none, none, none, some (.int v4), some (.int v5), none, some (.int v7), some (.int v8)] [.int s0] f g := by
  unfold pX11_first_b97 at h
  refine X.istore (i := 6) (L' := [some (.ref 0), none, none, none, some (.int v4), some (.int v5), some (.int s0), some (.int v7), some (.int v8)]) dX11_first_97 (Nat.le_of_ble_eq_true rfl) rfl ?_
  refine X.iload (i := 7) dX11_first_99 rfl ?_
  refine X.iload (i := 8) dX11_first_101 rfl ?_
  refine X.iload (i := 6) dX11_first_103 rfl ?_
  refine X.ixor dX11_first_105 ?_
  refine X.ior dX11_first_106 ?_
  refine X.istore (i := 7) (L' := [some (.ref 0), none, none, none, some (.int v4), some (.int v5), some (.int s0), some (.int (v7 ||| (v8 ^^^ s0))), some (.int v8)]) dX11_first_107 (Nat.le_of_ble_eq_true rfl) rfl ?_
  refine X.iinc (i := 5) (v := (v5 + (1 : Int32))) (L' := [some (.ref 0), none, none, none, some (.int v4), some (.int (v5 + (1 : Int32))), some (.int s0), some (.int (v7 ||| (v8 ^^^ s0))), some (.int v8)]) dX11_first_109 rfl rfl (Nat.le_of_ble_eq_true rfl) rfl ?_
  refine X.iinc (i := 8) (v := (v8 + (1 : Int32))) (L' := [some (.ref 0), none, none, none, some (.int v4), some (.int (v5 + (1 : Int32))), some (.int s0), some (.int (v7 ||| (v8 ^^^ s0))), some (.int (v8 + (1 : Int32)))]) dX11_first_112 rfl rfl (Nat.le_of_ble_eq_true rfl) rfl ?_
  refine X.goto (tgt := 44) dX11_first_115 (by decide) ?_
  exact X.weaken (xle_c (xle_n (xle_n (xle_n (xle_c (xle_c (xle_c (xle_c (xle_c xle_e))))))))) (hK44 h)
def pX11_first_b44 (F : Nat) : Nat → Int32 → Int32 → Int32 → Int32 → Int32 → xM → Option (Int32 × xM)
  | 0, _, _, _, _, _, _ => none
  | n + 1, v4, v5, v6, v7, v8, f => (if (pX8_names f) ≤ v8 then (if v4 = 0 then some ((v5, f)) else (if v5 = 0 then some (((-9 : Int32), f)) else (if v4 = (1 : Int32) then (Option.bind (pX8_told F f v6) fun q10 => some ((q10, f))) else (Option.bind (pX8_placesAlike F f v7) fun q9 => some ((q9, f)))))) else (Option.bind (pX5_doneOn F f v8) fun q11 => (if q11 = (pX9_said f) then (if v5 = 0 then (pX11_first_b97 F (pX11_first_b44 F n) v4 v5 v7 v8 v8 f) else (pX11_first_b97 F (pX11_first_b44 F n) v4 v5 v7 v8 v6 f)) else (pX11_first_b44 F n v4 v5 v6 v7 (v8 + (1 : Int32)) f))))
set_option maxRecDepth 100000 in
set_option maxHeartbeats 4000000 in
theorem tX11_first_b44 {F : Nat} {g : xN} : ∀ (n : Nat) {v4 : Int32} {v5 : Int32} {v6 : Int32} {v7 : Int32} {v8 : Int32} {f : xM} {r : Int32 × xM}, pX11_first_b44 F n v4 v5 v6 v7 v8 f = some r → X mX11_first 4 (some (.int r.1), r.2, g) 44 [some (.ref 0), none, none, none, some (.int v4), some (.int v5), some (.int v6), some (.int v7), some (.int v8)] [] f g := by
  intro n
  induction n with
  | zero => intro v4 v5 v6 v7 v8 f r h; cases h
  | succ n ih =>
    intro v4 v5 v6 v7 v8 f r h
    rw [pX11_first_b44] at h
    refine X.iload (i := 8) dX11_first_44 rfl ?_
    refine X.aload_n (i := 0) dX11_first_46 rfl rfl ?_
    refine X.getR (k0 := 1) kX11 sC_0 (Nat.le_of_ble_eq_true rfl) rfl lfX11_19 dX11_first_47 ?_
    refine X.getRN (k0 := 0) kX6 sC_2 (Nat.le_of_ble_eq_true rfl) rfl lnX11_110 dX11_first_50 ?_
    refine X.callVN (μ' := mX8_names) (As := []) (st := [.int v8]) (st1 := [.int (pX8_names f), .int v8]) (r := some (.int (pX8_names f))) (f' := f) (g' := g) (tX8_names rfl) (Nat.le_of_ble_eq_true rfl) cwX8_names rfl mnX11_221 sC_10 kX8 rfl rfl rfl (Nat.le_of_ble_eq_true rfl) dX11_first_53 ?_
    refine X.icmp_ge (tgt := 118) dX11_first_56 (by decide) (fun c5 => ?_) (fun c5 => ?_)
    · rw [if_pos c5] at h
      refine X.iload (i := 4) dX11_first_118 rfl ?_
      refine X.if_ne (tgt := 126) dX11_first_120 (by decide) (fun c6 => ?_) (fun c6 => ?_)
      · rw [if_neg c6] at h
        refine X.iload (i := 5) dX11_first_126 rfl ?_
        refine X.if_ne (tgt := 134) dX11_first_128 (by decide) (fun c7 => ?_) (fun c7 => ?_)
        · rw [if_neg c7] at h
          refine X.iload (i := 4) dX11_first_134 rfl ?_
          refine X.iconst (v := (1 : Int32)) dX11_first_136 (by decide) ?_
          refine X.icmp_ne (tgt := 155) dX11_first_137 (by decide) (fun c8 => ?_) (fun c8 => ?_)
          · rw [if_neg c8] at h
            refine X.aload_n (i := 0) dX11_first_155 rfl rfl ?_
            refine X.getR (k0 := 1) kX11 sC_0 (Nat.le_of_ble_eq_true rfl) rfl lfX11_19 dX11_first_156 ?_
            refine X.getRN (k0 := 0) kX6 sC_2 (Nat.le_of_ble_eq_true rfl) rfl lnX11_110 dX11_first_159 ?_
            refine X.iload (i := 7) dX11_first_162 rfl ?_
            obtain ⟨q9, e9, h⟩ := xbind h
            try dsimp only at h
            refine X.callVN (μ' := mX8_placesAlike) (As := [.int v7]) (st := []) (st1 := [.int q9]) (r := some (.int q9)) (f' := f) (g' := g) (tX8_placesAlike e9) (Nat.le_of_ble_eq_true rfl) cwX8_placesAlike rfl mnX11_224 sC_10 kX8 rfl rfl rfl (Nat.le_of_ble_eq_true rfl) dX11_first_164 ?_
            obtain rfl := Option.some.inj h
            exact X.iret dX11_first_167 rfl rfl
          · rw [if_pos c8] at h
            refine X.aload_n (i := 0) dX11_first_140 rfl rfl ?_
            refine X.getR (k0 := 1) kX11 sC_0 (Nat.le_of_ble_eq_true rfl) rfl lfX11_19 dX11_first_141 ?_
            refine X.getRN (k0 := 0) kX6 sC_2 (Nat.le_of_ble_eq_true rfl) rfl lnX11_110 dX11_first_144 ?_
            refine X.iload (i := 6) dX11_first_147 rfl ?_
            obtain ⟨q10, e10, h⟩ := xbind h
            try dsimp only at h
            refine X.callVN (μ' := mX8_told) (As := [.int v6]) (st := []) (st1 := [.int q10]) (r := some (.int q10)) (f' := f) (g' := g) (tX8_told e10) (Nat.le_of_ble_eq_true rfl) cwX8_told rfl mnX11_122 sC_10 kX8 rfl rfl rfl (Nat.le_of_ble_eq_true rfl) dX11_first_149 ?_
            refine X.goto (tgt := 167) dX11_first_152 (by decide) ?_
            obtain rfl := Option.some.inj h
            exact X.iret dX11_first_167 rfl rfl
        · rw [if_pos c7] at h
          refine X.bipush (v := (-9 : Int32)) dX11_first_131 (by decide) ?_
          obtain rfl := Option.some.inj h
          exact X.iret dX11_first_133 rfl rfl
      · rw [if_pos c6] at h
        refine X.iload (i := 5) dX11_first_123 rfl ?_
        obtain rfl := Option.some.inj h
        exact X.iret dX11_first_125 rfl rfl
    · rw [if_neg c5] at h
      refine X.aload_n (i := 0) dX11_first_59 rfl rfl ?_
      refine X.getR (k0 := 4) kX11 sC_0 (Nat.le_of_ble_eq_true rfl) rfl lfX11_42 dX11_first_60 ?_
      refine X.aload_n (i := 0) dX11_first_63 rfl rfl ?_
      refine X.getR (k0 := 1) kX11 sC_0 (Nat.le_of_ble_eq_true rfl) rfl lfX11_19 dX11_first_64 ?_
      refine X.iload (i := 8) dX11_first_67 rfl ?_
      obtain ⟨q11, e11, h⟩ := xbind h
      try dsimp only at h
      refine X.callVN (μ' := mX5_doneOn) (As := [.ref 2, .int v8]) (st := []) (st1 := [.int q11]) (r := some (.int q11)) (f' := f) (g' := g) (tX5_doneOn e11) (Nat.le_of_ble_eq_true rfl) cwX5_doneOn rfl mnX11_197 sC_5 kX5 rfl rfl rfl (Nat.le_of_ble_eq_true rfl) dX11_first_69 ?_
      refine X.aload_n (i := 0) dX11_first_72 rfl rfl ?_
      refine X.getR (k0 := 1) kX11 sC_0 (Nat.le_of_ble_eq_true rfl) rfl lfX11_19 dX11_first_73 ?_
      refine X.getRN (k0 := 1) kX6 sC_2 (Nat.le_of_ble_eq_true rfl) rfl lnX11_106 dX11_first_76 ?_
      refine X.callVN (μ' := mX9_said) (As := []) (st := [.int q11]) (st1 := [.int (pX9_said f), .int q11]) (r := some (.int (pX9_said f))) (f' := f) (g' := g) (tX9_said rfl) (Nat.le_of_ble_eq_true rfl) cwX9_said rfl mnX11_126 sC_11 kX9 rfl rfl rfl (Nat.le_of_ble_eq_true rfl) dX11_first_79 ?_
      refine X.icmp_ne (tgt := 112) dX11_first_82 (by decide) (fun c12 => ?_) (fun c12 => ?_)
      · rw [if_neg c12] at h
        refine X.iinc (i := 8) (v := (v8 + (1 : Int32))) (L' := [some (.ref 0), none, none, none, some (.int v4), some (.int v5), some (.int v6), some (.int v7), some (.int (v8 + (1 : Int32)))]) dX11_first_112 rfl rfl (Nat.le_of_ble_eq_true rfl) rfl ?_
        refine X.goto (tgt := 44) dX11_first_115 (by decide) ?_
        exact X.weaken (xle_c (xle_n (xle_n (xle_n (xle_c (xle_c (xle_c (xle_c (xle_c xle_e))))))))) (ih h)
      · rw [if_pos c12] at h
        refine X.iload (i := 5) dX11_first_85 rfl ?_
        refine X.if_ne (tgt := 95) dX11_first_87 (by decide) (fun c13 => ?_) (fun c13 => ?_)
        · rw [if_neg c13] at h
          refine X.iload (i := 6) dX11_first_95 rfl ?_
          exact X.weaken (xle_c (xle_n (xle_n (xle_n (xle_c (xle_c (xle_n (xle_c (xle_c xle_e))))))))) (tX11_first_b97 ih h)
        · rw [if_pos c13] at h
          refine X.iload (i := 8) dX11_first_90 rfl ?_
          refine X.goto (tgt := 97) dX11_first_92 (by decide) ?_
          exact X.weaken (xle_c (xle_n (xle_n (xle_n (xle_c (xle_c (xle_n (xle_c (xle_c xle_e))))))))) (tX11_first_b97 ih h)
def pX11_first (F : Nat) (v1 : Int32) (v2 : Int64) (v4 : Int32) (f : xM) : Option (Int32 × xM) := (Option.bind (pX5_read F v1 (3 : Int32) v2 f) fun q1 => (if q1.1 = 0 then some (((-2 : Int32), q1.2)) else (if v4 < 0 then some (((-2 : Int32), q1.2)) else (if v4 ≤ (2 : Int32) then (pX11_first_b44 F F v4 (0 : Int32) (-9 : Int32) (0 : Int32) (0 : Int32) q1.2) else some (((-2 : Int32), q1.2))))))
set_option maxRecDepth 100000 in
set_option maxHeartbeats 4000000 in
theorem tX11_first {F : Nat} {g : xN} {v1 : Int32} {v2 : Int64} {v4 : Int32} {f : xM} {r : Int32 × xM} (h : pX11_first F v1 v2 v4 f = some r) : XT mX11_first 4 [.ref 0, .int v1, .long v2, .int v4] f g (some (.int r.1), r.2, g) := by
  unfold pX11_first at h
  refine XT.of (L := [some (.ref 0), some (.int v1), some (.long v2), none, some (.int v4), none, none, none, none]) [some (.ref 0), some (.int v1), some (.long v2), none, some (.int v4)] rfl (Nat.le_of_ble_eq_true rfl) rfl (xle_c (xle_c (xle_c (xle_n (xle_c (xle_z (xle_z (xle_z (xle_z xle_e))))))))) ?_
  refine X.aload_n (i := 0) dX11_first_0 rfl rfl ?_
  refine X.getR (k0 := 4) kX11 sC_0 (Nat.le_of_ble_eq_true rfl) rfl lfX11_42 dX11_first_1 ?_
  refine X.aload_n (i := 0) dX11_first_4 rfl rfl ?_
  refine X.getR (k0 := 1) kX11 sC_0 (Nat.le_of_ble_eq_true rfl) rfl lfX11_19 dX11_first_5 ?_
  refine X.iload_n (i := 1) dX11_first_8 rfl rfl ?_
  refine X.iconst (v := (3 : Int32)) dX11_first_9 (by decide) ?_
  refine X.lload_n (i := 2) dX11_first_10 rfl rfl ?_
  obtain ⟨q1, e1, h⟩ := xbind h
  try dsimp only at h
  refine X.callVN (μ' := mX5_read) (As := [.ref 2, .int v1, .int (3 : Int32), .long v2]) (st := []) (st1 := [.int q1.1]) (r := some (.int q1.1)) (f' := q1.2) (g' := g) (tX5_read e1) (Nat.le_of_ble_eq_true rfl) cwX5_read rfl mnX11_193 sC_5 kX5 rfl rfl rfl (Nat.le_of_ble_eq_true rfl) dX11_first_11 ?_
  refine X.if_eq (tgt := 28) dX11_first_14 (by decide) (fun c2 => ?_) (fun c2 => ?_)
  · rw [if_pos c2] at h
    refine X.bipush (v := (-2 : Int32)) dX11_first_28 (by decide) ?_
    obtain rfl := Option.some.inj h
    exact X.iret dX11_first_30 rfl rfl
  · rw [if_neg c2] at h
    refine X.iload (i := 4) dX11_first_17 rfl ?_
    refine X.if_lt (tgt := 28) dX11_first_19 (by decide) (fun c3 => ?_) (fun c3 => ?_)
    · rw [if_pos c3] at h
      refine X.bipush (v := (-2 : Int32)) dX11_first_28 (by decide) ?_
      obtain rfl := Option.some.inj h
      exact X.iret dX11_first_30 rfl rfl
    · rw [if_neg c3] at h
      refine X.iload (i := 4) dX11_first_22 rfl ?_
      refine X.iconst (v := (2 : Int32)) dX11_first_24 (by decide) ?_
      refine X.icmp_le (tgt := 31) dX11_first_25 (by decide) (fun c4 => ?_) (fun c4 => ?_)
      · rw [if_pos c4] at h
        refine X.iconst (v := (0 : Int32)) dX11_first_31 (by decide) ?_
        refine X.istore (i := 5) (L' := [some (.ref 0), some (.int v1), some (.long v2), none, some (.int v4), some (.int (0 : Int32)), none, none, none]) dX11_first_32 (Nat.le_of_ble_eq_true rfl) rfl ?_
        refine X.bipush (v := (-9 : Int32)) dX11_first_34 (by decide) ?_
        refine X.istore (i := 6) (L' := [some (.ref 0), some (.int v1), some (.long v2), none, some (.int v4), some (.int (0 : Int32)), some (.int (-9 : Int32)), none, none]) dX11_first_36 (Nat.le_of_ble_eq_true rfl) rfl ?_
        refine X.iconst (v := (0 : Int32)) dX11_first_38 (by decide) ?_
        refine X.istore (i := 7) (L' := [some (.ref 0), some (.int v1), some (.long v2), none, some (.int v4), some (.int (0 : Int32)), some (.int (-9 : Int32)), some (.int (0 : Int32)), none]) dX11_first_39 (Nat.le_of_ble_eq_true rfl) rfl ?_
        refine X.iconst (v := (0 : Int32)) dX11_first_41 (by decide) ?_
        refine X.istore (i := 8) (L' := [some (.ref 0), some (.int v1), some (.long v2), none, some (.int v4), some (.int (0 : Int32)), some (.int (-9 : Int32)), some (.int (0 : Int32)), some (.int (0 : Int32))]) dX11_first_42 (Nat.le_of_ble_eq_true rfl) rfl ?_
        exact X.weaken (xle_c (xle_n (xle_n (xle_n (xle_c (xle_c (xle_c (xle_c (xle_c xle_e))))))))) (tX11_first_b44 F h)
      · rw [if_neg c4] at h
        refine X.bipush (v := (-2 : Int32)) dX11_first_28 (by decide) ?_
        obtain rfl := Option.some.inj h
        exact X.iret dX11_first_30 rfl rfl
def pX11_who_b62 (F : Nat) (f : xM) : Nat → Int32 → Int32 → Int32 → Int32 → Int32 → Int32 → Option (Int32)
  | 0, _, _, _, _, _, _ => none
  | n + 1, v3, v4, v5, v6, v7, v8 => (if (f 2 4) ≤ v8 then some (v7) else (Option.bind (pX6_noticed f v8 v5 v3 v4) fun q7 => (if q7 = v6 then (pX11_who_b62 F f n v3 v4 v5 v6 (v7 ||| ((1 : Int32) <<< (v8 &&& 31))) (v8 + (1 : Int32))) else (pX11_who_b62 F f n v3 v4 v5 v6 v7 (v8 + (1 : Int32))))))
set_option maxRecDepth 100000 in
set_option maxHeartbeats 4000000 in
theorem tX11_who_b62 {F : Nat} {f : xM} {g : xN} : ∀ (n : Nat) {v3 : Int32} {v4 : Int32} {v5 : Int32} {v6 : Int32} {v7 : Int32} {v8 : Int32} {r : Int32}, pX11_who_b62 F f n v3 v4 v5 v6 v7 v8 = some r → X mX11_who 3 (some (.int r), f, g) 62 [some (.ref 0), none, none, some (.int v3), some (.int v4), some (.int v5), some (.int v6), some (.int v7), some (.int v8)] [] f g := by
  intro n
  induction n with
  | zero => intro v3 v4 v5 v6 v7 v8 r h; cases h
  | succ n ih =>
    intro v3 v4 v5 v6 v7 v8 r h
    rw [pX11_who_b62] at h
    refine X.iload (i := 8) dX11_who_62 rfl ?_
    refine X.aload_n (i := 0) dX11_who_64 rfl rfl ?_
    refine X.getR (k0 := 1) kX11 sC_0 (Nat.le_of_ble_eq_true rfl) rfl lfX11_19 dX11_who_65 ?_
    refine X.getIN (k0 := 4) kX6 sC_2 (Nat.le_of_ble_eq_true rfl) rfl lnX11_100 dX11_who_68 ?_
    refine X.icmp_ge (tgt := 108) dX11_who_71 (by decide) (fun c6 => ?_) (fun c6 => ?_)
    · rw [if_pos c6] at h
      refine X.iload (i := 7) dX11_who_108 rfl ?_
      obtain rfl := Option.some.inj h
      exact X.iret dX11_who_110 rfl rfl
    · rw [if_neg c6] at h
      refine X.aload_n (i := 0) dX11_who_74 rfl rfl ?_
      refine X.getR (k0 := 1) kX11 sC_0 (Nat.le_of_ble_eq_true rfl) rfl lfX11_19 dX11_who_75 ?_
      refine X.iload (i := 8) dX11_who_78 rfl ?_
      refine X.iload (i := 5) dX11_who_80 rfl ?_
      refine X.iload_n (i := 3) dX11_who_82 rfl rfl ?_
      refine X.iload (i := 4) dX11_who_83 rfl ?_
      obtain ⟨q7, e7, h⟩ := xbind h
      try dsimp only at h
      refine X.callVN (μ' := mX6_noticed) (As := [.int v8, .int v5, .int v3, .int v4]) (st := []) (st1 := [.int q7]) (r := some (.int q7)) (f' := f) (g' := g) (tX6_noticed e7) (Nat.le_of_ble_eq_true rfl) cwX6_noticed rfl mnX11_227 sC_2 kX6 rfl rfl rfl (Nat.le_of_ble_eq_true rfl) dX11_who_85 ?_
      refine X.iload (i := 6) dX11_who_88 rfl ?_
      refine X.icmp_ne (tgt := 102) dX11_who_90 (by decide) (fun c8 => ?_) (fun c8 => ?_)
      · rw [if_neg c8] at h
        refine X.iinc (i := 8) (v := (v8 + (1 : Int32))) (L' := [some (.ref 0), none, none, some (.int v3), some (.int v4), some (.int v5), some (.int v6), some (.int v7), some (.int (v8 + (1 : Int32)))]) dX11_who_102 rfl rfl (Nat.le_of_ble_eq_true rfl) rfl ?_
        refine X.goto (tgt := 62) dX11_who_105 (by decide) ?_
        exact X.weaken (xle_c (xle_n (xle_n (xle_c (xle_c (xle_c (xle_c (xle_c (xle_c xle_e))))))))) (ih h)
      · rw [if_pos c8] at h
        refine X.iload (i := 7) dX11_who_93 rfl ?_
        refine X.iconst (v := (1 : Int32)) dX11_who_95 (by decide) ?_
        refine X.iload (i := 8) dX11_who_96 rfl ?_
        refine X.ishl dX11_who_98 ?_
        refine X.ior dX11_who_99 ?_
        refine X.istore (i := 7) (L' := [some (.ref 0), none, none, some (.int v3), some (.int v4), some (.int v5), some (.int v6), some (.int (v7 ||| ((1 : Int32) <<< (v8 &&& 31)))), some (.int v8)]) dX11_who_100 (Nat.le_of_ble_eq_true rfl) rfl ?_
        refine X.iinc (i := 8) (v := (v8 + (1 : Int32))) (L' := [some (.ref 0), none, none, some (.int v3), some (.int v4), some (.int v5), some (.int v6), some (.int (v7 ||| ((1 : Int32) <<< (v8 &&& 31)))), some (.int (v8 + (1 : Int32)))]) dX11_who_102 rfl rfl (Nat.le_of_ble_eq_true rfl) rfl ?_
        refine X.goto (tgt := 62) dX11_who_105 (by decide) ?_
        exact X.weaken (xle_c (xle_n (xle_n (xle_c (xle_c (xle_c (xle_c (xle_c (xle_c xle_e))))))))) (ih h)
def pX11_who (F : Nat) (f : xM) (v1 : Int32) (v2 : Int32) (v3 : Int32) (v4 : Int32) : Option (Int32) := (Option.bind (pX8_packed F f v1) fun q1 => (Option.bind (pX8_packed F f v2) fun q2 => (if q1 = (-9 : Int32) then some ((-2 : Int32)) else (if q2 = (-9 : Int32) then some ((-2 : Int32)) else (if (pX6_isNoticeFor f v3 v4) = 0 then some ((-2 : Int32)) else (pX11_who_b62 F f F v3 v4 q1 q2 (0 : Int32) (0 : Int32)))))))
set_option maxRecDepth 100000 in
set_option maxHeartbeats 4000000 in
theorem tX11_who {F : Nat} {f : xM} {g : xN} {v1 : Int32} {v2 : Int32} {v3 : Int32} {v4 : Int32} {r : Int32} (h : pX11_who F f v1 v2 v3 v4 = some r) : XT mX11_who 3 [.ref 0, .int v1, .int v2, .int v3, .int v4] f g (some (.int r), f, g) := by
  unfold pX11_who at h
  refine XT.of (L := [some (.ref 0), some (.int v1), some (.int v2), some (.int v3), some (.int v4), none, none, none, none]) [some (.ref 0), some (.int v1), some (.int v2), some (.int v3), some (.int v4)] rfl (Nat.le_of_ble_eq_true rfl) rfl (xle_c (xle_c (xle_c (xle_c (xle_c (xle_z (xle_z (xle_z (xle_z xle_e))))))))) ?_
  refine X.aload_n (i := 0) dX11_who_0 rfl rfl ?_
  refine X.getR (k0 := 1) kX11 sC_0 (Nat.le_of_ble_eq_true rfl) rfl lfX11_19 dX11_who_1 ?_
  refine X.getRN (k0 := 0) kX6 sC_2 (Nat.le_of_ble_eq_true rfl) rfl lnX11_110 dX11_who_4 ?_
  refine X.iload_n (i := 1) dX11_who_7 rfl rfl ?_
  obtain ⟨q1, e1, h⟩ := xbind h
  try dsimp only at h
  refine X.callVN (μ' := mX8_packed) (As := [.int v1]) (st := []) (st1 := [.int q1]) (r := some (.int q1)) (f' := f) (g' := g) (tX8_packed e1) (Nat.le_of_ble_eq_true rfl) cwX8_packed rfl mnX11_190 sC_10 kX8 rfl rfl rfl (Nat.le_of_ble_eq_true rfl) dX11_who_8 ?_
  refine X.istore (i := 5) (L' := [some (.ref 0), some (.int v1), some (.int v2), some (.int v3), some (.int v4), some (.int q1), none, none, none]) dX11_who_11 (Nat.le_of_ble_eq_true rfl) rfl ?_
  refine X.aload_n (i := 0) dX11_who_13 rfl rfl ?_
  refine X.getR (k0 := 1) kX11 sC_0 (Nat.le_of_ble_eq_true rfl) rfl lfX11_19 dX11_who_14 ?_
  refine X.getRN (k0 := 0) kX6 sC_2 (Nat.le_of_ble_eq_true rfl) rfl lnX11_110 dX11_who_17 ?_
  refine X.iload_n (i := 2) dX11_who_20 rfl rfl ?_
  obtain ⟨q2, e2, h⟩ := xbind h
  try dsimp only at h
  refine X.callVN (μ' := mX8_packed) (As := [.int v2]) (st := []) (st1 := [.int q2]) (r := some (.int q2)) (f' := f) (g' := g) (tX8_packed e2) (Nat.le_of_ble_eq_true rfl) cwX8_packed rfl mnX11_190 sC_10 kX8 rfl rfl rfl (Nat.le_of_ble_eq_true rfl) dX11_who_21 ?_
  refine X.istore (i := 6) (L' := [some (.ref 0), some (.int v1), some (.int v2), some (.int v3), some (.int v4), some (.int q1), some (.int q2), none, none]) dX11_who_24 (Nat.le_of_ble_eq_true rfl) rfl ?_
  refine X.iload (i := 5) dX11_who_26 rfl ?_
  refine X.bipush (v := (-9 : Int32)) dX11_who_28 (by decide) ?_
  refine X.icmp_eq (tgt := 53) dX11_who_30 (by decide) (fun c3 => ?_) (fun c3 => ?_)
  · rw [if_pos c3] at h
    refine X.bipush (v := (-2 : Int32)) dX11_who_53 (by decide) ?_
    obtain rfl := Option.some.inj h
    exact X.iret dX11_who_55 rfl rfl
  · rw [if_neg c3] at h
    refine X.iload (i := 6) dX11_who_33 rfl ?_
    refine X.bipush (v := (-9 : Int32)) dX11_who_35 (by decide) ?_
    refine X.icmp_eq (tgt := 53) dX11_who_37 (by decide) (fun c4 => ?_) (fun c4 => ?_)
    · rw [if_pos c4] at h
      refine X.bipush (v := (-2 : Int32)) dX11_who_53 (by decide) ?_
      obtain rfl := Option.some.inj h
      exact X.iret dX11_who_55 rfl rfl
    · rw [if_neg c4] at h
      refine X.aload_n (i := 0) dX11_who_40 rfl rfl ?_
      refine X.getR (k0 := 1) kX11 sC_0 (Nat.le_of_ble_eq_true rfl) rfl lfX11_19 dX11_who_41 ?_
      refine X.iload_n (i := 3) dX11_who_44 rfl rfl ?_
      refine X.iload (i := 4) dX11_who_45 rfl ?_
      refine X.callVN (μ' := mX6_isNoticeFor) (As := [.int v3, .int v4]) (st := []) (st1 := [.int (pX6_isNoticeFor f v3 v4)]) (r := some (.int (pX6_isNoticeFor f v3 v4))) (f' := f) (g' := g) (tX6_isNoticeFor rfl) (Nat.le_of_ble_eq_true rfl) cwX6_isNoticeFor rfl mnX11_164 sC_2 kX6 rfl rfl rfl (Nat.le_of_ble_eq_true rfl) dX11_who_47 ?_
      refine X.if_ne (tgt := 56) dX11_who_50 (by decide) (fun c5 => ?_) (fun c5 => ?_)
      · rw [if_neg c5] at h
        refine X.iconst (v := (0 : Int32)) dX11_who_56 (by decide) ?_
        refine X.istore (i := 7) (L' := [some (.ref 0), some (.int v1), some (.int v2), some (.int v3), some (.int v4), some (.int q1), some (.int q2), some (.int (0 : Int32)), none]) dX11_who_57 (Nat.le_of_ble_eq_true rfl) rfl ?_
        refine X.iconst (v := (0 : Int32)) dX11_who_59 (by decide) ?_
        refine X.istore (i := 8) (L' := [some (.ref 0), some (.int v1), some (.int v2), some (.int v3), some (.int v4), some (.int q1), some (.int q2), some (.int (0 : Int32)), some (.int (0 : Int32))]) dX11_who_60 (Nat.le_of_ble_eq_true rfl) rfl ?_
        exact X.weaken (xle_c (xle_n (xle_n (xle_c (xle_c (xle_c (xle_c (xle_c (xle_c xle_e))))))))) (tX11_who_b62 F h)
      · rw [if_pos c5] at h
        refine X.bipush (v := (-2 : Int32)) dX11_who_53 (by decide) ?_
        obtain rfl := Option.some.inj h
        exact X.iret dX11_who_55 rfl rfl
def pX0_findSlips_b7 (F : Nat) : Nat → Int32 → Int32 → xM → Option (xM)
  | 0, _, _, _ => none
  | n + 1, v2, v3, f => (if (pX8_names f) ≤ v3 then some (f) else (if (1024 : Int32) ≤ (f 7 2) then some (f) else (if v2 ≤ (pX8_placesUnlike v3) then (pX0_findSlips_b7 F n v2 (v3 + (1 : Int32)) f) else (if xin (f 7 2) 1024 then (pX0_findSlips_b7 F n v2 (v3 + (1 : Int32)) (xu (xu f 25 (f 7 2).toNatClampNeg v3) 7 2 (((xu f 25 (f 7 2).toNatClampNeg v3) 7 2) + (1 : Int32)))) else none))))
set_option maxRecDepth 100000 in
set_option maxHeartbeats 4000000 in
theorem tX0_findSlips_b7 {F : Nat} {g : xN} : ∀ (n : Nat) {v2 : Int32} {v3 : Int32} {f : xM} {r : xM}, pX0_findSlips_b7 F n v2 v3 f = some r → X mX0_findSlips 2 (none, r, g) 7 [some (.ref 7), some (.ref 10), some (.int v2), some (.int v3)] [] f g := by
  intro n
  induction n with
  | zero => intro v2 v3 f r h; cases h
  | succ n ih =>
    intro v2 v3 f r h
    rw [pX0_findSlips_b7] at h
    refine X.iload_n (i := 3) dX0_findSlips_7 rfl rfl ?_
    refine X.aload_n (i := 1) dX0_findSlips_8 rfl rfl ?_
    refine X.callVN (μ' := mX8_names) (As := []) (st := [.int v3]) (st1 := [.int (pX8_names f), .int v3]) (r := some (.int (pX8_names f))) (f' := f) (g' := g) (tX8_names rfl) (Nat.le_of_ble_eq_true rfl) cwX8_names rfl mnX0_33 sC_10 kX8 rfl rfl rfl (Nat.le_of_ble_eq_true rfl) dX0_findSlips_9 ?_
    refine X.icmp_ge (tgt := 61) dX0_findSlips_12 (by decide) (fun c1 => ?_) (fun c1 => ?_)
    · rw [if_pos c1] at h
      obtain rfl := Option.some.inj h
      exact X.vret dX0_findSlips_61 rfl rfl
    · rw [if_neg c1] at h
      refine X.aload_n (i := 0) dX0_findSlips_15 rfl rfl ?_
      refine X.getI (k0 := 2) kX0 sC_7 (Nat.le_of_ble_eq_true rfl) rfl lfX0_43 dX0_findSlips_16 ?_
      refine X.aload_n (i := 0) dX0_findSlips_19 rfl rfl ?_
      refine X.getR (k0 := 1) kX0 sC_7 (Nat.le_of_ble_eq_true rfl) rfl lfX0_15 dX0_findSlips_20 ?_
      refine X.alen (v := (1024 : Int32)) sC_25 (by decide) dX0_findSlips_23 ?_
      refine X.icmp_ge (tgt := 61) dX0_findSlips_24 (by decide) (fun c2 => ?_) (fun c2 => ?_)
      · rw [if_pos c2] at h
        obtain rfl := Option.some.inj h
        exact X.vret dX0_findSlips_61 rfl rfl
      · rw [if_neg c2] at h
        refine X.iload_n (i := 3) dX0_findSlips_27 rfl rfl ?_
        refine X.callSN (μ' := mX8_placesUnlike) (As := [.int v3]) (st := []) (st1 := [.int (pX8_placesUnlike v3)]) (r := some (.int (pX8_placesUnlike v3))) (f' := f) (g' := g) (tX8_placesUnlike rfl) (Nat.le_of_ble_eq_true rfl) cwX8_placesUnlike rfl mnX0_46 rfl rfl rfl (Nat.le_of_ble_eq_true rfl) dX0_findSlips_28 ?_
        refine X.iload_n (i := 2) dX0_findSlips_31 rfl rfl ?_
        refine X.icmp_ge (tgt := 55) dX0_findSlips_32 (by decide) (fun c3 => ?_) (fun c3 => ?_)
        · rw [if_pos c3] at h
          refine X.iinc (i := 3) (v := (v3 + (1 : Int32))) (L' := [some (.ref 7), some (.ref 10), some (.int v2), some (.int (v3 + (1 : Int32)))]) dX0_findSlips_55 rfl rfl (Nat.le_of_ble_eq_true rfl) rfl ?_
          refine X.goto (tgt := 7) dX0_findSlips_58 (by decide) ?_
          exact X.weaken (xle_c (xle_c (xle_c (xle_c xle_e)))) (ih h)
        · rw [if_neg c3] at h
          refine X.aload_n (i := 0) dX0_findSlips_35 rfl rfl ?_
          refine X.getR (k0 := 1) kX0 sC_7 (Nat.le_of_ble_eq_true rfl) rfl lfX0_15 dX0_findSlips_36 ?_
          refine X.aload_n (i := 0) dX0_findSlips_39 rfl rfl ?_
          refine X.getI (k0 := 2) kX0 sC_7 (Nat.le_of_ble_eq_true rfl) rfl lfX0_43 dX0_findSlips_40 ?_
          refine X.iload_n (i := 3) dX0_findSlips_43 rfl rfl ?_
          by_cases c4 : xin (f 7 2) 1024
          rotate_left
          · rw [if_neg c4] at h; cases h
          rw [if_pos c4] at h
          refine X.iast sC_25 c4 dX0_findSlips_44 ?_
          refine X.aload_n (i := 0) dX0_findSlips_45 rfl rfl ?_
          refine X.dup dX0_findSlips_46 rfl ?_
          refine X.getI (k0 := 2) kX0 sC_7 (Nat.le_of_ble_eq_true rfl) rfl lfX0_43 dX0_findSlips_47 ?_
          refine X.iconst (v := (1 : Int32)) dX0_findSlips_50 (by decide) ?_
          refine X.iadd dX0_findSlips_51 ?_
          refine X.putI (k0 := 2) kX0 sC_7 (Nat.le_of_ble_eq_true rfl) rfl lfX0_43 rfl rfl dX0_findSlips_52 ?_
          refine X.iinc (i := 3) (v := (v3 + (1 : Int32))) (L' := [some (.ref 7), some (.ref 10), some (.int v2), some (.int (v3 + (1 : Int32)))]) dX0_findSlips_55 rfl rfl (Nat.le_of_ble_eq_true rfl) rfl ?_
          refine X.goto (tgt := 7) dX0_findSlips_58 (by decide) ?_
          exact X.weaken (xle_c (xle_c (xle_c (xle_c xle_e)))) (ih h)
def pX0_findSlips (F : Nat) (v2 : Int32) (f : xM) : Option (xM) := (pX0_findSlips_b7 F F v2 (0 : Int32) (xu f 7 2 (0 : Int32)))
set_option maxRecDepth 100000 in
set_option maxHeartbeats 4000000 in
theorem tX0_findSlips {F : Nat} {g : xN} {v2 : Int32} {f : xM} {r : xM} (h : pX0_findSlips F v2 f = some r) : XT mX0_findSlips 2 [.ref 7, .ref 10, .int v2] f g (none, r, g) := by
  unfold pX0_findSlips at h
  refine XT.of (L := [some (.ref 7), some (.ref 10), some (.int v2), none]) [some (.ref 7), some (.ref 10), some (.int v2)] rfl (Nat.le_of_ble_eq_true rfl) rfl (xle_c (xle_c (xle_c (xle_z xle_e)))) ?_
  refine X.aload_n (i := 0) dX0_findSlips_0 rfl rfl ?_
  refine X.iconst (v := (0 : Int32)) dX0_findSlips_1 (by decide) ?_
  refine X.putI (k0 := 2) kX0 sC_7 (Nat.le_of_ble_eq_true rfl) rfl lfX0_43 rfl rfl dX0_findSlips_2 ?_
  refine X.iconst (v := (0 : Int32)) dX0_findSlips_5 (by decide) ?_
  refine X.istore_n (i := 3) (L' := [some (.ref 7), some (.ref 10), some (.int v2), some (.int (0 : Int32))]) dX0_findSlips_6 rfl (Nat.le_of_ble_eq_true rfl) rfl ?_
  exact X.weaken (xle_c (xle_c (xle_c (xle_c xle_e)))) (tX0_findSlips_b7 F h)
