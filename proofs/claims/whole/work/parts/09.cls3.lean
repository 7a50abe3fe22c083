def pX0_clearNear_b2 (F : Nat) : Nat → Int32 → xM → Option (xM)
  | 0, _, _ => none
  | n + 1, v1, f => (if (1024 : Int32) ≤ v1 then some (f) else (if xin v1 1024 then (pX0_clearNear_b2 F n (v1 + (1 : Int32)) (xu f 24 v1.toNatClampNeg (0 : Int32))) else none))
set_option maxRecDepth 100000 in
set_option maxHeartbeats 4000000 in
theorem tX0_clearNear_b2 {F : Nat} {g : xN} : ∀ (n : Nat) {v1 : Int32} {f : xM} {r : xM}, pX0_clearNear_b2 F n v1 f = some r → X mX0_clearNear 0 (none, r, g) 2 [some (.ref 7), some (.int v1)] [] f g := by
  intro n
  induction n with
  | zero => intro v1 f r h; cases h
  | succ n ih =>
    intro v1 f r h
    rw [pX0_clearNear_b2] at h
    refine X.iload_n (i := 1) dX0_clearNear_2 rfl rfl ?_
    refine X.aload_n (i := 0) dX0_clearNear_3 rfl rfl ?_
    refine X.getR (k0 := 0) kX0 sC_7 (Nat.le_of_ble_eq_true rfl) rfl lfX0_9 dX0_clearNear_4 ?_
    refine X.alen (v := (1024 : Int32)) sC_24 (by decide) dX0_clearNear_7 ?_
    refine X.icmp_ge (tgt := 24) dX0_clearNear_8 (by decide) (fun c1 => ?_) (fun c1 => ?_)
    · rw [if_pos c1] at h
      obtain rfl := Option.some.inj h
      exact X.vret dX0_clearNear_24 rfl rfl
    · rw [if_neg c1] at h
      refine X.aload_n (i := 0) dX0_clearNear_11 rfl rfl ?_
      refine X.getR (k0 := 0) kX0 sC_7 (Nat.le_of_ble_eq_true rfl) rfl lfX0_9 dX0_clearNear_12 ?_
      refine X.iload_n (i := 1) dX0_clearNear_15 rfl rfl ?_
      refine X.iconst (v := (0 : Int32)) dX0_clearNear_16 (by decide) ?_
      by_cases c2 : xin v1 1024
      rotate_left
      · rw [if_neg c2] at h; cases h
      rw [if_pos c2] at h
      refine X.zast sC_24 c2 rfl dX0_clearNear_17 ?_
      refine X.iinc (i := 1) (v := (v1 + (1 : Int32))) (L' := [some (.ref 7), some (.int (v1 + (1 : Int32)))]) dX0_clearNear_18 rfl rfl (Nat.le_of_ble_eq_true rfl) rfl ?_
      refine X.goto (tgt := 2) dX0_clearNear_21 (by decide) ?_
      exact X.weaken (xle_c (xle_c xle_e)) (ih h)
def pX0_clearNear (F : Nat) (f : xM) : Option (xM) := (pX0_clearNear_b2 F F (0 : Int32) f)
set_option maxRecDepth 100000 in
set_option maxHeartbeats 4000000 in
theorem tX0_clearNear {F : Nat} {g : xN} {f : xM} {r : xM} (h : pX0_clearNear F f = some r) : XT mX0_clearNear 0 [.ref 7] f g (none, r, g) := by
  unfold pX0_clearNear at h
  refine XT.of (L := [some (.ref 7), none]) [some (.ref 7)] rfl (Nat.le_of_ble_eq_true rfl) rfl (xle_c (xle_z xle_e)) ?_
  refine X.iconst (v := (0 : Int32)) dX0_clearNear_0 (by decide) ?_
  refine X.istore_n (i := 1) (L' := [some (.ref 7), some (.int (0 : Int32))]) dX0_clearNear_1 rfl (Nat.le_of_ble_eq_true rfl) rfl ?_
  exact X.weaken (xle_c (xle_c xle_e)) (tX0_clearNear_b2 F h)
def pX0_barAround_b2 (F : Nat) : Nat → Int32 → Int32 → xM → Option (xM)
  | 0, _, _, _ => none
  | n + 1, v1, v2, f => (if (f 7 2) ≤ v2 then some (f) else (if (1024 : Int32) ≤ v2 then some (f) else (if xin v2 1024 then (if (v1 ^^^ (f 25 v2.toNatClampNeg)) < 0 then (pX0_barAround_b2 F n v1 (v2 + (1 : Int32)) f) else (if (1024 : Int32) ≤ (v1 ^^^ (f 25 v2.toNatClampNeg)) then (pX0_barAround_b2 F n v1 (v2 + (1 : Int32)) f) else (if xin (v1 ^^^ (f 25 v2.toNatClampNeg)) 1024 then (pX0_barAround_b2 F n v1 (v2 + (1 : Int32)) (xu f 24 (v1 ^^^ (f 25 v2.toNatClampNeg)).toNatClampNeg (1 : Int32))) else none))) else none)))
set_option maxRecDepth 100000 in
set_option maxHeartbeats 4000000 in
theorem tX0_barAround_b2 {F : Nat} {g : xN} : ∀ (n : Nat) {v1 : Int32} {v2 : Int32} {f : xM} {r : xM}, pX0_barAround_b2 F n v1 v2 f = some r → X mX0_barAround 0 (none, r, g) 2 [some (.ref 7), some (.int v1), some (.int v2), none] [] f g := by
  intro n
  induction n with
  | zero => intro v1 v2 f r h; cases h
  | succ n ih =>
    intro v1 v2 f r h
    rw [pX0_barAround_b2] at h
    refine X.iload_n (i := 2) dX0_barAround_2 rfl rfl ?_
    refine X.aload_n (i := 0) dX0_barAround_3 rfl rfl ?_
    refine X.getI (k0 := 2) kX0 sC_7 (Nat.le_of_ble_eq_true rfl) rfl lfX0_43 dX0_barAround_4 ?_
    refine X.icmp_ge (tgt := 54) dX0_barAround_7 (by decide) (fun c1 => ?_) (fun c1 => ?_)
    · rw [if_pos c1] at h
      obtain rfl := Option.some.inj h
      exact X.vret dX0_barAround_54 rfl rfl
    · rw [if_neg c1] at h
      refine X.iload_n (i := 2) dX0_barAround_10 rfl rfl ?_
      refine X.aload_n (i := 0) dX0_barAround_11 rfl rfl ?_
      refine X.getR (k0 := 1) kX0 sC_7 (Nat.le_of_ble_eq_true rfl) rfl lfX0_15 dX0_barAround_12 ?_
      refine X.alen (v := (1024 : Int32)) sC_25 (by decide) dX0_barAround_15 ?_
      refine X.icmp_ge (tgt := 54) dX0_barAround_16 (by decide) (fun c2 => ?_) (fun c2 => ?_)
      · rw [if_pos c2] at h
        obtain rfl := Option.some.inj h
        exact X.vret dX0_barAround_54 rfl rfl
      · rw [if_neg c2] at h
        refine X.iload_n (i := 1) dX0_barAround_19 rfl rfl ?_
        refine X.aload_n (i := 0) dX0_barAround_20 rfl rfl ?_
        refine X.getR (k0 := 1) kX0 sC_7 (Nat.le_of_ble_eq_true rfl) rfl lfX0_15 dX0_barAround_21 ?_
        refine X.iload_n (i := 2) dX0_barAround_24 rfl rfl ?_
        by_cases c3 : xin v2 1024
        rotate_left
        · rw [if_neg c3] at h; cases h
        rw [if_pos c3] at h
        refine X.iald sC_25 c3 dX0_barAround_25 ?_
        refine X.ixor dX0_barAround_26 ?_
        refine X.istore_n (i := 3) (L' := [some (.ref 7), some (.int v1), some (.int v2), some (.int (v1 ^^^ (f 25 v2.toNatClampNeg)))]) dX0_barAround_27 rfl (Nat.le_of_ble_eq_true rfl) rfl ?_
        refine X.iload_n (i := 3) dX0_barAround_28 rfl rfl ?_
        refine X.if_lt (tgt := 48) dX0_barAround_29 (by decide) (fun c4 => ?_) (fun c4 => ?_)
        · rw [if_pos c4] at h
          refine X.iinc (i := 2) (v := (v2 + (1 : Int32))) (L' := [some (.ref 7), some (.int v1), some (.int (v2 + (1 : Int32))), some (.int (v1 ^^^ (f 25 v2.toNatClampNeg)))]) dX0_barAround_48 rfl rfl (Nat.le_of_ble_eq_true rfl) rfl ?_
          refine X.goto (tgt := 2) dX0_barAround_51 (by decide) ?_
          exact X.weaken (xle_c (xle_c (xle_c (xle_n xle_e)))) (ih h)
        · rw [if_neg c4] at h
          refine X.iload_n (i := 3) dX0_barAround_32 rfl rfl ?_
          refine X.aload_n (i := 0) dX0_barAround_33 rfl rfl ?_
          refine X.getR (k0 := 0) kX0 sC_7 (Nat.le_of_ble_eq_true rfl) rfl lfX0_9 dX0_barAround_34 ?_
          refine X.alen (v := (1024 : Int32)) sC_24 (by decide) dX0_barAround_37 ?_
          refine X.icmp_ge (tgt := 48) dX0_barAround_38 (by decide) (fun c5 => ?_) (fun c5 => ?_)
          · rw [if_pos c5] at h
            refine X.iinc (i := 2) (v := (v2 + (1 : Int32))) (L' := [some (.ref 7), some (.int v1), some (.int (v2 + (1 : Int32))), some (.int (v1 ^^^ (f 25 v2.toNatClampNeg)))]) dX0_barAround_48 rfl rfl (Nat.le_of_ble_eq_true rfl) rfl ?_
            refine X.goto (tgt := 2) dX0_barAround_51 (by decide) ?_
            exact X.weaken (xle_c (xle_c (xle_c (xle_n xle_e)))) (ih h)
          · rw [if_neg c5] at h
            refine X.aload_n (i := 0) dX0_barAround_41 rfl rfl ?_
            refine X.getR (k0 := 0) kX0 sC_7 (Nat.le_of_ble_eq_true rfl) rfl lfX0_9 dX0_barAround_42 ?_
            refine X.iload_n (i := 3) dX0_barAround_45 rfl rfl ?_
            refine X.iconst (v := (1 : Int32)) dX0_barAround_46 (by decide) ?_
            by_cases c6 : xin (v1 ^^^ (f 25 v2.toNatClampNeg)) 1024
            rotate_left
            · rw [if_neg c6] at h; cases h
            rw [if_pos c6] at h
            refine X.zast sC_24 c6 rfl dX0_barAround_47 ?_
            refine X.iinc (i := 2) (v := (v2 + (1 : Int32))) (L' := [some (.ref 7), some (.int v1), some (.int (v2 + (1 : Int32))), some (.int (v1 ^^^ (f 25 v2.toNatClampNeg)))]) dX0_barAround_48 rfl rfl (Nat.le_of_ble_eq_true rfl) rfl ?_
            refine X.goto (tgt := 2) dX0_barAround_51 (by decide) ?_
            exact X.weaken (xle_c (xle_c (xle_c (xle_n xle_e)))) (ih h)
def pX0_barAround (F : Nat) (v1 : Int32) (f : xM) : Option (xM) := (pX0_barAround_b2 F F v1 (0 : Int32) f)
set_option maxRecDepth 100000 in
set_option maxHeartbeats 4000000 in
theorem tX0_barAround {F : Nat} {g : xN} {v1 : Int32} {f : xM} {r : xM} (h : pX0_barAround F v1 f = some r) : XT mX0_barAround 0 [.ref 7, .int v1] f g (none, r, g) := by
  unfold pX0_barAround at h
  refine XT.of (L := [some (.ref 7), some (.int v1), none, none]) [some (.ref 7), some (.int v1)] rfl (Nat.le_of_ble_eq_true rfl) rfl (xle_c (xle_c (xle_z (xle_z xle_e)))) ?_
  refine X.iconst (v := (0 : Int32)) dX0_barAround_0 (by decide) ?_
  refine X.istore_n (i := 2) (L' := [some (.ref 7), some (.int v1), some (.int (0 : Int32)), none]) dX0_barAround_1 rfl (Nat.le_of_ble_eq_true rfl) rfl ?_
  exact X.weaken (xle_c (xle_c (xle_c (xle_n xle_e)))) (tX0_barAround_b2 F h)
def pX0_take_b71 (F : Nat) (K24 : Int32 → Int32 → xM → Option (xM)) (v3 : Int32) (v4 : Int32) (s1 : Int32) (f : xM) : Option (xM) := (Option.bind (pX0_barAround F v4 (xu (xu f 7 4 s1) 7 3 (((xu f 7 4 s1) 7 3) + (1 : Int32)))) fun q8 => (K24 v3 (v4 + (1 : Int32)) q8))
set_option maxRecDepth 100000 in
set_option maxHeartbeats 4000000 in
theorem tX0_take_b71 {F : Nat} {g : xN} {K24 : Int32 → Int32 → xM → Option (xM)} (hK24 : ∀ {v3 : Int32} {v4 : Int32} {f : xM} {r : xM}, K24 v3 v4 f = some r → X mX0_take 3 (none, r, g) 24 [some (.ref 7), some (.ref 10), none, some (.int v3), some (.int v4)] [] f g) {v3 : Int32} {v4 : Int32} {s1 : Int32} {f : xM} {r : xM} (h : pX0_take_b71 F K24 v3 v4 s1 f = some r) : X mX0_take 3 (none, r, g) 71 [some (.ref 7), some (.ref 10), none, some (.int v3), some (.int v4)] [.int s1, .ref 7] f g := by
  unfold pX0_take_b71 at h
  refine X.putI (k0 := 4) kX0 sC_7 (Nat.le_of_ble_eq_true rfl) rfl lfX0_30 rfl rfl dX0_take_71 ?_
  refine X.aload_n (i := 0) dX0_take_74 rfl rfl ?_
  refine X.dup dX0_take_75 rfl ?_
  refine X.getI (k0 := 3) kX0 sC_7 (Nat.le_of_ble_eq_true rfl) rfl lfX0_26 dX0_take_76 ?_
  refine X.iconst (v := (1 : Int32)) dX0_take_79 (by decide) ?_
  refine X.iadd dX0_take_80 ?_
  refine X.putI (k0 := 3) kX0 sC_7 (Nat.le_of_ble_eq_true rfl) rfl lfX0_26 rfl rfl dX0_take_81 ?_
  refine X.aload_n (i := 0) dX0_take_84 rfl rfl ?_
  refine X.iload (i := 4) dX0_take_85 rfl ?_
  obtain ⟨q8, e8, h⟩ := xbind h
  try dsimp only at h
  refine X.callV (μ' := mX0_barAround) (As := [.int v4]) (st := []) (st1 := []) (r := none) (f' := q8) (g' := g) (tX0_barAround e8) (Nat.le_of_ble_eq_true rfl) cwX0_barAround rfl mlX0_39 sC_7 kX0 rfl rfl rfl (Nat.le_of_ble_eq_true rfl) dX0_take_87 ?_
  refine X.iinc (i := 4) (v := (v4 + (1 : Int32))) (L' := [some (.ref 7), some (.ref 10), none, some (.int v3), some (.int (v4 + (1 : Int32)))]) dX0_take_90 rfl rfl (Nat.le_of_ble_eq_true rfl) rfl ?_
  refine X.goto (tgt := 24) dX0_take_93 (by decide) ?_
  exact X.weaken (xle_c (xle_c (xle_n (xle_c (xle_c xle_e))))) (hK24 h)
def pX0_take_b24 (F : Nat) : Nat → Int32 → Int32 → xM → Option (xM)
  | 0, _, _, _ => none
  | n + 1, v3, v4, f => (if (pX8_names f) ≤ v4 then some (f) else (if (1024 : Int32) ≤ v4 then some (f) else (if xin v4 1024 then (if (f 24 v4.toNatClampNeg) = 0 then (if (f 7 3) = v3 then (pX0_take_b71 F (pX0_take_b24 F n) v3 v4 v4 f) else (pX0_take_b71 F (pX0_take_b24 F n) v3 v4 (f 7 4) f)) else (pX0_take_b24 F n v3 (v4 + (1 : Int32)) f)) else none)))
set_option maxRecDepth 100000 in
set_option maxHeartbeats 4000000 in
theorem tX0_take_b24 {F : Nat} {g : xN} : ∀ (n : Nat) {v3 : Int32} {v4 : Int32} {f : xM} {r : xM}, pX0_take_b24 F n v3 v4 f = some r → X mX0_take 3 (none, r, g) 24 [some (.ref 7), some (.ref 10), none, some (.int v3), some (.int v4)] [] f g := by
  intro n
  induction n with
  | zero => intro v3 v4 f r h; cases h
  | succ n ih =>
    intro v3 v4 f r h
    rw [pX0_take_b24] at h
    refine X.iload (i := 4) dX0_take_24 rfl ?_
    refine X.aload_n (i := 1) dX0_take_26 rfl rfl ?_
    refine X.callVN (μ' := mX8_names) (As := []) (st := [.int v4]) (st1 := [.int (pX8_names f), .int v4]) (r := some (.int (pX8_names f))) (f' := f) (g' := g) (tX8_names rfl) (Nat.le_of_ble_eq_true rfl) cwX8_names rfl mnX0_33 sC_10 kX8 rfl rfl rfl (Nat.le_of_ble_eq_true rfl) dX0_take_27 ?_
    refine X.icmp_ge (tgt := 96) dX0_take_30 (by decide) (fun c3 => ?_) (fun c3 => ?_)
    · rw [if_pos c3] at h
      obtain rfl := Option.some.inj h
      exact X.vret dX0_take_96 rfl rfl
    · rw [if_neg c3] at h
      refine X.iload (i := 4) dX0_take_33 rfl ?_
      refine X.aload_n (i := 0) dX0_take_35 rfl rfl ?_
      refine X.getR (k0 := 0) kX0 sC_7 (Nat.le_of_ble_eq_true rfl) rfl lfX0_9 dX0_take_36 ?_
      refine X.alen (v := (1024 : Int32)) sC_24 (by decide) dX0_take_39 ?_
      refine X.icmp_ge (tgt := 96) dX0_take_40 (by decide) (fun c4 => ?_) (fun c4 => ?_)
      · rw [if_pos c4] at h
        obtain rfl := Option.some.inj h
        exact X.vret dX0_take_96 rfl rfl
      · rw [if_neg c4] at h
        refine X.aload_n (i := 0) dX0_take_43 rfl rfl ?_
        refine X.getR (k0 := 0) kX0 sC_7 (Nat.le_of_ble_eq_true rfl) rfl lfX0_9 dX0_take_44 ?_
        refine X.iload (i := 4) dX0_take_47 rfl ?_
        by_cases c5 : xin v4 1024
        rotate_left
        · rw [if_neg c5] at h; cases h
        rw [if_pos c5] at h
        refine X.zald sC_24 c5 dX0_take_49 ?_
        refine X.if_ne (tgt := 90) dX0_take_50 (by decide) (fun c6 => ?_) (fun c6 => ?_)
        · rw [if_neg c6] at h
          refine X.iinc (i := 4) (v := (v4 + (1 : Int32))) (L' := [some (.ref 7), some (.ref 10), none, some (.int v3), some (.int (v4 + (1 : Int32)))]) dX0_take_90 rfl rfl (Nat.le_of_ble_eq_true rfl) rfl ?_
          refine X.goto (tgt := 24) dX0_take_93 (by decide) ?_
          exact X.weaken (xle_c (xle_c (xle_n (xle_c (xle_c xle_e))))) (ih h)
        · rw [if_pos c6] at h
          refine X.aload_n (i := 0) dX0_take_53 rfl rfl ?_
          refine X.aload_n (i := 0) dX0_take_54 rfl rfl ?_
          refine X.getI (k0 := 3) kX0 sC_7 (Nat.le_of_ble_eq_true rfl) rfl lfX0_26 dX0_take_55 ?_
          refine X.iload_n (i := 3) dX0_take_58 rfl rfl ?_
          refine X.icmp_ne (tgt := 67) dX0_take_59 (by decide) (fun c7 => ?_) (fun c7 => ?_)
          · rw [if_neg c7] at h
            refine X.aload_n (i := 0) dX0_take_67 rfl rfl ?_
            refine X.getI (k0 := 4) kX0 sC_7 (Nat.le_of_ble_eq_true rfl) rfl lfX0_30 dX0_take_68 ?_
            exact X.weaken (xle_c (xle_c (xle_n (xle_c (xle_c xle_e))))) (tX0_take_b71 ih h)
          · rw [if_pos c7] at h
            refine X.iload (i := 4) dX0_take_62 rfl ?_
            refine X.goto (tgt := 71) dX0_take_64 (by decide) ?_
            exact X.weaken (xle_c (xle_c (xle_n (xle_c (xle_c xle_e))))) (tX0_take_b71 ih h)
def pX0_take (F : Nat) (v2 : Int32) (v3 : Int32) (f : xM) : Option (xM) := (Option.bind (pX0_findSlips F v2 f) fun q1 => (Option.bind (pX0_clearNear F q1) fun q2 => (pX0_take_b24 F F v3 (0 : Int32) (xu (xu q2 7 3 (0 : Int32)) 7 4 (-9 : Int32)))))
set_option maxRecDepth 100000 in
set_option maxHeartbeats 4000000 in
theorem tX0_take {F : Nat} {g : xN} {v2 : Int32} {v3 : Int32} {f : xM} {r : xM} (h : pX0_take F v2 v3 f = some r) : XT mX0_take 3 [.ref 7, .ref 10, .int v2, .int v3] f g (none, r, g) := by
  unfold pX0_take at h
  refine XT.of (L := [some (.ref 7), some (.ref 10), some (.int v2), some (.int v3), none]) [some (.ref 7), some (.ref 10), some (.int v2), some (.int v3)] rfl (Nat.le_of_ble_eq_true rfl) rfl (xle_c (xle_c (xle_c (xle_c (xle_z xle_e))))) ?_
  refine X.aload_n (i := 0) dX0_take_0 rfl rfl ?_
  refine X.aload_n (i := 1) dX0_take_1 rfl rfl ?_
  refine X.iload_n (i := 2) dX0_take_2 rfl rfl ?_
  obtain ⟨q1, e1, h⟩ := xbind h
  try dsimp only at h
  refine X.callV (μ' := mX0_findSlips) (As := [.ref 10, .int v2]) (st := []) (st1 := []) (r := none) (f' := q1) (g' := g) (tX0_findSlips e1) (Nat.le_of_ble_eq_true rfl) cwX0_findSlips rfl mlX0_19 sC_7 kX0 rfl rfl rfl (Nat.le_of_ble_eq_true rfl) dX0_take_3 ?_
  refine X.aload_n (i := 0) dX0_take_6 rfl rfl ?_
  obtain ⟨q2, e2, h⟩ := xbind h
  try dsimp only at h
  refine X.callV (μ' := mX0_clearNear) (As := []) (st := []) (st1 := []) (r := none) (f' := q2) (g' := g) (tX0_clearNear e2) (Nat.le_of_ble_eq_true rfl) cwX0_clearNear rfl mlX0_23 sC_7 kX0 rfl rfl rfl (Nat.le_of_ble_eq_true rfl) dX0_take_7 ?_
  refine X.aload_n (i := 0) dX0_take_10 rfl rfl ?_
  refine X.iconst (v := (0 : Int32)) dX0_take_11 (by decide) ?_
  refine X.putI (k0 := 3) kX0 sC_7 (Nat.le_of_ble_eq_true rfl) rfl lfX0_26 rfl rfl dX0_take_12 ?_
  refine X.aload_n (i := 0) dX0_take_15 rfl rfl ?_
  refine X.bipush (v := (-9 : Int32)) dX0_take_16 (by decide) ?_
  refine X.putI (k0 := 4) kX0 sC_7 (Nat.le_of_ble_eq_true rfl) rfl lfX0_30 rfl rfl dX0_take_18 ?_
  refine X.iconst (v := (0 : Int32)) dX0_take_21 (by decide) ?_
  refine X.istore (i := 4) (L' := [some (.ref 7), some (.ref 10), some (.int v2), some (.int v3), some (.int (0 : Int32))]) dX0_take_22 (Nat.le_of_ble_eq_true rfl) rfl ?_
  exact X.weaken (xle_c (xle_c (xle_n (xle_c (xle_c xle_e))))) (tX0_take_b24 F h)
def pX11_code (F : Nat) (v1 : Int32) (f : xM) : Option (Int32 × xM) := (if v1 < (1 : Int32) then some (((-2 : Int32), f)) else (if v1 ≤ (5 : Int32) then (Option.bind (pX0_take F v1 (0 : Int32) f) fun q3 => some (((q3 7 3), q3))) else some (((-2 : Int32), f))))
set_option maxRecDepth 100000 in
set_option maxHeartbeats 4000000 in
theorem tX11_code {F : Nat} {g : xN} {v1 : Int32} {f : xM} {r : Int32 × xM} (h : pX11_code F v1 f = some r) : XT mX11_code 4 [.ref 0, .int v1] f g (some (.int r.1), r.2, g) := by
  unfold pX11_code at h
  refine XT.of (L := [some (.ref 0), some (.int v1)]) [some (.ref 0), some (.int v1)] rfl (Nat.le_of_ble_eq_true rfl) rfl (xle_c (xle_c xle_e)) ?_
  refine X.iload_n (i := 1) dX11_code_0 rfl rfl ?_
  refine X.iconst (v := (1 : Int32)) dX11_code_1 (by decide) ?_
  refine X.icmp_lt (tgt := 10) dX11_code_2 (by decide) (fun c1 => ?_) (fun c1 => ?_)
  · rw [if_pos c1] at h
    refine X.bipush (v := (-2 : Int32)) dX11_code_10 (by decide) ?_
    obtain rfl := Option.some.inj h
    exact X.iret dX11_code_12 rfl rfl
  · rw [if_neg c1] at h
    refine X.iload_n (i := 1) dX11_code_5 rfl rfl ?_
    refine X.iconst (v := (5 : Int32)) dX11_code_6 (by decide) ?_
    refine X.icmp_le (tgt := 13) dX11_code_7 (by decide) (fun c2 => ?_) (fun c2 => ?_)
    · rw [if_pos c2] at h
      refine X.aload_n (i := 0) dX11_code_13 rfl rfl ?_
      refine X.getR (k0 := 6) kX11 sC_0 (Nat.le_of_ble_eq_true rfl) rfl lfX11_56 dX11_code_14 ?_
      refine X.aload_n (i := 0) dX11_code_17 rfl rfl ?_
      refine X.getR (k0 := 1) kX11 sC_0 (Nat.le_of_ble_eq_true rfl) rfl lfX11_19 dX11_code_18 ?_
      refine X.getRN (k0 := 0) kX6 sC_2 (Nat.le_of_ble_eq_true rfl) rfl lnX11_110 dX11_code_21 ?_
      refine X.iload_n (i := 1) dX11_code_24 rfl rfl ?_
      refine X.iconst (v := (0 : Int32)) dX11_code_25 (by decide) ?_
      obtain ⟨q3, e3, h⟩ := xbind h
      try dsimp only at h
      refine X.callVN (μ' := mX0_take) (As := [.ref 10, .int v1, .int (0 : Int32)]) (st := []) (st1 := []) (r := none) (f' := q3) (g' := g) (tX0_take e3) (Nat.le_of_ble_eq_true rfl) cwX0_take rfl mnX11_231 sC_7 kX0 rfl rfl rfl (Nat.le_of_ble_eq_true rfl) dX11_code_26 ?_
      refine X.aload_n (i := 0) dX11_code_29 rfl rfl ?_
      refine X.getR (k0 := 6) kX11 sC_0 (Nat.le_of_ble_eq_true rfl) rfl lfX11_56 dX11_code_30 ?_
      refine X.getIN (k0 := 3) kX0 sC_7 (Nat.le_of_ble_eq_true rfl) rfl lnX11_235 dX11_code_33 ?_
      obtain rfl := Option.some.inj h
      exact X.iret dX11_code_36 rfl rfl
    · rw [if_neg c2] at h
      refine X.bipush (v := (-2 : Int32)) dX11_code_10 (by decide) ?_
      obtain rfl := Option.some.inj h
      exact X.iret dX11_code_12 rfl rfl
def pX11_codeName (F : Nat) (v1 : Int32) (v2 : Int32) (f : xM) : Option (Int32 × xM) := (if v1 < (1 : Int32) then some (((-2 : Int32), f)) else (if v1 ≤ (5 : Int32) then (Option.bind (pX0_take F v1 v2 f) fun q3 => (if (q3 7 4) = (-9 : Int32) then some (((-3 : Int32), q3)) else (Option.bind (pX8_told F q3 (q3 7 4)) fun q5 => some ((q5, q3))))) else some (((-2 : Int32), f))))
set_option maxRecDepth 100000 in
set_option maxHeartbeats 4000000 in
theorem tX11_codeName {F : Nat} {g : xN} {v1 : Int32} {v2 : Int32} {f : xM} {r : Int32 × xM} (h : pX11_codeName F v1 v2 f = some r) : XT mX11_codeName 4 [.ref 0, .int v1, .int v2] f g (some (.int r.1), r.2, g) := by
  unfold pX11_codeName at h
  refine XT.of (L := [some (.ref 0), some (.int v1), some (.int v2)]) [some (.ref 0), some (.int v1), some (.int v2)] rfl (Nat.le_of_ble_eq_true rfl) rfl (xle_c (xle_c (xle_c xle_e))) ?_
  refine X.iload_n (i := 1) dX11_codeName_0 rfl rfl ?_
  refine X.iconst (v := (1 : Int32)) dX11_codeName_1 (by decide) ?_
  refine X.icmp_lt (tgt := 10) dX11_codeName_2 (by decide) (fun c1 => ?_) (fun c1 => ?_)
  · rw [if_pos c1] at h
    refine X.bipush (v := (-2 : Int32)) dX11_codeName_10 (by decide) ?_
    obtain rfl := Option.some.inj h
    exact X.iret dX11_codeName_12 rfl rfl
  · rw [if_neg c1] at h
    refine X.iload_n (i := 1) dX11_codeName_5 rfl rfl ?_
    refine X.iconst (v := (5 : Int32)) dX11_codeName_6 (by decide) ?_
    refine X.icmp_le (tgt := 13) dX11_codeName_7 (by decide) (fun c2 => ?_) (fun c2 => ?_)
    · rw [if_pos c2] at h
      refine X.aload_n (i := 0) dX11_codeName_13 rfl rfl ?_
      refine X.getR (k0 := 6) kX11 sC_0 (Nat.le_of_ble_eq_true rfl) rfl lfX11_56 dX11_codeName_14 ?_
      refine X.aload_n (i := 0) dX11_codeName_17 rfl rfl ?_
      refine X.getR (k0 := 1) kX11 sC_0 (Nat.le_of_ble_eq_true rfl) rfl lfX11_19 dX11_codeName_18 ?_
      refine X.getRN (k0 := 0) kX6 sC_2 (Nat.le_of_ble_eq_true rfl) rfl lnX11_110 dX11_codeName_21 ?_
      refine X.iload_n (i := 1) dX11_codeName_24 rfl rfl ?_
      refine X.iload_n (i := 2) dX11_codeName_25 rfl rfl ?_
      obtain ⟨q3, e3, h⟩ := xbind h
      try dsimp only at h
      refine X.callVN (μ' := mX0_take) (As := [.ref 10, .int v1, .int v2]) (st := []) (st1 := []) (r := none) (f' := q3) (g' := g) (tX0_take e3) (Nat.le_of_ble_eq_true rfl) cwX0_take rfl mnX11_231 sC_7 kX0 rfl rfl rfl (Nat.le_of_ble_eq_true rfl) dX11_codeName_26 ?_
      refine X.aload_n (i := 0) dX11_codeName_29 rfl rfl ?_
      refine X.getR (k0 := 6) kX11 sC_0 (Nat.le_of_ble_eq_true rfl) rfl lfX11_56 dX11_codeName_30 ?_
      refine X.getIN (k0 := 4) kX0 sC_7 (Nat.le_of_ble_eq_true rfl) rfl lnX11_236 dX11_codeName_33 ?_
      refine X.bipush (v := (-9 : Int32)) dX11_codeName_36 (by decide) ?_
      refine X.icmp_ne (tgt := 46) dX11_codeName_38 (by decide) (fun c4 => ?_) (fun c4 => ?_)
      · rw [if_neg c4] at h
        refine X.aload_n (i := 0) dX11_codeName_46 rfl rfl ?_
        refine X.getR (k0 := 1) kX11 sC_0 (Nat.le_of_ble_eq_true rfl) rfl lfX11_19 dX11_codeName_47 ?_
        refine X.getRN (k0 := 0) kX6 sC_2 (Nat.le_of_ble_eq_true rfl) rfl lnX11_110 dX11_codeName_50 ?_
        refine X.aload_n (i := 0) dX11_codeName_53 rfl rfl ?_
        refine X.getR (k0 := 6) kX11 sC_0 (Nat.le_of_ble_eq_true rfl) rfl lfX11_56 dX11_codeName_54 ?_
        refine X.getIN (k0 := 4) kX0 sC_7 (Nat.le_of_ble_eq_true rfl) rfl lnX11_236 dX11_codeName_57 ?_
        obtain ⟨q5, e5, h⟩ := xbind h
        try dsimp only at h
        refine X.callVN (μ' := mX8_told) (As := [.int (q3 7 4)]) (st := []) (st1 := [.int q5]) (r := some (.int q5)) (f' := q3) (g' := g) (tX8_told e5) (Nat.le_of_ble_eq_true rfl) cwX8_told rfl mnX11_122 sC_10 kX8 rfl rfl rfl (Nat.le_of_ble_eq_true rfl) dX11_codeName_60 ?_
        obtain rfl := Option.some.inj h
        exact X.iret dX11_codeName_63 rfl rfl
      · rw [if_pos c4] at h
        refine X.bipush (v := (-3 : Int32)) dX11_codeName_41 (by decide) ?_
        refine X.goto (tgt := 63) dX11_codeName_43 (by decide) ?_
        obtain rfl := Option.some.inj h
        exact X.iret dX11_codeName_63 rfl rfl
    · rw [if_neg c2] at h
      refine X.bipush (v := (-2 : Int32)) dX11_codeName_10 (by decide) ?_
      obtain rfl := Option.some.inj h
      exact X.iret dX11_codeName_12 rfl rfl
def pX1_look_b44 (F : Nat) (K15 : Int32 → Int32 → Int32 → Int32 → Int32 → xM → Option (xM)) : Nat → Int32 → Int32 → Int32 → Int32 → Int32 → Int32 → Int32 → xM → Option (xM)
  | 0, _, _, _, _, _, _, _, _ => none
  | n + 1, v2, v3, v4, v5, v6, v7, v8, f => (if (f 8 1) ≤ v8 then (K15 v2 v3 v4 v5 (v6 + (1 : Int32)) f) else (if (9 : Int32) ≤ ((v6 * (3 : Int32)) + v8) then (pX1_look_b44 F K15 n v2 v3 v4 v5 v6 v7 (v8 + (1 : Int32)) f) else (Option.bind (pX6_noticed f v8 v7 v4 v5) fun q5 => (if xin ((v6 * (3 : Int32)) + v8) 9 then (pX1_look_b44 F K15 n v2 v3 v4 v5 v6 v7 (v8 + (1 : Int32)) (xu f 26 ((v6 * (3 : Int32)) + v8).toNatClampNeg (pX6_rightOf f q5))) else none))))
set_option maxRecDepth 100000 in
set_option maxHeartbeats 4000000 in
theorem tX1_look_b44 {F : Nat} {g : xN} {K15 : Int32 → Int32 → Int32 → Int32 → Int32 → xM → Option (xM)} (hK15 : ∀ {v2 : Int32} {v3 : Int32} {v4 : Int32} {v5 : Int32} {v6 : Int32} {f : xM} {r : xM}, K15 v2 v3 v4 v5 v6 f = some r → X mX1_look 3 (none, r, g) 15 [some (.ref 8), some (.ref 2), some (.int v2), some (.int v3), some (.int v4), some (.int v5), some (.int v6), none, none, none] [] f g) : ∀ (n : Nat) {v2 : Int32} {v3 : Int32} {v4 : Int32} {v5 : Int32} {v6 : Int32} {v7 : Int32} {v8 : Int32} {f : xM} {r : xM}, pX1_look_b44 F K15 n v2 v3 v4 v5 v6 v7 v8 f = some r → X mX1_look 3 (none, r, g) 44 [some (.ref 8), some (.ref 2), some (.int v2), some (.int v3), some (.int v4), some (.int v5), some (.int v6), some (.int v7), some (.int v8), none] [] f g := by
  intro n
  induction n with
  | zero => intro v2 v3 v4 v5 v6 v7 v8 f r h; cases h
  | succ n ih =>
    intro v2 v3 v4 v5 v6 v7 v8 f r h
    rw [pX1_look_b44] at h
    refine X.iload (i := 8) dX1_look_44 rfl ?_
    refine X.aload_n (i := 0) dX1_look_46 rfl rfl ?_
    refine X.getI (k0 := 1) kX1 sC_8 (Nat.le_of_ble_eq_true rfl) rfl lfX1_27 dX1_look_47 ?_
    refine X.icmp_ge (tgt := 101) dX1_look_50 (by decide) (fun c3 => ?_) (fun c3 => ?_)
    · rw [if_pos c3] at h
      refine X.iinc (i := 6) (v := (v6 + (1 : Int32))) (L' := [some (.ref 8), some (.ref 2), some (.int v2), some (.int v3), some (.int v4), some (.int v5), some (.int (v6 + (1 : Int32))), some (.int v7), some (.int v8), none]) dX1_look_101 rfl rfl (Nat.le_of_ble_eq_true rfl) rfl ?_
      refine X.goto (tgt := 15) dX1_look_104 (by decide) ?_
      exact X.weaken (xle_c (xle_c (xle_c (xle_c (xle_c (xle_c (xle_c (xle_n (xle_n (xle_n xle_e)))))))))) (hK15 h)
    · rw [if_neg c3] at h
      refine X.iload (i := 6) dX1_look_53 rfl ?_
      refine X.iconst (v := (3 : Int32)) dX1_look_55 (by decide) ?_
      refine X.imul dX1_look_56 ?_
      refine X.iload (i := 8) dX1_look_57 rfl ?_
      refine X.iadd dX1_look_59 ?_
      refine X.istore (i := 9) (L' := [some (.ref 8), some (.ref 2), some (.int v2), some (.int v3), some (.int v4), some (.int v5), some (.int v6), some (.int v7), some (.int v8), some (.int ((v6 * (3 : Int32)) + v8))]) dX1_look_60 (Nat.le_of_ble_eq_true rfl) rfl ?_
      refine X.iload (i := 9) dX1_look_62 rfl ?_
      refine X.aload_n (i := 0) dX1_look_64 rfl rfl ?_
      refine X.getR (k0 := 0) kX1 sC_8 (Nat.le_of_ble_eq_true rfl) rfl lfX1_9 dX1_look_65 ?_
      refine X.alen (v := (9 : Int32)) sC_26 (by decide) dX1_look_68 ?_
      refine X.icmp_ge (tgt := 95) dX1_look_69 (by decide) (fun c4 => ?_) (fun c4 => ?_)
      · rw [if_pos c4] at h
        refine X.iinc (i := 8) (v := (v8 + (1 : Int32))) (L' := [some (.ref 8), some (.ref 2), some (.int v2), some (.int v3), some (.int v4), some (.int v5), some (.int v6), some (.int v7), some (.int (v8 + (1 : Int32))), some (.int ((v6 * (3 : Int32)) + v8))]) dX1_look_95 rfl rfl (Nat.le_of_ble_eq_true rfl) rfl ?_
        refine X.goto (tgt := 44) dX1_look_98 (by decide) ?_
        exact X.weaken (xle_c (xle_c (xle_c (xle_c (xle_c (xle_c (xle_c (xle_c (xle_c (xle_n xle_e)))))))))) (ih h)
      · rw [if_neg c4] at h
        refine X.aload_n (i := 0) dX1_look_72 rfl rfl ?_
        refine X.getR (k0 := 0) kX1 sC_8 (Nat.le_of_ble_eq_true rfl) rfl lfX1_9 dX1_look_73 ?_
        refine X.iload (i := 9) dX1_look_76 rfl ?_
        refine X.aload_n (i := 1) dX1_look_78 rfl rfl ?_
        refine X.aload_n (i := 1) dX1_look_79 rfl rfl ?_
        refine X.iload (i := 8) dX1_look_80 rfl ?_
        refine X.iload (i := 7) dX1_look_82 rfl ?_
        refine X.iload (i := 4) dX1_look_84 rfl ?_
        refine X.iload (i := 5) dX1_look_86 rfl ?_
        obtain ⟨q5, e5, h⟩ := xbind h
        try dsimp only at h
        refine X.callVN (μ' := mX6_noticed) (As := [.int v8, .int v7, .int v4, .int v5]) (st := [.ref 2, .int ((v6 * (3 : Int32)) + v8), .ref 26]) (st1 := [.int q5, .ref 2, .int ((v6 * (3 : Int32)) + v8), .ref 26]) (r := some (.int q5)) (f' := f) (g' := g) (tX6_noticed e5) (Nat.le_of_ble_eq_true rfl) cwX6_noticed rfl mnX1_40 sC_2 kX6 rfl rfl rfl (Nat.le_of_ble_eq_true rfl) dX1_look_88 ?_
        refine X.callVN (μ' := mX6_rightOf) (As := [.int q5]) (st := [.int ((v6 * (3 : Int32)) + v8), .ref 26]) (st1 := [.int (pX6_rightOf f q5), .int ((v6 * (3 : Int32)) + v8), .ref 26]) (r := some (.int (pX6_rightOf f q5))) (f' := f) (g' := g) (tX6_rightOf rfl) (Nat.le_of_ble_eq_true rfl) cwX6_rightOf rfl mnX1_44 sC_2 kX6 rfl rfl rfl (Nat.le_of_ble_eq_true rfl) dX1_look_91 ?_
        by_cases c6 : xin ((v6 * (3 : Int32)) + v8) 9
        rotate_left
        · rw [if_neg c6] at h; cases h
        rw [if_pos c6] at h
        refine X.iast sC_26 c6 dX1_look_94 ?_
        refine X.iinc (i := 8) (v := (v8 + (1 : Int32))) (L' := [some (.ref 8), some (.ref 2), some (.int v2), some (.int v3), some (.int v4), some (.int v5), some (.int v6), some (.int v7), some (.int (v8 + (1 : Int32))), some (.int ((v6 * (3 : Int32)) + v8))]) dX1_look_95 rfl rfl (Nat.le_of_ble_eq_true rfl) rfl ?_
        refine X.goto (tgt := 44) dX1_look_98 (by decide) ?_
        exact X.weaken (xle_c (xle_c (xle_c (xle_c (xle_c (xle_c (xle_c (xle_c (xle_c (xle_n xle_e)))))))))) (ih h)
def pX1_look_b15 (F : Nat) : Nat → Int32 → Int32 → Int32 → Int32 → Int32 → xM → Option (xM)
  | 0, _, _, _, _, _, _ => none
  | n + 1, v2, v3, v4, v5, v6, f => (if (f 8 1) ≤ v6 then some (f) else (Option.bind (pX6_noticed f v6 (pX9_said f) v2 v3) fun q2 => (pX1_look_b44 F (pX1_look_b15 F n) F v2 v3 v4 v5 v6 q2 (0 : Int32) f)))
set_option maxRecDepth 100000 in
set_option maxHeartbeats 4000000 in
theorem tX1_look_b15 {F : Nat} {g : xN} : ∀ (n : Nat) {v2 : Int32} {v3 : Int32} {v4 : Int32} {v5 : Int32} {v6 : Int32} {f : xM} {r : xM}, pX1_look_b15 F n v2 v3 v4 v5 v6 f = some r → X mX1_look 3 (none, r, g) 15 [some (.ref 8), some (.ref 2), some (.int v2), some (.int v3), some (.int v4), some (.int v5), some (.int v6), none, none, none] [] f g := by
  intro n
  induction n with
  | zero => intro v2 v3 v4 v5 v6 f r h; cases h
  | succ n ih =>
    intro v2 v3 v4 v5 v6 f r h
    rw [pX1_look_b15] at h
    refine X.iload (i := 6) dX1_look_15 rfl ?_
    refine X.aload_n (i := 0) dX1_look_17 rfl rfl ?_
    refine X.getI (k0 := 1) kX1 sC_8 (Nat.le_of_ble_eq_true rfl) rfl lfX1_27 dX1_look_18 ?_
    refine X.icmp_ge (tgt := 107) dX1_look_21 (by decide) (fun c1 => ?_) (fun c1 => ?_)
    · rw [if_pos c1] at h
      obtain rfl := Option.some.inj h
      exact X.vret dX1_look_107 rfl rfl
    · rw [if_neg c1] at h
      refine X.aload_n (i := 1) dX1_look_24 rfl rfl ?_
      refine X.iload (i := 6) dX1_look_25 rfl ?_
      refine X.aload_n (i := 1) dX1_look_27 rfl rfl ?_
      refine X.getRN (k0 := 1) kX6 sC_2 (Nat.le_of_ble_eq_true rfl) rfl lnX1_30 dX1_look_28 ?_
      refine X.callVN (μ' := mX9_said) (As := []) (st := [.int v6, .ref 2]) (st1 := [.int (pX9_said f), .int v6, .ref 2]) (r := some (.int (pX9_said f))) (f' := f) (g' := g) (tX9_said rfl) (Nat.le_of_ble_eq_true rfl) cwX9_said rfl mnX1_34 sC_11 kX9 rfl rfl rfl (Nat.le_of_ble_eq_true rfl) dX1_look_31 ?_
      refine X.iload_n (i := 2) dX1_look_34 rfl rfl ?_
      refine X.iload_n (i := 3) dX1_look_35 rfl rfl ?_
      obtain ⟨q2, e2, h⟩ := xbind h
      try dsimp only at h
      refine X.callVN (μ' := mX6_noticed) (As := [.int v6, .int (pX9_said f), .int v2, .int v3]) (st := []) (st1 := [.int q2]) (r := some (.int q2)) (f' := f) (g' := g) (tX6_noticed e2) (Nat.le_of_ble_eq_true rfl) cwX6_noticed rfl mnX1_40 sC_2 kX6 rfl rfl rfl (Nat.le_of_ble_eq_true rfl) dX1_look_36 ?_
      refine X.istore (i := 7) (L' := [some (.ref 8), some (.ref 2), some (.int v2), some (.int v3), some (.int v4), some (.int v5), some (.int v6), some (.int q2), none, none]) dX1_look_39 (Nat.le_of_ble_eq_true rfl) rfl ?_
      refine X.iconst (v := (0 : Int32)) dX1_look_41 (by decide) ?_
      refine X.istore (i := 8) (L' := [some (.ref 8), some (.ref 2), some (.int v2), some (.int v3), some (.int v4), some (.int v5), some (.int v6), some (.int q2), some (.int (0 : Int32)), none]) dX1_look_42 (Nat.le_of_ble_eq_true rfl) rfl ?_
      exact X.weaken (xle_c (xle_c (xle_c (xle_c (xle_c (xle_c (xle_c (xle_c (xle_c (xle_n xle_e)))))))))) (tX1_look_b44 ih F h)
def pX1_look (F : Nat) (v2 : Int32) (v3 : Int32) (v4 : Int32) (v5 : Int32) (f : xM) : Option (xM) := (pX1_look_b15 F F v2 v3 v4 v5 (0 : Int32) (xu f 8 1 (if (3 : Int32) < (f 2 4) then (3 : Int32) else (f 2 4))))
set_option maxRecDepth 100000 in
set_option maxHeartbeats 4000000 in
theorem tX1_look {F : Nat} {g : xN} {v2 : Int32} {v3 : Int32} {v4 : Int32} {v5 : Int32} {f : xM} {r : xM} (h : pX1_look F v2 v3 v4 v5 f = some r) : XT mX1_look 3 [.ref 8, .ref 2, .int v2, .int v3, .int v4, .int v5] f g (none, r, g) := by
  unfold pX1_look at h
  refine XT.of (L := [some (.ref 8), some (.ref 2), some (.int v2), some (.int v3), some (.int v4), some (.int v5), none, none, none, none]) [some (.ref 8), some (.ref 2), some (.int v2), some (.int v3), some (.int v4), some (.int v5)] rfl (Nat.le_of_ble_eq_true rfl) rfl (xle_c (xle_c (xle_c (xle_c (xle_c (xle_c (xle_z (xle_z (xle_z (xle_z xle_e)))))))))) ?_
  refine X.aload_n (i := 0) dX1_look_0 rfl rfl ?_
  refine X.aload_n (i := 1) dX1_look_1 rfl rfl ?_
  refine X.getIN (k0 := 4) kX6 sC_2 (Nat.le_of_ble_eq_true rfl) rfl lnX1_15 dX1_look_2 ?_
  refine X.iconst (v := (3 : Int32)) dX1_look_5 (by decide) ?_
  refine X.min mlX1_21 lstmin linitM lcomin (by decide) (Nat.le_of_ble_eq_true rfl) dX1_look_6 ?_
  refine X.putI (k0 := 1) kX1 sC_8 (Nat.le_of_ble_eq_true rfl) rfl lfX1_27 rfl rfl dX1_look_9 ?_
  refine X.iconst (v := (0 : Int32)) dX1_look_12 (by decide) ?_
  refine X.istore (i := 6) (L' := [some (.ref 8), some (.ref 2), some (.int v2), some (.int v3), some (.int v4), some (.int v5), some (.int (0 : Int32)), none, none, none]) dX1_look_13 (Nat.le_of_ble_eq_true rfl) rfl ?_
  exact X.weaken (xle_c (xle_c (xle_c (xle_c (xle_c (xle_c (xle_c (xle_n (xle_n (xle_n xle_e)))))))))) (tX1_look_b15 F h)
def pX1_rightBy (f : xM) (v1 : Int32) (v2 : Int32) : Option (Int32) := (if ((v1 * (3 : Int32)) + v2) < 0 then some ((0 : Int32)) else (if (9 : Int32) ≤ ((v1 * (3 : Int32)) + v2) then some ((0 : Int32)) else (if xin ((v1 * (3 : Int32)) + v2) 9 then some ((f 26 ((v1 * (3 : Int32)) + v2).toNatClampNeg)) else none)))
set_option maxRecDepth 100000 in
set_option maxHeartbeats 4000000 in
theorem tX1_rightBy {f : xM} {g : xN} {v1 : Int32} {v2 : Int32} {r : Int32} (h : pX1_rightBy f v1 v2 = some r) : XT mX1_rightBy 0 [.ref 8, .int v1, .int v2] f g (some (.int r), f, g) := by
  unfold pX1_rightBy at h
  refine XT.of (L := [some (.ref 8), some (.int v1), some (.int v2), none]) [some (.ref 8), some (.int v1), some (.int v2)] rfl (Nat.le_of_ble_eq_true rfl) rfl (xle_c (xle_c (xle_c (xle_z xle_e)))) ?_
  refine X.iload_n (i := 1) dX1_rightBy_0 rfl rfl ?_
  refine X.iconst (v := (3 : Int32)) dX1_rightBy_1 (by decide) ?_
  refine X.imul dX1_rightBy_2 ?_
  refine X.iload_n (i := 2) dX1_rightBy_3 rfl rfl ?_
  refine X.iadd dX1_rightBy_4 ?_
  refine X.istore_n (i := 3) (L' := [some (.ref 8), some (.int v1), some (.int v2), some (.int ((v1 * (3 : Int32)) + v2))]) dX1_rightBy_5 rfl (Nat.le_of_ble_eq_true rfl) rfl ?_
  refine X.iload_n (i := 3) dX1_rightBy_6 rfl rfl ?_
  refine X.if_lt (tgt := 28) dX1_rightBy_7 (by decide) (fun c1 => ?_) (fun c1 => ?_)
  · rw [if_pos c1] at h
    refine X.iconst (v := (0 : Int32)) dX1_rightBy_28 (by decide) ?_
    obtain rfl := Option.some.inj h
    exact X.iret dX1_rightBy_29 rfl rfl
  · rw [if_neg c1] at h
    refine X.iload_n (i := 3) dX1_rightBy_10 rfl rfl ?_
    refine X.aload_n (i := 0) dX1_rightBy_11 rfl rfl ?_
    refine X.getR (k0 := 0) kX1 sC_8 (Nat.le_of_ble_eq_true rfl) rfl lfX1_9 dX1_rightBy_12 ?_
    refine X.alen (v := (9 : Int32)) sC_26 (by decide) dX1_rightBy_15 ?_
    refine X.icmp_ge (tgt := 28) dX1_rightBy_16 (by decide) (fun c2 => ?_) (fun c2 => ?_)
    · rw [if_pos c2] at h
      refine X.iconst (v := (0 : Int32)) dX1_rightBy_28 (by decide) ?_
      obtain rfl := Option.some.inj h
      exact X.iret dX1_rightBy_29 rfl rfl
    · rw [if_neg c2] at h
      refine X.aload_n (i := 0) dX1_rightBy_19 rfl rfl ?_
      refine X.getR (k0 := 0) kX1 sC_8 (Nat.le_of_ble_eq_true rfl) rfl lfX1_9 dX1_rightBy_20 ?_
      refine X.iload_n (i := 3) dX1_rightBy_23 rfl rfl ?_
      by_cases c3 : xin ((v1 * (3 : Int32)) + v2) 9
      rotate_left
      · rw [if_neg c3] at h; cases h
      rw [if_pos c3] at h
      refine X.iald sC_26 c3 dX1_rightBy_24 ?_
      refine X.goto (tgt := 29) dX1_rightBy_25 (by decide) ?_
      obtain rfl := Option.some.inj h
      exact X.iret dX1_rightBy_29 rfl rfl
def pX1_isAtRest_b10 (F : Nat) (f : xM) : Nat → Int32 → Int32 → Int32 → Int32 → Option (Int32)
  | 0, _, _, _, _ => none
  | n + 1, v1, v2, v3, v4 => (if (f 8 1) ≤ v4 then some ((1 : Int32)) else (Option.bind (pX1_rightBy f v4 v2) fun q3 => (if v3 < q3 then some ((0 : Int32)) else (Option.bind (pX1_rightBy f v1 v4) fun q5 => (if v3 ≤ q5 then (pX1_isAtRest_b10 F f n v1 v2 v3 (v4 + (1 : Int32))) else some ((0 : Int32)))))))
set_option maxRecDepth 100000 in
set_option maxHeartbeats 4000000 in
theorem tX1_isAtRest_b10 {F : Nat} {f : xM} {g : xN} : ∀ (n : Nat) {v1 : Int32} {v2 : Int32} {v3 : Int32} {v4 : Int32} {r : Int32}, pX1_isAtRest_b10 F f n v1 v2 v3 v4 = some r → X mX1_isAtRest 1 (some (.int r), f, g) 10 [some (.ref 8), some (.int v1), some (.int v2), some (.int v3), some (.int v4)] [] f g := by
  intro n
  induction n with
  | zero => intro v1 v2 v3 v4 r h; cases h
  | succ n ih =>
    intro v1 v2 v3 v4 r h
    rw [pX1_isAtRest_b10] at h
    refine X.iload (i := 4) dX1_isAtRest_10 rfl ?_
    refine X.aload_n (i := 0) dX1_isAtRest_12 rfl rfl ?_
    refine X.getI (k0 := 1) kX1 sC_8 (Nat.le_of_ble_eq_true rfl) rfl lfX1_27 dX1_isAtRest_13 ?_
    refine X.icmp_ge (tgt := 49) dX1_isAtRest_16 (by decide) (fun c2 => ?_) (fun c2 => ?_)
    · rw [if_pos c2] at h
      refine X.iconst (v := (1 : Int32)) dX1_isAtRest_49 (by decide) ?_
      obtain rfl := Option.some.inj h
      exact X.zret dX1_isAtRest_50 rfl rfl rfl
    · rw [if_neg c2] at h
      refine X.aload_n (i := 0) dX1_isAtRest_19 rfl rfl ?_
      refine X.iload (i := 4) dX1_isAtRest_20 rfl ?_
      refine X.iload_n (i := 2) dX1_isAtRest_22 rfl rfl ?_
      obtain ⟨q3, e3, h⟩ := xbind h
      try dsimp only at h
      refine X.callV (μ' := mX1_rightBy) (As := [.int v4, .int v2]) (st := []) (st1 := [.int q3]) (r := some (.int q3)) (f' := f) (g' := g) (tX1_rightBy e3) (Nat.le_of_ble_eq_true rfl) cwX1_rightBy rfl mlX1_48 sC_8 kX1 rfl rfl rfl (Nat.le_of_ble_eq_true rfl) dX1_isAtRest_23 ?_
      refine X.iload_n (i := 3) dX1_isAtRest_26 rfl rfl ?_
      refine X.icmp_gt (tgt := 41) dX1_isAtRest_27 (by decide) (fun c4 => ?_) (fun c4 => ?_)
      · rw [if_pos c4] at h
        refine X.iconst (v := (0 : Int32)) dX1_isAtRest_41 (by decide) ?_
        obtain rfl := Option.some.inj h
        exact X.zret dX1_isAtRest_42 rfl rfl rfl
      · rw [if_neg c4] at h
        refine X.aload_n (i := 0) dX1_isAtRest_30 rfl rfl ?_
        refine X.iload_n (i := 1) dX1_isAtRest_31 rfl rfl ?_
        refine X.iload (i := 4) dX1_isAtRest_32 rfl ?_
        obtain ⟨q5, e5, h⟩ := xbind h
        try dsimp only at h
        refine X.callV (μ' := mX1_rightBy) (As := [.int v1, .int v4]) (st := []) (st1 := [.int q5]) (r := some (.int q5)) (f' := f) (g' := g) (tX1_rightBy e5) (Nat.le_of_ble_eq_true rfl) cwX1_rightBy rfl mlX1_48 sC_8 kX1 rfl rfl rfl (Nat.le_of_ble_eq_true rfl) dX1_isAtRest_34 ?_
        refine X.iload_n (i := 3) dX1_isAtRest_37 rfl rfl ?_
        refine X.icmp_ge (tgt := 43) dX1_isAtRest_38 (by decide) (fun c6 => ?_) (fun c6 => ?_)
        · rw [if_pos c6] at h
          refine X.iinc (i := 4) (v := (v4 + (1 : Int32))) (L' := [some (.ref 8), some (.int v1), some (.int v2), some (.int v3), some (.int (v4 + (1 : Int32)))]) dX1_isAtRest_43 rfl rfl (Nat.le_of_ble_eq_true rfl) rfl ?_
          refine X.goto (tgt := 10) dX1_isAtRest_46 (by decide) ?_
          exact X.weaken (xle_c (xle_c (xle_c (xle_c (xle_c xle_e))))) (ih h)
        · rw [if_neg c6] at h
          refine X.iconst (v := (0 : Int32)) dX1_isAtRest_41 (by decide) ?_
          obtain rfl := Option.some.inj h
          exact X.zret dX1_isAtRest_42 rfl rfl rfl
def pX1_isAtRest (F : Nat) (f : xM) (v1 : Int32) (v2 : Int32) : Option (Int32) := (Option.bind (pX1_rightBy f v1 v2) fun q1 => (pX1_isAtRest_b10 F f F v1 v2 q1 (0 : Int32)))
set_option maxRecDepth 100000 in
set_option maxHeartbeats 4000000 in
theorem tX1_isAtRest {F : Nat} {f : xM} {g : xN} {v1 : Int32} {v2 : Int32} {r : Int32} (h : pX1_isAtRest F f v1 v2 = some r) : XT mX1_isAtRest 1 [.ref 8, .int v1, .int v2] f g (some (.int r), f, g) := by
  unfold pX1_isAtRest at h
  refine XT.of (L := [some (.ref 8), some (.int v1), some (.int v2), none, none]) [some (.ref 8), some (.int v1), some (.int v2)] rfl (Nat.le_of_ble_eq_true rfl) rfl (xle_c (xle_c (xle_c (xle_z (xle_z xle_e))))) ?_
  refine X.aload_n (i := 0) dX1_isAtRest_0 rfl rfl ?_
  refine X.iload_n (i := 1) dX1_isAtRest_1 rfl rfl ?_
  refine X.iload_n (i := 2) dX1_isAtRest_2 rfl rfl ?_
  obtain ⟨q1, e1, h⟩ := xbind h
  try dsimp only at h
  refine X.callV (μ' := mX1_rightBy) (As := [.int v1, .int v2]) (st := []) (st1 := [.int q1]) (r := some (.int q1)) (f' := f) (g' := g) (tX1_rightBy e1) (Nat.le_of_ble_eq_true rfl) cwX1_rightBy rfl mlX1_48 sC_8 kX1 rfl rfl rfl (Nat.le_of_ble_eq_true rfl) dX1_isAtRest_3 ?_
  refine X.istore_n (i := 3) (L' := [some (.ref 8), some (.int v1), some (.int v2), some (.int q1), none]) dX1_isAtRest_6 rfl (Nat.le_of_ble_eq_true rfl) rfl ?_
  refine X.iconst (v := (0 : Int32)) dX1_isAtRest_7 (by decide) ?_
  refine X.istore (i := 4) (L' := [some (.ref 8), some (.int v1), some (.int v2), some (.int q1), some (.int (0 : Int32))]) dX1_isAtRest_8 (Nat.le_of_ble_eq_true rfl) rfl ?_
  exact X.weaken (xle_c (xle_c (xle_c (xle_c (xle_c xle_e))))) (tX1_isAtRest_b10 F h)
def pX1_restsInAll_b14 (F : Nat) (f : xM) (K4 : Int32 → Int32 → Option (Int32)) : Nat → Int32 → Int32 → Int32 → Option (Int32)
  | 0, _, _, _ => none
  | n + 1, v1, v2, v3 => (if (f 8 1) ≤ v3 then (K4 v1 (v2 + (1 : Int32))) else (Option.bind (pX1_isAtRest F f v2 v3) fun q3 => (if q3 = 0 then (pX1_restsInAll_b14 F f K4 n (v1 + (0 : Int32)) v2 (v3 + (1 : Int32))) else (pX1_restsInAll_b14 F f K4 n (v1 + (1 : Int32)) v2 (v3 + (1 : Int32))))))
set_option maxRecDepth 100000 in
set_option maxHeartbeats 4000000 in
theorem tX1_restsInAll_b14 {F : Nat} {f : xM} {g : xN} {K4 : Int32 → Int32 → Option (Int32)} (hK4 : ∀ {v1 : Int32} {v2 : Int32} {r : Int32}, K4 v1 v2 = some r → X mX1_restsInAll 2 (some (.int r), f, g) 4 [some (.ref 8), some (.int v1), some (.int v2), none] [] f g) : ∀ (n : Nat) {v1 : Int32} {v2 : Int32} {v3 : Int32} {r : Int32}, pX1_restsInAll_b14 F f K4 n v1 v2 v3 = some r → X mX1_restsInAll 2 (some (.int r), f, g) 14 [some (.ref 8), some (.int v1), some (.int v2), some (.int v3)] [] f g := by
  intro n
  induction n with
  | zero => intro v1 v2 v3 r h; cases h
  | succ n ih =>
    intro v1 v2 v3 r h
    rw [pX1_restsInAll_b14] at h
    refine X.iload_n (i := 3) dX1_restsInAll_14 rfl rfl ?_
    refine X.aload_n (i := 0) dX1_restsInAll_15 rfl rfl ?_
    refine X.getI (k0 := 1) kX1 sC_8 (Nat.le_of_ble_eq_true rfl) rfl lfX1_27 dX1_restsInAll_16 ?_
    refine X.icmp_ge (tgt := 45) dX1_restsInAll_19 (by decide) (fun c2 => ?_) (fun c2 => ?_)
    · rw [if_pos c2] at h
      refine X.iinc (i := 2) (v := (v2 + (1 : Int32))) (L' := [some (.ref 8), some (.int v1), some (.int (v2 + (1 : Int32))), some (.int v3)]) dX1_restsInAll_45 rfl rfl (Nat.le_of_ble_eq_true rfl) rfl ?_
      refine X.goto (tgt := 4) dX1_restsInAll_48 (by decide) ?_
      exact X.weaken (xle_c (xle_c (xle_c (xle_n xle_e)))) (hK4 h)
    · rw [if_neg c2] at h
      refine X.iload_n (i := 1) dX1_restsInAll_22 rfl rfl ?_
      refine X.aload_n (i := 0) dX1_restsInAll_23 rfl rfl ?_
      refine X.iload_n (i := 2) dX1_restsInAll_24 rfl rfl ?_
      refine X.iload_n (i := 3) dX1_restsInAll_25 rfl rfl ?_
      obtain ⟨q3, e3, h⟩ := xbind h
      try dsimp only at h
      refine X.callV (μ' := mX1_isAtRest) (As := [.int v2, .int v3]) (st := [.int v1]) (st1 := [.int q3, .int v1]) (r := some (.int q3)) (f' := f) (g' := g) (tX1_isAtRest e3) (Nat.le_of_ble_eq_true rfl) cwX1_isAtRest rfl mlX1_51 sC_8 kX1 rfl rfl rfl (Nat.le_of_ble_eq_true rfl) dX1_restsInAll_26 ?_
      refine X.if_eq (tgt := 36) dX1_restsInAll_29 (by decide) (fun c4 => ?_) (fun c4 => ?_)
      · rw [if_pos c4] at h
        refine X.iconst (v := (0 : Int32)) dX1_restsInAll_36 (by decide) ?_
        refine X.iadd dX1_restsInAll_37 ?_
        refine X.istore_n (i := 1) (L' := [some (.ref 8), some (.int (v1 + (0 : Int32))), some (.int v2), some (.int v3)]) dX1_restsInAll_38 rfl (Nat.le_of_ble_eq_true rfl) rfl ?_
        refine X.iinc (i := 3) (v := (v3 + (1 : Int32))) (L' := [some (.ref 8), some (.int (v1 + (0 : Int32))), some (.int v2), some (.int (v3 + (1 : Int32)))]) dX1_restsInAll_39 rfl rfl (Nat.le_of_ble_eq_true rfl) rfl ?_
        refine X.goto (tgt := 14) dX1_restsInAll_42 (by decide) ?_
        exact X.weaken (xle_c (xle_c (xle_c (xle_c xle_e)))) (ih h)
      · rw [if_neg c4] at h
        refine X.iconst (v := (1 : Int32)) dX1_restsInAll_32 (by decide) ?_
        refine X.goto (tgt := 37) dX1_restsInAll_33 (by decide) ?_
        refine X.iadd dX1_restsInAll_37 ?_
        refine X.istore_n (i := 1) (L' := [some (.ref 8), some (.int (v1 + (1 : Int32))), some (.int v2), some (.int v3)]) dX1_restsInAll_38 rfl (Nat.le_of_ble_eq_true rfl) rfl ?_
        refine X.iinc (i := 3) (v := (v3 + (1 : Int32))) (L' := [some (.ref 8), some (.int (v1 + (1 : Int32))), some (.int v2), some (.int (v3 + (1 : Int32)))]) dX1_restsInAll_39 rfl rfl (Nat.le_of_ble_eq_true rfl) rfl ?_
        refine X.goto (tgt := 14) dX1_restsInAll_42 (by decide) ?_
        exact X.weaken (xle_c (xle_c (xle_c (xle_c xle_e)))) (ih h)
def pX1_restsInAll_b4 (F : Nat) (f : xM) : Nat → Int32 → Int32 → Option (Int32)
  | 0, _, _ => none
  | n + 1, v1, v2 => (if (f 8 1) ≤ v2 then some (v1) else (pX1_restsInAll_b14 F f (pX1_restsInAll_b4 F f n) F v1 v2 (0 : Int32)))
set_option maxRecDepth 100000 in
set_option maxHeartbeats 4000000 in
theorem tX1_restsInAll_b4 {F : Nat} {f : xM} {g : xN} : ∀ (n : Nat) {v1 : Int32} {v2 : Int32} {r : Int32}, pX1_restsInAll_b4 F f n v1 v2 = some r → X mX1_restsInAll 2 (some (.int r), f, g) 4 [some (.ref 8), some (.int v1), some (.int v2), none] [] f g := by
  intro n
  induction n with
  | zero => intro v1 v2 r h; cases h
  | succ n ih =>
    intro v1 v2 r h
    rw [pX1_restsInAll_b4] at h
    refine X.iload_n (i := 2) dX1_restsInAll_4 rfl rfl ?_
    refine X.aload_n (i := 0) dX1_restsInAll_5 rfl rfl ?_
    refine X.getI (k0 := 1) kX1 sC_8 (Nat.le_of_ble_eq_true rfl) rfl lfX1_27 dX1_restsInAll_6 ?_
    refine X.icmp_ge (tgt := 51) dX1_restsInAll_9 (by decide) (fun c1 => ?_) (fun c1 => ?_)
    · rw [if_pos c1] at h
      refine X.iload_n (i := 1) dX1_restsInAll_51 rfl rfl ?_
      obtain rfl := Option.some.inj h
      exact X.iret dX1_restsInAll_52 rfl rfl
    · rw [if_neg c1] at h
      refine X.iconst (v := (0 : Int32)) dX1_restsInAll_12 (by decide) ?_
      refine X.istore_n (i := 3) (L' := [some (.ref 8), some (.int v1), some (.int v2), some (.int (0 : Int32))]) dX1_restsInAll_13 rfl (Nat.le_of_ble_eq_true rfl) rfl ?_
      exact X.weaken (xle_c (xle_c (xle_c (xle_c xle_e)))) (tX1_restsInAll_b14 ih F h)
def pX1_restsInAll (F : Nat) (f : xM) : Option (Int32) := (pX1_restsInAll_b4 F f F (0 : Int32) (0 : Int32))
set_option maxRecDepth 100000 in
set_option maxHeartbeats 4000000 in
theorem tX1_restsInAll {F : Nat} {f : xM} {g : xN} {r : Int32} (h : pX1_restsInAll F f = some r) : XT mX1_restsInAll 2 [.ref 8] f g (some (.int r), f, g) := by
  unfold pX1_restsInAll at h
  refine XT.of (L := [some (.ref 8), none, none, none]) [some (.ref 8)] rfl (Nat.le_of_ble_eq_true rfl) rfl (xle_c (xle_z (xle_z (xle_z xle_e)))) ?_
  refine X.iconst (v := (0 : Int32)) dX1_restsInAll_0 (by decide) ?_
  refine X.istore_n (i := 1) (L' := [some (.ref 8), some (.int (0 : Int32)), none, none]) dX1_restsInAll_1 rfl (Nat.le_of_ble_eq_true rfl) rfl ?_
  refine X.iconst (v := (0 : Int32)) dX1_restsInAll_2 (by decide) ?_
  refine X.istore_n (i := 2) (L' := [some (.ref 8), some (.int (0 : Int32)), some (.int (0 : Int32)), none]) dX1_restsInAll_3 rfl (Nat.le_of_ble_eq_true rfl) rfl ?_
  exact X.weaken (xle_c (xle_c (xle_c (xle_n xle_e)))) (tX1_restsInAll_b4 F h)
def pX1_leastRest_b12 (F : Nat) (f : xM) (K2 : Int32 → Option (Int32)) : Nat → Int32 → Int32 → Option (Int32)
  | 0, _, _ => none
  | n + 1, v1, v2 => (if (f 8 1) ≤ v2 then (K2 (v1 + (1 : Int32))) else (Option.bind (pX1_isAtRest F f v1 v2) fun q3 => (if q3 = 0 then (pX1_leastRest_b12 F f K2 n v1 (v2 + (1 : Int32))) else some ((((10 : Int32) * v1) + v2)))))
set_option maxRecDepth 100000 in
set_option maxHeartbeats 4000000 in
theorem tX1_leastRest_b12 {F : Nat} {f : xM} {g : xN} {K2 : Int32 → Option (Int32)} (hK2 : ∀ {v1 : Int32} {r : Int32}, K2 v1 = some r → X mX1_leastRest 2 (some (.int r), f, g) 2 [some (.ref 8), some (.int v1), none] [] f g) : ∀ (n : Nat) {v1 : Int32} {v2 : Int32} {r : Int32}, pX1_leastRest_b12 F f K2 n v1 v2 = some r → X mX1_leastRest 2 (some (.int r), f, g) 12 [some (.ref 8), some (.int v1), some (.int v2)] [] f g := by
  intro n
  induction n with
  | zero => intro v1 v2 r h; cases h
  | succ n ih =>
    intro v1 v2 r h
    rw [pX1_leastRest_b12] at h
    refine X.iload_n (i := 2) dX1_leastRest_12 rfl rfl ?_
    refine X.aload_n (i := 0) dX1_leastRest_13 rfl rfl ?_
    refine X.getI (k0 := 1) kX1 sC_8 (Nat.le_of_ble_eq_true rfl) rfl lfX1_27 dX1_leastRest_14 ?_
    refine X.icmp_ge (tgt := 42) dX1_leastRest_17 (by decide) (fun c2 => ?_) (fun c2 => ?_)
    · rw [if_pos c2] at h
      refine X.iinc (i := 1) (v := (v1 + (1 : Int32))) (L' := [some (.ref 8), some (.int (v1 + (1 : Int32))), some (.int v2)]) dX1_leastRest_42 rfl rfl (Nat.le_of_ble_eq_true rfl) rfl ?_
      refine X.goto (tgt := 2) dX1_leastRest_45 (by decide) ?_
      exact X.weaken (xle_c (xle_c (xle_n xle_e))) (hK2 h)
    · rw [if_neg c2] at h
      refine X.aload_n (i := 0) dX1_leastRest_20 rfl rfl ?_
      refine X.iload_n (i := 1) dX1_leastRest_21 rfl rfl ?_
      refine X.iload_n (i := 2) dX1_leastRest_22 rfl rfl ?_
      obtain ⟨q3, e3, h⟩ := xbind h
      try dsimp only at h
      refine X.callV (μ' := mX1_isAtRest) (As := [.int v1, .int v2]) (st := []) (st1 := [.int q3]) (r := some (.int q3)) (f' := f) (g' := g) (tX1_isAtRest e3) (Nat.le_of_ble_eq_true rfl) cwX1_isAtRest rfl mlX1_51 sC_8 kX1 rfl rfl rfl (Nat.le_of_ble_eq_true rfl) dX1_leastRest_23 ?_
      refine X.if_eq (tgt := 36) dX1_leastRest_26 (by decide) (fun c4 => ?_) (fun c4 => ?_)
      · rw [if_pos c4] at h
        refine X.iinc (i := 2) (v := (v2 + (1 : Int32))) (L' := [some (.ref 8), some (.int v1), some (.int (v2 + (1 : Int32)))]) dX1_leastRest_36 rfl rfl (Nat.le_of_ble_eq_true rfl) rfl ?_
        refine X.goto (tgt := 12) dX1_leastRest_39 (by decide) ?_
        exact X.weaken (xle_c (xle_c (xle_c xle_e))) (ih h)
      · rw [if_neg c4] at h
        refine X.bipush (v := (10 : Int32)) dX1_leastRest_29 (by decide) ?_
        refine X.iload_n (i := 1) dX1_leastRest_31 rfl rfl ?_
        refine X.imul dX1_leastRest_32 ?_
        refine X.iload_n (i := 2) dX1_leastRest_33 rfl rfl ?_
        refine X.iadd dX1_leastRest_34 ?_
        obtain rfl := Option.some.inj h
        exact X.iret dX1_leastRest_35 rfl rfl
def pX1_leastRest_b2 (F : Nat) (f : xM) : Nat → Int32 → Option (Int32)
  | 0, _ => none
  | n + 1, v1 => (if (f 8 1) ≤ v1 then some ((-9 : Int32)) else (pX1_leastRest_b12 F f (pX1_leastRest_b2 F f n) F v1 (0 : Int32)))
set_option maxRecDepth 100000 in
set_option maxHeartbeats 4000000 in
theorem tX1_leastRest_b2 {F : Nat} {f : xM} {g : xN} : ∀ (n : Nat) {v1 : Int32} {r : Int32}, pX1_leastRest_b2 F f n v1 = some r → X mX1_leastRest 2 (some (.int r), f, g) 2 [some (.ref 8), some (.int v1), none] [] f g := by
  intro n
  induction n with
  | zero => intro v1 r h; cases h
  | succ n ih =>
    intro v1 r h
    rw [pX1_leastRest_b2] at h
    refine X.iload_n (i := 1) dX1_leastRest_2 rfl rfl ?_
    refine X.aload_n (i := 0) dX1_leastRest_3 rfl rfl ?_
    refine X.getI (k0 := 1) kX1 sC_8 (Nat.le_of_ble_eq_true rfl) rfl lfX1_27 dX1_leastRest_4 ?_
    refine X.icmp_ge (tgt := 48) dX1_leastRest_7 (by decide) (fun c1 => ?_) (fun c1 => ?_)
    · rw [if_pos c1] at h
      refine X.bipush (v := (-9 : Int32)) dX1_leastRest_48 (by decide) ?_
      obtain rfl := Option.some.inj h
      exact X.iret dX1_leastRest_50 rfl rfl
    · rw [if_neg c1] at h
      refine X.iconst (v := (0 : Int32)) dX1_leastRest_10 (by decide) ?_
      refine X.istore_n (i := 2) (L' := [some (.ref 8), some (.int v1), some (.int (0 : Int32))]) dX1_leastRest_11 rfl (Nat.le_of_ble_eq_true rfl) rfl ?_
      exact X.weaken (xle_c (xle_c (xle_c xle_e))) (tX1_leastRest_b12 ih F h)
def pX1_leastRest (F : Nat) (f : xM) : Option (Int32) := (pX1_leastRest_b2 F f F (0 : Int32))
set_option maxRecDepth 100000 in
set_option maxHeartbeats 4000000 in
theorem tX1_leastRest {F : Nat} {f : xM} {g : xN} {r : Int32} (h : pX1_leastRest F f = some r) : XT mX1_leastRest 2 [.ref 8] f g (some (.int r), f, g) := by
  unfold pX1_leastRest at h
  refine XT.of (L := [some (.ref 8), none, none]) [some (.ref 8)] rfl (Nat.le_of_ble_eq_true rfl) rfl (xle_c (xle_z (xle_z xle_e))) ?_
  refine X.iconst (v := (0 : Int32)) dX1_leastRest_0 (by decide) ?_
  refine X.istore_n (i := 1) (L' := [some (.ref 8), some (.int (0 : Int32)), none]) dX1_leastRest_1 rfl (Nat.le_of_ble_eq_true rfl) rfl ?_
  exact X.weaken (xle_c (xle_c (xle_n xle_e))) (tX1_leastRest_b2 F h)
def pX11_rests (F : Nat) (v1 : Int32) (v2 : Int32) (v3 : Int32) (v4 : Int32) (v5 : Int32) (f : xM) : Option (Int32 × xM) := (if (pX6_isNoticeFor f v1 v2) = 0 then some (((-2 : Int32), f)) else (if (pX6_isNoticeFor f v3 v4) = 0 then some (((-2 : Int32), f)) else (if v5 < 0 then some (((-2 : Int32), f)) else (if v5 ≤ (1 : Int32) then (Option.bind (pX1_look F v1 v2 v3 v4 f) fun q5 => (if v5 = 0 then (Option.bind (pX1_restsInAll F q5) fun q8 => some ((q8, q5))) else (Option.bind (pX1_leastRest F q5) fun q7 => some ((q7, q5))))) else some (((-2 : Int32), f))))))
set_option maxRecDepth 100000 in
set_option maxHeartbeats 4000000 in
theorem tX11_rests {F : Nat} {g : xN} {v1 : Int32} {v2 : Int32} {v3 : Int32} {v4 : Int32} {v5 : Int32} {f : xM} {r : Int32 × xM} (h : pX11_rests F v1 v2 v3 v4 v5 f = some r) : XT mX11_rests 4 [.ref 0, .int v1, .int v2, .int v3, .int v4, .int v5] f g (some (.int r.1), r.2, g) := by
  unfold pX11_rests at h
  refine XT.of (L := [some (.ref 0), some (.int v1), some (.int v2), some (.int v3), some (.int v4), some (.int v5)]) [some (.ref 0), some (.int v1), some (.int v2), some (.int v3), some (.int v4), some (.int v5)] rfl (Nat.le_of_ble_eq_true rfl) rfl (xle_c (xle_c (xle_c (xle_c (xle_c (xle_c xle_e)))))) ?_
  refine X.aload_n (i := 0) dX11_rests_0 rfl rfl ?_
  refine X.getR (k0 := 1) kX11 sC_0 (Nat.le_of_ble_eq_true rfl) rfl lfX11_19 dX11_rests_1 ?_
  refine X.iload_n (i := 1) dX11_rests_4 rfl rfl ?_
  refine X.iload_n (i := 2) dX11_rests_5 rfl rfl ?_
  refine X.callVN (μ' := mX6_isNoticeFor) (As := [.int v1, .int v2]) (st := []) (st1 := [.int (pX6_isNoticeFor f v1 v2)]) (r := some (.int (pX6_isNoticeFor f v1 v2))) (f' := f) (g' := g) (tX6_isNoticeFor rfl) (Nat.le_of_ble_eq_true rfl) cwX6_isNoticeFor rfl mnX11_164 sC_2 kX6 rfl rfl rfl (Nat.le_of_ble_eq_true rfl) dX11_rests_6 ?_
  refine X.if_eq (tgt := 36) dX11_rests_9 (by decide) (fun c1 => ?_) (fun c1 => ?_)
  · rw [if_pos c1] at h
    refine X.bipush (v := (-2 : Int32)) dX11_rests_36 (by decide) ?_
    obtain rfl := Option.some.inj h
    exact X.iret dX11_rests_38 rfl rfl
  · rw [if_neg c1] at h
    refine X.aload_n (i := 0) dX11_rests_12 rfl rfl ?_
    refine X.getR (k0 := 1) kX11 sC_0 (Nat.le_of_ble_eq_true rfl) rfl lfX11_19 dX11_rests_13 ?_
    refine X.iload_n (i := 3) dX11_rests_16 rfl rfl ?_
    refine X.iload (i := 4) dX11_rests_17 rfl ?_
    refine X.callVN (μ' := mX6_isNoticeFor) (As := [.int v3, .int v4]) (st := []) (st1 := [.int (pX6_isNoticeFor f v3 v4)]) (r := some (.int (pX6_isNoticeFor f v3 v4))) (f' := f) (g' := g) (tX6_isNoticeFor rfl) (Nat.le_of_ble_eq_true rfl) cwX6_isNoticeFor rfl mnX11_164 sC_2 kX6 rfl rfl rfl (Nat.le_of_ble_eq_true rfl) dX11_rests_19 ?_
    refine X.if_eq (tgt := 36) dX11_rests_22 (by decide) (fun c2 => ?_) (fun c2 => ?_)
    · rw [if_pos c2] at h
      refine X.bipush (v := (-2 : Int32)) dX11_rests_36 (by decide) ?_
      obtain rfl := Option.some.inj h
      exact X.iret dX11_rests_38 rfl rfl
    · rw [if_neg c2] at h
      refine X.iload (i := 5) dX11_rests_25 rfl ?_
      refine X.if_lt (tgt := 36) dX11_rests_27 (by decide) (fun c3 => ?_) (fun c3 => ?_)
      · rw [if_pos c3] at h
        refine X.bipush (v := (-2 : Int32)) dX11_rests_36 (by decide) ?_
        obtain rfl := Option.some.inj h
        exact X.iret dX11_rests_38 rfl rfl
      · rw [if_neg c3] at h
        refine X.iload (i := 5) dX11_rests_30 rfl ?_
        refine X.iconst (v := (1 : Int32)) dX11_rests_32 (by decide) ?_
        refine X.icmp_le (tgt := 39) dX11_rests_33 (by decide) (fun c4 => ?_) (fun c4 => ?_)
        · rw [if_pos c4] at h
          refine X.aload_n (i := 0) dX11_rests_39 rfl rfl ?_
          refine X.getR (k0 := 7) kX11 sC_0 (Nat.le_of_ble_eq_true rfl) rfl lfX11_63 dX11_rests_40 ?_
          refine X.aload_n (i := 0) dX11_rests_43 rfl rfl ?_
          refine X.getR (k0 := 1) kX11 sC_0 (Nat.le_of_ble_eq_true rfl) rfl lfX11_19 dX11_rests_44 ?_
          refine X.iload_n (i := 1) dX11_rests_47 rfl rfl ?_
          refine X.iload_n (i := 2) dX11_rests_48 rfl rfl ?_
          refine X.iload_n (i := 3) dX11_rests_49 rfl rfl ?_
          refine X.iload (i := 4) dX11_rests_50 rfl ?_
          obtain ⟨q5, e5, h⟩ := xbind h
          try dsimp only at h
          refine X.callVN (μ' := mX1_look) (As := [.ref 2, .int v1, .int v2, .int v3, .int v4]) (st := []) (st1 := []) (r := none) (f' := q5) (g' := g) (tX1_look e5) (Nat.le_of_ble_eq_true rfl) cwX1_look rfl mnX11_239 sC_8 kX1 rfl rfl rfl (Nat.le_of_ble_eq_true rfl) dX11_rests_52 ?_
          refine X.iload (i := 5) dX11_rests_55 rfl ?_
          refine X.if_ne (tgt := 70) dX11_rests_57 (by decide) (fun c6 => ?_) (fun c6 => ?_)
          · rw [if_neg c6] at h
            refine X.aload_n (i := 0) dX11_rests_70 rfl rfl ?_
            refine X.getR (k0 := 7) kX11 sC_0 (Nat.le_of_ble_eq_true rfl) rfl lfX11_63 dX11_rests_71 ?_
            obtain ⟨q7, e7, h⟩ := xbind h
            try dsimp only at h
            refine X.callVN (μ' := mX1_leastRest) (As := []) (st := []) (st1 := [.int q7]) (r := some (.int q7)) (f' := q5) (g' := g) (tX1_leastRest e7) (Nat.le_of_ble_eq_true rfl) cwX1_leastRest rfl mnX11_246 sC_8 kX1 rfl rfl rfl (Nat.le_of_ble_eq_true rfl) dX11_rests_74 ?_
            obtain rfl := Option.some.inj h
            exact X.iret dX11_rests_77 rfl rfl
          · rw [if_pos c6] at h
            refine X.aload_n (i := 0) dX11_rests_60 rfl rfl ?_
            refine X.getR (k0 := 7) kX11 sC_0 (Nat.le_of_ble_eq_true rfl) rfl lfX11_63 dX11_rests_61 ?_
            obtain ⟨q8, e8, h⟩ := xbind h
            try dsimp only at h
            refine X.callVN (μ' := mX1_restsInAll) (As := []) (st := []) (st1 := [.int q8]) (r := some (.int q8)) (f' := q5) (g' := g) (tX1_restsInAll e8) (Nat.le_of_ble_eq_true rfl) cwX1_restsInAll rfl mnX11_243 sC_8 kX1 rfl rfl rfl (Nat.le_of_ble_eq_true rfl) dX11_rests_64 ?_
            refine X.goto (tgt := 77) dX11_rests_67 (by decide) ?_
            obtain rfl := Option.some.inj h
            exact X.iret dX11_rests_77 rfl rfl
        · rw [if_neg c4] at h
          refine X.bipush (v := (-2 : Int32)) dX11_rests_36 (by decide) ?_
          obtain rfl := Option.some.inj h
          exact X.iret dX11_rests_38 rfl rfl
def pX2_tenTo_b4 (F : Nat) : Nat → Int32 → Int32 → Int32 → Option (Int32)
  | 0, _, _, _ => none
  | n + 1, v0, v1, v2 => (if v0 ≤ v2 then some (v1) else (if (4 : Int32) ≤ v2 then some (v1) else (pX2_tenTo_b4 F n v0 (v1 * (10 : Int32)) (v2 + (1 : Int32)))))
set_option maxRecDepth 100000 in
set_option maxHeartbeats 4000000 in
theorem tX2_tenTo_b4 {F : Nat} {f : xM} {g : xN} : ∀ (n : Nat) {v0 : Int32} {v1 : Int32} {v2 : Int32} {r : Int32}, pX2_tenTo_b4 F n v0 v1 v2 = some r → X mX2_tenTo 0 (some (.int r), f, g) 4 [some (.int v0), some (.int v1), some (.int v2)] [] f g := by
  intro n
  induction n with
  | zero => intro v0 v1 v2 r h; cases h
  | succ n ih =>
    intro v0 v1 v2 r h
    rw [pX2_tenTo_b4] at h
    refine X.iload_n (i := 2) dX2_tenTo_4 rfl rfl ?_
    refine X.iload_n (i := 0) dX2_tenTo_5 rfl rfl ?_
    refine X.icmp_ge (tgt := 25) dX2_tenTo_6 (by decide) (fun c1 => ?_) (fun c1 => ?_)
    · rw [if_pos c1] at h
      refine X.iload_n (i := 1) dX2_tenTo_25 rfl rfl ?_
      obtain rfl := Option.some.inj h
      exact X.iret dX2_tenTo_26 rfl rfl
    · rw [if_neg c1] at h
      refine X.iload_n (i := 2) dX2_tenTo_9 rfl rfl ?_
      refine X.iconst (v := (4 : Int32)) dX2_tenTo_10 (by decide) ?_
      refine X.icmp_ge (tgt := 25) dX2_tenTo_11 (by decide) (fun c2 => ?_) (fun c2 => ?_)
      · rw [if_pos c2] at h
        refine X.iload_n (i := 1) dX2_tenTo_25 rfl rfl ?_
        obtain rfl := Option.some.inj h
        exact X.iret dX2_tenTo_26 rfl rfl
      · rw [if_neg c2] at h
        refine X.iload_n (i := 1) dX2_tenTo_14 rfl rfl ?_
        refine X.bipush (v := (10 : Int32)) dX2_tenTo_15 (by decide) ?_
        refine X.imul dX2_tenTo_17 ?_
        refine X.istore_n (i := 1) (L' := [some (.int v0), some (.int (v1 * (10 : Int32))), some (.int v2)]) dX2_tenTo_18 rfl (Nat.le_of_ble_eq_true rfl) rfl ?_
        refine X.iinc (i := 2) (v := (v2 + (1 : Int32))) (L' := [some (.int v0), some (.int (v1 * (10 : Int32))), some (.int (v2 + (1 : Int32)))]) dX2_tenTo_19 rfl rfl (Nat.le_of_ble_eq_true rfl) rfl ?_
        refine X.goto (tgt := 4) dX2_tenTo_22 (by decide) ?_
        exact X.weaken (xle_c (xle_c (xle_c xle_e))) (ih h)
def pX2_tenTo (F : Nat) (v0 : Int32) : Option (Int32) := (pX2_tenTo_b4 F F v0 (1 : Int32) (0 : Int32))
set_option maxRecDepth 100000 in
set_option maxHeartbeats 4000000 in
theorem tX2_tenTo {F : Nat} {f : xM} {g : xN} {v0 : Int32} {r : Int32} (h : pX2_tenTo F v0 = some r) : XT mX2_tenTo 0 [.int v0] f g (some (.int r), f, g) := by
  unfold pX2_tenTo at h
  refine XT.of (L := [some (.int v0), none, none]) [some (.int v0)] rfl (Nat.le_of_ble_eq_true rfl) rfl (xle_c (xle_z (xle_z xle_e))) ?_
  refine X.iconst (v := (1 : Int32)) dX2_tenTo_0 (by decide) ?_
  refine X.istore_n (i := 1) (L' := [some (.int v0), some (.int (1 : Int32)), none]) dX2_tenTo_1 rfl (Nat.le_of_ble_eq_true rfl) rfl ?_
  refine X.iconst (v := (0 : Int32)) dX2_tenTo_2 (by decide) ?_
  refine X.istore_n (i := 2) (L' := [some (.int v0), some (.int (1 : Int32)), some (.int (0 : Int32))]) dX2_tenTo_3 rfl (Nat.le_of_ble_eq_true rfl) rfl ?_
  exact X.weaken (xle_c (xle_c (xle_c xle_e))) (tX2_tenTo_b4 F h)
def pX2_leastWrong_b2 (F : Nat) (f : xM) : Nat → Int32 → Int32 → Option (Int32)
  | 0, _, _ => none
  | n + 1, v1, v2 => (if ((f 10 0) - (1 : Int32)) ≤ v2 then some (v2) else (if (pX8_letterAt f v1 v2) = (pX8_letterAt f (f 2 6) v2) then (pX2_leastWrong_b2 F f n v1 (v2 + (1 : Int32))) else some (v2)))
set_option maxRecDepth 100000 in
set_option maxHeartbeats 4000000 in
theorem tX2_leastWrong_b2 {F : Nat} {f : xM} {g : xN} : ∀ (n : Nat) {v1 : Int32} {v2 : Int32} {r : Int32}, pX2_leastWrong_b2 F f n v1 v2 = some r → X mX2_leastWrong 1 (some (.int r), f, g) 2 [some (.ref 2), some (.int v1), some (.int v2)] [] f g := by
  intro n
  induction n with
  | zero => intro v1 v2 r h; cases h
  | succ n ih =>
    intro v1 v2 r h
    rw [pX2_leastWrong_b2] at h
    refine X.iload_n (i := 2) dX2_leastWrong_2 rfl rfl ?_
    refine X.aload_n (i := 0) dX2_leastWrong_3 rfl rfl ?_
    refine X.getRN (k0 := 0) kX6 sC_2 (Nat.le_of_ble_eq_true rfl) rfl lnX2_46 dX2_leastWrong_4 ?_
    refine X.getIN (k0 := 0) kX8 sC_10 (Nat.le_of_ble_eq_true rfl) rfl lnX2_60 dX2_leastWrong_7 ?_
    refine X.iconst (v := (1 : Int32)) dX2_leastWrong_10 (by decide) ?_
    refine X.isub dX2_leastWrong_11 ?_
    refine X.icmp_ge (tgt := 45) dX2_leastWrong_12 (by decide) (fun c1 => ?_) (fun c1 => ?_)
    · rw [if_pos c1] at h
      refine X.iload_n (i := 2) dX2_leastWrong_45 rfl rfl ?_
      obtain rfl := Option.some.inj h
      exact X.iret dX2_leastWrong_46 rfl rfl
    · rw [if_neg c1] at h
      refine X.aload_n (i := 0) dX2_leastWrong_15 rfl rfl ?_
      refine X.getRN (k0 := 0) kX6 sC_2 (Nat.le_of_ble_eq_true rfl) rfl lnX2_46 dX2_leastWrong_16 ?_
      refine X.iload_n (i := 1) dX2_leastWrong_19 rfl rfl ?_
      refine X.iload_n (i := 2) dX2_leastWrong_20 rfl rfl ?_
      refine X.callVN (μ' := mX8_letterAt) (As := [.int v1, .int v2]) (st := []) (st1 := [.int (pX8_letterAt f v1 v2)]) (r := some (.int (pX8_letterAt f v1 v2))) (f' := f) (g' := g) (tX8_letterAt rfl) (Nat.le_of_ble_eq_true rfl) cwX8_letterAt rfl mnX2_50 sC_10 kX8 rfl rfl rfl (Nat.le_of_ble_eq_true rfl) dX2_leastWrong_21 ?_
      refine X.aload_n (i := 0) dX2_leastWrong_24 rfl rfl ?_
      refine X.getRN (k0 := 0) kX6 sC_2 (Nat.le_of_ble_eq_true rfl) rfl lnX2_46 dX2_leastWrong_25 ?_
      refine X.aload_n (i := 0) dX2_leastWrong_28 rfl rfl ?_
      refine X.getIN (k0 := 6) kX6 sC_2 (Nat.le_of_ble_eq_true rfl) rfl lnX2_35 dX2_leastWrong_29 ?_
      refine X.iload_n (i := 2) dX2_leastWrong_32 rfl rfl ?_
      refine X.callVN (μ' := mX8_letterAt) (As := [.int (f 2 6), .int v2]) (st := [.int (pX8_letterAt f v1 v2)]) (st1 := [.int (pX8_letterAt f (f 2 6) v2), .int (pX8_letterAt f v1 v2)]) (r := some (.int (pX8_letterAt f (f 2 6) v2))) (f' := f) (g' := g) (tX8_letterAt rfl) (Nat.le_of_ble_eq_true rfl) cwX8_letterAt rfl mnX2_50 sC_10 kX8 rfl rfl rfl (Nat.le_of_ble_eq_true rfl) dX2_leastWrong_33 ?_
      refine X.icmp_ne (tgt := 45) dX2_leastWrong_36 (by decide) (fun c2 => ?_) (fun c2 => ?_)
      · rw [if_neg c2] at h
        refine X.iload_n (i := 2) dX2_leastWrong_45 rfl rfl ?_
        obtain rfl := Option.some.inj h
        exact X.iret dX2_leastWrong_46 rfl rfl
      · rw [if_pos c2] at h
        refine X.iinc (i := 2) (v := (v2 + (1 : Int32))) (L' := [some (.ref 2), some (.int v1), some (.int (v2 + (1 : Int32)))]) dX2_leastWrong_39 rfl rfl (Nat.le_of_ble_eq_true rfl) rfl ?_
        refine X.goto (tgt := 2) dX2_leastWrong_42 (by decide) ?_
        exact X.weaken (xle_c (xle_c (xle_c xle_e))) (ih h)
def pX2_leastWrong (F : Nat) (f : xM) (v1 : Int32) : Option (Int32) := (pX2_leastWrong_b2 F f F v1 (0 : Int32))
set_option maxRecDepth 100000 in
set_option maxHeartbeats 4000000 in
theorem tX2_leastWrong {F : Nat} {f : xM} {g : xN} {v1 : Int32} {r : Int32} (h : pX2_leastWrong F f v1 = some r) : XT mX2_leastWrong 1 [.ref 2, .int v1] f g (some (.int r), f, g) := by
  unfold pX2_leastWrong at h
  refine XT.of (L := [some (.ref 2), some (.int v1), none]) [some (.ref 2), some (.int v1)] rfl (Nat.le_of_ble_eq_true rfl) rfl (xle_c (xle_c (xle_z xle_e))) ?_
  refine X.iconst (v := (0 : Int32)) dX2_leastWrong_0 (by decide) ?_
  refine X.istore_n (i := 2) (L' := [some (.ref 2), some (.int v1), some (.int (0 : Int32))]) dX2_leastWrong_1 rfl (Nat.le_of_ble_eq_true rfl) rfl ?_
  exact X.weaken (xle_c (xle_c (xle_c xle_e))) (tX2_leastWrong_b2 F h)
def pX2_waysToTruth (F : Nat) (f : xM) : Nat → Int32 → Int32 → Int32 → Int32 → Option (Int32)
  | 0, _, _, _, _ => none
  | kk + 1, v1, v2, v3, v4 => (if v1 = (f 2 6) then (Option.bind (pX2_tenTo F v3) fun q6 => some (q6)) else (if 0 < v3 then (Option.bind (pX2_leastWrong F f v1) fun q3 => (Option.bind (pX2_waysToTruth F f kk (pX8_noticed f v2 v1 q3 (pX8_letterAt f (f 2 6) q3)) v2 (v3 - (1 : Int32)) v4) fun q4 => (Option.bind (pX2_waysToTruth F f kk (pX8_noticed f (0 : Int32) v1 q3 (pX8_letterAt f (f 2 6) q3)) v2 (v3 - (1 : Int32)) v4) fun q5 => some (((v4 * q4) + (((10 : Int32) - v4) * q5)))))) else some ((0 : Int32))))
set_option maxRecDepth 100000 in
set_option maxHeartbeats 4000000 in
theorem tX2_waysToTruth {F : Nat} {f : xM} {g : xN} : ∀ (kk : Nat) {v1 : Int32} {v2 : Int32} {v3 : Int32} {v4 : Int32} {r : Int32}, pX2_waysToTruth F f kk v1 v2 v3 v4 = some r → XT mX2_waysToTruth (2 + kk) [.ref 2, .int v1, .int v2, .int v3, .int v4] f g (some (.int r), f, g) := by
  intro kk
  induction kk with
  | zero => intro v1 v2 v3 v4 r h; cases h
  | succ kk ih =>
    intro v1 v2 v3 v4 r h
    rw [pX2_waysToTruth] at h
    refine XT.of (L := [some (.ref 2), some (.int v1), some (.int v2), some (.int v3), some (.int v4), none, none, none, none]) [some (.ref 2), some (.int v1), some (.int v2), some (.int v3), some (.int v4)] rfl (Nat.le_of_ble_eq_true rfl) rfl (xle_c (xle_c (xle_c (xle_c (xle_c (xle_z (xle_z (xle_z (xle_z xle_e))))))))) ?_
    refine X.iload_n (i := 1) dX2_waysToTruth_0 rfl rfl ?_
    refine X.aload_n (i := 0) dX2_waysToTruth_1 rfl rfl ?_
    refine X.getIN (k0 := 6) kX6 sC_2 (Nat.le_of_ble_eq_true rfl) rfl lnX2_35 dX2_waysToTruth_2 ?_
    refine X.icmp_ne (tgt := 13) dX2_waysToTruth_5 (by decide) (fun c1 => ?_) (fun c1 => ?_)
    · rw [if_neg c1] at h
      refine X.iload_n (i := 3) dX2_waysToTruth_13 rfl rfl ?_
      refine X.if_gt (tgt := 19) dX2_waysToTruth_14 (by decide) (fun c2 => ?_) (fun c2 => ?_)
      · rw [if_pos c2] at h
        refine X.aload_n (i := 0) dX2_waysToTruth_19 rfl rfl ?_
        refine X.iload_n (i := 1) dX2_waysToTruth_20 rfl rfl ?_
        obtain ⟨q3, e3, h⟩ := xbind h
        try dsimp only at h
        refine X.callS (μ' := mX2_leastWrong) (As := [.ref 2, .int v1]) (st := []) (st1 := [.int q3]) (r := some (.int q3)) (f' := f) (g' := g) (tX2_leastWrong e3) (by omega) cwX2_leastWrong rfl mlX2_42 rfl rfl rfl (Nat.le_of_ble_eq_true rfl) dX2_waysToTruth_21 ?_
        refine X.istore (i := 5) (L' := [some (.ref 2), some (.int v1), some (.int v2), some (.int v3), some (.int v4), some (.int q3), none, none, none]) dX2_waysToTruth_24 (Nat.le_of_ble_eq_true rfl) rfl ?_
        refine X.aload_n (i := 0) dX2_waysToTruth_26 rfl rfl ?_
        refine X.getRN (k0 := 0) kX6 sC_2 (Nat.le_of_ble_eq_true rfl) rfl lnX2_46 dX2_waysToTruth_27 ?_
        refine X.aload_n (i := 0) dX2_waysToTruth_30 rfl rfl ?_
        refine X.getIN (k0 := 6) kX6 sC_2 (Nat.le_of_ble_eq_true rfl) rfl lnX2_35 dX2_waysToTruth_31 ?_
        refine X.iload (i := 5) dX2_waysToTruth_34 rfl ?_
        refine X.callVN (μ' := mX8_letterAt) (As := [.int (f 2 6), .int q3]) (st := []) (st1 := [.int (pX8_letterAt f (f 2 6) q3)]) (r := some (.int (pX8_letterAt f (f 2 6) q3))) (f' := f) (g' := g) (tX8_letterAt rfl) (by omega) cwX8_letterAt rfl mnX2_50 sC_10 kX8 rfl rfl rfl (Nat.le_of_ble_eq_true rfl) dX2_waysToTruth_36 ?_
        refine X.istore (i := 6) (L' := [some (.ref 2), some (.int v1), some (.int v2), some (.int v3), some (.int v4), some (.int q3), some (.int (pX8_letterAt f (f 2 6) q3)), none, none]) dX2_waysToTruth_39 (Nat.le_of_ble_eq_true rfl) rfl ?_
        refine X.aload_n (i := 0) dX2_waysToTruth_41 rfl rfl ?_
        refine X.getRN (k0 := 0) kX6 sC_2 (Nat.le_of_ble_eq_true rfl) rfl lnX2_46 dX2_waysToTruth_42 ?_
        refine X.iload_n (i := 2) dX2_waysToTruth_45 rfl rfl ?_
        refine X.iload_n (i := 1) dX2_waysToTruth_46 rfl rfl ?_
        refine X.iload (i := 5) dX2_waysToTruth_47 rfl ?_
        refine X.iload (i := 6) dX2_waysToTruth_49 rfl ?_
        refine X.callVN (μ' := mX8_noticed) (As := [.int v2, .int v1, .int q3, .int (pX8_letterAt f (f 2 6) q3)]) (st := []) (st1 := [.int (pX8_noticed f v2 v1 q3 (pX8_letterAt f (f 2 6) q3))]) (r := some (.int (pX8_noticed f v2 v1 q3 (pX8_letterAt f (f 2 6) q3)))) (f' := f) (g' := g) (tX8_noticed rfl) (by omega) cwX8_noticed rfl mnX2_56 sC_10 kX8 rfl rfl rfl (Nat.le_of_ble_eq_true rfl) dX2_waysToTruth_51 ?_
        refine X.istore (i := 7) (L' := [some (.ref 2), some (.int v1), some (.int v2), some (.int v3), some (.int v4), some (.int q3), some (.int (pX8_letterAt f (f 2 6) q3)), some (.int (pX8_noticed f v2 v1 q3 (pX8_letterAt f (f 2 6) q3))), none]) dX2_waysToTruth_54 (Nat.le_of_ble_eq_true rfl) rfl ?_
        refine X.aload_n (i := 0) dX2_waysToTruth_56 rfl rfl ?_
        refine X.getRN (k0 := 0) kX6 sC_2 (Nat.le_of_ble_eq_true rfl) rfl lnX2_46 dX2_waysToTruth_57 ?_
        refine X.iconst (v := (0 : Int32)) dX2_waysToTruth_60 (by decide) ?_
        refine X.iload_n (i := 1) dX2_waysToTruth_61 rfl rfl ?_
        refine X.iload (i := 5) dX2_waysToTruth_62 rfl ?_
        refine X.iload (i := 6) dX2_waysToTruth_64 rfl ?_
        refine X.callVN (μ' := mX8_noticed) (As := [.int (0 : Int32), .int v1, .int q3, .int (pX8_letterAt f (f 2 6) q3)]) (st := []) (st1 := [.int (pX8_noticed f (0 : Int32) v1 q3 (pX8_letterAt f (f 2 6) q3))]) (r := some (.int (pX8_noticed f (0 : Int32) v1 q3 (pX8_letterAt f (f 2 6) q3)))) (f' := f) (g' := g) (tX8_noticed rfl) (by omega) cwX8_noticed rfl mnX2_56 sC_10 kX8 rfl rfl rfl (Nat.le_of_ble_eq_true rfl) dX2_waysToTruth_66 ?_
        refine X.istore (i := 8) (L' := [some (.ref 2), some (.int v1), some (.int v2), some (.int v3), some (.int v4), some (.int q3), some (.int (pX8_letterAt f (f 2 6) q3)), some (.int (pX8_noticed f v2 v1 q3 (pX8_letterAt f (f 2 6) q3))), some (.int (pX8_noticed f (0 : Int32) v1 q3 (pX8_letterAt f (f 2 6) q3)))]) dX2_waysToTruth_69 (Nat.le_of_ble_eq_true rfl) rfl ?_
        refine X.iload (i := 4) dX2_waysToTruth_71 rfl ?_
        refine X.aload_n (i := 0) dX2_waysToTruth_73 rfl rfl ?_
        refine X.iload (i := 7) dX2_waysToTruth_74 rfl ?_
        refine X.iload_n (i := 2) dX2_waysToTruth_76 rfl rfl ?_
        refine X.iload_n (i := 3) dX2_waysToTruth_77 rfl rfl ?_
        refine X.iconst (v := (1 : Int32)) dX2_waysToTruth_78 (by decide) ?_
        refine X.isub dX2_waysToTruth_79 ?_
        refine X.iload (i := 4) dX2_waysToTruth_80 rfl ?_
        obtain ⟨q4, e4, h⟩ := xbind h
        try dsimp only at h
        refine X.callS (μ' := mX2_waysToTruth) (As := [.ref 2, .int (pX8_noticed f v2 v1 q3 (pX8_letterAt f (f 2 6) q3)), .int v2, .int (v3 - (1 : Int32)), .int v4]) (st := [.int v4]) (st1 := [.int q4, .int v4]) (r := some (.int q4)) (f' := f) (g' := g) (ih e4) (by omega) cwX2_waysToTruth rfl mlX2_31 rfl rfl rfl (Nat.le_of_ble_eq_true rfl) dX2_waysToTruth_82 ?_
        refine X.imul dX2_waysToTruth_85 ?_
        refine X.bipush (v := (10 : Int32)) dX2_waysToTruth_86 (by decide) ?_
        refine X.iload (i := 4) dX2_waysToTruth_88 rfl ?_
        refine X.isub dX2_waysToTruth_90 ?_
        refine X.aload_n (i := 0) dX2_waysToTruth_91 rfl rfl ?_
        refine X.iload (i := 8) dX2_waysToTruth_92 rfl ?_
        refine X.iload_n (i := 2) dX2_waysToTruth_94 rfl rfl ?_
        refine X.iload_n (i := 3) dX2_waysToTruth_95 rfl rfl ?_
        refine X.iconst (v := (1 : Int32)) dX2_waysToTruth_96 (by decide) ?_
        refine X.isub dX2_waysToTruth_97 ?_
        refine X.iload (i := 4) dX2_waysToTruth_98 rfl ?_
        obtain ⟨q5, e5, h⟩ := xbind h
        try dsimp only at h
        refine X.callS (μ' := mX2_waysToTruth) (As := [.ref 2, .int (pX8_noticed f (0 : Int32) v1 q3 (pX8_letterAt f (f 2 6) q3)), .int v2, .int (v3 - (1 : Int32)), .int v4]) (st := [.int ((10 : Int32) - v4), .int (v4 * q4)]) (st1 := [.int q5, .int ((10 : Int32) - v4), .int (v4 * q4)]) (r := some (.int q5)) (f' := f) (g' := g) (ih e5) (by omega) cwX2_waysToTruth rfl mlX2_31 rfl rfl rfl (Nat.le_of_ble_eq_true rfl) dX2_waysToTruth_100 ?_
        refine X.imul dX2_waysToTruth_103 ?_
        refine X.iadd dX2_waysToTruth_104 ?_
        obtain rfl := Option.some.inj h
        exact X.iret dX2_waysToTruth_105 rfl rfl
      · rw [if_neg c2] at h
        refine X.iconst (v := (0 : Int32)) dX2_waysToTruth_17 (by decide) ?_
        obtain rfl := Option.some.inj h
        exact X.iret dX2_waysToTruth_18 rfl rfl
    · rw [if_pos c1] at h
      refine X.iload_n (i := 3) dX2_waysToTruth_8 rfl rfl ?_
      obtain ⟨q6, e6, h⟩ := xbind h
      try dsimp only at h
      refine X.callS (μ' := mX2_tenTo) (As := [.int v3]) (st := []) (st1 := [.int q6]) (r := some (.int q6)) (f' := f) (g' := g) (tX2_tenTo e6) (by omega) cwX2_tenTo rfl mlX2_39 rfl rfl rfl (Nat.le_of_ble_eq_true rfl) dX2_waysToTruth_9 ?_
      obtain rfl := Option.some.inj h
      exact X.iret dX2_waysToTruth_12 rfl rfl
def pX2_ofTruth (F : Nat) (f : xM) (v2 : Int32) (v3 : Int32) (v4 : Int32) : Option (Int32) := (Option.bind (pX9_kindOf f v2) fun q1 => (Option.bind (pX2_waysToTruth F f 6 (pX9_said f) q1 v3 v4) fun q2 => some (q2)))
set_option maxRecDepth 100000 in
set_option maxHeartbeats 4000000 in
theorem tX2_ofTruth {F : Nat} {f : xM} {g : xN} {v2 : Int32} {v3 : Int32} {v4 : Int32} {r : Int32} (h : pX2_ofTruth F f v2 v3 v4 = some r) : XT mX2_ofTruth 9 [.ref 9, .ref 2, .int v2, .int v3, .int v4] f g (some (.int r), f, g) := by
  unfold pX2_ofTruth at h
  refine XT.of (L := [some (.ref 9), some (.ref 2), some (.int v2), some (.int v3), some (.int v4)]) [some (.ref 9), some (.ref 2), some (.int v2), some (.int v3), some (.int v4)] rfl (Nat.le_of_ble_eq_true rfl) rfl (xle_c (xle_c (xle_c (xle_c (xle_c xle_e))))) ?_
  refine X.aload_n (i := 1) dX2_ofTruth_0 rfl rfl ?_
  refine X.aload_n (i := 1) dX2_ofTruth_1 rfl rfl ?_
  refine X.getRN (k0 := 1) kX6 sC_2 (Nat.le_of_ble_eq_true rfl) rfl lnX2_15 dX2_ofTruth_2 ?_
  refine X.callVN (μ' := mX9_said) (As := []) (st := [.ref 2]) (st1 := [.int (pX9_said f), .ref 2]) (r := some (.int (pX9_said f))) (f' := f) (g' := g) (tX9_said rfl) (Nat.le_of_ble_eq_true rfl) cwX9_said rfl mnX2_21 sC_11 kX9 rfl rfl rfl (Nat.le_of_ble_eq_true rfl) dX2_ofTruth_5 ?_
  refine X.aload_n (i := 1) dX2_ofTruth_8 rfl rfl ?_
  refine X.getRN (k0 := 1) kX6 sC_2 (Nat.le_of_ble_eq_true rfl) rfl lnX2_15 dX2_ofTruth_9 ?_
  refine X.iload_n (i := 2) dX2_ofTruth_12 rfl rfl ?_
  obtain ⟨q1, e1, h⟩ := xbind h
  try dsimp only at h
  refine X.callVN (μ' := mX9_kindOf) (As := [.int v2]) (st := [.int (pX9_said f), .ref 2]) (st1 := [.int q1, .int (pX9_said f), .ref 2]) (r := some (.int q1)) (f' := f) (g' := g) (tX9_kindOf e1) (Nat.le_of_ble_eq_true rfl) cwX9_kindOf rfl mnX2_27 sC_11 kX9 rfl rfl rfl (Nat.le_of_ble_eq_true rfl) dX2_ofTruth_13 ?_
  refine X.iload_n (i := 3) dX2_ofTruth_16 rfl rfl ?_
  refine X.iload (i := 4) dX2_ofTruth_17 rfl ?_
  obtain ⟨q2, e2, h⟩ := xbind h
  try dsimp only at h
  refine X.callS (μ' := mX2_waysToTruth) (As := [.ref 2, .int (pX9_said f), .int q1, .int v3, .int v4]) (st := []) (st1 := [.int q2]) (r := some (.int q2)) (f' := f) (g' := g) (tX2_waysToTruth 6 e2) (Nat.le_of_ble_eq_true rfl) cwX2_waysToTruth rfl mlX2_31 rfl rfl rfl (Nat.le_of_ble_eq_true rfl) dX2_ofTruth_19 ?_
  obtain rfl := Option.some.inj h
  exact X.iret dX2_ofTruth_22 rfl rfl
def pX2_inLeastTerms_b39 (F : Nat) (v0 : Int32) (v1 : Int32) (v2 : Int32) (v3 : Int32) : Option (Int32) := (if v2 = 0 then (if v3 = 0 then some (v1) else (if v3 = 0 then none else some ((v1 / v3)))) else (if v3 = 0 then some (v0) else (if v3 = 0 then none else some ((v0 / v3)))))
set_option maxRecDepth 100000 in
set_option maxHeartbeats 4000000 in
theorem tX2_inLeastTerms_b39 {F : Nat} {f : xM} {g : xN} {v0 : Int32} {v1 : Int32} {v2 : Int32} {v3 : Int32} {r : Int32} (h : pX2_inLeastTerms_b39 F v0 v1 v2 v3 = some r) : X mX2_inLeastTerms 0 (some (.int r), f, g) 39 [some (.int v0), some (.int v1), some (.int v2), some (.int v3), none, none, none] [] f g := by
  unfold pX2_inLeastTerms_b39 at h
  refine X.iload_n (i := 2) dX2_inLeastTerms_39 rfl rfl ?_
  refine X.if_eq (tgt := 47) dX2_inLeastTerms_40 (by decide) (fun c2 => ?_) (fun c2 => ?_)
  · rw [if_pos c2] at h
    refine X.iload_n (i := 1) dX2_inLeastTerms_47 rfl rfl ?_
    refine X.istore (i := 5) (L' := [some (.int v0), some (.int v1), some (.int v2), some (.int v3), none, some (.int v1), none]) dX2_inLeastTerms_48 (Nat.le_of_ble_eq_true rfl) rfl ?_
    refine X.iload_n (i := 3) dX2_inLeastTerms_50 rfl rfl ?_
    refine X.if_eq (tgt := 61) dX2_inLeastTerms_51 (by decide) (fun c3 => ?_) (fun c3 => ?_)
    · rw [if_pos c3] at h
      refine X.iload (i := 5) dX2_inLeastTerms_61 rfl ?_
      obtain rfl := Option.some.inj h
      exact X.iret dX2_inLeastTerms_63 rfl rfl
    · rw [if_neg c3] at h
      refine X.iload (i := 5) dX2_inLeastTerms_54 rfl ?_
      refine X.iload_n (i := 3) dX2_inLeastTerms_56 rfl rfl ?_
      by_cases c4 : v3 = 0
      · rw [if_pos c4] at h; cases h
      rw [if_neg c4] at h
      refine X.idiv dX2_inLeastTerms_57 c4 ?_
      refine X.goto (tgt := 63) dX2_inLeastTerms_58 (by decide) ?_
      obtain rfl := Option.some.inj h
      exact X.iret dX2_inLeastTerms_63 rfl rfl
  · rw [if_neg c2] at h
    refine X.iload_n (i := 0) dX2_inLeastTerms_43 rfl rfl ?_
    refine X.goto (tgt := 48) dX2_inLeastTerms_44 (by decide) ?_
    refine X.istore (i := 5) (L' := [some (.int v0), some (.int v1), some (.int v2), some (.int v3), none, some (.int v0), none]) dX2_inLeastTerms_48 (Nat.le_of_ble_eq_true rfl) rfl ?_
    refine X.iload_n (i := 3) dX2_inLeastTerms_50 rfl rfl ?_
    refine X.if_eq (tgt := 61) dX2_inLeastTerms_51 (by decide) (fun c5 => ?_) (fun c5 => ?_)
    · rw [if_pos c5] at h
      refine X.iload (i := 5) dX2_inLeastTerms_61 rfl ?_
      obtain rfl := Option.some.inj h
      exact X.iret dX2_inLeastTerms_63 rfl rfl
    · rw [if_neg c5] at h
      refine X.iload (i := 5) dX2_inLeastTerms_54 rfl ?_
      refine X.iload_n (i := 3) dX2_inLeastTerms_56 rfl rfl ?_
      by_cases c6 : v3 = 0
      · rw [if_pos c6] at h; cases h
      rw [if_neg c6] at h
      refine X.idiv dX2_inLeastTerms_57 c6 ?_
      refine X.goto (tgt := 63) dX2_inLeastTerms_58 (by decide) ?_
      obtain rfl := Option.some.inj h
      exact X.iret dX2_inLeastTerms_63 rfl rfl
def pX2_inLeastTerms_b8 (F : Nat) : Nat → Int32 → Int32 → Int32 → Int32 → Int32 → Int32 → Option (Int32)
  | 0, _, _, _, _, _, _ => none
  | n + 1, v0, v1, v2, v3, v4, v5 => (if (64 : Int32) ≤ v5 then (pX2_inLeastTerms_b39 F v0 v1 v2 v3) else (if v4 = 0 then (pX2_inLeastTerms_b39 F v0 v1 v2 v3) else (if v4 = 0 then none else (pX2_inLeastTerms_b8 F n v0 v1 v2 v4 (v3 - v3 / v4 * v4) (v5 + (1 : Int32))))))
set_option maxRecDepth 100000 in
set_option maxHeartbeats 4000000 in
theorem tX2_inLeastTerms_b8 {F : Nat} {f : xM} {g : xN} : ∀ (n : Nat) {v0 : Int32} {v1 : Int32} {v2 : Int32} {v3 : Int32} {v4 : Int32} {v5 : Int32} {r : Int32}, pX2_inLeastTerms_b8 F n v0 v1 v2 v3 v4 v5 = some r → X mX2_inLeastTerms 0 (some (.int r), f, g) 8 [some (.int v0), some (.int v1), some (.int v2), some (.int v3), some (.int v4), some (.int v5), none] [] f g := by
  intro n
  induction n with
  | zero => intro v0 v1 v2 v3 v4 v5 r h; cases h
  | succ n ih =>
    intro v0 v1 v2 v3 v4 v5 r h
    rw [pX2_inLeastTerms_b8] at h
    refine X.iload (i := 5) dX2_inLeastTerms_8 rfl ?_
    refine X.bipush (v := (64 : Int32)) dX2_inLeastTerms_10 (by decide) ?_
    refine X.icmp_ge (tgt := 39) dX2_inLeastTerms_12 (by decide) (fun c1 => ?_) (fun c1 => ?_)
    · rw [if_pos c1] at h
      exact X.weaken (xle_c (xle_c (xle_c (xle_c (xle_n (xle_n (xle_n xle_e))))))) (tX2_inLeastTerms_b39 h)
    · rw [if_neg c1] at h
      refine X.iload (i := 4) dX2_inLeastTerms_15 rfl ?_
      refine X.if_eq (tgt := 39) dX2_inLeastTerms_17 (by decide) (fun c7 => ?_) (fun c7 => ?_)
      · rw [if_pos c7] at h
        exact X.weaken (xle_c (xle_c (xle_c (xle_c (xle_n (xle_n (xle_n xle_e))))))) (tX2_inLeastTerms_b39 h)
      · rw [if_neg c7] at h
        refine X.iload_n (i := 3) dX2_inLeastTerms_20 rfl rfl ?_
        refine X.iload (i := 4) dX2_inLeastTerms_21 rfl ?_
        by_cases c8 : v4 = 0
        · rw [if_pos c8] at h; cases h
        rw [if_neg c8] at h
        refine X.irem dX2_inLeastTerms_23 c8 ?_
        refine X.istore (i := 6) (L' := [some (.int v0), some (.int v1), some (.int v2), some (.int v3), some (.int v4), some (.int v5), some (.int (v3 - v3 / v4 * v4))]) dX2_inLeastTerms_24 (Nat.le_of_ble_eq_true rfl) rfl ?_
        refine X.iload (i := 4) dX2_inLeastTerms_26 rfl ?_
        refine X.istore_n (i := 3) (L' := [some (.int v0), some (.int v1), some (.int v2), some (.int v4), some (.int v4), some (.int v5), some (.int (v3 - v3 / v4 * v4))]) dX2_inLeastTerms_28 rfl (Nat.le_of_ble_eq_true rfl) rfl ?_
        refine X.iload (i := 6) dX2_inLeastTerms_29 rfl ?_
        refine X.istore (i := 4) (L' := [some (.int v0), some (.int v1), some (.int v2), some (.int v4), some (.int (v3 - v3 / v4 * v4)), some (.int v5), some (.int (v3 - v3 / v4 * v4))]) dX2_inLeastTerms_31 (Nat.le_of_ble_eq_true rfl) rfl ?_
        refine X.iinc (i := 5) (v := (v5 + (1 : Int32))) (L' := [some (.int v0), some (.int v1), some (.int v2), some (.int v4), some (.int (v3 - v3 / v4 * v4)), some (.int (v5 + (1 : Int32))), some (.int (v3 - v3 / v4 * v4))]) dX2_inLeastTerms_33 rfl rfl (Nat.le_of_ble_eq_true rfl) rfl ?_
        refine X.goto (tgt := 8) dX2_inLeastTerms_36 (by decide) ?_
        exact X.weaken (xle_c (xle_c (xle_c (xle_c (xle_c (xle_c (xle_n xle_e))))))) (ih h)
def pX2_inLeastTerms (F : Nat) (v0 : Int32) (v1 : Int32) (v2 : Int32) : Option (Int32) := (pX2_inLeastTerms_b8 F F v0 v1 v2 v0 v1 (0 : Int32))
set_option maxRecDepth 100000 in
set_option maxHeartbeats 4000000 in
theorem tX2_inLeastTerms {F : Nat} {f : xM} {g : xN} {v0 : Int32} {v1 : Int32} {v2 : Int32} {r : Int32} (h : pX2_inLeastTerms F v0 v1 v2 = some r) : XT mX2_inLeastTerms 0 [.int v0, .int v1, .int v2] f g (some (.int r), f, g) := by
  unfold pX2_inLeastTerms at h
  refine XT.of (L := [some (.int v0), some (.int v1), some (.int v2), none, none, none, none]) [some (.int v0), some (.int v1), some (.int v2)] rfl (Nat.le_of_ble_eq_true rfl) rfl (xle_c (xle_c (xle_c (xle_z (xle_z (xle_z (xle_z xle_e))))))) ?_
  refine X.iload_n (i := 0) dX2_inLeastTerms_0 rfl rfl ?_
  refine X.istore_n (i := 3) (L' := [some (.int v0), some (.int v1), some (.int v2), some (.int v0), none, none, none]) dX2_inLeastTerms_1 rfl (Nat.le_of_ble_eq_true rfl) rfl ?_
  refine X.iload_n (i := 1) dX2_inLeastTerms_2 rfl rfl ?_
  refine X.istore (i := 4) (L' := [some (.int v0), some (.int v1), some (.int v2), some (.int v0), some (.int v1), none, none]) dX2_inLeastTerms_3 (Nat.le_of_ble_eq_true rfl) rfl ?_
  refine X.iconst (v := (0 : Int32)) dX2_inLeastTerms_5 (by decide) ?_
  refine X.istore (i := 5) (L' := [some (.int v0), some (.int v1), some (.int v2), some (.int v0), some (.int v1), some (.int (0 : Int32)), none]) dX2_inLeastTerms_6 (Nat.le_of_ble_eq_true rfl) rfl ?_
  exact X.weaken (xle_c (xle_c (xle_c (xle_c (xle_c (xle_c (xle_n xle_e))))))) (tX2_inLeastTerms_b8 F h)
def pX11_chance (F : Nat) (f : xM) (v1 : Int32) (v2 : Int32) (v3 : Int32) (v4 : Int32) : Option (Int32) := (if (pX6_hasCompositor f v1) = 0 then some ((-1 : Int32)) else (if v2 < (1 : Int32) then some ((-2 : Int32)) else (if (4 : Int32) < v2 then some ((-2 : Int32)) else (if v3 < 0 then some ((-2 : Int32)) else (if v3 ≤ (10 : Int32) then (Option.bind (pX2_ofTruth F f v1 v2 v3) fun q6 => (Option.bind (pX2_tenTo F v2) fun q7 => (Option.bind (pX2_inLeastTerms F q6 q7 v4) fun q8 => some (q8)))) else some ((-2 : Int32)))))))
set_option maxRecDepth 100000 in
set_option maxHeartbeats 4000000 in
theorem tX11_chance {F : Nat} {f : xM} {g : xN} {v1 : Int32} {v2 : Int32} {v3 : Int32} {v4 : Int32} {r : Int32} (h : pX11_chance F f v1 v2 v3 v4 = some r) : XT mX11_chance 10 [.ref 0, .int v1, .int v2, .int v3, .int v4] f g (some (.int r), f, g) := by
  unfold pX11_chance at h
  refine XT.of (L := [some (.ref 0), some (.int v1), some (.int v2), some (.int v3), some (.int v4)]) [some (.ref 0), some (.int v1), some (.int v2), some (.int v3), some (.int v4)] rfl (Nat.le_of_ble_eq_true rfl) rfl (xle_c (xle_c (xle_c (xle_c (xle_c xle_e))))) ?_
  refine X.aload_n (i := 0) dX11_chance_0 rfl rfl ?_
  refine X.getR (k0 := 1) kX11 sC_0 (Nat.le_of_ble_eq_true rfl) rfl lfX11_19 dX11_chance_1 ?_
  refine X.iload_n (i := 1) dX11_chance_4 rfl rfl ?_
  refine X.callVN (μ' := mX6_hasCompositor) (As := [.int v1]) (st := []) (st1 := [.int (pX6_hasCompositor f v1)]) (r := some (.int (pX6_hasCompositor f v1))) (f' := f) (g' := g) (tX6_hasCompositor rfl) (Nat.le_of_ble_eq_true rfl) cwX6_hasCompositor rfl mnX11_146 sC_2 kX6 rfl rfl rfl (Nat.le_of_ble_eq_true rfl) dX11_chance_5 ?_
  refine X.if_ne (tgt := 13) dX11_chance_8 (by decide) (fun c1 => ?_) (fun c1 => ?_)
  · rw [if_neg c1] at h
    refine X.iload_n (i := 2) dX11_chance_13 rfl rfl ?_
    refine X.iconst (v := (1 : Int32)) dX11_chance_14 (by decide) ?_
    refine X.icmp_lt (tgt := 33) dX11_chance_15 (by decide) (fun c2 => ?_) (fun c2 => ?_)
    · rw [if_pos c2] at h
      refine X.bipush (v := (-2 : Int32)) dX11_chance_33 (by decide) ?_
      obtain rfl := Option.some.inj h
      exact X.iret dX11_chance_35 rfl rfl
    · rw [if_neg c2] at h
      refine X.iload_n (i := 2) dX11_chance_18 rfl rfl ?_
      refine X.iconst (v := (4 : Int32)) dX11_chance_19 (by decide) ?_
      refine X.icmp_gt (tgt := 33) dX11_chance_20 (by decide) (fun c3 => ?_) (fun c3 => ?_)
      · rw [if_pos c3] at h
        refine X.bipush (v := (-2 : Int32)) dX11_chance_33 (by decide) ?_
        obtain rfl := Option.some.inj h
        exact X.iret dX11_chance_35 rfl rfl
      · rw [if_neg c3] at h
        refine X.iload_n (i := 3) dX11_chance_23 rfl rfl ?_
        refine X.if_lt (tgt := 33) dX11_chance_24 (by decide) (fun c4 => ?_) (fun c4 => ?_)
        · rw [if_pos c4] at h
          refine X.bipush (v := (-2 : Int32)) dX11_chance_33 (by decide) ?_
          obtain rfl := Option.some.inj h
          exact X.iret dX11_chance_35 rfl rfl
        · rw [if_neg c4] at h
          refine X.iload_n (i := 3) dX11_chance_27 rfl rfl ?_
          refine X.bipush (v := (10 : Int32)) dX11_chance_28 (by decide) ?_
          refine X.icmp_le (tgt := 36) dX11_chance_30 (by decide) (fun c5 => ?_) (fun c5 => ?_)
          · rw [if_pos c5] at h
            refine X.aload_n (i := 0) dX11_chance_36 rfl rfl ?_
            refine X.getR (k0 := 8) kX11 sC_0 (Nat.le_of_ble_eq_true rfl) rfl lfX11_70 dX11_chance_37 ?_
            refine X.aload_n (i := 0) dX11_chance_40 rfl rfl ?_
            refine X.getR (k0 := 1) kX11 sC_0 (Nat.le_of_ble_eq_true rfl) rfl lfX11_19 dX11_chance_41 ?_
            refine X.iload_n (i := 1) dX11_chance_44 rfl rfl ?_
            refine X.iload_n (i := 2) dX11_chance_45 rfl rfl ?_
            refine X.iload_n (i := 3) dX11_chance_46 rfl rfl ?_
            obtain ⟨q6, e6, h⟩ := xbind h
            try dsimp only at h
            refine X.callVN (μ' := mX2_ofTruth) (As := [.ref 2, .int v1, .int v2, .int v3]) (st := []) (st1 := [.int q6]) (r := some (.int q6)) (f' := f) (g' := g) (tX2_ofTruth e6) (Nat.le_of_ble_eq_true rfl) cwX2_ofTruth rfl mnX11_249 sC_9 kX2 rfl rfl rfl (Nat.le_of_ble_eq_true rfl) dX11_chance_47 ?_
            refine X.iload_n (i := 2) dX11_chance_50 rfl rfl ?_
            obtain ⟨q7, e7, h⟩ := xbind h
            try dsimp only at h
            refine X.callSN (μ' := mX2_tenTo) (As := [.int v2]) (st := [.int q6]) (st1 := [.int q7, .int q6]) (r := some (.int q7)) (f' := f) (g' := g) (tX2_tenTo e7) (Nat.le_of_ble_eq_true rfl) cwX2_tenTo rfl mnX11_253 rfl rfl rfl (Nat.le_of_ble_eq_true rfl) dX11_chance_51 ?_
            refine X.iload (i := 4) dX11_chance_54 rfl ?_
            obtain ⟨q8, e8, h⟩ := xbind h
            try dsimp only at h
            refine X.callSN (μ' := mX2_inLeastTerms) (As := [.int q6, .int q7, .int v4]) (st := []) (st1 := [.int q8]) (r := some (.int q8)) (f' := f) (g' := g) (tX2_inLeastTerms e8) (Nat.le_of_ble_eq_true rfl) cwX2_inLeastTerms rfl mnX11_256 rfl rfl rfl (Nat.le_of_ble_eq_true rfl) dX11_chance_56 ?_
            obtain rfl := Option.some.inj h
            exact X.iret dX11_chance_59 rfl rfl
          · rw [if_neg c5] at h
            refine X.bipush (v := (-2 : Int32)) dX11_chance_33 (by decide) ?_
            obtain rfl := Option.some.inj h
            exact X.iret dX11_chance_35 rfl rfl
  · rw [if_pos c1] at h
    refine X.iconst (v := (-1 : Int32)) dX11_chance_11 (by decide) ?_
    obtain rfl := Option.some.inj h
    exact X.iret dX11_chance_12 rfl rfl
def pX2_mostRightBy_b18 (F : Nat) (f : xM) (K4 : Int32 → Int32 → Int32 → Option (Int32)) : Nat → Int32 → Int32 → Int32 → Int32 → Option (Int32)
  | 0, _, _, _, _ => none
  | n + 1, v1, v2, v3, v4 => (if (4 : Int32) ≤ v4 then (K4 v1 v2 (v3 + (1 : Int32))) else (Option.bind (pX6_noticed f v1 (pX9_said f) v3 v4) fun q3 => (pX2_mostRightBy_b18 F f K4 n v1 (if v2 < (pX6_rightOf f q3) then (pX6_rightOf f q3) else v2) v3 (v4 + (1 : Int32)))))
set_option maxRecDepth 100000 in
set_option maxHeartbeats 4000000 in
theorem tX2_mostRightBy_b18 {F : Nat} {f : xM} {g : xN} {K4 : Int32 → Int32 → Int32 → Option (Int32)} (hK4 : ∀ {v1 : Int32} {v2 : Int32} {v3 : Int32} {r : Int32}, K4 v1 v2 v3 = some r → X mX2_mostRightBy 3 (some (.int r), f, g) 4 [some (.ref 2), some (.int v1), some (.int v2), some (.int v3), none] [] f g) : ∀ (n : Nat) {v1 : Int32} {v2 : Int32} {v3 : Int32} {v4 : Int32} {r : Int32}, pX2_mostRightBy_b18 F f K4 n v1 v2 v3 v4 = some r → X mX2_mostRightBy 3 (some (.int r), f, g) 18 [some (.ref 2), some (.int v1), some (.int v2), some (.int v3), some (.int v4)] [] f g := by
  intro n
  induction n with
  | zero => intro v1 v2 v3 v4 r h; cases h
  | succ n ih =>
    intro v1 v2 v3 v4 r h
    rw [pX2_mostRightBy_b18] at h
    refine X.iload (i := 4) dX2_mostRightBy_18 rfl ?_
    refine X.iconst (v := (4 : Int32)) dX2_mostRightBy_20 (by decide) ?_
    refine X.icmp_ge (tgt := 54) dX2_mostRightBy_21 (by decide) (fun c2 => ?_) (fun c2 => ?_)
    · rw [if_pos c2] at h
      refine X.iinc (i := 3) (v := (v3 + (1 : Int32))) (L' := [some (.ref 2), some (.int v1), some (.int v2), some (.int (v3 + (1 : Int32))), some (.int v4)]) dX2_mostRightBy_54 rfl rfl (Nat.le_of_ble_eq_true rfl) rfl ?_
      refine X.goto (tgt := 4) dX2_mostRightBy_57 (by decide) ?_
      exact X.weaken (xle_c (xle_c (xle_c (xle_c (xle_n xle_e))))) (hK4 h)
    · rw [if_neg c2] at h
      refine X.iload_n (i := 2) dX2_mostRightBy_24 rfl rfl ?_
      refine X.aload_n (i := 0) dX2_mostRightBy_25 rfl rfl ?_
      refine X.aload_n (i := 0) dX2_mostRightBy_26 rfl rfl ?_
      refine X.iload_n (i := 1) dX2_mostRightBy_27 rfl rfl ?_
      refine X.aload_n (i := 0) dX2_mostRightBy_28 rfl rfl ?_
      refine X.getRN (k0 := 1) kX6 sC_2 (Nat.le_of_ble_eq_true rfl) rfl lnX2_15 dX2_mostRightBy_29 ?_
      refine X.callVN (μ' := mX9_said) (As := []) (st := [.int v1, .ref 2, .ref 2, .int v2]) (st1 := [.int (pX9_said f), .int v1, .ref 2, .ref 2, .int v2]) (r := some (.int (pX9_said f))) (f' := f) (g' := g) (tX9_said rfl) (Nat.le_of_ble_eq_true rfl) cwX9_said rfl mnX2_21 sC_11 kX9 rfl rfl rfl (Nat.le_of_ble_eq_true rfl) dX2_mostRightBy_32 ?_
      refine X.iload_n (i := 3) dX2_mostRightBy_35 rfl rfl ?_
      refine X.iload (i := 4) dX2_mostRightBy_36 rfl ?_
      obtain ⟨q3, e3, h⟩ := xbind h
      try dsimp only at h
      refine X.callVN (μ' := mX6_noticed) (As := [.int v1, .int (pX9_said f), .int v3, .int v4]) (st := [.ref 2, .int v2]) (st1 := [.int q3, .ref 2, .int v2]) (r := some (.int q3)) (f' := f) (g' := g) (tX6_noticed e3) (Nat.le_of_ble_eq_true rfl) cwX6_noticed rfl mnX2_81 sC_2 kX6 rfl rfl rfl (Nat.le_of_ble_eq_true rfl) dX2_mostRightBy_38 ?_
      refine X.callVN (μ' := mX6_rightOf) (As := [.int q3]) (st := [.int v2]) (st1 := [.int (pX6_rightOf f q3), .int v2]) (r := some (.int (pX6_rightOf f q3))) (f' := f) (g' := g) (tX6_rightOf rfl) (Nat.le_of_ble_eq_true rfl) cwX6_rightOf rfl mnX2_72 sC_2 kX6 rfl rfl rfl (Nat.le_of_ble_eq_true rfl) dX2_mostRightBy_41 ?_
      refine X.max mlX2_82 lstmax linitM lcomax (by decide) (Nat.le_of_ble_eq_true rfl) dX2_mostRightBy_44 ?_
      refine X.istore_n (i := 2) (L' := [some (.ref 2), some (.int v1), some (.int (if v2 < (pX6_rightOf f q3) then (pX6_rightOf f q3) else v2)), some (.int v3), some (.int v4)]) dX2_mostRightBy_47 rfl (Nat.le_of_ble_eq_true rfl) rfl ?_
      refine X.iinc (i := 4) (v := (v4 + (1 : Int32))) (L' := [some (.ref 2), some (.int v1), some (.int (if v2 < (pX6_rightOf f q3) then (pX6_rightOf f q3) else v2)), some (.int v3), some (.int (v4 + (1 : Int32)))]) dX2_mostRightBy_48 rfl rfl (Nat.le_of_ble_eq_true rfl) rfl ?_
      refine X.goto (tgt := 18) dX2_mostRightBy_51 (by decide) ?_
      exact X.weaken (xle_c (xle_c (xle_c (xle_c (xle_c xle_e))))) (ih h)
def pX2_mostRightBy_b4 (F : Nat) (f : xM) : Nat → Int32 → Int32 → Int32 → Option (Int32)
  | 0, _, _, _ => none
  | n + 1, v1, v2, v3 => (if (f 10 0) ≤ v3 then some (v2) else (pX2_mostRightBy_b18 F f (pX2_mostRightBy_b4 F f n) F v1 v2 v3 (0 : Int32)))
set_option maxRecDepth 100000 in
set_option maxHeartbeats 4000000 in
theorem tX2_mostRightBy_b4 {F : Nat} {f : xM} {g : xN} : ∀ (n : Nat) {v1 : Int32} {v2 : Int32} {v3 : Int32} {r : Int32}, pX2_mostRightBy_b4 F f n v1 v2 v3 = some r → X mX2_mostRightBy 3 (some (.int r), f, g) 4 [some (.ref 2), some (.int v1), some (.int v2), some (.int v3), none] [] f g := by
  intro n
  induction n with
  | zero => intro v1 v2 v3 r h; cases h
  | succ n ih =>
    intro v1 v2 v3 r h
    rw [pX2_mostRightBy_b4] at h
    refine X.iload_n (i := 3) dX2_mostRightBy_4 rfl rfl ?_
    refine X.aload_n (i := 0) dX2_mostRightBy_5 rfl rfl ?_
    refine X.getRN (k0 := 0) kX6 sC_2 (Nat.le_of_ble_eq_true rfl) rfl lnX2_46 dX2_mostRightBy_6 ?_
    refine X.getIN (k0 := 0) kX8 sC_10 (Nat.le_of_ble_eq_true rfl) rfl lnX2_60 dX2_mostRightBy_9 ?_
    refine X.icmp_ge (tgt := 60) dX2_mostRightBy_12 (by decide) (fun c1 => ?_) (fun c1 => ?_)
    · rw [if_pos c1] at h
      refine X.iload_n (i := 2) dX2_mostRightBy_60 rfl rfl ?_
      obtain rfl := Option.some.inj h
      exact X.iret dX2_mostRightBy_61 rfl rfl
    · rw [if_neg c1] at h
      refine X.iconst (v := (0 : Int32)) dX2_mostRightBy_15 (by decide) ?_
      refine X.istore (i := 4) (L' := [some (.ref 2), some (.int v1), some (.int v2), some (.int v3), some (.int (0 : Int32))]) dX2_mostRightBy_16 (Nat.le_of_ble_eq_true rfl) rfl ?_
      exact X.weaken (xle_c (xle_c (xle_c (xle_c (xle_c xle_e))))) (tX2_mostRightBy_b18 ih F h)
def pX2_mostRightBy (F : Nat) (f : xM) (v1 : Int32) : Option (Int32) := (pX2_mostRightBy_b4 F f F v1 (0 : Int32) (0 : Int32))
set_option maxRecDepth 100000 in
set_option maxHeartbeats 4000000 in
theorem tX2_mostRightBy {F : Nat} {f : xM} {g : xN} {v1 : Int32} {r : Int32} (h : pX2_mostRightBy F f v1 = some r) : XT mX2_mostRightBy 3 [.ref 2, .int v1] f g (some (.int r), f, g) := by
  unfold pX2_mostRightBy at h
  refine XT.of (L := [some (.ref 2), some (.int v1), none, none, none]) [some (.ref 2), some (.int v1)] rfl (Nat.le_of_ble_eq_true rfl) rfl (xle_c (xle_c (xle_z (xle_z (xle_z xle_e))))) ?_
  refine X.iconst (v := (0 : Int32)) dX2_mostRightBy_0 (by decide) ?_
  refine X.istore_n (i := 2) (L' := [some (.ref 2), some (.int v1), some (.int (0 : Int32)), none, none]) dX2_mostRightBy_1 rfl (Nat.le_of_ble_eq_true rfl) rfl ?_
  refine X.iconst (v := (0 : Int32)) dX2_mostRightBy_2 (by decide) ?_
  refine X.istore_n (i := 3) (L' := [some (.ref 2), some (.int v1), some (.int (0 : Int32)), some (.int (0 : Int32)), none]) dX2_mostRightBy_3 rfl (Nat.le_of_ble_eq_true rfl) rfl ?_
  exact X.weaken (xle_c (xle_c (xle_c (xle_c (xle_n xle_e))))) (tX2_mostRightBy_b4 F h)
def pX2_weighCompositors_b29 (F : Nat) : Nat → Int32 → xM → Option (xM)
  | 0, _, _ => none
  | n + 1, v2, f => (if (f 9 1) ≤ v2 then some (f) else (if (3 : Int32) ≤ v2 then some (f) else (Option.bind (pX2_mostRightBy F f v2) fun q3 => (if xin v2 3 then (pX2_weighCompositors_b29 F n (v2 + (1 : Int32)) (xu f 27 v2.toNatClampNeg q3)) else none))))
set_option maxRecDepth 100000 in
set_option maxHeartbeats 4000000 in
theorem tX2_weighCompositors_b29 {F : Nat} {g : xN} : ∀ (n : Nat) {v2 : Int32} {f : xM} {r : xM}, pX2_weighCompositors_b29 F n v2 f = some r → X mX2_weighCompositors 4 (none, r, g) 29 [some (.ref 9), some (.ref 2), some (.int v2)] [] f g := by
  intro n
  induction n with
  | zero => intro v2 f r h; cases h
  | succ n ih =>
    intro v2 f r h
    rw [pX2_weighCompositors_b29] at h
    refine X.iload_n (i := 2) dX2_weighCompositors_29 rfl rfl ?_
    refine X.aload_n (i := 0) dX2_weighCompositors_30 rfl rfl ?_
    refine X.getI (k0 := 1) kX2 sC_9 (Nat.le_of_ble_eq_true rfl) rfl lfX2_71 dX2_weighCompositors_31 ?_
    refine X.icmp_ge (tgt := 63) dX2_weighCompositors_34 (by decide) (fun c1 => ?_) (fun c1 => ?_)
    · rw [if_pos c1] at h
      obtain rfl := Option.some.inj h
      exact X.vret dX2_weighCompositors_63 rfl rfl
    · rw [if_neg c1] at h
      refine X.iload_n (i := 2) dX2_weighCompositors_37 rfl rfl ?_
      refine X.aload_n (i := 0) dX2_weighCompositors_38 rfl rfl ?_
      refine X.getR (k0 := 0) kX2 sC_9 (Nat.le_of_ble_eq_true rfl) rfl lfX2_9 dX2_weighCompositors_39 ?_
      refine X.alen (v := (3 : Int32)) sC_27 (by decide) dX2_weighCompositors_42 ?_
      refine X.icmp_ge (tgt := 63) dX2_weighCompositors_43 (by decide) (fun c2 => ?_) (fun c2 => ?_)
      · rw [if_pos c2] at h
        obtain rfl := Option.some.inj h
        exact X.vret dX2_weighCompositors_63 rfl rfl
      · rw [if_neg c2] at h
        refine X.aload_n (i := 0) dX2_weighCompositors_46 rfl rfl ?_
        refine X.getR (k0 := 0) kX2 sC_9 (Nat.le_of_ble_eq_true rfl) rfl lfX2_9 dX2_weighCompositors_47 ?_
        refine X.iload_n (i := 2) dX2_weighCompositors_50 rfl rfl ?_
        refine X.aload_n (i := 1) dX2_weighCompositors_51 rfl rfl ?_
        refine X.iload_n (i := 2) dX2_weighCompositors_52 rfl rfl ?_
        obtain ⟨q3, e3, h⟩ := xbind h
        try dsimp only at h
        refine X.callS (μ' := mX2_mostRightBy) (As := [.ref 2, .int v2]) (st := [.int v2, .ref 27]) (st1 := [.int q3, .int v2, .ref 27]) (r := some (.int q3)) (f' := f) (g' := g) (tX2_mostRightBy e3) (Nat.le_of_ble_eq_true rfl) cwX2_mostRightBy rfl mlX2_78 rfl rfl rfl (Nat.le_of_ble_eq_true rfl) dX2_weighCompositors_53 ?_
        by_cases c4 : xin v2 3
        rotate_left
        · rw [if_neg c4] at h; cases h
        rw [if_pos c4] at h
        refine X.iast sC_27 c4 dX2_weighCompositors_56 ?_
        refine X.iinc (i := 2) (v := (v2 + (1 : Int32))) (L' := [some (.ref 9), some (.ref 2), some (.int (v2 + (1 : Int32)))]) dX2_weighCompositors_57 rfl rfl (Nat.le_of_ble_eq_true rfl) rfl ?_
        refine X.goto (tgt := 29) dX2_weighCompositors_60 (by decide) ?_
        exact X.weaken (xle_c (xle_c (xle_c xle_e))) (ih h)
def pX2_weighCompositors (F : Nat) (f : xM) : Option (xM) := (pX2_weighCompositors_b29 F F (0 : Int32) (xu (xu f 9 1 (if (3 : Int32) < (f 2 4) then (3 : Int32) else (f 2 4))) 9 2 (pX6_rightOf (xu f 9 1 (if (3 : Int32) < (f 2 4) then (3 : Int32) else (f 2 4))) (pX9_said (xu f 9 1 (if (3 : Int32) < (f 2 4) then (3 : Int32) else (f 2 4)))))))
set_option maxRecDepth 100000 in
set_option maxHeartbeats 4000000 in
theorem tX2_weighCompositors {F : Nat} {g : xN} {f : xM} {r : xM} (h : pX2_weighCompositors F f = some r) : XT mX2_weighCompositors 4 [.ref 9, .ref 2] f g (none, r, g) := by
  unfold pX2_weighCompositors at h
  refine XT.of (L := [some (.ref 9), some (.ref 2), none]) [some (.ref 9), some (.ref 2)] rfl (Nat.le_of_ble_eq_true rfl) rfl (xle_c (xle_c (xle_z xle_e))) ?_
  refine X.aload_n (i := 0) dX2_weighCompositors_0 rfl rfl ?_
  refine X.aload_n (i := 1) dX2_weighCompositors_1 rfl rfl ?_
  refine X.getIN (k0 := 4) kX6 sC_2 (Nat.le_of_ble_eq_true rfl) rfl lnX2_63 dX2_weighCompositors_2 ?_
  refine X.iconst (v := (3 : Int32)) dX2_weighCompositors_5 (by decide) ?_
  refine X.min mlX2_66 lstmin linitM lcomin (by decide) (Nat.le_of_ble_eq_true rfl) dX2_weighCompositors_6 ?_
  refine X.putI (k0 := 1) kX2 sC_9 (Nat.le_of_ble_eq_true rfl) rfl lfX2_71 rfl rfl dX2_weighCompositors_9 ?_
  refine X.aload_n (i := 0) dX2_weighCompositors_12 rfl rfl ?_
  refine X.aload_n (i := 1) dX2_weighCompositors_13 rfl rfl ?_
  refine X.aload_n (i := 1) dX2_weighCompositors_14 rfl rfl ?_
  refine X.getRN (k0 := 1) kX6 sC_2 (Nat.le_of_ble_eq_true rfl) rfl lnX2_15 dX2_weighCompositors_15 ?_
  refine X.callVN (μ' := mX9_said) (As := []) (st := [.ref 2, .ref 9]) (st1 := [.int (pX9_said (xu f 9 1 (if (3 : Int32) < (f 2 4) then (3 : Int32) else (f 2 4)))), .ref 2, .ref 9]) (r := some (.int (pX9_said (xu f 9 1 (if (3 : Int32) < (f 2 4) then (3 : Int32) else (f 2 4)))))) (f' := (xu f 9 1 (if (3 : Int32) < (f 2 4) then (3 : Int32) else (f 2 4)))) (g' := g) (tX9_said rfl) (Nat.le_of_ble_eq_true rfl) cwX9_said rfl mnX2_21 sC_11 kX9 rfl rfl rfl (Nat.le_of_ble_eq_true rfl) dX2_weighCompositors_18 ?_
  refine X.callVN (μ' := mX6_rightOf) (As := [.int (pX9_said (xu f 9 1 (if (3 : Int32) < (f 2 4) then (3 : Int32) else (f 2 4))))]) (st := [.ref 9]) (st1 := [.int (pX6_rightOf (xu f 9 1 (if (3 : Int32) < (f 2 4) then (3 : Int32) else (f 2 4))) (pX9_said (xu f 9 1 (if (3 : Int32) < (f 2 4) then (3 : Int32) else (f 2 4))))), .ref 9]) (r := some (.int (pX6_rightOf (xu f 9 1 (if (3 : Int32) < (f 2 4) then (3 : Int32) else (f 2 4))) (pX9_said (xu f 9 1 (if (3 : Int32) < (f 2 4) then (3 : Int32) else (f 2 4))))))) (f' := (xu f 9 1 (if (3 : Int32) < (f 2 4) then (3 : Int32) else (f 2 4)))) (g' := g) (tX6_rightOf rfl) (Nat.le_of_ble_eq_true rfl) cwX6_rightOf rfl mnX2_72 sC_2 kX6 rfl rfl rfl (Nat.le_of_ble_eq_true rfl) dX2_weighCompositors_21 ?_
  refine X.putI (k0 := 2) kX2 sC_9 (Nat.le_of_ble_eq_true rfl) rfl lfX2_75 rfl rfl dX2_weighCompositors_24 ?_
  refine X.iconst (v := (0 : Int32)) dX2_weighCompositors_27 (by decide) ?_
  refine X.istore_n (i := 2) (L' := [some (.ref 9), some (.ref 2), some (.int (0 : Int32))]) dX2_weighCompositors_28 rfl (Nat.le_of_ble_eq_true rfl) rfl ?_
  exact X.weaken (xle_c (xle_c (xle_c xle_e))) (tX2_weighCompositors_b29 F h)
def pX2_mostRightOf_b7 (F : Nat) (f : xM) : Nat → Int32 → Int32 → Int32 → Option (Int32)
  | 0, _, _, _ => none
  | n + 1, v1, v2, v3 => (if (f 9 1) ≤ v3 then some (v2) else (if (3 : Int32) ≤ v3 then some (v2) else (if ((v1 >>> (v3 &&& 31)) &&& (1 : Int32)) = (1 : Int32) then (if xin v3 3 then (pX2_mostRightOf_b7 F f n v1 (if v2 < (f 27 v3.toNatClampNeg) then (f 27 v3.toNatClampNeg) else v2) (v3 + (1 : Int32))) else none) else (pX2_mostRightOf_b7 F f n v1 v2 (v3 + (1 : Int32))))))
set_option maxRecDepth 100000 in
set_option maxHeartbeats 4000000 in
theorem tX2_mostRightOf_b7 {F : Nat} {f : xM} {g : xN} : ∀ (n : Nat) {v1 : Int32} {v2 : Int32} {v3 : Int32} {r : Int32}, pX2_mostRightOf_b7 F f n v1 v2 v3 = some r → X mX2_mostRightOf 1 (some (.int r), f, g) 7 [some (.ref 9), some (.int v1), some (.int v2), some (.int v3)] [] f g := by
  intro n
  induction n with
  | zero => intro v1 v2 v3 r h; cases h
  | succ n ih =>
    intro v1 v2 v3 r h
    rw [pX2_mostRightOf_b7] at h
    refine X.iload_n (i := 3) dX2_mostRightOf_7 rfl rfl ?_
    refine X.aload_n (i := 0) dX2_mostRightOf_8 rfl rfl ?_
    refine X.getI (k0 := 1) kX2 sC_9 (Nat.le_of_ble_eq_true rfl) rfl lfX2_71 dX2_mostRightOf_9 ?_
    refine X.icmp_ge (tgt := 50) dX2_mostRightOf_12 (by decide) (fun c1 => ?_) (fun c1 => ?_)
    · rw [if_pos c1] at h
      refine X.iload_n (i := 2) dX2_mostRightOf_50 rfl rfl ?_
      obtain rfl := Option.some.inj h
      exact X.iret dX2_mostRightOf_51 rfl rfl
    · rw [if_neg c1] at h
      refine X.iload_n (i := 3) dX2_mostRightOf_15 rfl rfl ?_
      refine X.aload_n (i := 0) dX2_mostRightOf_16 rfl rfl ?_
      refine X.getR (k0 := 0) kX2 sC_9 (Nat.le_of_ble_eq_true rfl) rfl lfX2_9 dX2_mostRightOf_17 ?_
      refine X.alen (v := (3 : Int32)) sC_27 (by decide) dX2_mostRightOf_20 ?_
      refine X.icmp_ge (tgt := 50) dX2_mostRightOf_21 (by decide) (fun c2 => ?_) (fun c2 => ?_)
      · rw [if_pos c2] at h
        refine X.iload_n (i := 2) dX2_mostRightOf_50 rfl rfl ?_
        obtain rfl := Option.some.inj h
        exact X.iret dX2_mostRightOf_51 rfl rfl
      · rw [if_neg c2] at h
        refine X.iload_n (i := 1) dX2_mostRightOf_24 rfl rfl ?_
        refine X.iload_n (i := 3) dX2_mostRightOf_25 rfl rfl ?_
        refine X.ishr dX2_mostRightOf_26 ?_
        refine X.iconst (v := (1 : Int32)) dX2_mostRightOf_27 (by decide) ?_
        refine X.iand dX2_mostRightOf_28 ?_
        refine X.iconst (v := (1 : Int32)) dX2_mostRightOf_29 (by decide) ?_
        refine X.icmp_ne (tgt := 44) dX2_mostRightOf_30 (by decide) (fun c3 => ?_) (fun c3 => ?_)
        · rw [if_neg c3] at h
          refine X.iinc (i := 3) (v := (v3 + (1 : Int32))) (L' := [some (.ref 9), some (.int v1), some (.int v2), some (.int (v3 + (1 : Int32)))]) dX2_mostRightOf_44 rfl rfl (Nat.le_of_ble_eq_true rfl) rfl ?_
          refine X.goto (tgt := 7) dX2_mostRightOf_47 (by decide) ?_
          exact X.weaken (xle_c (xle_c (xle_c (xle_c xle_e)))) (ih h)
        · rw [if_pos c3] at h
          refine X.iload_n (i := 2) dX2_mostRightOf_33 rfl rfl ?_
          refine X.aload_n (i := 0) dX2_mostRightOf_34 rfl rfl ?_
          refine X.getR (k0 := 0) kX2 sC_9 (Nat.le_of_ble_eq_true rfl) rfl lfX2_9 dX2_mostRightOf_35 ?_
          refine X.iload_n (i := 3) dX2_mostRightOf_38 rfl rfl ?_
          by_cases c4 : xin v3 3
          rotate_left
          · rw [if_neg c4] at h; cases h
          rw [if_pos c4] at h
          refine X.iald sC_27 c4 dX2_mostRightOf_39 ?_
          refine X.max mlX2_82 lstmax linitM lcomax (by decide) (Nat.le_of_ble_eq_true rfl) dX2_mostRightOf_40 ?_
          refine X.istore_n (i := 2) (L' := [some (.ref 9), some (.int v1), some (.int (if v2 < (f 27 v3.toNatClampNeg) then (f 27 v3.toNatClampNeg) else v2)), some (.int v3)]) dX2_mostRightOf_43 rfl (Nat.le_of_ble_eq_true rfl) rfl ?_
          refine X.iinc (i := 3) (v := (v3 + (1 : Int32))) (L' := [some (.ref 9), some (.int v1), some (.int (if v2 < (f 27 v3.toNatClampNeg) then (f 27 v3.toNatClampNeg) else v2)), some (.int (v3 + (1 : Int32)))]) dX2_mostRightOf_44 rfl rfl (Nat.le_of_ble_eq_true rfl) rfl ?_
          refine X.goto (tgt := 7) dX2_mostRightOf_47 (by decide) ?_
          exact X.weaken (xle_c (xle_c (xle_c (xle_c xle_e)))) (ih h)
def pX2_mostRightOf (F : Nat) (f : xM) (v1 : Int32) : Option (Int32) := (pX2_mostRightOf_b7 F f F v1 (f 9 2) (0 : Int32))
set_option maxRecDepth 100000 in
set_option maxHeartbeats 4000000 in
theorem tX2_mostRightOf {F : Nat} {f : xM} {g : xN} {v1 : Int32} {r : Int32} (h : pX2_mostRightOf F f v1 = some r) : XT mX2_mostRightOf 1 [.ref 9, .int v1] f g (some (.int r), f, g) := by
  unfold pX2_mostRightOf at h
  refine XT.of (L := [some (.ref 9), some (.int v1), none, none]) [some (.ref 9), some (.int v1)] rfl (Nat.le_of_ble_eq_true rfl) rfl (xle_c (xle_c (xle_z (xle_z xle_e)))) ?_
  refine X.aload_n (i := 0) dX2_mostRightOf_0 rfl rfl ?_
  refine X.getI (k0 := 2) kX2 sC_9 (Nat.le_of_ble_eq_true rfl) rfl lfX2_75 dX2_mostRightOf_1 ?_
  refine X.istore_n (i := 2) (L' := [some (.ref 9), some (.int v1), some (.int (f 9 2)), none]) dX2_mostRightOf_4 rfl (Nat.le_of_ble_eq_true rfl) rfl ?_
  refine X.iconst (v := (0 : Int32)) dX2_mostRightOf_5 (by decide) ?_
  refine X.istore_n (i := 3) (L' := [some (.ref 9), some (.int v1), some (.int (f 9 2)), some (.int (0 : Int32))]) dX2_mostRightOf_6 rfl (Nat.le_of_ble_eq_true rfl) rfl ?_
  exact X.weaken (xle_c (xle_c (xle_c (xle_c xle_e)))) (tX2_mostRightOf_b7 F h)
def pX2_gainInOrders_b4 (F : Nat) (f : xM) : Nat → Int32 → Int32 → Int32 → Option (Int32)
  | 0, _, _, _ => none
  | n + 1, v1, v2, v3 => (if ((1 : Int32) <<< ((f 9 1) &&& 31)) ≤ v3 then some (v2) else (if ((v3 >>> (v1 &&& 31)) &&& (1 : Int32)) = 0 then (Option.bind (pX2_mostRightOf F f (v3 ||| ((1 : Int32) <<< (v1 &&& 31)))) fun q3 => (Option.bind (pX2_mostRightOf F f v3) fun q4 => (pX2_gainInOrders_b4 F f n v1 (v2 + (((xordersOf (pJ6_bitCount_0f7a4 v3)) * (xordersOf (((f 9 1) - (1 : Int32)) - (pJ6_bitCount_0f7a4 v3)))) * (q3 - q4))) (v3 + (1 : Int32))))) else (pX2_gainInOrders_b4 F f n v1 v2 (v3 + (1 : Int32)))))
set_option maxRecDepth 100000 in
set_option maxHeartbeats 4000000 in
theorem tX2_gainInOrders_b4 {F : Nat} {f : xM} {g : xN} : ∀ (n : Nat) {v1 : Int32} {v2 : Int32} {v3 : Int32} {r : Int32}, pX2_gainInOrders_b4 F f n v1 v2 v3 = some r → X mX2_gainInOrders 2 (some (.int r), f, g) 4 [some (.ref 9), some (.int v1), some (.int v2), some (.int v3), none, none] [] f g := by
  intro n
  induction n with
  | zero => intro v1 v2 v3 r h; cases h
  | succ n ih =>
    intro v1 v2 v3 r h
    rw [pX2_gainInOrders_b4] at h
    refine X.iload_n (i := 3) dX2_gainInOrders_4 rfl rfl ?_
    refine X.iconst (v := (1 : Int32)) dX2_gainInOrders_5 (by decide) ?_
    refine X.aload_n (i := 0) dX2_gainInOrders_6 rfl rfl ?_
    refine X.getI (k0 := 1) kX2 sC_9 (Nat.le_of_ble_eq_true rfl) rfl lfX2_71 dX2_gainInOrders_7 ?_
    refine X.ishl dX2_gainInOrders_10 ?_
    refine X.icmp_ge (tgt := 75) dX2_gainInOrders_11 (by decide) (fun c1 => ?_) (fun c1 => ?_)
    · rw [if_pos c1] at h
      refine X.iload_n (i := 2) dX2_gainInOrders_75 rfl rfl ?_
      obtain rfl := Option.some.inj h
      exact X.iret dX2_gainInOrders_76 rfl rfl
    · rw [if_neg c1] at h
      refine X.iload_n (i := 3) dX2_gainInOrders_14 rfl rfl ?_
      refine X.iload_n (i := 1) dX2_gainInOrders_15 rfl rfl ?_
      refine X.ishr dX2_gainInOrders_16 ?_
      refine X.iconst (v := (1 : Int32)) dX2_gainInOrders_17 (by decide) ?_
      refine X.iand dX2_gainInOrders_18 ?_
      refine X.if_ne (tgt := 69) dX2_gainInOrders_19 (by decide) (fun c2 => ?_) (fun c2 => ?_)
      · rw [if_neg c2] at h
        refine X.iinc (i := 3) (v := (v3 + (1 : Int32))) (L' := [some (.ref 9), some (.int v1), some (.int v2), some (.int (v3 + (1 : Int32))), none, none]) dX2_gainInOrders_69 rfl rfl (Nat.le_of_ble_eq_true rfl) rfl ?_
        refine X.goto (tgt := 4) dX2_gainInOrders_72 (by decide) ?_
        exact X.weaken (xle_c (xle_c (xle_c (xle_c (xle_n (xle_n xle_e)))))) (ih h)
      · rw [if_pos c2] at h
        refine X.iload_n (i := 3) dX2_gainInOrders_22 rfl rfl ?_
        refine X.callS (μ' := mJ6_bitCount_0f7a4) (As := [.int v3]) (st := []) (st1 := [.int (pJ6_bitCount_0f7a4 v3)]) (r := some (.int (pJ6_bitCount_0f7a4 v3))) (f' := f) (g' := g) (tJ6_bitCount_0f7a4 rfl) (Nat.le_of_ble_eq_true rfl) cwJ6_bitCount_0f7a4 rfl mlX2_85 rfl rfl rfl (Nat.le_of_ble_eq_true rfl) dX2_gainInOrders_23 ?_
        refine X.istore (i := 4) (L' := [some (.ref 9), some (.int v1), some (.int v2), some (.int v3), some (.int (pJ6_bitCount_0f7a4 v3)), none]) dX2_gainInOrders_26 (Nat.le_of_ble_eq_true rfl) rfl ?_
        refine X.iload (i := 4) dX2_gainInOrders_28 rfl ?_
        refine X.callS (μ' := mX2_ordersOf) (As := [.int (pJ6_bitCount_0f7a4 v3)]) (st := []) (st1 := [.int (xordersOf (pJ6_bitCount_0f7a4 v3))]) (r := some (.int (xordersOf (pJ6_bitCount_0f7a4 v3)))) (f' := f) (g' := g) tX2_ordersOf (Nat.le_of_ble_eq_true rfl) cwX2_ordersOf rfl mlX2_90 rfl rfl rfl (Nat.le_of_ble_eq_true rfl) dX2_gainInOrders_30 ?_
        refine X.aload_n (i := 0) dX2_gainInOrders_33 rfl rfl ?_
        refine X.getI (k0 := 1) kX2 sC_9 (Nat.le_of_ble_eq_true rfl) rfl lfX2_71 dX2_gainInOrders_34 ?_
        refine X.iconst (v := (1 : Int32)) dX2_gainInOrders_37 (by decide) ?_
        refine X.isub dX2_gainInOrders_38 ?_
        refine X.iload (i := 4) dX2_gainInOrders_39 rfl ?_
        refine X.isub dX2_gainInOrders_41 ?_
        refine X.callS (μ' := mX2_ordersOf) (As := [.int (((f 9 1) - (1 : Int32)) - (pJ6_bitCount_0f7a4 v3))]) (st := [.int (xordersOf (pJ6_bitCount_0f7a4 v3))]) (st1 := [.int (xordersOf (((f 9 1) - (1 : Int32)) - (pJ6_bitCount_0f7a4 v3))), .int (xordersOf (pJ6_bitCount_0f7a4 v3))]) (r := some (.int (xordersOf (((f 9 1) - (1 : Int32)) - (pJ6_bitCount_0f7a4 v3))))) (f' := f) (g' := g) tX2_ordersOf (Nat.le_of_ble_eq_true rfl) cwX2_ordersOf rfl mlX2_90 rfl rfl rfl (Nat.le_of_ble_eq_true rfl) dX2_gainInOrders_42 ?_
        refine X.imul dX2_gainInOrders_45 ?_
        refine X.istore (i := 5) (L' := [some (.ref 9), some (.int v1), some (.int v2), some (.int v3), some (.int (pJ6_bitCount_0f7a4 v3)), some (.int ((xordersOf (pJ6_bitCount_0f7a4 v3)) * (xordersOf (((f 9 1) - (1 : Int32)) - (pJ6_bitCount_0f7a4 v3)))))]) dX2_gainInOrders_46 (Nat.le_of_ble_eq_true rfl) rfl ?_
        refine X.iload_n (i := 2) dX2_gainInOrders_48 rfl rfl ?_
        refine X.iload (i := 5) dX2_gainInOrders_49 rfl ?_
        refine X.aload_n (i := 0) dX2_gainInOrders_51 rfl rfl ?_
        refine X.iload_n (i := 3) dX2_gainInOrders_52 rfl rfl ?_
        refine X.iconst (v := (1 : Int32)) dX2_gainInOrders_53 (by decide) ?_
        refine X.iload_n (i := 1) dX2_gainInOrders_54 rfl rfl ?_
        refine X.ishl dX2_gainInOrders_55 ?_
        refine X.ior dX2_gainInOrders_56 ?_
        obtain ⟨q3, e3, h⟩ := xbind h
        try dsimp only at h
        refine X.callV (μ' := mX2_mostRightOf) (As := [.int (v3 ||| ((1 : Int32) <<< (v1 &&& 31)))]) (st := [.int ((xordersOf (pJ6_bitCount_0f7a4 v3)) * (xordersOf (((f 9 1) - (1 : Int32)) - (pJ6_bitCount_0f7a4 v3)))), .int v2]) (st1 := [.int q3, .int ((xordersOf (pJ6_bitCount_0f7a4 v3)) * (xordersOf (((f 9 1) - (1 : Int32)) - (pJ6_bitCount_0f7a4 v3)))), .int v2]) (r := some (.int q3)) (f' := f) (g' := g) (tX2_mostRightOf e3) (Nat.le_of_ble_eq_true rfl) cwX2_mostRightOf rfl mlX2_93 sC_9 kX2 rfl rfl rfl (Nat.le_of_ble_eq_true rfl) dX2_gainInOrders_57 ?_
        refine X.aload_n (i := 0) dX2_gainInOrders_60 rfl rfl ?_
        refine X.iload_n (i := 3) dX2_gainInOrders_61 rfl rfl ?_
        obtain ⟨q4, e4, h⟩ := xbind h
        try dsimp only at h
        refine X.callV (μ' := mX2_mostRightOf) (As := [.int v3]) (st := [.int q3, .int ((xordersOf (pJ6_bitCount_0f7a4 v3)) * (xordersOf (((f 9 1) - (1 : Int32)) - (pJ6_bitCount_0f7a4 v3)))), .int v2]) (st1 := [.int q4, .int q3, .int ((xordersOf (pJ6_bitCount_0f7a4 v3)) * (xordersOf (((f 9 1) - (1 : Int32)) - (pJ6_bitCount_0f7a4 v3)))), .int v2]) (r := some (.int q4)) (f' := f) (g' := g) (tX2_mostRightOf e4) (Nat.le_of_ble_eq_true rfl) cwX2_mostRightOf rfl mlX2_93 sC_9 kX2 rfl rfl rfl (Nat.le_of_ble_eq_true rfl) dX2_gainInOrders_62 ?_
        refine X.isub dX2_gainInOrders_65 ?_
        refine X.imul dX2_gainInOrders_66 ?_
        refine X.iadd dX2_gainInOrders_67 ?_
        refine X.istore_n (i := 2) (L' := [some (.ref 9), some (.int v1), some (.int (v2 + (((xordersOf (pJ6_bitCount_0f7a4 v3)) * (xordersOf (((f 9 1) - (1 : Int32)) - (pJ6_bitCount_0f7a4 v3)))) * (q3 - q4)))), some (.int v3), some (.int (pJ6_bitCount_0f7a4 v3)), some (.int ((xordersOf (pJ6_bitCount_0f7a4 v3)) * (xordersOf (((f 9 1) - (1 : Int32)) - (pJ6_bitCount_0f7a4 v3)))))]) dX2_gainInOrders_68 rfl (Nat.le_of_ble_eq_true rfl) rfl ?_
        refine X.iinc (i := 3) (v := (v3 + (1 : Int32))) (L' := [some (.ref 9), some (.int v1), some (.int (v2 + (((xordersOf (pJ6_bitCount_0f7a4 v3)) * (xordersOf (((f 9 1) - (1 : Int32)) - (pJ6_bitCount_0f7a4 v3)))) * (q3 - q4)))), some (.int (v3 + (1 : Int32))), some (.int (pJ6_bitCount_0f7a4 v3)), some (.int ((xordersOf (pJ6_bitCount_0f7a4 v3)) * (xordersOf (((f 9 1) - (1 : Int32)) - (pJ6_bitCount_0f7a4 v3)))))]) dX2_gainInOrders_69 rfl rfl (Nat.le_of_ble_eq_true rfl) rfl ?_
        refine X.goto (tgt := 4) dX2_gainInOrders_72 (by decide) ?_
        exact X.weaken (xle_c (xle_c (xle_c (xle_c (xle_n (xle_n xle_e)))))) (ih h)
def pX2_gainInOrders (F : Nat) (f : xM) (v1 : Int32) : Option (Int32) := (pX2_gainInOrders_b4 F f F v1 (0 : Int32) (0 : Int32))
set_option maxRecDepth 100000 in
set_option maxHeartbeats 4000000 in
theorem tX2_gainInOrders {F : Nat} {f : xM} {g : xN} {v1 : Int32} {r : Int32} (h : pX2_gainInOrders F f v1 = some r) : XT mX2_gainInOrders 2 [.ref 9, .int v1] f g (some (.int r), f, g) := by
  unfold pX2_gainInOrders at h
  refine XT.of (L := [some (.ref 9), some (.int v1), none, none, none, none]) [some (.ref 9), some (.int v1)] rfl (Nat.le_of_ble_eq_true rfl) rfl (xle_c (xle_c (xle_z (xle_z (xle_z (xle_z xle_e)))))) ?_
  refine X.iconst (v := (0 : Int32)) dX2_gainInOrders_0 (by decide) ?_
  refine X.istore_n (i := 2) (L' := [some (.ref 9), some (.int v1), some (.int (0 : Int32)), none, none, none]) dX2_gainInOrders_1 rfl (Nat.le_of_ble_eq_true rfl) rfl ?_
  refine X.iconst (v := (0 : Int32)) dX2_gainInOrders_2 (by decide) ?_
  refine X.istore_n (i := 3) (L' := [some (.ref 9), some (.int v1), some (.int (0 : Int32)), some (.int (0 : Int32)), none, none]) dX2_gainInOrders_3 rfl (Nat.le_of_ble_eq_true rfl) rfl ?_
  exact X.weaken (xle_c (xle_c (xle_c (xle_c (xle_n (xle_n xle_e)))))) (tX2_gainInOrders_b4 F h)
def pX2_orders (f : xM) : Int32 := (xordersOf (f 9 1))
set_option maxRecDepth 100000 in
set_option maxHeartbeats 4000000 in
theorem tX2_orders {f : xM} {g : xN} {r : Int32} (h : pX2_orders f = r) : XT mX2_orders 1 [.ref 9] f g (some (.int r), f, g) := by
  unfold pX2_orders at h
  refine XT.of (L := [some (.ref 9)]) [some (.ref 9)] rfl (Nat.le_of_ble_eq_true rfl) rfl (xle_c xle_e) ?_
  refine X.aload_n (i := 0) dX2_orders_0 rfl rfl ?_
  refine X.getI (k0 := 1) kX2 sC_9 (Nat.le_of_ble_eq_true rfl) rfl lfX2_71 dX2_orders_1 ?_
  refine X.callS (μ' := mX2_ordersOf) (As := [.int (f 9 1)]) (st := []) (st1 := [.int (xordersOf (f 9 1))]) (r := some (.int (xordersOf (f 9 1)))) (f' := f) (g' := g) tX2_ordersOf (Nat.le_of_ble_eq_true rfl) cwX2_ordersOf rfl mlX2_90 rfl rfl rfl (Nat.le_of_ble_eq_true rfl) dX2_orders_4 ?_
  subst h
  exact X.iret dX2_orders_7 rfl rfl
def pX11_share (F : Nat) (v1 : Int32) (v2 : Int32) (f : xM) : Option (Int32 × xM) := (if (pX6_hasCompositor f v1) = 0 then some (((-1 : Int32), f)) else (Option.bind (pX2_weighCompositors F f) fun q2 => (Option.bind (pX2_gainInOrders F q2 v1) fun q3 => (Option.bind (pX2_inLeastTerms F q3 (pX2_orders q2) v2) fun q4 => some ((q4, q2))))))
set_option maxRecDepth 100000 in
set_option maxHeartbeats 4000000 in
theorem tX11_share {F : Nat} {g : xN} {v1 : Int32} {v2 : Int32} {f : xM} {r : Int32 × xM} (h : pX11_share F v1 v2 f = some r) : XT mX11_share 5 [.ref 0, .int v1, .int v2] f g (some (.int r.1), r.2, g) := by
  unfold pX11_share at h
  refine XT.of (L := [some (.ref 0), some (.int v1), some (.int v2)]) [some (.ref 0), some (.int v1), some (.int v2)] rfl (Nat.le_of_ble_eq_true rfl) rfl (xle_c (xle_c (xle_c xle_e))) ?_
  refine X.aload_n (i := 0) dX11_share_0 rfl rfl ?_
  refine X.getR (k0 := 1) kX11 sC_0 (Nat.le_of_ble_eq_true rfl) rfl lfX11_19 dX11_share_1 ?_
  refine X.iload_n (i := 1) dX11_share_4 rfl rfl ?_
  refine X.callVN (μ' := mX6_hasCompositor) (As := [.int v1]) (st := []) (st1 := [.int (pX6_hasCompositor f v1)]) (r := some (.int (pX6_hasCompositor f v1))) (f' := f) (g' := g) (tX6_hasCompositor rfl) (Nat.le_of_ble_eq_true rfl) cwX6_hasCompositor rfl mnX11_146 sC_2 kX6 rfl rfl rfl (Nat.le_of_ble_eq_true rfl) dX11_share_5 ?_
  refine X.if_ne (tgt := 13) dX11_share_8 (by decide) (fun c1 => ?_) (fun c1 => ?_)
  · rw [if_neg c1] at h
    refine X.aload_n (i := 0) dX11_share_13 rfl rfl ?_
    refine X.getR (k0 := 8) kX11 sC_0 (Nat.le_of_ble_eq_true rfl) rfl lfX11_70 dX11_share_14 ?_
    refine X.aload_n (i := 0) dX11_share_17 rfl rfl ?_
    refine X.getR (k0 := 1) kX11 sC_0 (Nat.le_of_ble_eq_true rfl) rfl lfX11_19 dX11_share_18 ?_
    obtain ⟨q2, e2, h⟩ := xbind h
    try dsimp only at h
    refine X.callVN (μ' := mX2_weighCompositors) (As := [.ref 2]) (st := []) (st1 := []) (r := none) (f' := q2) (g' := g) (tX2_weighCompositors e2) (Nat.le_of_ble_eq_true rfl) cwX2_weighCompositors rfl mnX11_260 sC_9 kX2 rfl rfl rfl (Nat.le_of_ble_eq_true rfl) dX11_share_21 ?_
    refine X.aload_n (i := 0) dX11_share_24 rfl rfl ?_
    refine X.getR (k0 := 8) kX11 sC_0 (Nat.le_of_ble_eq_true rfl) rfl lfX11_70 dX11_share_25 ?_
    refine X.iload_n (i := 1) dX11_share_28 rfl rfl ?_
    obtain ⟨q3, e3, h⟩ := xbind h
    try dsimp only at h
    refine X.callVN (μ' := mX2_gainInOrders) (As := [.int v1]) (st := []) (st1 := [.int q3]) (r := some (.int q3)) (f' := q2) (g' := g) (tX2_gainInOrders e3) (Nat.le_of_ble_eq_true rfl) cwX2_gainInOrders rfl mnX11_264 sC_9 kX2 rfl rfl rfl (Nat.le_of_ble_eq_true rfl) dX11_share_29 ?_
    refine X.aload_n (i := 0) dX11_share_32 rfl rfl ?_
    refine X.getR (k0 := 8) kX11 sC_0 (Nat.le_of_ble_eq_true rfl) rfl lfX11_70 dX11_share_33 ?_
    refine X.callVN (μ' := mX2_orders) (As := []) (st := [.int q3]) (st1 := [.int (pX2_orders q2), .int q3]) (r := some (.int (pX2_orders q2))) (f' := q2) (g' := g) (tX2_orders rfl) (Nat.le_of_ble_eq_true rfl) cwX2_orders rfl mnX11_267 sC_9 kX2 rfl rfl rfl (Nat.le_of_ble_eq_true rfl) dX11_share_36 ?_
    refine X.iload_n (i := 2) dX11_share_39 rfl rfl ?_
    obtain ⟨q4, e4, h⟩ := xbind h
    try dsimp only at h
    refine X.callSN (μ' := mX2_inLeastTerms) (As := [.int q3, .int (pX2_orders q2), .int v2]) (st := []) (st1 := [.int q4]) (r := some (.int q4)) (f' := q2) (g' := g) (tX2_inLeastTerms e4) (Nat.le_of_ble_eq_true rfl) cwX2_inLeastTerms rfl mnX11_256 rfl rfl rfl (Nat.le_of_ble_eq_true rfl) dX11_share_40 ?_
    obtain rfl := Option.some.inj h
    exact X.iret dX11_share_43 rfl rfl
  · rw [if_pos c1] at h
    refine X.iconst (v := (-1 : Int32)) dX11_share_11 (by decide) ?_
    obtain rfl := Option.some.inj h
    exact X.iret dX11_share_12 rfl rfl
def pX11_seed (v1 : Int64) (g : xN) : Int64 × xN := ((g 0 10), (xu g 0 10 v1))
set_option maxRecDepth 100000 in
set_option maxHeartbeats 4000000 in
theorem tX11_seed {f : xM} {v1 : Int64} {g : xN} {r : Int64 × xN} (h : pX11_seed v1 g = r) : XT mX11_seed 0 [.ref 0, .long v1] f g (some (.long r.1), f, r.2) := by
  unfold pX11_seed at h
  refine XT.of (L := [some (.ref 0), some (.long v1), none, none, none]) [some (.ref 0), some (.long v1), none] rfl (Nat.le_of_ble_eq_true rfl) rfl (xle_c (xle_c (xle_n (xle_z (xle_z xle_e))))) ?_
  refine X.aload_n (i := 0) dX11_seed_0 rfl rfl ?_
  refine X.getL (k0 := 10) kX11 sC_0 (Nat.le_of_ble_eq_true rfl) rfl lfX11_78 dX11_seed_1 ?_
  refine X.lstore_n (i := 3) (L' := [some (.ref 0), some (.long v1), none, some (.long (g 0 10)), none]) dX11_seed_4 rfl (Nat.le_of_ble_eq_true rfl) rfl ?_
  refine X.aload_n (i := 0) dX11_seed_5 rfl rfl ?_
  refine X.lload_n (i := 1) dX11_seed_6 rfl rfl ?_
  refine X.putL (k0 := 10) kX11 sC_0 (Nat.le_of_ble_eq_true rfl) rfl lfX11_78 rfl rfl dX11_seed_7 ?_
  refine X.lload_n (i := 3) dX11_seed_10 rfl rfl ?_
  subst h
  exact X.lret dX11_seed_11 rfl rfl
def pX11_years_b30 (F : Nat) (f : xM) : Nat → Int32 → Int32 → Int32 → Int32 → xN → Option (Int32 × xN)
  | 0, _, _, _, _, _ => none
  | n + 1, v1, v2, v3, v4, g => (if v1 ≤ v4 then some ((v3, g)) else (if (pX6_hasCompositor f (((((xu g 0 10 (((g 0 10) * (6364136223846793005 : Int64)) + (1442695040888963407 : Int64))) 0 10).toUInt64 >>> ((33 : Int32).toInt64.toUInt64 &&& Int64.toUInt64 63)).toInt64 - (((xu g 0 10 (((g 0 10) * (6364136223846793005 : Int64)) + (1442695040888963407 : Int64))) 0 10).toUInt64 >>> ((33 : Int32).toInt64.toUInt64 &&& Int64.toUInt64 63)).toInt64 / (60 : Int64) * (60 : Int64)).toInt32 / (20 : Int32))) = 0 then (pX11_years_b30 F f n v1 v2 (v3 + (pX6_rightOf f v2)) (v4 + (1 : Int32)) (xu g 0 10 (((g 0 10) * (6364136223846793005 : Int64)) + (1442695040888963407 : Int64)))) else (if (pX8_hasPlace f ((((((xu g 0 10 (((g 0 10) * (6364136223846793005 : Int64)) + (1442695040888963407 : Int64))) 0 10).toUInt64 >>> ((33 : Int32).toInt64.toUInt64 &&& Int64.toUInt64 63)).toInt64 - (((xu g 0 10 (((g 0 10) * (6364136223846793005 : Int64)) + (1442695040888963407 : Int64))) 0 10).toUInt64 >>> ((33 : Int32).toInt64.toUInt64 &&& Int64.toUInt64 63)).toInt64 / (60 : Int64) * (60 : Int64)).toInt32 - ((((xu g 0 10 (((g 0 10) * (6364136223846793005 : Int64)) + (1442695040888963407 : Int64))) 0 10).toUInt64 >>> ((33 : Int32).toInt64.toUInt64 &&& Int64.toUInt64 63)).toInt64 - (((xu g 0 10 (((g 0 10) * (6364136223846793005 : Int64)) + (1442695040888963407 : Int64))) 0 10).toUInt64 >>> ((33 : Int32).toInt64.toUInt64 &&& Int64.toUInt64 63)).toInt64 / (60 : Int64) * (60 : Int64)).toInt32 / (20 : Int32) * (20 : Int32)) / (4 : Int32))) = 0 then (pX11_years_b30 F f n v1 v2 (v3 + (pX6_rightOf f v2)) (v4 + (1 : Int32)) (xu g 0 10 (((g 0 10) * (6364136223846793005 : Int64)) + (1442695040888963407 : Int64)))) else (Option.bind (pX6_noticed f (((((xu g 0 10 (((g 0 10) * (6364136223846793005 : Int64)) + (1442695040888963407 : Int64))) 0 10).toUInt64 >>> ((33 : Int32).toInt64.toUInt64 &&& Int64.toUInt64 63)).toInt64 - (((xu g 0 10 (((g 0 10) * (6364136223846793005 : Int64)) + (1442695040888963407 : Int64))) 0 10).toUInt64 >>> ((33 : Int32).toInt64.toUInt64 &&& Int64.toUInt64 63)).toInt64 / (60 : Int64) * (60 : Int64)).toInt32 / (20 : Int32)) v2 ((((((xu g 0 10 (((g 0 10) * (6364136223846793005 : Int64)) + (1442695040888963407 : Int64))) 0 10).toUInt64 >>> ((33 : Int32).toInt64.toUInt64 &&& Int64.toUInt64 63)).toInt64 - (((xu g 0 10 (((g 0 10) * (6364136223846793005 : Int64)) + (1442695040888963407 : Int64))) 0 10).toUInt64 >>> ((33 : Int32).toInt64.toUInt64 &&& Int64.toUInt64 63)).toInt64 / (60 : Int64) * (60 : Int64)).toInt32 - ((((xu g 0 10 (((g 0 10) * (6364136223846793005 : Int64)) + (1442695040888963407 : Int64))) 0 10).toUInt64 >>> ((33 : Int32).toInt64.toUInt64 &&& Int64.toUInt64 63)).toInt64 - (((xu g 0 10 (((g 0 10) * (6364136223846793005 : Int64)) + (1442695040888963407 : Int64))) 0 10).toUInt64 >>> ((33 : Int32).toInt64.toUInt64 &&& Int64.toUInt64 63)).toInt64 / (60 : Int64) * (60 : Int64)).toInt32 / (20 : Int32) * (20 : Int32)) / (4 : Int32)) (((((xu g 0 10 (((g 0 10) * (6364136223846793005 : Int64)) + (1442695040888963407 : Int64))) 0 10).toUInt64 >>> ((33 : Int32).toInt64.toUInt64 &&& Int64.toUInt64 63)).toInt64 - (((xu g 0 10 (((g 0 10) * (6364136223846793005 : Int64)) + (1442695040888963407 : Int64))) 0 10).toUInt64 >>> ((33 : Int32).toInt64.toUInt64 &&& Int64.toUInt64 63)).toInt64 / (60 : Int64) * (60 : Int64)).toInt32 - ((((xu g 0 10 (((g 0 10) * (6364136223846793005 : Int64)) + (1442695040888963407 : Int64))) 0 10).toUInt64 >>> ((33 : Int32).toInt64.toUInt64 &&& Int64.toUInt64 63)).toInt64 - (((xu g 0 10 (((g 0 10) * (6364136223846793005 : Int64)) + (1442695040888963407 : Int64))) 0 10).toUInt64 >>> ((33 : Int32).toInt64.toUInt64 &&& Int64.toUInt64 63)).toInt64 / (60 : Int64) * (60 : Int64)).toInt32 / (4 : Int32) * (4 : Int32))) fun q6 => (pX11_years_b30 F f n v1 q6 (v3 + (pX6_rightOf f q6)) (v4 + (1 : Int32)) (xu g 0 10 (((g 0 10) * (6364136223846793005 : Int64)) + (1442695040888963407 : Int64))))))))
set_option maxRecDepth 100000 in
set_option maxHeartbeats 4000000 in
theorem tX11_years_b30 {F : Nat} {f : xM} : ∀ (n : Nat) {v1 : Int32} {v2 : Int32} {v3 : Int32} {v4 : Int32} {g : xN} {r : Int32 × xN}, pX11_years_b30 F f n v1 v2 v3 v4 g = some r → X mX11_years 3 (some (.int r.1), f, r.2) 30 [some (.ref 0), some (.int v1), some (.int v2), some (.int v3), some (.int v4), none, none, none] [] f g := by
  intro n
  induction n with
  | zero => intro v1 v2 v3 v4 g r h; cases h
  | succ n ih =>
    intro v1 v2 v3 v4 g r h
    rw [pX11_years_b30] at h
    refine X.iload (i := 4) dX11_years_30 rfl ?_
    refine X.iload_n (i := 1) dX11_years_32 rfl rfl ?_
    refine X.icmp_ge (tgt := 143) dX11_years_33 (by decide) (fun c3 => ?_) (fun c3 => ?_)
    · rw [if_pos c3] at h
      refine X.iload_n (i := 3) dX11_years_143 rfl rfl ?_
      obtain rfl := Option.some.inj h
      exact X.iret dX11_years_144 rfl rfl
    · rw [if_neg c3] at h
      refine X.aload_n (i := 0) dX11_years_36 rfl rfl ?_
      refine X.aload_n (i := 0) dX11_years_37 rfl rfl ?_
      refine X.getL (k0 := 10) kX11 sC_0 (Nat.le_of_ble_eq_true rfl) rfl lfX11_78 dX11_years_38 ?_
      refine X.ldc2 dX11_years_41 lcX11_270 ?_
      refine X.lmul dX11_years_44 ?_
      refine X.ldc2 dX11_years_45 lcX11_272 ?_
      refine X.ladd dX11_years_48 ?_
      refine X.putL (k0 := 10) kX11 sC_0 (Nat.le_of_ble_eq_true rfl) rfl lfX11_78 rfl rfl dX11_years_49 ?_
      refine X.aload_n (i := 0) dX11_years_52 rfl rfl ?_
      refine X.getL (k0 := 10) kX11 sC_0 (Nat.le_of_ble_eq_true rfl) rfl lfX11_78 dX11_years_53 ?_
      refine X.bipush (v := (33 : Int32)) dX11_years_56 (by decide) ?_
      refine X.lushr dX11_years_58 ?_
      refine X.ldc2 dX11_years_59 lcX11_274 ?_
      refine X.lrem dX11_years_62 (by decide) ?_
      refine X.l2i dX11_years_63 ?_
      refine X.istore (i := 5) (L' := [some (.ref 0), some (.int v1), some (.int v2), some (.int v3), some (.int v4), some (.int ((((xu g 0 10 (((g 0 10) * (6364136223846793005 : Int64)) + (1442695040888963407 : Int64))) 0 10).toUInt64 >>> ((33 : Int32).toInt64.toUInt64 &&& Int64.toUInt64 63)).toInt64 - (((xu g 0 10 (((g 0 10) * (6364136223846793005 : Int64)) + (1442695040888963407 : Int64))) 0 10).toUInt64 >>> ((33 : Int32).toInt64.toUInt64 &&& Int64.toUInt64 63)).toInt64 / (60 : Int64) * (60 : Int64)).toInt32), none, none]) dX11_years_64 (Nat.le_of_ble_eq_true rfl) rfl ?_
      refine X.iload (i := 5) dX11_years_66 rfl ?_
      refine X.bipush (v := (20 : Int32)) dX11_years_68 (by decide) ?_
      refine X.idiv dX11_years_70 (by decide) ?_
      refine X.istore (i := 6) (L' := [some (.ref 0), some (.int v1), some (.int v2), some (.int v3), some (.int v4), some (.int ((((xu g 0 10 (((g 0 10) * (6364136223846793005 : Int64)) + (1442695040888963407 : Int64))) 0 10).toUInt64 >>> ((33 : Int32).toInt64.toUInt64 &&& Int64.toUInt64 63)).toInt64 - (((xu g 0 10 (((g 0 10) * (6364136223846793005 : Int64)) + (1442695040888963407 : Int64))) 0 10).toUInt64 >>> ((33 : Int32).toInt64.toUInt64 &&& Int64.toUInt64 63)).toInt64 / (60 : Int64) * (60 : Int64)).toInt32), some (.int (((((xu g 0 10 (((g 0 10) * (6364136223846793005 : Int64)) + (1442695040888963407 : Int64))) 0 10).toUInt64 >>> ((33 : Int32).toInt64.toUInt64 &&& Int64.toUInt64 63)).toInt64 - (((xu g 0 10 (((g 0 10) * (6364136223846793005 : Int64)) + (1442695040888963407 : Int64))) 0 10).toUInt64 >>> ((33 : Int32).toInt64.toUInt64 &&& Int64.toUInt64 63)).toInt64 / (60 : Int64) * (60 : Int64)).toInt32 / (20 : Int32))), none]) dX11_years_71 (Nat.le_of_ble_eq_true rfl) rfl ?_
      refine X.iload (i := 5) dX11_years_73 rfl ?_
      refine X.bipush (v := (20 : Int32)) dX11_years_75 (by decide) ?_
      refine X.irem dX11_years_77 (by decide) ?_
      refine X.iconst (v := (4 : Int32)) dX11_years_78 (by decide) ?_
      refine X.idiv dX11_years_79 (by decide) ?_
      refine X.istore (i := 7) (L' := [some (.ref 0), some (.int v1), some (.int v2), some (.int v3), some (.int v4), some (.int ((((xu g 0 10 (((g 0 10) * (6364136223846793005 : Int64)) + (1442695040888963407 : Int64))) 0 10).toUInt64 >>> ((33 : Int32).toInt64.toUInt64 &&& Int64.toUInt64 63)).toInt64 - (((xu g 0 10 (((g 0 10) * (6364136223846793005 : Int64)) + (1442695040888963407 : Int64))) 0 10).toUInt64 >>> ((33 : Int32).toInt64.toUInt64 &&& Int64.toUInt64 63)).toInt64 / (60 : Int64) * (60 : Int64)).toInt32), some (.int (((((xu g 0 10 (((g 0 10) * (6364136223846793005 : Int64)) + (1442695040888963407 : Int64))) 0 10).toUInt64 >>> ((33 : Int32).toInt64.toUInt64 &&& Int64.toUInt64 63)).toInt64 - (((xu g 0 10 (((g 0 10) * (6364136223846793005 : Int64)) + (1442695040888963407 : Int64))) 0 10).toUInt64 >>> ((33 : Int32).toInt64.toUInt64 &&& Int64.toUInt64 63)).toInt64 / (60 : Int64) * (60 : Int64)).toInt32 / (20 : Int32))), some (.int ((((((xu g 0 10 (((g 0 10) * (6364136223846793005 : Int64)) + (1442695040888963407 : Int64))) 0 10).toUInt64 >>> ((33 : Int32).toInt64.toUInt64 &&& Int64.toUInt64 63)).toInt64 - (((xu g 0 10 (((g 0 10) * (6364136223846793005 : Int64)) + (1442695040888963407 : Int64))) 0 10).toUInt64 >>> ((33 : Int32).toInt64.toUInt64 &&& Int64.toUInt64 63)).toInt64 / (60 : Int64) * (60 : Int64)).toInt32 - ((((xu g 0 10 (((g 0 10) * (6364136223846793005 : Int64)) + (1442695040888963407 : Int64))) 0 10).toUInt64 >>> ((33 : Int32).toInt64.toUInt64 &&& Int64.toUInt64 63)).toInt64 - (((xu g 0 10 (((g 0 10) * (6364136223846793005 : Int64)) + (1442695040888963407 : Int64))) 0 10).toUInt64 >>> ((33 : Int32).toInt64.toUInt64 &&& Int64.toUInt64 63)).toInt64 / (60 : Int64) * (60 : Int64)).toInt32 / (20 : Int32) * (20 : Int32)) / (4 : Int32)))]) dX11_years_80 (Nat.le_of_ble_eq_true rfl) rfl ?_
      refine X.aload_n (i := 0) dX11_years_82 rfl rfl ?_
      refine X.getR (k0 := 1) kX11 sC_0 (Nat.le_of_ble_eq_true rfl) rfl lfX11_19 dX11_years_83 ?_
      refine X.iload (i := 6) dX11_years_86 rfl ?_
      refine X.callVN (μ' := mX6_hasCompositor) (As := [.int (((((xu g 0 10 (((g 0 10) * (6364136223846793005 : Int64)) + (1442695040888963407 : Int64))) 0 10).toUInt64 >>> ((33 : Int32).toInt64.toUInt64 &&& Int64.toUInt64 63)).toInt64 - (((xu g 0 10 (((g 0 10) * (6364136223846793005 : Int64)) + (1442695040888963407 : Int64))) 0 10).toUInt64 >>> ((33 : Int32).toInt64.toUInt64 &&& Int64.toUInt64 63)).toInt64 / (60 : Int64) * (60 : Int64)).toInt32 / (20 : Int32))]) (st := []) (st1 := [.int (pX6_hasCompositor f (((((xu g 0 10 (((g 0 10) * (6364136223846793005 : Int64)) + (1442695040888963407 : Int64))) 0 10).toUInt64 >>> ((33 : Int32).toInt64.toUInt64 &&& Int64.toUInt64 63)).toInt64 - (((xu g 0 10 (((g 0 10) * (6364136223846793005 : Int64)) + (1442695040888963407 : Int64))) 0 10).toUInt64 >>> ((33 : Int32).toInt64.toUInt64 &&& Int64.toUInt64 63)).toInt64 / (60 : Int64) * (60 : Int64)).toInt32 / (20 : Int32)))]) (r := some (.int (pX6_hasCompositor f (((((xu g 0 10 (((g 0 10) * (6364136223846793005 : Int64)) + (1442695040888963407 : Int64))) 0 10).toUInt64 >>> ((33 : Int32).toInt64.toUInt64 &&& Int64.toUInt64 63)).toInt64 - (((xu g 0 10 (((g 0 10) * (6364136223846793005 : Int64)) + (1442695040888963407 : Int64))) 0 10).toUInt64 >>> ((33 : Int32).toInt64.toUInt64 &&& Int64.toUInt64 63)).toInt64 / (60 : Int64) * (60 : Int64)).toInt32 / (20 : Int32))))) (f' := f) (g' := (xu g 0 10 (((g 0 10) * (6364136223846793005 : Int64)) + (1442695040888963407 : Int64)))) (tX6_hasCompositor rfl) (Nat.le_of_ble_eq_true rfl) cwX6_hasCompositor rfl mnX11_146 sC_2 kX6 rfl rfl rfl (Nat.le_of_ble_eq_true rfl) dX11_years_88 ?_
      refine X.if_eq (tgt := 126) dX11_years_91 (by decide) (fun c4 => ?_) (fun c4 => ?_)
      · rw [if_pos c4] at h
        refine X.iload_n (i := 3) dX11_years_126 rfl rfl ?_
        refine X.aload_n (i := 0) dX11_years_127 rfl rfl ?_
        refine X.getR (k0 := 1) kX11 sC_0 (Nat.le_of_ble_eq_true rfl) rfl lfX11_19 dX11_years_128 ?_
        refine X.iload_n (i := 2) dX11_years_131 rfl rfl ?_
        refine X.callVN (μ' := mX6_rightOf) (As := [.int v2]) (st := [.int v3]) (st1 := [.int (pX6_rightOf f v2), .int v3]) (r := some (.int (pX6_rightOf f v2))) (f' := f) (g' := (xu g 0 10 (((g 0 10) * (6364136223846793005 : Int64)) + (1442695040888963407 : Int64)))) (tX6_rightOf rfl) (Nat.le_of_ble_eq_true rfl) cwX6_rightOf rfl mnX11_131 sC_2 kX6 rfl rfl rfl (Nat.le_of_ble_eq_true rfl) dX11_years_132 ?_
        refine X.iadd dX11_years_135 ?_
        refine X.istore_n (i := 3) (L' := [some (.ref 0), some (.int v1), some (.int v2), some (.int (v3 + (pX6_rightOf f v2))), some (.int v4), some (.int ((((xu g 0 10 (((g 0 10) * (6364136223846793005 : Int64)) + (1442695040888963407 : Int64))) 0 10).toUInt64 >>> ((33 : Int32).toInt64.toUInt64 &&& Int64.toUInt64 63)).toInt64 - (((xu g 0 10 (((g 0 10) * (6364136223846793005 : Int64)) + (1442695040888963407 : Int64))) 0 10).toUInt64 >>> ((33 : Int32).toInt64.toUInt64 &&& Int64.toUInt64 63)).toInt64 / (60 : Int64) * (60 : Int64)).toInt32), some (.int (((((xu g 0 10 (((g 0 10) * (6364136223846793005 : Int64)) + (1442695040888963407 : Int64))) 0 10).toUInt64 >>> ((33 : Int32).toInt64.toUInt64 &&& Int64.toUInt64 63)).toInt64 - (((xu g 0 10 (((g 0 10) * (6364136223846793005 : Int64)) + (1442695040888963407 : Int64))) 0 10).toUInt64 >>> ((33 : Int32).toInt64.toUInt64 &&& Int64.toUInt64 63)).toInt64 / (60 : Int64) * (60 : Int64)).toInt32 / (20 : Int32))), some (.int ((((((xu g 0 10 (((g 0 10) * (6364136223846793005 : Int64)) + (1442695040888963407 : Int64))) 0 10).toUInt64 >>> ((33 : Int32).toInt64.toUInt64 &&& Int64.toUInt64 63)).toInt64 - (((xu g 0 10 (((g 0 10) * (6364136223846793005 : Int64)) + (1442695040888963407 : Int64))) 0 10).toUInt64 >>> ((33 : Int32).toInt64.toUInt64 &&& Int64.toUInt64 63)).toInt64 / (60 : Int64) * (60 : Int64)).toInt32 - ((((xu g 0 10 (((g 0 10) * (6364136223846793005 : Int64)) + (1442695040888963407 : Int64))) 0 10).toUInt64 >>> ((33 : Int32).toInt64.toUInt64 &&& Int64.toUInt64 63)).toInt64 - (((xu g 0 10 (((g 0 10) * (6364136223846793005 : Int64)) + (1442695040888963407 : Int64))) 0 10).toUInt64 >>> ((33 : Int32).toInt64.toUInt64 &&& Int64.toUInt64 63)).toInt64 / (60 : Int64) * (60 : Int64)).toInt32 / (20 : Int32) * (20 : Int32)) / (4 : Int32)))]) dX11_years_136 rfl (Nat.le_of_ble_eq_true rfl) rfl ?_
        refine X.iinc (i := 4) (v := (v4 + (1 : Int32))) (L' := [some (.ref 0), some (.int v1), some (.int v2), some (.int (v3 + (pX6_rightOf f v2))), some (.int (v4 + (1 : Int32))), some (.int ((((xu g 0 10 (((g 0 10) * (6364136223846793005 : Int64)) + (1442695040888963407 : Int64))) 0 10).toUInt64 >>> ((33 : Int32).toInt64.toUInt64 &&& Int64.toUInt64 63)).toInt64 - (((xu g 0 10 (((g 0 10) * (6364136223846793005 : Int64)) + (1442695040888963407 : Int64))) 0 10).toUInt64 >>> ((33 : Int32).toInt64.toUInt64 &&& Int64.toUInt64 63)).toInt64 / (60 : Int64) * (60 : Int64)).toInt32), some (.int (((((xu g 0 10 (((g 0 10) * (6364136223846793005 : Int64)) + (1442695040888963407 : Int64))) 0 10).toUInt64 >>> ((33 : Int32).toInt64.toUInt64 &&& Int64.toUInt64 63)).toInt64 - (((xu g 0 10 (((g 0 10) * (6364136223846793005 : Int64)) + (1442695040888963407 : Int64))) 0 10).toUInt64 >>> ((33 : Int32).toInt64.toUInt64 &&& Int64.toUInt64 63)).toInt64 / (60 : Int64) * (60 : Int64)).toInt32 / (20 : Int32))), some (.int ((((((xu g 0 10 (((g 0 10) * (6364136223846793005 : Int64)) + (1442695040888963407 : Int64))) 0 10).toUInt64 >>> ((33 : Int32).toInt64.toUInt64 &&& Int64.toUInt64 63)).toInt64 - (((xu g 0 10 (((g 0 10) * (6364136223846793005 : Int64)) + (1442695040888963407 : Int64))) 0 10).toUInt64 >>> ((33 : Int32).toInt64.toUInt64 &&& Int64.toUInt64 63)).toInt64 / (60 : Int64) * (60 : Int64)).toInt32 - ((((xu g 0 10 (((g 0 10) * (6364136223846793005 : Int64)) + (1442695040888963407 : Int64))) 0 10).toUInt64 >>> ((33 : Int32).toInt64.toUInt64 &&& Int64.toUInt64 63)).toInt64 - (((xu g 0 10 (((g 0 10) * (6364136223846793005 : Int64)) + (1442695040888963407 : Int64))) 0 10).toUInt64 >>> ((33 : Int32).toInt64.toUInt64 &&& Int64.toUInt64 63)).toInt64 / (60 : Int64) * (60 : Int64)).toInt32 / (20 : Int32) * (20 : Int32)) / (4 : Int32)))]) dX11_years_137 rfl rfl (Nat.le_of_ble_eq_true rfl) rfl ?_
        refine X.goto (tgt := 30) dX11_years_140 (by decide) ?_
        exact X.weaken (xle_c (xle_c (xle_c (xle_c (xle_c (xle_n (xle_n (xle_n xle_e)))))))) (ih h)
      · rw [if_neg c4] at h
        refine X.aload_n (i := 0) dX11_years_94 rfl rfl ?_
        refine X.getR (k0 := 1) kX11 sC_0 (Nat.le_of_ble_eq_true rfl) rfl lfX11_19 dX11_years_95 ?_
        refine X.getRN (k0 := 0) kX6 sC_2 (Nat.le_of_ble_eq_true rfl) rfl lnX11_110 dX11_years_98 ?_
        refine X.iload (i := 7) dX11_years_101 rfl ?_
        refine X.callVN (μ' := mX8_hasPlace) (As := [.int ((((((xu g 0 10 (((g 0 10) * (6364136223846793005 : Int64)) + (1442695040888963407 : Int64))) 0 10).toUInt64 >>> ((33 : Int32).toInt64.toUInt64 &&& Int64.toUInt64 63)).toInt64 - (((xu g 0 10 (((g 0 10) * (6364136223846793005 : Int64)) + (1442695040888963407 : Int64))) 0 10).toUInt64 >>> ((33 : Int32).toInt64.toUInt64 &&& Int64.toUInt64 63)).toInt64 / (60 : Int64) * (60 : Int64)).toInt32 - ((((xu g 0 10 (((g 0 10) * (6364136223846793005 : Int64)) + (1442695040888963407 : Int64))) 0 10).toUInt64 >>> ((33 : Int32).toInt64.toUInt64 &&& Int64.toUInt64 63)).toInt64 - (((xu g 0 10 (((g 0 10) * (6364136223846793005 : Int64)) + (1442695040888963407 : Int64))) 0 10).toUInt64 >>> ((33 : Int32).toInt64.toUInt64 &&& Int64.toUInt64 63)).toInt64 / (60 : Int64) * (60 : Int64)).toInt32 / (20 : Int32) * (20 : Int32)) / (4 : Int32))]) (st := []) (st1 := [.int (pX8_hasPlace f ((((((xu g 0 10 (((g 0 10) * (6364136223846793005 : Int64)) + (1442695040888963407 : Int64))) 0 10).toUInt64 >>> ((33 : Int32).toInt64.toUInt64 &&& Int64.toUInt64 63)).toInt64 - (((xu g 0 10 (((g 0 10) * (6364136223846793005 : Int64)) + (1442695040888963407 : Int64))) 0 10).toUInt64 >>> ((33 : Int32).toInt64.toUInt64 &&& Int64.toUInt64 63)).toInt64 / (60 : Int64) * (60 : Int64)).toInt32 - ((((xu g 0 10 (((g 0 10) * (6364136223846793005 : Int64)) + (1442695040888963407 : Int64))) 0 10).toUInt64 >>> ((33 : Int32).toInt64.toUInt64 &&& Int64.toUInt64 63)).toInt64 - (((xu g 0 10 (((g 0 10) * (6364136223846793005 : Int64)) + (1442695040888963407 : Int64))) 0 10).toUInt64 >>> ((33 : Int32).toInt64.toUInt64 &&& Int64.toUInt64 63)).toInt64 / (60 : Int64) * (60 : Int64)).toInt32 / (20 : Int32) * (20 : Int32)) / (4 : Int32)))]) (r := some (.int (pX8_hasPlace f ((((((xu g 0 10 (((g 0 10) * (6364136223846793005 : Int64)) + (1442695040888963407 : Int64))) 0 10).toUInt64 >>> ((33 : Int32).toInt64.toUInt64 &&& Int64.toUInt64 63)).toInt64 - (((xu g 0 10 (((g 0 10) * (6364136223846793005 : Int64)) + (1442695040888963407 : Int64))) 0 10).toUInt64 >>> ((33 : Int32).toInt64.toUInt64 &&& Int64.toUInt64 63)).toInt64 / (60 : Int64) * (60 : Int64)).toInt32 - ((((xu g 0 10 (((g 0 10) * (6364136223846793005 : Int64)) + (1442695040888963407 : Int64))) 0 10).toUInt64 >>> ((33 : Int32).toInt64.toUInt64 &&& Int64.toUInt64 63)).toInt64 - (((xu g 0 10 (((g 0 10) * (6364136223846793005 : Int64)) + (1442695040888963407 : Int64))) 0 10).toUInt64 >>> ((33 : Int32).toInt64.toUInt64 &&& Int64.toUInt64 63)).toInt64 / (60 : Int64) * (60 : Int64)).toInt32 / (20 : Int32) * (20 : Int32)) / (4 : Int32))))) (f' := f) (g' := (xu g 0 10 (((g 0 10) * (6364136223846793005 : Int64)) + (1442695040888963407 : Int64)))) (tX8_hasPlace rfl) (Nat.le_of_ble_eq_true rfl) cwX8_hasPlace rfl mnX11_276 sC_10 kX8 rfl rfl rfl (Nat.le_of_ble_eq_true rfl) dX11_years_103 ?_
        refine X.if_eq (tgt := 126) dX11_years_106 (by decide) (fun c5 => ?_) (fun c5 => ?_)
        · rw [if_pos c5] at h
          refine X.iload_n (i := 3) dX11_years_126 rfl rfl ?_
          refine X.aload_n (i := 0) dX11_years_127 rfl rfl ?_
          refine X.getR (k0 := 1) kX11 sC_0 (Nat.le_of_ble_eq_true rfl) rfl lfX11_19 dX11_years_128 ?_
          refine X.iload_n (i := 2) dX11_years_131 rfl rfl ?_
          refine X.callVN (μ' := mX6_rightOf) (As := [.int v2]) (st := [.int v3]) (st1 := [.int (pX6_rightOf f v2), .int v3]) (r := some (.int (pX6_rightOf f v2))) (f' := f) (g' := (xu g 0 10 (((g 0 10) * (6364136223846793005 : Int64)) + (1442695040888963407 : Int64)))) (tX6_rightOf rfl) (Nat.le_of_ble_eq_true rfl) cwX6_rightOf rfl mnX11_131 sC_2 kX6 rfl rfl rfl (Nat.le_of_ble_eq_true rfl) dX11_years_132 ?_
          refine X.iadd dX11_years_135 ?_
          refine X.istore_n (i := 3) (L' := [some (.ref 0), some (.int v1), some (.int v2), some (.int (v3 + (pX6_rightOf f v2))), some (.int v4), some (.int ((((xu g 0 10 (((g 0 10) * (6364136223846793005 : Int64)) + (1442695040888963407 : Int64))) 0 10).toUInt64 >>> ((33 : Int32).toInt64.toUInt64 &&& Int64.toUInt64 63)).toInt64 - (((xu g 0 10 (((g 0 10) * (6364136223846793005 : Int64)) + (1442695040888963407 : Int64))) 0 10).toUInt64 >>> ((33 : Int32).toInt64.toUInt64 &&& Int64.toUInt64 63)).toInt64 / (60 : Int64) * (60 : Int64)).toInt32), some (.int (((((xu g 0 10 (((g 0 10) * (6364136223846793005 : Int64)) + (1442695040888963407 : Int64))) 0 10).toUInt64 >>> ((33 : Int32).toInt64.toUInt64 &&& Int64.toUInt64 63)).toInt64 - (((xu g 0 10 (((g 0 10) * (6364136223846793005 : Int64)) + (1442695040888963407 : Int64))) 0 10).toUInt64 >>> ((33 : Int32).toInt64.toUInt64 &&& Int64.toUInt64 63)).toInt64 / (60 : Int64) * (60 : Int64)).toInt32 / (20 : Int32))), some (.int ((((((xu g 0 10 (((g 0 10) * (6364136223846793005 : Int64)) + (1442695040888963407 : Int64))) 0 10).toUInt64 >>> ((33 : Int32).toInt64.toUInt64 &&& Int64.toUInt64 63)).toInt64 - (((xu g 0 10 (((g 0 10) * (6364136223846793005 : Int64)) + (1442695040888963407 : Int64))) 0 10).toUInt64 >>> ((33 : Int32).toInt64.toUInt64 &&& Int64.toUInt64 63)).toInt64 / (60 : Int64) * (60 : Int64)).toInt32 - ((((xu g 0 10 (((g 0 10) * (6364136223846793005 : Int64)) + (1442695040888963407 : Int64))) 0 10).toUInt64 >>> ((33 : Int32).toInt64.toUInt64 &&& Int64.toUInt64 63)).toInt64 - (((xu g 0 10 (((g 0 10) * (6364136223846793005 : Int64)) + (1442695040888963407 : Int64))) 0 10).toUInt64 >>> ((33 : Int32).toInt64.toUInt64 &&& Int64.toUInt64 63)).toInt64 / (60 : Int64) * (60 : Int64)).toInt32 / (20 : Int32) * (20 : Int32)) / (4 : Int32)))]) dX11_years_136 rfl (Nat.le_of_ble_eq_true rfl) rfl ?_
          refine X.iinc (i := 4) (v := (v4 + (1 : Int32))) (L' := [some (.ref 0), some (.int v1), some (.int v2), some (.int (v3 + (pX6_rightOf f v2))), some (.int (v4 + (1 : Int32))), some (.int ((((xu g 0 10 (((g 0 10) * (6364136223846793005 : Int64)) + (1442695040888963407 : Int64))) 0 10).toUInt64 >>> ((33 : Int32).toInt64.toUInt64 &&& Int64.toUInt64 63)).toInt64 - (((xu g 0 10 (((g 0 10) * (6364136223846793005 : Int64)) + (1442695040888963407 : Int64))) 0 10).toUInt64 >>> ((33 : Int32).toInt64.toUInt64 &&& Int64.toUInt64 63)).toInt64 / (60 : Int64) * (60 : Int64)).toInt32), some (.int (((((xu g 0 10 (((g 0 10) * (6364136223846793005 : Int64)) + (1442695040888963407 : Int64))) 0 10).toUInt64 >>> ((33 : Int32).toInt64.toUInt64 &&& Int64.toUInt64 63)).toInt64 - (((xu g 0 10 (((g 0 10) * (6364136223846793005 : Int64)) + (1442695040888963407 : Int64))) 0 10).toUInt64 >>> ((33 : Int32).toInt64.toUInt64 &&& Int64.toUInt64 63)).toInt64 / (60 : Int64) * (60 : Int64)).toInt32 / (20 : Int32))), some (.int ((((((xu g 0 10 (((g 0 10) * (6364136223846793005 : Int64)) + (1442695040888963407 : Int64))) 0 10).toUInt64 >>> ((33 : Int32).toInt64.toUInt64 &&& Int64.toUInt64 63)).toInt64 - (((xu g 0 10 (((g 0 10) * (6364136223846793005 : Int64)) + (1442695040888963407 : Int64))) 0 10).toUInt64 >>> ((33 : Int32).toInt64.toUInt64 &&& Int64.toUInt64 63)).toInt64 / (60 : Int64) * (60 : Int64)).toInt32 - ((((xu g 0 10 (((g 0 10) * (6364136223846793005 : Int64)) + (1442695040888963407 : Int64))) 0 10).toUInt64 >>> ((33 : Int32).toInt64.toUInt64 &&& Int64.toUInt64 63)).toInt64 - (((xu g 0 10 (((g 0 10) * (6364136223846793005 : Int64)) + (1442695040888963407 : Int64))) 0 10).toUInt64 >>> ((33 : Int32).toInt64.toUInt64 &&& Int64.toUInt64 63)).toInt64 / (60 : Int64) * (60 : Int64)).toInt32 / (20 : Int32) * (20 : Int32)) / (4 : Int32)))]) dX11_years_137 rfl rfl (Nat.le_of_ble_eq_true rfl) rfl ?_
          refine X.goto (tgt := 30) dX11_years_140 (by decide) ?_
          exact X.weaken (xle_c (xle_c (xle_c (xle_c (xle_c (xle_n (xle_n (xle_n xle_e)))))))) (ih h)
        · rw [if_neg c5] at h
          refine X.aload_n (i := 0) dX11_years_109 rfl rfl ?_
          refine X.getR (k0 := 1) kX11 sC_0 (Nat.le_of_ble_eq_true rfl) rfl lfX11_19 dX11_years_110 ?_
          refine X.iload (i := 6) dX11_years_113 rfl ?_
          refine X.iload_n (i := 2) dX11_years_115 rfl rfl ?_
          refine X.iload (i := 7) dX11_years_116 rfl ?_
          refine X.iload (i := 5) dX11_years_118 rfl ?_
          refine X.iconst (v := (4 : Int32)) dX11_years_120 (by decide) ?_
          refine X.irem dX11_years_121 (by decide) ?_
          obtain ⟨q6, e6, h⟩ := xbind h
          try dsimp only at h
          refine X.callVN (μ' := mX6_noticed) (As := [.int (((((xu g 0 10 (((g 0 10) * (6364136223846793005 : Int64)) + (1442695040888963407 : Int64))) 0 10).toUInt64 >>> ((33 : Int32).toInt64.toUInt64 &&& Int64.toUInt64 63)).toInt64 - (((xu g 0 10 (((g 0 10) * (6364136223846793005 : Int64)) + (1442695040888963407 : Int64))) 0 10).toUInt64 >>> ((33 : Int32).toInt64.toUInt64 &&& Int64.toUInt64 63)).toInt64 / (60 : Int64) * (60 : Int64)).toInt32 / (20 : Int32)), .int v2, .int ((((((xu g 0 10 (((g 0 10) * (6364136223846793005 : Int64)) + (1442695040888963407 : Int64))) 0 10).toUInt64 >>> ((33 : Int32).toInt64.toUInt64 &&& Int64.toUInt64 63)).toInt64 - (((xu g 0 10 (((g 0 10) * (6364136223846793005 : Int64)) + (1442695040888963407 : Int64))) 0 10).toUInt64 >>> ((33 : Int32).toInt64.toUInt64 &&& Int64.toUInt64 63)).toInt64 / (60 : Int64) * (60 : Int64)).toInt32 - ((((xu g 0 10 (((g 0 10) * (6364136223846793005 : Int64)) + (1442695040888963407 : Int64))) 0 10).toUInt64 >>> ((33 : Int32).toInt64.toUInt64 &&& Int64.toUInt64 63)).toInt64 - (((xu g 0 10 (((g 0 10) * (6364136223846793005 : Int64)) + (1442695040888963407 : Int64))) 0 10).toUInt64 >>> ((33 : Int32).toInt64.toUInt64 &&& Int64.toUInt64 63)).toInt64 / (60 : Int64) * (60 : Int64)).toInt32 / (20 : Int32) * (20 : Int32)) / (4 : Int32)), .int (((((xu g 0 10 (((g 0 10) * (6364136223846793005 : Int64)) + (1442695040888963407 : Int64))) 0 10).toUInt64 >>> ((33 : Int32).toInt64.toUInt64 &&& Int64.toUInt64 63)).toInt64 - (((xu g 0 10 (((g 0 10) * (6364136223846793005 : Int64)) + (1442695040888963407 : Int64))) 0 10).toUInt64 >>> ((33 : Int32).toInt64.toUInt64 &&& Int64.toUInt64 63)).toInt64 / (60 : Int64) * (60 : Int64)).toInt32 - ((((xu g 0 10 (((g 0 10) * (6364136223846793005 : Int64)) + (1442695040888963407 : Int64))) 0 10).toUInt64 >>> ((33 : Int32).toInt64.toUInt64 &&& Int64.toUInt64 63)).toInt64 - (((xu g 0 10 (((g 0 10) * (6364136223846793005 : Int64)) + (1442695040888963407 : Int64))) 0 10).toUInt64 >>> ((33 : Int32).toInt64.toUInt64 &&& Int64.toUInt64 63)).toInt64 / (60 : Int64) * (60 : Int64)).toInt32 / (4 : Int32) * (4 : Int32))]) (st := []) (st1 := [.int q6]) (r := some (.int q6)) (f' := f) (g' := (xu g 0 10 (((g 0 10) * (6364136223846793005 : Int64)) + (1442695040888963407 : Int64)))) (tX6_noticed e6) (Nat.le_of_ble_eq_true rfl) cwX6_noticed rfl mnX11_227 sC_2 kX6 rfl rfl rfl (Nat.le_of_ble_eq_true rfl) dX11_years_122 ?_
          refine X.istore_n (i := 2) (L' := [some (.ref 0), some (.int v1), some (.int q6), some (.int v3), some (.int v4), some (.int ((((xu g 0 10 (((g 0 10) * (6364136223846793005 : Int64)) + (1442695040888963407 : Int64))) 0 10).toUInt64 >>> ((33 : Int32).toInt64.toUInt64 &&& Int64.toUInt64 63)).toInt64 - (((xu g 0 10 (((g 0 10) * (6364136223846793005 : Int64)) + (1442695040888963407 : Int64))) 0 10).toUInt64 >>> ((33 : Int32).toInt64.toUInt64 &&& Int64.toUInt64 63)).toInt64 / (60 : Int64) * (60 : Int64)).toInt32), some (.int (((((xu g 0 10 (((g 0 10) * (6364136223846793005 : Int64)) + (1442695040888963407 : Int64))) 0 10).toUInt64 >>> ((33 : Int32).toInt64.toUInt64 &&& Int64.toUInt64 63)).toInt64 - (((xu g 0 10 (((g 0 10) * (6364136223846793005 : Int64)) + (1442695040888963407 : Int64))) 0 10).toUInt64 >>> ((33 : Int32).toInt64.toUInt64 &&& Int64.toUInt64 63)).toInt64 / (60 : Int64) * (60 : Int64)).toInt32 / (20 : Int32))), some (.int ((((((xu g 0 10 (((g 0 10) * (6364136223846793005 : Int64)) + (1442695040888963407 : Int64))) 0 10).toUInt64 >>> ((33 : Int32).toInt64.toUInt64 &&& Int64.toUInt64 63)).toInt64 - (((xu g 0 10 (((g 0 10) * (6364136223846793005 : Int64)) + (1442695040888963407 : Int64))) 0 10).toUInt64 >>> ((33 : Int32).toInt64.toUInt64 &&& Int64.toUInt64 63)).toInt64 / (60 : Int64) * (60 : Int64)).toInt32 - ((((xu g 0 10 (((g 0 10) * (6364136223846793005 : Int64)) + (1442695040888963407 : Int64))) 0 10).toUInt64 >>> ((33 : Int32).toInt64.toUInt64 &&& Int64.toUInt64 63)).toInt64 - (((xu g 0 10 (((g 0 10) * (6364136223846793005 : Int64)) + (1442695040888963407 : Int64))) 0 10).toUInt64 >>> ((33 : Int32).toInt64.toUInt64 &&& Int64.toUInt64 63)).toInt64 / (60 : Int64) * (60 : Int64)).toInt32 / (20 : Int32) * (20 : Int32)) / (4 : Int32)))]) dX11_years_125 rfl (Nat.le_of_ble_eq_true rfl) rfl ?_
          refine X.iload_n (i := 3) dX11_years_126 rfl rfl ?_
          refine X.aload_n (i := 0) dX11_years_127 rfl rfl ?_
          refine X.getR (k0 := 1) kX11 sC_0 (Nat.le_of_ble_eq_true rfl) rfl lfX11_19 dX11_years_128 ?_
          refine X.iload_n (i := 2) dX11_years_131 rfl rfl ?_
          refine X.callVN (μ' := mX6_rightOf) (As := [.int q6]) (st := [.int v3]) (st1 := [.int (pX6_rightOf f q6), .int v3]) (r := some (.int (pX6_rightOf f q6))) (f' := f) (g' := (xu g 0 10 (((g 0 10) * (6364136223846793005 : Int64)) + (1442695040888963407 : Int64)))) (tX6_rightOf rfl) (Nat.le_of_ble_eq_true rfl) cwX6_rightOf rfl mnX11_131 sC_2 kX6 rfl rfl rfl (Nat.le_of_ble_eq_true rfl) dX11_years_132 ?_
          refine X.iadd dX11_years_135 ?_
          refine X.istore_n (i := 3) (L' := [some (.ref 0), some (.int v1), some (.int q6), some (.int (v3 + (pX6_rightOf f q6))), some (.int v4), some (.int ((((xu g 0 10 (((g 0 10) * (6364136223846793005 : Int64)) + (1442695040888963407 : Int64))) 0 10).toUInt64 >>> ((33 : Int32).toInt64.toUInt64 &&& Int64.toUInt64 63)).toInt64 - (((xu g 0 10 (((g 0 10) * (6364136223846793005 : Int64)) + (1442695040888963407 : Int64))) 0 10).toUInt64 >>> ((33 : Int32).toInt64.toUInt64 &&& Int64.toUInt64 63)).toInt64 / (60 : Int64) * (60 : Int64)).toInt32), some (.int (((((xu g 0 10 (((g 0 10) * (6364136223846793005 : Int64)) + (1442695040888963407 : Int64))) 0 10).toUInt64 >>> ((33 : Int32).toInt64.toUInt64 &&& Int64.toUInt64 63)).toInt64 - (((xu g 0 10 (((g 0 10) * (6364136223846793005 : Int64)) + (1442695040888963407 : Int64))) 0 10).toUInt64 >>> ((33 : Int32).toInt64.toUInt64 &&& Int64.toUInt64 63)).toInt64 / (60 : Int64) * (60 : Int64)).toInt32 / (20 : Int32))), some (.int ((((((xu g 0 10 (((g 0 10) * (6364136223846793005 : Int64)) + (1442695040888963407 : Int64))) 0 10).toUInt64 >>> ((33 : Int32).toInt64.toUInt64 &&& Int64.toUInt64 63)).toInt64 - (((xu g 0 10 (((g 0 10) * (6364136223846793005 : Int64)) + (1442695040888963407 : Int64))) 0 10).toUInt64 >>> ((33 : Int32).toInt64.toUInt64 &&& Int64.toUInt64 63)).toInt64 / (60 : Int64) * (60 : Int64)).toInt32 - ((((xu g 0 10 (((g 0 10) * (6364136223846793005 : Int64)) + (1442695040888963407 : Int64))) 0 10).toUInt64 >>> ((33 : Int32).toInt64.toUInt64 &&& Int64.toUInt64 63)).toInt64 - (((xu g 0 10 (((g 0 10) * (6364136223846793005 : Int64)) + (1442695040888963407 : Int64))) 0 10).toUInt64 >>> ((33 : Int32).toInt64.toUInt64 &&& Int64.toUInt64 63)).toInt64 / (60 : Int64) * (60 : Int64)).toInt32 / (20 : Int32) * (20 : Int32)) / (4 : Int32)))]) dX11_years_136 rfl (Nat.le_of_ble_eq_true rfl) rfl ?_
          refine X.iinc (i := 4) (v := (v4 + (1 : Int32))) (L' := [some (.ref 0), some (.int v1), some (.int q6), some (.int (v3 + (pX6_rightOf f q6))), some (.int (v4 + (1 : Int32))), some (.int ((((xu g 0 10 (((g 0 10) * (6364136223846793005 : Int64)) + (1442695040888963407 : Int64))) 0 10).toUInt64 >>> ((33 : Int32).toInt64.toUInt64 &&& Int64.toUInt64 63)).toInt64 - (((xu g 0 10 (((g 0 10) * (6364136223846793005 : Int64)) + (1442695040888963407 : Int64))) 0 10).toUInt64 >>> ((33 : Int32).toInt64.toUInt64 &&& Int64.toUInt64 63)).toInt64 / (60 : Int64) * (60 : Int64)).toInt32), some (.int (((((xu g 0 10 (((g 0 10) * (6364136223846793005 : Int64)) + (1442695040888963407 : Int64))) 0 10).toUInt64 >>> ((33 : Int32).toInt64.toUInt64 &&& Int64.toUInt64 63)).toInt64 - (((xu g 0 10 (((g 0 10) * (6364136223846793005 : Int64)) + (1442695040888963407 : Int64))) 0 10).toUInt64 >>> ((33 : Int32).toInt64.toUInt64 &&& Int64.toUInt64 63)).toInt64 / (60 : Int64) * (60 : Int64)).toInt32 / (20 : Int32))), some (.int ((((((xu g 0 10 (((g 0 10) * (6364136223846793005 : Int64)) + (1442695040888963407 : Int64))) 0 10).toUInt64 >>> ((33 : Int32).toInt64.toUInt64 &&& Int64.toUInt64 63)).toInt64 - (((xu g 0 10 (((g 0 10) * (6364136223846793005 : Int64)) + (1442695040888963407 : Int64))) 0 10).toUInt64 >>> ((33 : Int32).toInt64.toUInt64 &&& Int64.toUInt64 63)).toInt64 / (60 : Int64) * (60 : Int64)).toInt32 - ((((xu g 0 10 (((g 0 10) * (6364136223846793005 : Int64)) + (1442695040888963407 : Int64))) 0 10).toUInt64 >>> ((33 : Int32).toInt64.toUInt64 &&& Int64.toUInt64 63)).toInt64 - (((xu g 0 10 (((g 0 10) * (6364136223846793005 : Int64)) + (1442695040888963407 : Int64))) 0 10).toUInt64 >>> ((33 : Int32).toInt64.toUInt64 &&& Int64.toUInt64 63)).toInt64 / (60 : Int64) * (60 : Int64)).toInt32 / (20 : Int32) * (20 : Int32)) / (4 : Int32)))]) dX11_years_137 rfl rfl (Nat.le_of_ble_eq_true rfl) rfl ?_
          refine X.goto (tgt := 30) dX11_years_140 (by decide) ?_
          exact X.weaken (xle_c (xle_c (xle_c (xle_c (xle_c (xle_n (xle_n (xle_n xle_e)))))))) (ih h)
def pX11_years (F : Nat) (f : xM) (v1 : Int32) (g : xN) : Option (Int32 × xN) := (if v1 < (1 : Int32) then some (((-2 : Int32), g)) else (if v1 ≤ (30 : Int32) then (pX11_years_b30 F f F v1 (pX9_said f) (0 : Int32) (0 : Int32) g) else some (((-2 : Int32), g))))
set_option maxRecDepth 100000 in
set_option maxHeartbeats 4000000 in
theorem tX11_years {F : Nat} {f : xM} {v1 : Int32} {g : xN} {r : Int32 × xN} (h : pX11_years F f v1 g = some r) : XT mX11_years 3 [.ref 0, .int v1] f g (some (.int r.1), f, r.2) := by
  unfold pX11_years at h
  refine XT.of (L := [some (.ref 0), some (.int v1), none, none, none, none, none, none]) [some (.ref 0), some (.int v1)] rfl (Nat.le_of_ble_eq_true rfl) rfl (xle_c (xle_c (xle_z (xle_z (xle_z (xle_z (xle_z (xle_z xle_e)))))))) ?_
  refine X.iload_n (i := 1) dX11_years_0 rfl rfl ?_
  refine X.iconst (v := (1 : Int32)) dX11_years_1 (by decide) ?_
  refine X.icmp_lt (tgt := 11) dX11_years_2 (by decide) (fun c1 => ?_) (fun c1 => ?_)
  · rw [if_pos c1] at h
    refine X.bipush (v := (-2 : Int32)) dX11_years_11 (by decide) ?_
    obtain rfl := Option.some.inj h
    exact X.iret dX11_years_13 rfl rfl
  · rw [if_neg c1] at h
    refine X.iload_n (i := 1) dX11_years_5 rfl rfl ?_
    refine X.bipush (v := (30 : Int32)) dX11_years_6 (by decide) ?_
    refine X.icmp_le (tgt := 14) dX11_years_8 (by decide) (fun c2 => ?_) (fun c2 => ?_)
    · rw [if_pos c2] at h
      refine X.aload_n (i := 0) dX11_years_14 rfl rfl ?_
      refine X.getR (k0 := 1) kX11 sC_0 (Nat.le_of_ble_eq_true rfl) rfl lfX11_19 dX11_years_15 ?_
      refine X.getRN (k0 := 1) kX6 sC_2 (Nat.le_of_ble_eq_true rfl) rfl lnX11_106 dX11_years_18 ?_
      refine X.callVN (μ' := mX9_said) (As := []) (st := []) (st1 := [.int (pX9_said f)]) (r := some (.int (pX9_said f))) (f' := f) (g' := g) (tX9_said rfl) (Nat.le_of_ble_eq_true rfl) cwX9_said rfl mnX11_126 sC_11 kX9 rfl rfl rfl (Nat.le_of_ble_eq_true rfl) dX11_years_21 ?_
      refine X.istore_n (i := 2) (L' := [some (.ref 0), some (.int v1), some (.int (pX9_said f)), none, none, none, none, none]) dX11_years_24 rfl (Nat.le_of_ble_eq_true rfl) rfl ?_
      refine X.iconst (v := (0 : Int32)) dX11_years_25 (by decide) ?_
      refine X.istore_n (i := 3) (L' := [some (.ref 0), some (.int v1), some (.int (pX9_said f)), some (.int (0 : Int32)), none, none, none, none]) dX11_years_26 rfl (Nat.le_of_ble_eq_true rfl) rfl ?_
      refine X.iconst (v := (0 : Int32)) dX11_years_27 (by decide) ?_
      refine X.istore (i := 4) (L' := [some (.ref 0), some (.int v1), some (.int (pX9_said f)), some (.int (0 : Int32)), some (.int (0 : Int32)), none, none, none]) dX11_years_28 (Nat.le_of_ble_eq_true rfl) rfl ?_
      exact X.weaken (xle_c (xle_c (xle_c (xle_c (xle_c (xle_n (xle_n (xle_n xle_e)))))))) (tX11_years_b30 F h)
    · rw [if_neg c2] at h
      refine X.bipush (v := (-2 : Int32)) dX11_years_11 (by decide) ?_
      obtain rfl := Option.some.inj h
      exact X.iret dX11_years_13 rfl rfl
def pX7_holds_4 (v1 : Int32) : Int32 := (if v1 < 0 then (0 : Int32) else (if ((18 : Int32) / (9 : Int32)) ≤ v1 then (0 : Int32) else (1 : Int32)))
set_option maxRecDepth 100000 in
set_option maxHeartbeats 4000000 in
theorem tX7_holds_4 {f : xM} {g : xN} {v1 : Int32} {r : Int32} (h : pX7_holds_4 v1 = r) : XT mX7_holds 0 [.ref 4, .int v1] f g (some (.int r), f, g) := by
  unfold pX7_holds_4 at h
  refine XT.of (L := [some (.ref 4), some (.int v1)]) [some (.ref 4), some (.int v1)] rfl (Nat.le_of_ble_eq_true rfl) rfl (xle_c (xle_c xle_e)) ?_
  refine X.iload_n (i := 1) dX7_holds_0 rfl rfl ?_
  refine X.if_lt (tgt := 20) dX7_holds_1 (by decide) (fun c1 => ?_) (fun c1 => ?_)
  · rw [if_pos c1] at h
    refine X.iconst (v := (0 : Int32)) dX7_holds_20 (by decide) ?_
    subst h
    exact X.zret dX7_holds_21 rfl rfl rfl
  · rw [if_neg c1] at h
    refine X.iload_n (i := 1) dX7_holds_4 rfl rfl ?_
    refine X.aload_n (i := 0) dX7_holds_5 rfl rfl ?_
    refine X.getR (k0 := 0) kX7 sC_4 (Nat.le_of_ble_eq_true rfl) rfl lfX7_15 dX7_holds_6 ?_
    refine X.alen (v := (18 : Int32)) sC_20 (by decide) dX7_holds_9 ?_
    refine X.bipush (v := (9 : Int32)) dX7_holds_10 (by decide) ?_
    refine X.idiv dX7_holds_12 (by decide) ?_
    refine X.icmp_ge (tgt := 20) dX7_holds_13 (by decide) (fun c2 => ?_) (fun c2 => ?_)
    · rw [if_pos c2] at h
      refine X.iconst (v := (0 : Int32)) dX7_holds_20 (by decide) ?_
      subst h
      exact X.zret dX7_holds_21 rfl rfl rfl
    · rw [if_neg c2] at h
      refine X.iconst (v := (1 : Int32)) dX7_holds_16 (by decide) ?_
      refine X.goto (tgt := 21) dX7_holds_17 (by decide) ?_
      subst h
      exact X.zret dX7_holds_21 rfl rfl rfl
def pX7_put_4 (v1 : Int32) (f : xM) : Option (xM) := (if (pX7_holds_4 v1) = 0 then some (f) else (if xcok (0 : Int32) (v1 * (9 : Int32)) (9 : Int32) 9 18 then some ((xrow f 20 (va_cpy (f 19) (f 20) (0 : Int32).toNatClampNeg (v1 * (9 : Int32)).toNatClampNeg (9 : Int32).toNatClampNeg))) else none))
set_option maxRecDepth 100000 in
set_option maxHeartbeats 4000000 in
theorem tX7_put_4 {g : xN} {v1 : Int32} {f : xM} {r : xM} (h : pX7_put_4 v1 f = some r) : XT mX7_put 1 [.ref 4, .int v1, .ref 11] f g (none, r, g) := by
  unfold pX7_put_4 at h
  refine XT.of (L := [some (.ref 4), some (.int v1), some (.ref 11)]) [some (.ref 4), some (.int v1), some (.ref 11)] rfl (Nat.le_of_ble_eq_true rfl) rfl (xle_c (xle_c (xle_c xle_e))) ?_
  refine X.aload_n (i := 0) dX7_put_0 rfl rfl ?_
  refine X.iload_n (i := 1) dX7_put_1 rfl rfl ?_
  refine X.callV (μ' := mX7_holds) (As := [.int v1]) (st := []) (st1 := [.int (pX7_holds_4 v1)]) (r := some (.int (pX7_holds_4 v1))) (f' := f) (g' := g) (tX7_holds_4 rfl) (Nat.le_of_ble_eq_true rfl) cwX7_holds rfl mlX7_21 sC_4 kX7 rfl rfl rfl (Nat.le_of_ble_eq_true rfl) dX7_put_2 ?_
  refine X.if_eq (tgt := 26) dX7_put_5 (by decide) (fun c1 => ?_) (fun c1 => ?_)
  · rw [if_pos c1] at h
    obtain rfl := Option.some.inj h
    exact X.vret dX7_put_26 rfl rfl
  · rw [if_neg c1] at h
    refine X.aload_n (i := 2) dX7_put_8 rfl rfl ?_
    refine X.getRN (k0 := 0) kX9 sC_11 (Nat.le_of_ble_eq_true rfl) rfl lnX7_25 dX7_put_9 ?_
    refine X.iconst (v := (0 : Int32)) dX7_put_12 (by decide) ?_
    refine X.aload_n (i := 0) dX7_put_13 rfl rfl ?_
    refine X.getR (k0 := 0) kX7 sC_4 (Nat.le_of_ble_eq_true rfl) rfl lfX7_15 dX7_put_14 ?_
    refine X.iload_n (i := 1) dX7_put_17 rfl rfl ?_
    refine X.bipush (v := (9 : Int32)) dX7_put_18 (by decide) ?_
    refine X.imul dX7_put_20 ?_
    refine X.bipush (v := (9 : Int32)) dX7_put_21 (by decide) ?_
    by_cases c2 : xcok (0 : Int32) (v1 * (9 : Int32)) (9 : Int32) 9 18
    rotate_left
    · rw [if_neg c2] at h; cases h
    rw [if_pos c2] at h
    refine X.copy mlX7_28 lnat lstatc linitS sC_19 sC_20 c2.1 c2.2.1 c2.2.2.1 c2.2.2.2.1 c2.2.2.2.2 (by decide) (Nat.le_of_ble_eq_true rfl) dX7_put_23 ?_
    obtain rfl := Option.some.inj h
    exact X.vret dX7_put_26 rfl rfl
def pX11_keep (v1 : Int32) (f : xM) : Option (Int32 × xM) := (if v1 < 0 then some (((-1 : Int32), f)) else (if v1 < (2 : Int32) then (Option.bind (pX7_put_4 v1 f) fun q3 => some (((pX9_day (xu q3 0 9 ((q3 0 9) ||| ((1 : Int32) <<< (v1 &&& 31))))), (xu q3 0 9 ((q3 0 9) ||| ((1 : Int32) <<< (v1 &&& 31))))))) else some (((-1 : Int32), f))))
set_option maxRecDepth 100000 in
set_option maxHeartbeats 4000000 in
theorem tX11_keep {g : xN} {v1 : Int32} {f : xM} {r : Int32 × xM} (h : pX11_keep v1 f = some r) : XT mX11_keep 2 [.ref 0, .int v1] f g (some (.int r.1), r.2, g) := by
  unfold pX11_keep at h
  refine XT.of (L := [some (.ref 0), some (.int v1)]) [some (.ref 0), some (.int v1)] rfl (Nat.le_of_ble_eq_true rfl) rfl (xle_c (xle_c xle_e)) ?_
  refine X.iload_n (i := 1) dX11_keep_0 rfl rfl ?_
  refine X.if_lt (tgt := 9) dX11_keep_1 (by decide) (fun c1 => ?_) (fun c1 => ?_)
  · rw [if_pos c1] at h
    refine X.iconst (v := (-1 : Int32)) dX11_keep_9 (by decide) ?_
    obtain rfl := Option.some.inj h
    exact X.iret dX11_keep_10 rfl rfl
  · rw [if_neg c1] at h
    refine X.iload_n (i := 1) dX11_keep_4 rfl rfl ?_
    refine X.iconst (v := (2 : Int32)) dX11_keep_5 (by decide) ?_
    refine X.icmp_lt (tgt := 11) dX11_keep_6 (by decide) (fun c2 => ?_) (fun c2 => ?_)
    · rw [if_pos c2] at h
      refine X.aload_n (i := 0) dX11_keep_11 rfl rfl ?_
      refine X.getR (k0 := 3) kX11 sC_0 (Nat.le_of_ble_eq_true rfl) rfl lfX11_35 dX11_keep_12 ?_
      refine X.iload_n (i := 1) dX11_keep_15 rfl rfl ?_
      refine X.aload_n (i := 0) dX11_keep_16 rfl rfl ?_
      refine X.getR (k0 := 1) kX11 sC_0 (Nat.le_of_ble_eq_true rfl) rfl lfX11_19 dX11_keep_17 ?_
      refine X.getRN (k0 := 1) kX6 sC_2 (Nat.le_of_ble_eq_true rfl) rfl lnX11_106 dX11_keep_20 ?_
      obtain ⟨q3, e3, h⟩ := xbind h
      try dsimp only at h
      refine X.callVN (μ' := mX7_put) (As := [.int v1, .ref 11]) (st := []) (st1 := []) (r := none) (f' := q3) (g' := g) (tX7_put_4 e3) (Nat.le_of_ble_eq_true rfl) cwX7_put rfl mnX11_279 sC_4 kX7 rfl rfl rfl (Nat.le_of_ble_eq_true rfl) dX11_keep_23 ?_
      refine X.aload_n (i := 0) dX11_keep_26 rfl rfl ?_
      refine X.dup dX11_keep_27 rfl ?_
      refine X.getI (k0 := 9) kX11 sC_0 (Nat.le_of_ble_eq_true rfl) rfl lfX11_74 dX11_keep_28 ?_
      refine X.iconst (v := (1 : Int32)) dX11_keep_31 (by decide) ?_
      refine X.iload_n (i := 1) dX11_keep_32 rfl rfl ?_
      refine X.ishl dX11_keep_33 ?_
      refine X.ior dX11_keep_34 ?_
      refine X.putI (k0 := 9) kX11 sC_0 (Nat.le_of_ble_eq_true rfl) rfl lfX11_74 rfl rfl dX11_keep_35 ?_
      refine X.aload_n (i := 0) dX11_keep_38 rfl rfl ?_
      refine X.getR (k0 := 1) kX11 sC_0 (Nat.le_of_ble_eq_true rfl) rfl lfX11_19 dX11_keep_39 ?_
      refine X.getRN (k0 := 1) kX6 sC_2 (Nat.le_of_ble_eq_true rfl) rfl lnX11_106 dX11_keep_42 ?_
      refine X.callVN (μ' := mX9_day) (As := []) (st := []) (st1 := [.int (pX9_day (xu q3 0 9 ((q3 0 9) ||| ((1 : Int32) <<< (v1 &&& 31)))))]) (r := some (.int (pX9_day (xu q3 0 9 ((q3 0 9) ||| ((1 : Int32) <<< (v1 &&& 31))))))) (f' := (xu q3 0 9 ((q3 0 9) ||| ((1 : Int32) <<< (v1 &&& 31))))) (g' := g) (tX9_day rfl) (Nat.le_of_ble_eq_true rfl) cwX9_day rfl mnX11_134 sC_11 kX9 rfl rfl rfl (Nat.le_of_ble_eq_true rfl) dX11_keep_45 ?_
      obtain rfl := Option.some.inj h
      exact X.iret dX11_keep_48 rfl rfl
    · rw [if_neg c2] at h
      refine X.iconst (v := (-1 : Int32)) dX11_keep_9 (by decide) ?_
      obtain rfl := Option.some.inj h
      exact X.iret dX11_keep_10 rfl rfl
def pX7_fetch_4 (v1 : Int32) (f : xM) : Option (xM) := (if (pX7_holds_4 v1) = 0 then some (f) else (if xcok (v1 * (9 : Int32)) (0 : Int32) (9 : Int32) 18 9 then some ((xrow f 19 (va_cpy (f 20) (f 19) (v1 * (9 : Int32)).toNatClampNeg (0 : Int32).toNatClampNeg (9 : Int32).toNatClampNeg))) else none))
set_option maxRecDepth 100000 in
set_option maxHeartbeats 4000000 in
theorem tX7_fetch_4 {g : xN} {v1 : Int32} {f : xM} {r : xM} (h : pX7_fetch_4 v1 f = some r) : XT mX7_fetch 1 [.ref 4, .int v1, .ref 11] f g (none, r, g) := by
  unfold pX7_fetch_4 at h
  refine XT.of (L := [some (.ref 4), some (.int v1), some (.ref 11)]) [some (.ref 4), some (.int v1), some (.ref 11)] rfl (Nat.le_of_ble_eq_true rfl) rfl (xle_c (xle_c (xle_c xle_e))) ?_
  refine X.aload_n (i := 0) dX7_fetch_0 rfl rfl ?_
  refine X.iload_n (i := 1) dX7_fetch_1 rfl rfl ?_
  refine X.callV (μ' := mX7_holds) (As := [.int v1]) (st := []) (st1 := [.int (pX7_holds_4 v1)]) (r := some (.int (pX7_holds_4 v1))) (f' := f) (g' := g) (tX7_holds_4 rfl) (Nat.le_of_ble_eq_true rfl) cwX7_holds rfl mlX7_21 sC_4 kX7 rfl rfl rfl (Nat.le_of_ble_eq_true rfl) dX7_fetch_2 ?_
  refine X.if_eq (tgt := 26) dX7_fetch_5 (by decide) (fun c1 => ?_) (fun c1 => ?_)
  · rw [if_pos c1] at h
    obtain rfl := Option.some.inj h
    exact X.vret dX7_fetch_26 rfl rfl
  · rw [if_neg c1] at h
    refine X.aload_n (i := 0) dX7_fetch_8 rfl rfl ?_
    refine X.getR (k0 := 0) kX7 sC_4 (Nat.le_of_ble_eq_true rfl) rfl lfX7_15 dX7_fetch_9 ?_
    refine X.iload_n (i := 1) dX7_fetch_12 rfl rfl ?_
    refine X.bipush (v := (9 : Int32)) dX7_fetch_13 (by decide) ?_
    refine X.imul dX7_fetch_15 ?_
    refine X.aload_n (i := 2) dX7_fetch_16 rfl rfl ?_
    refine X.getRN (k0 := 0) kX9 sC_11 (Nat.le_of_ble_eq_true rfl) rfl lnX7_25 dX7_fetch_17 ?_
    refine X.iconst (v := (0 : Int32)) dX7_fetch_20 (by decide) ?_
    refine X.bipush (v := (9 : Int32)) dX7_fetch_21 (by decide) ?_
    by_cases c2 : xcok (v1 * (9 : Int32)) (0 : Int32) (9 : Int32) 18 9
    rotate_left
    · rw [if_neg c2] at h; cases h
    rw [if_pos c2] at h
    refine X.copy mlX7_28 lnat lstatc linitS sC_20 sC_19 c2.1 c2.2.1 c2.2.2.1 c2.2.2.2.1 c2.2.2.2.2 (by decide) (Nat.le_of_ble_eq_true rfl) dX7_fetch_23 ?_
    obtain rfl := Option.some.inj h
    exact X.vret dX7_fetch_26 rfl rfl
def pX11_again (v1 : Int32) (f : xM) : Option (Int32 × xM) := (if v1 < 0 then some (((-1 : Int32), f)) else (if v1 < (2 : Int32) then (if (((f 0 9) >>> (v1 &&& 31)) &&& (1 : Int32)) = 0 then some (((-3 : Int32), f)) else (Option.bind (pX7_fetch_4 v1 f) fun q4 => some (((pX9_day (pX3_forget q4)), (pX3_forget q4))))) else some (((-1 : Int32), f))))
set_option maxRecDepth 100000 in
set_option maxHeartbeats 4000000 in
theorem tX11_again {g : xN} {v1 : Int32} {f : xM} {r : Int32 × xM} (h : pX11_again v1 f = some r) : XT mX11_again 2 [.ref 0, .int v1] f g (some (.int r.1), r.2, g) := by
  unfold pX11_again at h
  refine XT.of (L := [some (.ref 0), some (.int v1)]) [some (.ref 0), some (.int v1)] rfl (Nat.le_of_ble_eq_true rfl) rfl (xle_c (xle_c xle_e)) ?_
  refine X.iload_n (i := 1) dX11_again_0 rfl rfl ?_
  refine X.if_lt (tgt := 9) dX11_again_1 (by decide) (fun c1 => ?_) (fun c1 => ?_)
  · rw [if_pos c1] at h
    refine X.iconst (v := (-1 : Int32)) dX11_again_9 (by decide) ?_
    obtain rfl := Option.some.inj h
    exact X.iret dX11_again_10 rfl rfl
  · rw [if_neg c1] at h
    refine X.iload_n (i := 1) dX11_again_4 rfl rfl ?_
    refine X.iconst (v := (2 : Int32)) dX11_again_5 (by decide) ?_
    refine X.icmp_lt (tgt := 11) dX11_again_6 (by decide) (fun c2 => ?_) (fun c2 => ?_)
    · rw [if_pos c2] at h
      refine X.aload_n (i := 0) dX11_again_11 rfl rfl ?_
      refine X.getI (k0 := 9) kX11 sC_0 (Nat.le_of_ble_eq_true rfl) rfl lfX11_74 dX11_again_12 ?_
      refine X.iload_n (i := 1) dX11_again_15 rfl rfl ?_
      refine X.ishr dX11_again_16 ?_
      refine X.iconst (v := (1 : Int32)) dX11_again_17 (by decide) ?_
      refine X.iand dX11_again_18 ?_
      refine X.if_ne (tgt := 25) dX11_again_19 (by decide) (fun c3 => ?_) (fun c3 => ?_)
      · rw [if_neg c3] at h
        refine X.aload_n (i := 0) dX11_again_25 rfl rfl ?_
        refine X.getR (k0 := 3) kX11 sC_0 (Nat.le_of_ble_eq_true rfl) rfl lfX11_35 dX11_again_26 ?_
        refine X.iload_n (i := 1) dX11_again_29 rfl rfl ?_
        refine X.aload_n (i := 0) dX11_again_30 rfl rfl ?_
        refine X.getR (k0 := 1) kX11 sC_0 (Nat.le_of_ble_eq_true rfl) rfl lfX11_19 dX11_again_31 ?_
        refine X.getRN (k0 := 1) kX6 sC_2 (Nat.le_of_ble_eq_true rfl) rfl lnX11_106 dX11_again_34 ?_
        obtain ⟨q4, e4, h⟩ := xbind h
        try dsimp only at h
        refine X.callVN (μ' := mX7_fetch) (As := [.int v1, .ref 11]) (st := []) (st1 := []) (r := none) (f' := q4) (g' := g) (tX7_fetch_4 e4) (Nat.le_of_ble_eq_true rfl) cwX7_fetch rfl mnX11_283 sC_4 kX7 rfl rfl rfl (Nat.le_of_ble_eq_true rfl) dX11_again_37 ?_
        refine X.aload_n (i := 0) dX11_again_40 rfl rfl ?_
        refine X.getR (k0 := 2) kX11 sC_0 (Nat.le_of_ble_eq_true rfl) rfl lfX11_26 dX11_again_41 ?_
        refine X.callVN (μ' := mX3_forget) (As := []) (st := []) (st1 := []) (r := none) (f' := (pX3_forget q4)) (g' := g) (tX3_forget rfl) (Nat.le_of_ble_eq_true rfl) cwX3_forget rfl mnX11_97 sC_3 kX3 rfl rfl rfl (Nat.le_of_ble_eq_true rfl) dX11_again_44 ?_
        refine X.aload_n (i := 0) dX11_again_47 rfl rfl ?_
        refine X.getR (k0 := 1) kX11 sC_0 (Nat.le_of_ble_eq_true rfl) rfl lfX11_19 dX11_again_48 ?_
        refine X.getRN (k0 := 1) kX6 sC_2 (Nat.le_of_ble_eq_true rfl) rfl lnX11_106 dX11_again_51 ?_
        refine X.callVN (μ' := mX9_day) (As := []) (st := []) (st1 := [.int (pX9_day (pX3_forget q4))]) (r := some (.int (pX9_day (pX3_forget q4)))) (f' := (pX3_forget q4)) (g' := g) (tX9_day rfl) (Nat.le_of_ble_eq_true rfl) cwX9_day rfl mnX11_134 sC_11 kX9 rfl rfl rfl (Nat.le_of_ble_eq_true rfl) dX11_again_54 ?_
        obtain rfl := Option.some.inj h
        exact X.iret dX11_again_57 rfl rfl
      · rw [if_pos c3] at h
        refine X.bipush (v := (-3 : Int32)) dX11_again_22 (by decide) ?_
        obtain rfl := Option.some.inj h
        exact X.iret dX11_again_24 rfl rfl
    · rw [if_neg c2] at h
      refine X.iconst (v := (-1 : Int32)) dX11_again_9 (by decide) ?_
      obtain rfl := Option.some.inj h
      exact X.iret dX11_again_10 rfl rfl
