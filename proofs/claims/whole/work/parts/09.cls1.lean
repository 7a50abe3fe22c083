def pX10_add (v1 : Int32) (f : xM) : Option (Int32 × xM) := (if (f 1 4) < 0 then some (((0 : Int32), f)) else (if (f 1 4) < (40 : Int32) then (if xin (f 1 4) 40 then some (((1 : Int32), (xu (xu f 13 (f 1 4).toNatClampNeg v1) 1 4 (((xu f 13 (f 1 4).toNatClampNeg v1) 1 4) + (1 : Int32))))) else none) else some (((0 : Int32), f))))
set_option maxRecDepth 100000 in
set_option maxHeartbeats 4000000 in
theorem tX10_add {g : xN} {v1 : Int32} {f : xM} {r : Int32 × xM} (h : pX10_add v1 f = some r) : XT mX10_add 0 [.ref 1, .int v1] f g (some (.int r.1), r.2, g) := by
  unfold pX10_add at h
  refine XT.of (L := [some (.ref 1), some (.int v1)]) [some (.ref 1), some (.int v1)] rfl (Nat.le_of_ble_eq_true rfl) rfl (xle_c (xle_c xle_e)) ?_
  refine X.aload_n (i := 0) dX10_add_0 rfl rfl ?_
  refine X.getI (k0 := 4) kX10 sC_1 (Nat.le_of_ble_eq_true rfl) rfl lfX10_24 dX10_add_1 ?_
  refine X.if_lt (tgt := 19) dX10_add_4 (by decide) (fun c1 => ?_) (fun c1 => ?_)
  · rw [if_pos c1] at h
    refine X.iconst (v := (0 : Int32)) dX10_add_19 (by decide) ?_
    obtain rfl := Option.some.inj h
    exact X.zret dX10_add_20 rfl rfl rfl
  · rw [if_neg c1] at h
    refine X.aload_n (i := 0) dX10_add_7 rfl rfl ?_
    refine X.getI (k0 := 4) kX10 sC_1 (Nat.le_of_ble_eq_true rfl) rfl lfX10_24 dX10_add_8 ?_
    refine X.aload_n (i := 0) dX10_add_11 rfl rfl ?_
    refine X.getR (k0 := 0) kX10 sC_1 (Nat.le_of_ble_eq_true rfl) rfl lfX10_9 dX10_add_12 ?_
    refine X.alen (v := (40 : Int32)) sC_13 (by decide) dX10_add_15 ?_
    refine X.icmp_lt (tgt := 21) dX10_add_16 (by decide) (fun c2 => ?_) (fun c2 => ?_)
    · rw [if_pos c2] at h
      refine X.aload_n (i := 0) dX10_add_21 rfl rfl ?_
      refine X.getR (k0 := 0) kX10 sC_1 (Nat.le_of_ble_eq_true rfl) rfl lfX10_9 dX10_add_22 ?_
      refine X.aload_n (i := 0) dX10_add_25 rfl rfl ?_
      refine X.getI (k0 := 4) kX10 sC_1 (Nat.le_of_ble_eq_true rfl) rfl lfX10_24 dX10_add_26 ?_
      refine X.iload_n (i := 1) dX10_add_29 rfl rfl ?_
      by_cases c3 : xin (f 1 4) 40
      rotate_left
      · rw [if_neg c3] at h; cases h
      rw [if_pos c3] at h
      refine X.iast sC_13 c3 dX10_add_30 ?_
      refine X.aload_n (i := 0) dX10_add_31 rfl rfl ?_
      refine X.dup dX10_add_32 rfl ?_
      refine X.getI (k0 := 4) kX10 sC_1 (Nat.le_of_ble_eq_true rfl) rfl lfX10_24 dX10_add_33 ?_
      refine X.iconst (v := (1 : Int32)) dX10_add_36 (by decide) ?_
      refine X.iadd dX10_add_37 ?_
      refine X.putI (k0 := 4) kX10 sC_1 (Nat.le_of_ble_eq_true rfl) rfl lfX10_24 rfl rfl dX10_add_38 ?_
      refine X.iconst (v := (1 : Int32)) dX10_add_41 (by decide) ?_
      obtain rfl := Option.some.inj h
      exact X.zret dX10_add_42 rfl rfl rfl
    · rw [if_neg c2] at h
      refine X.iconst (v := (0 : Int32)) dX10_add_19 (by decide) ?_
      obtain rfl := Option.some.inj h
      exact X.zret dX10_add_20 rfl rfl rfl
def pX11_write (v1 : Int32) (f : xM) : Option (Int32 × xM) := (if v1 < 0 then some (((-2 : Int32), f)) else (if v1 ≤ (255 : Int32) then (Option.bind (pX10_add v1 f) fun q3 => (if q3.1 = 0 then some (((-4 : Int32), q3.2)) else some (((q3.2 1 4), q3.2)))) else some (((-2 : Int32), f))))
set_option maxRecDepth 100000 in
set_option maxHeartbeats 4000000 in
theorem tX11_write {g : xN} {v1 : Int32} {f : xM} {r : Int32 × xM} (h : pX11_write v1 f = some r) : XT mX11_write 1 [.ref 0, .int v1] f g (some (.int r.1), r.2, g) := by
  unfold pX11_write at h
  refine XT.of (L := [some (.ref 0), some (.int v1)]) [some (.ref 0), some (.int v1)] rfl (Nat.le_of_ble_eq_true rfl) rfl (xle_c (xle_c xle_e)) ?_
  refine X.iload_n (i := 1) dX11_write_0 rfl rfl ?_
  refine X.if_lt (tgt := 11) dX11_write_1 (by decide) (fun c1 => ?_) (fun c1 => ?_)
  · rw [if_pos c1] at h
    refine X.bipush (v := (-2 : Int32)) dX11_write_11 (by decide) ?_
    obtain rfl := Option.some.inj h
    exact X.iret dX11_write_13 rfl rfl
  · rw [if_neg c1] at h
    refine X.iload_n (i := 1) dX11_write_4 rfl rfl ?_
    refine X.sipush (v := (255 : Int32)) dX11_write_5 (by decide) ?_
    refine X.icmp_le (tgt := 14) dX11_write_8 (by decide) (fun c2 => ?_) (fun c2 => ?_)
    · rw [if_pos c2] at h
      refine X.aload_n (i := 0) dX11_write_14 rfl rfl ?_
      refine X.getR (k0 := 0) kX11 sC_0 (Nat.le_of_ble_eq_true rfl) rfl lfX11_12 dX11_write_15 ?_
      refine X.iload_n (i := 1) dX11_write_18 rfl rfl ?_
      obtain ⟨q3, e3, h⟩ := xbind h
      try dsimp only at h
      refine X.callVN (μ' := mX10_add) (As := [.int v1]) (st := []) (st1 := [.int q3.1]) (r := some (.int q3.1)) (f' := q3.2) (g' := g) (tX10_add e3) (Nat.le_of_ble_eq_true rfl) cwX10_add rfl mnX11_82 sC_1 kX10 rfl rfl rfl (Nat.le_of_ble_eq_true rfl) dX11_write_19 ?_
      refine X.if_eq (tgt := 35) dX11_write_22 (by decide) (fun c4 => ?_) (fun c4 => ?_)
      · rw [if_pos c4] at h
        refine X.bipush (v := (-4 : Int32)) dX11_write_35 (by decide) ?_
        obtain rfl := Option.some.inj h
        exact X.iret dX11_write_37 rfl rfl
      · rw [if_neg c4] at h
        refine X.aload_n (i := 0) dX11_write_25 rfl rfl ?_
        refine X.getR (k0 := 0) kX11 sC_0 (Nat.le_of_ble_eq_true rfl) rfl lfX11_12 dX11_write_26 ?_
        refine X.getIN (k0 := 4) kX10 sC_1 (Nat.le_of_ble_eq_true rfl) rfl lnX11_86 dX11_write_29 ?_
        refine X.goto (tgt := 37) dX11_write_32 (by decide) ?_
        obtain rfl := Option.some.inj h
        exact X.iret dX11_write_37 rfl rfl
    · rw [if_neg c2] at h
      refine X.bipush (v := (-2 : Int32)) dX11_write_11 (by decide) ?_
      obtain rfl := Option.some.inj h
      exact X.iret dX11_write_13 rfl rfl
def pX11_wipe (f : xM) : Int32 × xM := ((f 1 4), (xu f 1 4 (0 : Int32)))
set_option maxRecDepth 100000 in
set_option maxHeartbeats 4000000 in
theorem tX11_wipe {g : xN} {f : xM} {r : Int32 × xM} (h : pX11_wipe f = r) : XT mX11_wipe 0 [.ref 0] f g (some (.int r.1), r.2, g) := by
  unfold pX11_wipe at h
  refine XT.of (L := [some (.ref 0), none]) [some (.ref 0)] rfl (Nat.le_of_ble_eq_true rfl) rfl (xle_c (xle_z xle_e)) ?_
  refine X.aload_n (i := 0) dX11_wipe_0 rfl rfl ?_
  refine X.getR (k0 := 0) kX11 sC_0 (Nat.le_of_ble_eq_true rfl) rfl lfX11_12 dX11_wipe_1 ?_
  refine X.getIN (k0 := 4) kX10 sC_1 (Nat.le_of_ble_eq_true rfl) rfl lnX11_86 dX11_wipe_4 ?_
  refine X.istore_n (i := 1) (L' := [some (.ref 0), some (.int (f 1 4))]) dX11_wipe_7 rfl (Nat.le_of_ble_eq_true rfl) rfl ?_
  refine X.aload_n (i := 0) dX11_wipe_8 rfl rfl ?_
  refine X.getR (k0 := 0) kX11 sC_0 (Nat.le_of_ble_eq_true rfl) rfl lfX11_12 dX11_wipe_9 ?_
  refine X.iconst (v := (0 : Int32)) dX11_wipe_12 (by decide) ?_
  refine X.putIN (k0 := 4) kX10 sC_1 (Nat.le_of_ble_eq_true rfl) rfl lnX11_86 rfl rfl dX11_wipe_13 ?_
  refine X.iload_n (i := 1) dX11_wipe_16 rfl rfl ?_
  subst h
  exact X.iret dX11_wipe_17 rfl rfl
def pX10_acceptsLeft (v1 : Int32) (f : xM) : Option (Int32 × xM) := (if (f 1 6) < 0 then some (((0 : Int32), f)) else (if (4 : Int32) ≤ (f 1 6) then some (((0 : Int32), f)) else (if (f 1 6) < (4 : Int32) then (if (v1 - (48 : Int32)) < 0 then some (((0 : Int32), f)) else (if xin (f 1 6) 4 then (if (v1 - (48 : Int32)) < (f 15 (f 1 6).toNatClampNeg) then (if xin (f 1 6) 4 then some (((1 : Int32), (xu (xu (xu f 16 (f 1 6).toNatClampNeg (v1 - (48 : Int32))) 1 6 (((xu f 16 (f 1 6).toNatClampNeg (v1 - (48 : Int32))) 1 6) + (1 : Int32))) 1 11 (3 : Int32)))) else none) else some (((0 : Int32), f))) else none)) else some (((0 : Int32), f)))))
set_option maxRecDepth 100000 in
set_option maxHeartbeats 4000000 in
theorem tX10_acceptsLeft {g : xN} {v1 : Int32} {f : xM} {r : Int32 × xM} (h : pX10_acceptsLeft v1 f = some r) : XT mX10_acceptsLeft 0 [.ref 1, .int v1] f g (some (.int r.1), r.2, g) := by
  unfold pX10_acceptsLeft at h
  refine XT.of (L := [some (.ref 1), some (.int v1), none]) [some (.ref 1), some (.int v1)] rfl (Nat.le_of_ble_eq_true rfl) rfl (xle_c (xle_c (xle_z xle_e))) ?_
  refine X.iload_n (i := 1) dX10_acceptsLeft_0 rfl rfl ?_
  refine X.bipush (v := (48 : Int32)) dX10_acceptsLeft_1 (by decide) ?_
  refine X.isub dX10_acceptsLeft_3 ?_
  refine X.istore_n (i := 2) (L' := [some (.ref 1), some (.int v1), some (.int (v1 - (48 : Int32)))]) dX10_acceptsLeft_4 rfl (Nat.le_of_ble_eq_true rfl) rfl ?_
  refine X.aload_n (i := 0) dX10_acceptsLeft_5 rfl rfl ?_
  refine X.getI (k0 := 6) kX10 sC_1 (Nat.le_of_ble_eq_true rfl) rfl lfX10_31 dX10_acceptsLeft_6 ?_
  refine X.if_lt (tgt := 36) dX10_acceptsLeft_9 (by decide) (fun c1 => ?_) (fun c1 => ?_)
  · rw [if_pos c1] at h
    refine X.iconst (v := (0 : Int32)) dX10_acceptsLeft_36 (by decide) ?_
    obtain rfl := Option.some.inj h
    exact X.zret dX10_acceptsLeft_37 rfl rfl rfl
  · rw [if_neg c1] at h
    refine X.aload_n (i := 0) dX10_acceptsLeft_12 rfl rfl ?_
    refine X.getI (k0 := 6) kX10 sC_1 (Nat.le_of_ble_eq_true rfl) rfl lfX10_31 dX10_acceptsLeft_13 ?_
    refine X.aload_n (i := 0) dX10_acceptsLeft_16 rfl rfl ?_
    refine X.getR (k0 := 2) kX10 sC_1 (Nat.le_of_ble_eq_true rfl) rfl lfX10_18 dX10_acceptsLeft_17 ?_
    refine X.alen (v := (4 : Int32)) sC_15 (by decide) dX10_acceptsLeft_20 ?_
    refine X.icmp_ge (tgt := 36) dX10_acceptsLeft_21 (by decide) (fun c2 => ?_) (fun c2 => ?_)
    · rw [if_pos c2] at h
      refine X.iconst (v := (0 : Int32)) dX10_acceptsLeft_36 (by decide) ?_
      obtain rfl := Option.some.inj h
      exact X.zret dX10_acceptsLeft_37 rfl rfl rfl
    · rw [if_neg c2] at h
      refine X.aload_n (i := 0) dX10_acceptsLeft_24 rfl rfl ?_
      refine X.getI (k0 := 6) kX10 sC_1 (Nat.le_of_ble_eq_true rfl) rfl lfX10_31 dX10_acceptsLeft_25 ?_
      refine X.aload_n (i := 0) dX10_acceptsLeft_28 rfl rfl ?_
      refine X.getR (k0 := 3) kX10 sC_1 (Nat.le_of_ble_eq_true rfl) rfl lfX10_21 dX10_acceptsLeft_29 ?_
      refine X.alen (v := (4 : Int32)) sC_16 (by decide) dX10_acceptsLeft_32 ?_
      refine X.icmp_lt (tgt := 38) dX10_acceptsLeft_33 (by decide) (fun c3 => ?_) (fun c3 => ?_)
      · rw [if_pos c3] at h
        refine X.iload_n (i := 2) dX10_acceptsLeft_38 rfl rfl ?_
        refine X.if_lt (tgt := 55) dX10_acceptsLeft_39 (by decide) (fun c4 => ?_) (fun c4 => ?_)
        · rw [if_pos c4] at h
          refine X.iconst (v := (0 : Int32)) dX10_acceptsLeft_55 (by decide) ?_
          obtain rfl := Option.some.inj h
          exact X.zret dX10_acceptsLeft_56 rfl rfl rfl
        · rw [if_neg c4] at h
          refine X.iload_n (i := 2) dX10_acceptsLeft_42 rfl rfl ?_
          refine X.aload_n (i := 0) dX10_acceptsLeft_43 rfl rfl ?_
          refine X.getR (k0 := 2) kX10 sC_1 (Nat.le_of_ble_eq_true rfl) rfl lfX10_18 dX10_acceptsLeft_44 ?_
          refine X.aload_n (i := 0) dX10_acceptsLeft_47 rfl rfl ?_
          refine X.getI (k0 := 6) kX10 sC_1 (Nat.le_of_ble_eq_true rfl) rfl lfX10_31 dX10_acceptsLeft_48 ?_
          by_cases c5 : xin (f 1 6) 4
          rotate_left
          · rw [if_neg c5] at h; cases h
          rw [if_pos c5] at h
          refine X.iald sC_15 c5 dX10_acceptsLeft_51 ?_
          refine X.icmp_lt (tgt := 57) dX10_acceptsLeft_52 (by decide) (fun c6 => ?_) (fun c6 => ?_)
          · rw [if_pos c6] at h
            refine X.aload_n (i := 0) dX10_acceptsLeft_57 rfl rfl ?_
            refine X.getR (k0 := 3) kX10 sC_1 (Nat.le_of_ble_eq_true rfl) rfl lfX10_21 dX10_acceptsLeft_58 ?_
            refine X.aload_n (i := 0) dX10_acceptsLeft_61 rfl rfl ?_
            refine X.getI (k0 := 6) kX10 sC_1 (Nat.le_of_ble_eq_true rfl) rfl lfX10_31 dX10_acceptsLeft_62 ?_
            refine X.iload_n (i := 2) dX10_acceptsLeft_65 rfl rfl ?_
            by_cases c7 : xin (f 1 6) 4
            rotate_left
            · rw [if_neg c7] at h; cases h
            rw [if_pos c7] at h
            refine X.iast sC_16 c7 dX10_acceptsLeft_66 ?_
            refine X.aload_n (i := 0) dX10_acceptsLeft_67 rfl rfl ?_
            refine X.dup dX10_acceptsLeft_68 rfl ?_
            refine X.getI (k0 := 6) kX10 sC_1 (Nat.le_of_ble_eq_true rfl) rfl lfX10_31 dX10_acceptsLeft_69 ?_
            refine X.iconst (v := (1 : Int32)) dX10_acceptsLeft_72 (by decide) ?_
            refine X.iadd dX10_acceptsLeft_73 ?_
            refine X.putI (k0 := 6) kX10 sC_1 (Nat.le_of_ble_eq_true rfl) rfl lfX10_31 rfl rfl dX10_acceptsLeft_74 ?_
            refine X.aload_n (i := 0) dX10_acceptsLeft_77 rfl rfl ?_
            refine X.iconst (v := (3 : Int32)) dX10_acceptsLeft_78 (by decide) ?_
            refine X.putI (k0 := 11) kX10 sC_1 (Nat.le_of_ble_eq_true rfl) rfl lfX10_46 rfl rfl dX10_acceptsLeft_79 ?_
            refine X.iconst (v := (1 : Int32)) dX10_acceptsLeft_82 (by decide) ?_
            obtain rfl := Option.some.inj h
            exact X.zret dX10_acceptsLeft_83 rfl rfl rfl
          · rw [if_neg c6] at h
            refine X.iconst (v := (0 : Int32)) dX10_acceptsLeft_55 (by decide) ?_
            obtain rfl := Option.some.inj h
            exact X.zret dX10_acceptsLeft_56 rfl rfl rfl
      · rw [if_neg c3] at h
        refine X.iconst (v := (0 : Int32)) dX10_acceptsLeft_36 (by decide) ?_
        obtain rfl := Option.some.inj h
        exact X.zret dX10_acceptsLeft_37 rfl rfl rfl
def pX10_acceptsPeriod (v1 : Int32) (f : xM) : Option (Int32 × xM) := (if (v1 - (48 : Int32)) < (1 : Int32) then some (((0 : Int32), f)) else (if (4 : Int32) < (v1 - (48 : Int32)) then some (((0 : Int32), f)) else (if (f 1 6) < 0 then some (((0 : Int32), f)) else (if (f 1 6) < (4 : Int32) then (if xin (f 1 6) 4 then some (((1 : Int32), (xu (xu f 15 (f 1 6).toNatClampNeg (v1 - (48 : Int32))) 1 11 (6 : Int32)))) else none) else some (((0 : Int32), f))))))
set_option maxRecDepth 100000 in
set_option maxHeartbeats 4000000 in
theorem tX10_acceptsPeriod {g : xN} {v1 : Int32} {f : xM} {r : Int32 × xM} (h : pX10_acceptsPeriod v1 f = some r) : XT mX10_acceptsPeriod 0 [.ref 1, .int v1] f g (some (.int r.1), r.2, g) := by
  unfold pX10_acceptsPeriod at h
  refine XT.of (L := [some (.ref 1), some (.int v1), none]) [some (.ref 1), some (.int v1)] rfl (Nat.le_of_ble_eq_true rfl) rfl (xle_c (xle_c (xle_z xle_e))) ?_
  refine X.iload_n (i := 1) dX10_acceptsPeriod_0 rfl rfl ?_
  refine X.bipush (v := (48 : Int32)) dX10_acceptsPeriod_1 (by decide) ?_
  refine X.isub dX10_acceptsPeriod_3 ?_
  refine X.istore_n (i := 2) (L' := [some (.ref 1), some (.int v1), some (.int (v1 - (48 : Int32)))]) dX10_acceptsPeriod_4 rfl (Nat.le_of_ble_eq_true rfl) rfl ?_
  refine X.iload_n (i := 2) dX10_acceptsPeriod_5 rfl rfl ?_
  refine X.iconst (v := (1 : Int32)) dX10_acceptsPeriod_6 (by decide) ?_
  refine X.icmp_lt (tgt := 34) dX10_acceptsPeriod_7 (by decide) (fun c1 => ?_) (fun c1 => ?_)
  · rw [if_pos c1] at h
    refine X.iconst (v := (0 : Int32)) dX10_acceptsPeriod_34 (by decide) ?_
    obtain rfl := Option.some.inj h
    exact X.zret dX10_acceptsPeriod_35 rfl rfl rfl
  · rw [if_neg c1] at h
    refine X.iload_n (i := 2) dX10_acceptsPeriod_10 rfl rfl ?_
    refine X.iconst (v := (4 : Int32)) dX10_acceptsPeriod_11 (by decide) ?_
    refine X.icmp_gt (tgt := 34) dX10_acceptsPeriod_12 (by decide) (fun c2 => ?_) (fun c2 => ?_)
    · rw [if_pos c2] at h
      refine X.iconst (v := (0 : Int32)) dX10_acceptsPeriod_34 (by decide) ?_
      obtain rfl := Option.some.inj h
      exact X.zret dX10_acceptsPeriod_35 rfl rfl rfl
    · rw [if_neg c2] at h
      refine X.aload_n (i := 0) dX10_acceptsPeriod_15 rfl rfl ?_
      refine X.getI (k0 := 6) kX10 sC_1 (Nat.le_of_ble_eq_true rfl) rfl lfX10_31 dX10_acceptsPeriod_16 ?_
      refine X.if_lt (tgt := 34) dX10_acceptsPeriod_19 (by decide) (fun c3 => ?_) (fun c3 => ?_)
      · rw [if_pos c3] at h
        refine X.iconst (v := (0 : Int32)) dX10_acceptsPeriod_34 (by decide) ?_
        obtain rfl := Option.some.inj h
        exact X.zret dX10_acceptsPeriod_35 rfl rfl rfl
      · rw [if_neg c3] at h
        refine X.aload_n (i := 0) dX10_acceptsPeriod_22 rfl rfl ?_
        refine X.getI (k0 := 6) kX10 sC_1 (Nat.le_of_ble_eq_true rfl) rfl lfX10_31 dX10_acceptsPeriod_23 ?_
        refine X.aload_n (i := 0) dX10_acceptsPeriod_26 rfl rfl ?_
        refine X.getR (k0 := 2) kX10 sC_1 (Nat.le_of_ble_eq_true rfl) rfl lfX10_18 dX10_acceptsPeriod_27 ?_
        refine X.alen (v := (4 : Int32)) sC_15 (by decide) dX10_acceptsPeriod_30 ?_
        refine X.icmp_lt (tgt := 36) dX10_acceptsPeriod_31 (by decide) (fun c4 => ?_) (fun c4 => ?_)
        · rw [if_pos c4] at h
          refine X.aload_n (i := 0) dX10_acceptsPeriod_36 rfl rfl ?_
          refine X.getR (k0 := 2) kX10 sC_1 (Nat.le_of_ble_eq_true rfl) rfl lfX10_18 dX10_acceptsPeriod_37 ?_
          refine X.aload_n (i := 0) dX10_acceptsPeriod_40 rfl rfl ?_
          refine X.getI (k0 := 6) kX10 sC_1 (Nat.le_of_ble_eq_true rfl) rfl lfX10_31 dX10_acceptsPeriod_41 ?_
          refine X.iload_n (i := 2) dX10_acceptsPeriod_44 rfl rfl ?_
          by_cases c5 : xin (f 1 6) 4
          rotate_left
          · rw [if_neg c5] at h; cases h
          rw [if_pos c5] at h
          refine X.iast sC_15 c5 dX10_acceptsPeriod_45 ?_
          refine X.aload_n (i := 0) dX10_acceptsPeriod_46 rfl rfl ?_
          refine X.bipush (v := (6 : Int32)) dX10_acceptsPeriod_47 (by decide) ?_
          refine X.putI (k0 := 11) kX10 sC_1 (Nat.le_of_ble_eq_true rfl) rfl lfX10_46 rfl rfl dX10_acceptsPeriod_49 ?_
          refine X.iconst (v := (1 : Int32)) dX10_acceptsPeriod_52 (by decide) ?_
          obtain rfl := Option.some.inj h
          exact X.zret dX10_acceptsPeriod_53 rfl rfl rfl
        · rw [if_neg c4] at h
          refine X.iconst (v := (0 : Int32)) dX10_acceptsPeriod_34 (by decide) ?_
          obtain rfl := Option.some.inj h
          exact X.zret dX10_acceptsPeriod_35 rfl rfl rfl
def pX10_acceptsKind (v1 : Int32) (f : xM) : Option (Int32 × xM) := (if (v1 - (48 : Int32)) < 0 then some (((0 : Int32), f)) else (if (4 : Int32) ≤ (v1 - (48 : Int32)) then some (((0 : Int32), f)) else (if (f 1 5) < 0 then some (((0 : Int32), f)) else (if (f 1 5) < (3 : Int32) then (if xin (f 1 5) 3 then some (((1 : Int32), (xu (xu (xu f 14 (f 1 5).toNatClampNeg (v1 - (48 : Int32))) 1 5 (((xu f 14 (f 1 5).toNatClampNeg (v1 - (48 : Int32))) 1 5) + (1 : Int32))) 1 11 (3 : Int32)))) else none) else some (((0 : Int32), f))))))
set_option maxRecDepth 100000 in
set_option maxHeartbeats 4000000 in
theorem tX10_acceptsKind {g : xN} {v1 : Int32} {f : xM} {r : Int32 × xM} (h : pX10_acceptsKind v1 f = some r) : XT mX10_acceptsKind 0 [.ref 1, .int v1] f g (some (.int r.1), r.2, g) := by
  unfold pX10_acceptsKind at h
  refine XT.of (L := [some (.ref 1), some (.int v1), none]) [some (.ref 1), some (.int v1)] rfl (Nat.le_of_ble_eq_true rfl) rfl (xle_c (xle_c (xle_z xle_e))) ?_
  refine X.iload_n (i := 1) dX10_acceptsKind_0 rfl rfl ?_
  refine X.bipush (v := (48 : Int32)) dX10_acceptsKind_1 (by decide) ?_
  refine X.isub dX10_acceptsKind_3 ?_
  refine X.istore_n (i := 2) (L' := [some (.ref 1), some (.int v1), some (.int (v1 - (48 : Int32)))]) dX10_acceptsKind_4 rfl (Nat.le_of_ble_eq_true rfl) rfl ?_
  refine X.iload_n (i := 2) dX10_acceptsKind_5 rfl rfl ?_
  refine X.if_lt (tgt := 33) dX10_acceptsKind_6 (by decide) (fun c1 => ?_) (fun c1 => ?_)
  · rw [if_pos c1] at h
    refine X.iconst (v := (0 : Int32)) dX10_acceptsKind_33 (by decide) ?_
    obtain rfl := Option.some.inj h
    exact X.zret dX10_acceptsKind_34 rfl rfl rfl
  · rw [if_neg c1] at h
    refine X.iload_n (i := 2) dX10_acceptsKind_9 rfl rfl ?_
    refine X.iconst (v := (4 : Int32)) dX10_acceptsKind_10 (by decide) ?_
    refine X.icmp_ge (tgt := 33) dX10_acceptsKind_11 (by decide) (fun c2 => ?_) (fun c2 => ?_)
    · rw [if_pos c2] at h
      refine X.iconst (v := (0 : Int32)) dX10_acceptsKind_33 (by decide) ?_
      obtain rfl := Option.some.inj h
      exact X.zret dX10_acceptsKind_34 rfl rfl rfl
    · rw [if_neg c2] at h
      refine X.aload_n (i := 0) dX10_acceptsKind_14 rfl rfl ?_
      refine X.getI (k0 := 5) kX10 sC_1 (Nat.le_of_ble_eq_true rfl) rfl lfX10_28 dX10_acceptsKind_15 ?_
      refine X.if_lt (tgt := 33) dX10_acceptsKind_18 (by decide) (fun c3 => ?_) (fun c3 => ?_)
      · rw [if_pos c3] at h
        refine X.iconst (v := (0 : Int32)) dX10_acceptsKind_33 (by decide) ?_
        obtain rfl := Option.some.inj h
        exact X.zret dX10_acceptsKind_34 rfl rfl rfl
      · rw [if_neg c3] at h
        refine X.aload_n (i := 0) dX10_acceptsKind_21 rfl rfl ?_
        refine X.getI (k0 := 5) kX10 sC_1 (Nat.le_of_ble_eq_true rfl) rfl lfX10_28 dX10_acceptsKind_22 ?_
        refine X.aload_n (i := 0) dX10_acceptsKind_25 rfl rfl ?_
        refine X.getR (k0 := 1) kX10 sC_1 (Nat.le_of_ble_eq_true rfl) rfl lfX10_15 dX10_acceptsKind_26 ?_
        refine X.alen (v := (3 : Int32)) sC_14 (by decide) dX10_acceptsKind_29 ?_
        refine X.icmp_lt (tgt := 35) dX10_acceptsKind_30 (by decide) (fun c4 => ?_) (fun c4 => ?_)
        · rw [if_pos c4] at h
          refine X.aload_n (i := 0) dX10_acceptsKind_35 rfl rfl ?_
          refine X.getR (k0 := 1) kX10 sC_1 (Nat.le_of_ble_eq_true rfl) rfl lfX10_15 dX10_acceptsKind_36 ?_
          refine X.aload_n (i := 0) dX10_acceptsKind_39 rfl rfl ?_
          refine X.getI (k0 := 5) kX10 sC_1 (Nat.le_of_ble_eq_true rfl) rfl lfX10_28 dX10_acceptsKind_40 ?_
          refine X.iload_n (i := 2) dX10_acceptsKind_43 rfl rfl ?_
          by_cases c5 : xin (f 1 5) 3
          rotate_left
          · rw [if_neg c5] at h; cases h
          rw [if_pos c5] at h
          refine X.iast sC_14 c5 dX10_acceptsKind_44 ?_
          refine X.aload_n (i := 0) dX10_acceptsKind_45 rfl rfl ?_
          refine X.dup dX10_acceptsKind_46 rfl ?_
          refine X.getI (k0 := 5) kX10 sC_1 (Nat.le_of_ble_eq_true rfl) rfl lfX10_28 dX10_acceptsKind_47 ?_
          refine X.iconst (v := (1 : Int32)) dX10_acceptsKind_50 (by decide) ?_
          refine X.iadd dX10_acceptsKind_51 ?_
          refine X.putI (k0 := 5) kX10 sC_1 (Nat.le_of_ble_eq_true rfl) rfl lfX10_28 rfl rfl dX10_acceptsKind_52 ?_
          refine X.aload_n (i := 0) dX10_acceptsKind_55 rfl rfl ?_
          refine X.iconst (v := (3 : Int32)) dX10_acceptsKind_56 (by decide) ?_
          refine X.putI (k0 := 11) kX10 sC_1 (Nat.le_of_ble_eq_true rfl) rfl lfX10_46 rfl rfl dX10_acceptsKind_57 ?_
          refine X.iconst (v := (1 : Int32)) dX10_acceptsKind_60 (by decide) ?_
          obtain rfl := Option.some.inj h
          exact X.zret dX10_acceptsKind_61 rfl rfl rfl
        · rw [if_neg c4] at h
          refine X.iconst (v := (0 : Int32)) dX10_acceptsKind_33 (by decide) ?_
          obtain rfl := Option.some.inj h
          exact X.zret dX10_acceptsKind_34 rfl rfl rfl
def pX10_acceptsPart (v1 : Int32) (f : xM) : Int32 × xM := (if v1 = (67 : Int32) then (if (3 : Int32) ≤ ((xu f 1 11 (4 : Int32)) 1 5) then ((0 : Int32), (xu f 1 11 (4 : Int32))) else ((1 : Int32), (xu f 1 11 (4 : Int32)))) else (if v1 = (82 : Int32) then (if (4 : Int32) ≤ ((xu f 1 11 (5 : Int32)) 1 6) then ((0 : Int32), (xu f 1 11 (5 : Int32))) else ((1 : Int32), (xu f 1 11 (5 : Int32)))) else ((0 : Int32), (xu f 1 11 (5 : Int32)))))
set_option maxRecDepth 100000 in
set_option maxHeartbeats 4000000 in
theorem tX10_acceptsPart {g : xN} {v1 : Int32} {f : xM} {r : Int32 × xM} (h : pX10_acceptsPart v1 f = r) : XT mX10_acceptsPart 0 [.ref 1, .int v1] f g (some (.int r.1), r.2, g) := by
  unfold pX10_acceptsPart at h
  refine XT.of (L := [some (.ref 1), some (.int v1)]) [some (.ref 1), some (.int v1)] rfl (Nat.le_of_ble_eq_true rfl) rfl (xle_c (xle_c xle_e)) ?_
  refine X.iload_n (i := 1) dX10_acceptsPart_0 rfl rfl ?_
  refine X.bipush (v := (67 : Int32)) dX10_acceptsPart_1 (by decide) ?_
  refine X.icmp_ne (tgt := 25) dX10_acceptsPart_3 (by decide) (fun c1 => ?_) (fun c1 => ?_)
  · rw [if_neg c1] at h
    refine X.aload_n (i := 0) dX10_acceptsPart_25 rfl rfl ?_
    refine X.iconst (v := (5 : Int32)) dX10_acceptsPart_26 (by decide) ?_
    refine X.putI (k0 := 11) kX10 sC_1 (Nat.le_of_ble_eq_true rfl) rfl lfX10_46 rfl rfl dX10_acceptsPart_27 ?_
    refine X.iload_n (i := 1) dX10_acceptsPart_30 rfl rfl ?_
    refine X.bipush (v := (82 : Int32)) dX10_acceptsPart_31 (by decide) ?_
    refine X.icmp_ne (tgt := 48) dX10_acceptsPart_33 (by decide) (fun c2 => ?_) (fun c2 => ?_)
    · rw [if_neg c2] at h
      refine X.iconst (v := (0 : Int32)) dX10_acceptsPart_48 (by decide) ?_
      subst h
      exact X.zret dX10_acceptsPart_49 rfl rfl rfl
    · rw [if_pos c2] at h
      refine X.aload_n (i := 0) dX10_acceptsPart_36 rfl rfl ?_
      refine X.getI (k0 := 6) kX10 sC_1 (Nat.le_of_ble_eq_true rfl) rfl lfX10_31 dX10_acceptsPart_37 ?_
      refine X.iconst (v := (4 : Int32)) dX10_acceptsPart_40 (by decide) ?_
      refine X.icmp_ge (tgt := 48) dX10_acceptsPart_41 (by decide) (fun c3 => ?_) (fun c3 => ?_)
      · rw [if_pos c3] at h
        refine X.iconst (v := (0 : Int32)) dX10_acceptsPart_48 (by decide) ?_
        subst h
        exact X.zret dX10_acceptsPart_49 rfl rfl rfl
      · rw [if_neg c3] at h
        refine X.iconst (v := (1 : Int32)) dX10_acceptsPart_44 (by decide) ?_
        refine X.goto (tgt := 49) dX10_acceptsPart_45 (by decide) ?_
        subst h
        exact X.zret dX10_acceptsPart_49 rfl rfl rfl
  · rw [if_pos c1] at h
    refine X.aload_n (i := 0) dX10_acceptsPart_6 rfl rfl ?_
    refine X.iconst (v := (4 : Int32)) dX10_acceptsPart_7 (by decide) ?_
    refine X.putI (k0 := 11) kX10 sC_1 (Nat.le_of_ble_eq_true rfl) rfl lfX10_46 rfl rfl dX10_acceptsPart_8 ?_
    refine X.aload_n (i := 0) dX10_acceptsPart_11 rfl rfl ?_
    refine X.getI (k0 := 5) kX10 sC_1 (Nat.le_of_ble_eq_true rfl) rfl lfX10_28 dX10_acceptsPart_12 ?_
    refine X.iconst (v := (3 : Int32)) dX10_acceptsPart_15 (by decide) ?_
    refine X.icmp_ge (tgt := 23) dX10_acceptsPart_16 (by decide) (fun c4 => ?_) (fun c4 => ?_)
    · rw [if_pos c4] at h
      refine X.iconst (v := (0 : Int32)) dX10_acceptsPart_23 (by decide) ?_
      subst h
      exact X.zret dX10_acceptsPart_24 rfl rfl rfl
    · rw [if_neg c4] at h
      refine X.iconst (v := (1 : Int32)) dX10_acceptsPart_19 (by decide) ?_
      refine X.goto (tgt := 24) dX10_acceptsPart_20 (by decide) ?_
      subst h
      exact X.zret dX10_acceptsPart_24 rfl rfl rfl
def pX10_isLetter (v0 : Int32) : Int32 := (if v0 < (97 : Int32) then (0 : Int32) else (if (100 : Int32) < v0 then (0 : Int32) else (1 : Int32)))
set_option maxRecDepth 100000 in
set_option maxHeartbeats 4000000 in
theorem tX10_isLetter {f : xM} {g : xN} {v0 : Int32} {r : Int32} (h : pX10_isLetter v0 = r) : XT mX10_isLetter 0 [.int v0] f g (some (.int r), f, g) := by
  unfold pX10_isLetter at h
  refine XT.of (L := [some (.int v0)]) [some (.int v0)] rfl (Nat.le_of_ble_eq_true rfl) rfl (xle_c xle_e) ?_
  refine X.iload_n (i := 0) dX10_isLetter_0 rfl rfl ?_
  refine X.bipush (v := (97 : Int32)) dX10_isLetter_1 (by decide) ?_
  refine X.icmp_lt (tgt := 16) dX10_isLetter_3 (by decide) (fun c1 => ?_) (fun c1 => ?_)
  · rw [if_pos c1] at h
    refine X.iconst (v := (0 : Int32)) dX10_isLetter_16 (by decide) ?_
    subst h
    exact X.zret dX10_isLetter_17 rfl rfl rfl
  · rw [if_neg c1] at h
    refine X.iload_n (i := 0) dX10_isLetter_6 rfl rfl ?_
    refine X.bipush (v := (100 : Int32)) dX10_isLetter_7 (by decide) ?_
    refine X.icmp_gt (tgt := 16) dX10_isLetter_9 (by decide) (fun c2 => ?_) (fun c2 => ?_)
    · rw [if_pos c2] at h
      refine X.iconst (v := (0 : Int32)) dX10_isLetter_16 (by decide) ?_
      subst h
      exact X.zret dX10_isLetter_17 rfl rfl rfl
    · rw [if_neg c2] at h
      refine X.iconst (v := (1 : Int32)) dX10_isLetter_12 (by decide) ?_
      refine X.goto (tgt := 17) dX10_isLetter_13 (by decide) ?_
      subst h
      exact X.zret dX10_isLetter_17 rfl rfl rfl
def pX10_acceptsSaid (v1 : Int32) (f : xM) : Option (Int32 × xM) := (if ((xu (xu f 1 10 (((f 1 10) * (4 : Int32)) + (v1 - (97 : Int32)))) 1 8 (((xu f 1 10 (((f 1 10) * (4 : Int32)) + (v1 - (97 : Int32)))) 1 8) + (1 : Int32))) 1 8) = ((xu (xu f 1 10 (((f 1 10) * (4 : Int32)) + (v1 - (97 : Int32)))) 1 8 (((xu f 1 10 (((f 1 10) * (4 : Int32)) + (v1 - (97 : Int32)))) 1 8) + (1 : Int32))) 1 7) then (if xz (pX10_isLetter v1) then some (((pX10_isLetter v1), (xu (xu (xu f 1 10 (((f 1 10) * (4 : Int32)) + (v1 - (97 : Int32)))) 1 8 (((xu f 1 10 (((f 1 10) * (4 : Int32)) + (v1 - (97 : Int32)))) 1 8) + (1 : Int32))) 1 11 (3 : Int32)))) else none) else (if xz (pX10_isLetter v1) then some (((pX10_isLetter v1), (xu (xu f 1 10 (((f 1 10) * (4 : Int32)) + (v1 - (97 : Int32)))) 1 8 (((xu f 1 10 (((f 1 10) * (4 : Int32)) + (v1 - (97 : Int32)))) 1 8) + (1 : Int32))))) else none))
set_option maxRecDepth 100000 in
set_option maxHeartbeats 4000000 in
theorem tX10_acceptsSaid {g : xN} {v1 : Int32} {f : xM} {r : Int32 × xM} (h : pX10_acceptsSaid v1 f = some r) : XT mX10_acceptsSaid 1 [.ref 1, .int v1] f g (some (.int r.1), r.2, g) := by
  unfold pX10_acceptsSaid at h
  refine XT.of (L := [some (.ref 1), some (.int v1)]) [some (.ref 1), some (.int v1)] rfl (Nat.le_of_ble_eq_true rfl) rfl (xle_c (xle_c xle_e)) ?_
  refine X.aload_n (i := 0) dX10_acceptsSaid_0 rfl rfl ?_
  refine X.aload_n (i := 0) dX10_acceptsSaid_1 rfl rfl ?_
  refine X.getI (k0 := 10) kX10 sC_1 (Nat.le_of_ble_eq_true rfl) rfl lfX10_43 dX10_acceptsSaid_2 ?_
  refine X.iconst (v := (4 : Int32)) dX10_acceptsSaid_5 (by decide) ?_
  refine X.imul dX10_acceptsSaid_6 ?_
  refine X.iload_n (i := 1) dX10_acceptsSaid_7 rfl rfl ?_
  refine X.bipush (v := (97 : Int32)) dX10_acceptsSaid_8 (by decide) ?_
  refine X.isub dX10_acceptsSaid_10 ?_
  refine X.iadd dX10_acceptsSaid_11 ?_
  refine X.putI (k0 := 10) kX10 sC_1 (Nat.le_of_ble_eq_true rfl) rfl lfX10_43 rfl rfl dX10_acceptsSaid_12 ?_
  refine X.aload_n (i := 0) dX10_acceptsSaid_15 rfl rfl ?_
  refine X.dup dX10_acceptsSaid_16 rfl ?_
  refine X.getI (k0 := 8) kX10 sC_1 (Nat.le_of_ble_eq_true rfl) rfl lfX10_37 dX10_acceptsSaid_17 ?_
  refine X.iconst (v := (1 : Int32)) dX10_acceptsSaid_20 (by decide) ?_
  refine X.iadd dX10_acceptsSaid_21 ?_
  refine X.putI (k0 := 8) kX10 sC_1 (Nat.le_of_ble_eq_true rfl) rfl lfX10_37 rfl rfl dX10_acceptsSaid_22 ?_
  refine X.aload_n (i := 0) dX10_acceptsSaid_25 rfl rfl ?_
  refine X.getI (k0 := 8) kX10 sC_1 (Nat.le_of_ble_eq_true rfl) rfl lfX10_37 dX10_acceptsSaid_26 ?_
  refine X.aload_n (i := 0) dX10_acceptsSaid_29 rfl rfl ?_
  refine X.getI (k0 := 7) kX10 sC_1 (Nat.le_of_ble_eq_true rfl) rfl lfX10_34 dX10_acceptsSaid_30 ?_
  refine X.icmp_ne (tgt := 41) dX10_acceptsSaid_33 (by decide) (fun c1 => ?_) (fun c1 => ?_)
  · rw [if_neg c1] at h
    refine X.iload_n (i := 1) dX10_acceptsSaid_41 rfl rfl ?_
    refine X.callS (μ' := mX10_isLetter) (As := [.int v1]) (st := []) (st1 := [.int (pX10_isLetter v1)]) (r := some (.int (pX10_isLetter v1))) (f' := (xu (xu f 1 10 (((f 1 10) * (4 : Int32)) + (v1 - (97 : Int32)))) 1 8 (((xu f 1 10 (((f 1 10) * (4 : Int32)) + (v1 - (97 : Int32)))) 1 8) + (1 : Int32)))) (g' := g) (tX10_isLetter rfl) (Nat.le_of_ble_eq_true rfl) cwX10_isLetter rfl mlX10_74 rfl rfl rfl (Nat.le_of_ble_eq_true rfl) dX10_acceptsSaid_42 ?_
    by_cases c2 : xz (pX10_isLetter v1)
    rotate_left
    · rw [if_neg c2] at h; cases h
    rw [if_pos c2] at h
    obtain rfl := Option.some.inj h
    exact X.zret dX10_acceptsSaid_45 rfl (xz_n c2) rfl
  · rw [if_pos c1] at h
    refine X.aload_n (i := 0) dX10_acceptsSaid_36 rfl rfl ?_
    refine X.iconst (v := (3 : Int32)) dX10_acceptsSaid_37 (by decide) ?_
    refine X.putI (k0 := 11) kX10 sC_1 (Nat.le_of_ble_eq_true rfl) rfl lfX10_46 rfl rfl dX10_acceptsSaid_38 ?_
    refine X.iload_n (i := 1) dX10_acceptsSaid_41 rfl rfl ?_
    refine X.callS (μ' := mX10_isLetter) (As := [.int v1]) (st := []) (st1 := [.int (pX10_isLetter v1)]) (r := some (.int (pX10_isLetter v1))) (f' := (xu (xu (xu f 1 10 (((f 1 10) * (4 : Int32)) + (v1 - (97 : Int32)))) 1 8 (((xu f 1 10 (((f 1 10) * (4 : Int32)) + (v1 - (97 : Int32)))) 1 8) + (1 : Int32))) 1 11 (3 : Int32))) (g' := g) (tX10_isLetter rfl) (Nat.le_of_ble_eq_true rfl) cwX10_isLetter rfl mlX10_74 rfl rfl rfl (Nat.le_of_ble_eq_true rfl) dX10_acceptsSaid_42 ?_
    by_cases c3 : xz (pX10_isLetter v1)
    rotate_left
    · rw [if_neg c3] at h; cases h
    rw [if_pos c3] at h
    obtain rfl := Option.some.inj h
    exact X.zret dX10_acceptsSaid_45 rfl (xz_n c3) rfl
def pX10_acceptsTruth (v1 : Int32) (f : xM) : Int32 × xM := (if v1 = (47 : Int32) then (if ((xu f 1 11 (2 : Int32)) 1 7) ≤ 0 then ((0 : Int32), (xu f 1 11 (2 : Int32))) else ((1 : Int32), (xu f 1 11 (2 : Int32)))) else (if (pX10_isLetter v1) = 0 then ((0 : Int32), (xu (xu f 1 9 (((f 1 9) * (4 : Int32)) + (v1 - (97 : Int32)))) 1 7 (((xu f 1 9 (((f 1 9) * (4 : Int32)) + (v1 - (97 : Int32)))) 1 7) + (1 : Int32)))) else (if (5 : Int32) < ((xu (xu f 1 9 (((f 1 9) * (4 : Int32)) + (v1 - (97 : Int32)))) 1 7 (((xu f 1 9 (((f 1 9) * (4 : Int32)) + (v1 - (97 : Int32)))) 1 7) + (1 : Int32))) 1 7) then ((0 : Int32), (xu (xu f 1 9 (((f 1 9) * (4 : Int32)) + (v1 - (97 : Int32)))) 1 7 (((xu f 1 9 (((f 1 9) * (4 : Int32)) + (v1 - (97 : Int32)))) 1 7) + (1 : Int32)))) else ((1 : Int32), (xu (xu f 1 9 (((f 1 9) * (4 : Int32)) + (v1 - (97 : Int32)))) 1 7 (((xu f 1 9 (((f 1 9) * (4 : Int32)) + (v1 - (97 : Int32)))) 1 7) + (1 : Int32)))))))
set_option maxRecDepth 100000 in
set_option maxHeartbeats 4000000 in
theorem tX10_acceptsTruth {g : xN} {v1 : Int32} {f : xM} {r : Int32 × xM} (h : pX10_acceptsTruth v1 f = r) : XT mX10_acceptsTruth 1 [.ref 1, .int v1] f g (some (.int r.1), r.2, g) := by
  unfold pX10_acceptsTruth at h
  refine XT.of (L := [some (.ref 1), some (.int v1)]) [some (.ref 1), some (.int v1)] rfl (Nat.le_of_ble_eq_true rfl) rfl (xle_c (xle_c xle_e)) ?_
  refine X.iload_n (i := 1) dX10_acceptsTruth_0 rfl rfl ?_
  refine X.bipush (v := (47 : Int32)) dX10_acceptsTruth_1 (by decide) ?_
  refine X.icmp_ne (tgt := 24) dX10_acceptsTruth_3 (by decide) (fun c1 => ?_) (fun c1 => ?_)
  · rw [if_neg c1] at h
    refine X.aload_n (i := 0) dX10_acceptsTruth_24 rfl rfl ?_
    refine X.aload_n (i := 0) dX10_acceptsTruth_25 rfl rfl ?_
    refine X.getI (k0 := 9) kX10 sC_1 (Nat.le_of_ble_eq_true rfl) rfl lfX10_40 dX10_acceptsTruth_26 ?_
    refine X.iconst (v := (4 : Int32)) dX10_acceptsTruth_29 (by decide) ?_
    refine X.imul dX10_acceptsTruth_30 ?_
    refine X.iload_n (i := 1) dX10_acceptsTruth_31 rfl rfl ?_
    refine X.bipush (v := (97 : Int32)) dX10_acceptsTruth_32 (by decide) ?_
    refine X.isub dX10_acceptsTruth_34 ?_
    refine X.iadd dX10_acceptsTruth_35 ?_
    refine X.putI (k0 := 9) kX10 sC_1 (Nat.le_of_ble_eq_true rfl) rfl lfX10_40 rfl rfl dX10_acceptsTruth_36 ?_
    refine X.aload_n (i := 0) dX10_acceptsTruth_39 rfl rfl ?_
    refine X.dup dX10_acceptsTruth_40 rfl ?_
    refine X.getI (k0 := 7) kX10 sC_1 (Nat.le_of_ble_eq_true rfl) rfl lfX10_34 dX10_acceptsTruth_41 ?_
    refine X.iconst (v := (1 : Int32)) dX10_acceptsTruth_44 (by decide) ?_
    refine X.iadd dX10_acceptsTruth_45 ?_
    refine X.putI (k0 := 7) kX10 sC_1 (Nat.le_of_ble_eq_true rfl) rfl lfX10_34 rfl rfl dX10_acceptsTruth_46 ?_
    refine X.iload_n (i := 1) dX10_acceptsTruth_49 rfl rfl ?_
    refine X.callS (μ' := mX10_isLetter) (As := [.int v1]) (st := []) (st1 := [.int (pX10_isLetter v1)]) (r := some (.int (pX10_isLetter v1))) (f' := (xu (xu f 1 9 (((f 1 9) * (4 : Int32)) + (v1 - (97 : Int32)))) 1 7 (((xu f 1 9 (((f 1 9) * (4 : Int32)) + (v1 - (97 : Int32)))) 1 7) + (1 : Int32)))) (g' := g) (tX10_isLetter rfl) (Nat.le_of_ble_eq_true rfl) cwX10_isLetter rfl mlX10_74 rfl rfl rfl (Nat.le_of_ble_eq_true rfl) dX10_acceptsTruth_50 ?_
    refine X.if_eq (tgt := 68) dX10_acceptsTruth_53 (by decide) (fun c2 => ?_) (fun c2 => ?_)
    · rw [if_pos c2] at h
      refine X.iconst (v := (0 : Int32)) dX10_acceptsTruth_68 (by decide) ?_
      subst h
      exact X.zret dX10_acceptsTruth_69 rfl rfl rfl
    · rw [if_neg c2] at h
      refine X.aload_n (i := 0) dX10_acceptsTruth_56 rfl rfl ?_
      refine X.getI (k0 := 7) kX10 sC_1 (Nat.le_of_ble_eq_true rfl) rfl lfX10_34 dX10_acceptsTruth_57 ?_
      refine X.iconst (v := (5 : Int32)) dX10_acceptsTruth_60 (by decide) ?_
      refine X.icmp_gt (tgt := 68) dX10_acceptsTruth_61 (by decide) (fun c3 => ?_) (fun c3 => ?_)
      · rw [if_pos c3] at h
        refine X.iconst (v := (0 : Int32)) dX10_acceptsTruth_68 (by decide) ?_
        subst h
        exact X.zret dX10_acceptsTruth_69 rfl rfl rfl
      · rw [if_neg c3] at h
        refine X.iconst (v := (1 : Int32)) dX10_acceptsTruth_64 (by decide) ?_
        refine X.goto (tgt := 69) dX10_acceptsTruth_65 (by decide) ?_
        subst h
        exact X.zret dX10_acceptsTruth_69 rfl rfl rfl
  · rw [if_pos c1] at h
    refine X.aload_n (i := 0) dX10_acceptsTruth_6 rfl rfl ?_
    refine X.iconst (v := (2 : Int32)) dX10_acceptsTruth_7 (by decide) ?_
    refine X.putI (k0 := 11) kX10 sC_1 (Nat.le_of_ble_eq_true rfl) rfl lfX10_46 rfl rfl dX10_acceptsTruth_8 ?_
    refine X.aload_n (i := 0) dX10_acceptsTruth_11 rfl rfl ?_
    refine X.getI (k0 := 7) kX10 sC_1 (Nat.le_of_ble_eq_true rfl) rfl lfX10_34 dX10_acceptsTruth_12 ?_
    refine X.if_le (tgt := 22) dX10_acceptsTruth_15 (by decide) (fun c4 => ?_) (fun c4 => ?_)
    · rw [if_pos c4] at h
      refine X.iconst (v := (0 : Int32)) dX10_acceptsTruth_22 (by decide) ?_
      subst h
      exact X.zret dX10_acceptsTruth_23 rfl rfl rfl
    · rw [if_neg c4] at h
      refine X.iconst (v := (1 : Int32)) dX10_acceptsTruth_18 (by decide) ?_
      refine X.goto (tgt := 23) dX10_acceptsTruth_19 (by decide) ?_
      subst h
      exact X.zret dX10_acceptsTruth_23 rfl rfl rfl
def pX10_acceptsE (v1 : Int32) (f : xM) : Int32 × xM := (if v1 = (69 : Int32) then ((1 : Int32), (xu f 1 11 (1 : Int32))) else ((0 : Int32), (xu f 1 11 (1 : Int32))))
set_option maxRecDepth 100000 in
set_option maxHeartbeats 4000000 in
theorem tX10_acceptsE {g : xN} {v1 : Int32} {f : xM} {r : Int32 × xM} (h : pX10_acceptsE v1 f = r) : XT mX10_acceptsE 0 [.ref 1, .int v1] f g (some (.int r.1), r.2, g) := by
  unfold pX10_acceptsE at h
  refine XT.of (L := [some (.ref 1), some (.int v1)]) [some (.ref 1), some (.int v1)] rfl (Nat.le_of_ble_eq_true rfl) rfl (xle_c (xle_c xle_e)) ?_
  refine X.aload_n (i := 0) dX10_acceptsE_0 rfl rfl ?_
  refine X.iconst (v := (1 : Int32)) dX10_acceptsE_1 (by decide) ?_
  refine X.putI (k0 := 11) kX10 sC_1 (Nat.le_of_ble_eq_true rfl) rfl lfX10_46 rfl rfl dX10_acceptsE_2 ?_
  refine X.iload_n (i := 1) dX10_acceptsE_5 rfl rfl ?_
  refine X.bipush (v := (69 : Int32)) dX10_acceptsE_6 (by decide) ?_
  refine X.icmp_ne (tgt := 15) dX10_acceptsE_8 (by decide) (fun c1 => ?_) (fun c1 => ?_)
  · rw [if_neg c1] at h
    refine X.iconst (v := (0 : Int32)) dX10_acceptsE_15 (by decide) ?_
    subst h
    exact X.zret dX10_acceptsE_16 rfl rfl rfl
  · rw [if_pos c1] at h
    refine X.iconst (v := (1 : Int32)) dX10_acceptsE_11 (by decide) ?_
    refine X.goto (tgt := 16) dX10_acceptsE_12 (by decide) ?_
    subst h
    exact X.zret dX10_acceptsE_16 rfl rfl rfl
def pX10_accepts (v1 : Int32) (f : xM) : Option (Int32 × xM) := (if (f 1 11) = (0 : Int32) then (if xz (pX10_acceptsE v1 f).1 then some (((pX10_acceptsE v1 f).1, (pX10_acceptsE v1 f).2)) else none) else (if (f 1 11) = (1 : Int32) then (if xz (pX10_acceptsTruth v1 f).1 then some (((pX10_acceptsTruth v1 f).1, (pX10_acceptsTruth v1 f).2)) else none) else (if (f 1 11) = (2 : Int32) then (Option.bind (pX10_acceptsSaid v1 f) fun q6 => (if xz q6.1 then some ((q6.1, q6.2)) else none)) else (if (f 1 11) = (3 : Int32) then (if xz (pX10_acceptsPart v1 f).1 then some (((pX10_acceptsPart v1 f).1, (pX10_acceptsPart v1 f).2)) else none) else (if (f 1 11) = (4 : Int32) then (Option.bind (pX10_acceptsKind v1 f) fun q11 => (if xz q11.1 then some ((q11.1, q11.2)) else none)) else (if (f 1 11) = (5 : Int32) then (Option.bind (pX10_acceptsPeriod v1 f) fun q14 => (if xz q14.1 then some ((q14.1, q14.2)) else none)) else (Option.bind (pX10_acceptsLeft v1 f) fun q16 => (if xz q16.1 then some ((q16.1, q16.2)) else none))))))))
set_option maxRecDepth 100000 in
set_option maxHeartbeats 4000000 in
theorem tX10_accepts {g : xN} {v1 : Int32} {f : xM} {r : Int32 × xM} (h : pX10_accepts v1 f = some r) : XT mX10_accepts 2 [.ref 1, .int v1] f g (some (.int r.1), r.2, g) := by
  unfold pX10_accepts at h
  refine XT.of (L := [some (.ref 1), some (.int v1)]) [some (.ref 1), some (.int v1)] rfl (Nat.le_of_ble_eq_true rfl) rfl (xle_c (xle_c xle_e)) ?_
  refine X.aload_n (i := 0) dX10_accepts_0 rfl rfl ?_
  refine X.getI (k0 := 11) kX10 sC_1 (Nat.le_of_ble_eq_true rfl) rfl lfX10_46 dX10_accepts_1 ?_
  by_cases c1 : (f 1 11) = (0 : Int32)
  · rw [if_pos c1] at h
    refine X.swIn (off := 40) (tgt := 44) dX10_accepts_4 c1 (by decide) (by decide) rfl (by decide) ?_
    refine X.aload_n (i := 0) dX10_accepts_44 rfl rfl ?_
    refine X.iload_n (i := 1) dX10_accepts_45 rfl rfl ?_
    refine X.callV (μ' := mX10_acceptsE) (As := [.int v1]) (st := []) (st1 := [.int (pX10_acceptsE v1 f).1]) (r := some (.int (pX10_acceptsE v1 f).1)) (f' := (pX10_acceptsE v1 f).2) (g' := g) (tX10_acceptsE rfl) (Nat.le_of_ble_eq_true rfl) cwX10_acceptsE rfl mlX10_53 sC_1 kX10 rfl rfl rfl (Nat.le_of_ble_eq_true rfl) dX10_accepts_46 ?_
    by_cases c2 : xz (pX10_acceptsE v1 f).1
    rotate_left
    · rw [if_neg c2] at h; cases h
    rw [if_pos c2] at h
    obtain rfl := Option.some.inj h
    exact X.zret dX10_accepts_49 rfl (xz_n c2) rfl
  rw [if_neg c1] at h
  by_cases c3 : (f 1 11) = (1 : Int32)
  · rw [if_pos c3] at h
    refine X.swIn (off := 46) (tgt := 50) dX10_accepts_4 c3 (by decide) (by decide) rfl (by decide) ?_
    refine X.aload_n (i := 0) dX10_accepts_50 rfl rfl ?_
    refine X.iload_n (i := 1) dX10_accepts_51 rfl rfl ?_
    refine X.callV (μ' := mX10_acceptsTruth) (As := [.int v1]) (st := []) (st1 := [.int (pX10_acceptsTruth v1 f).1]) (r := some (.int (pX10_acceptsTruth v1 f).1)) (f' := (pX10_acceptsTruth v1 f).2) (g' := g) (tX10_acceptsTruth rfl) (Nat.le_of_ble_eq_true rfl) cwX10_acceptsTruth rfl mlX10_56 sC_1 kX10 rfl rfl rfl (Nat.le_of_ble_eq_true rfl) dX10_accepts_52 ?_
    by_cases c4 : xz (pX10_acceptsTruth v1 f).1
    rotate_left
    · rw [if_neg c4] at h; cases h
    rw [if_pos c4] at h
    obtain rfl := Option.some.inj h
    exact X.zret dX10_accepts_55 rfl (xz_n c4) rfl
  rw [if_neg c3] at h
  by_cases c5 : (f 1 11) = (2 : Int32)
  · rw [if_pos c5] at h
    refine X.swIn (off := 52) (tgt := 56) dX10_accepts_4 c5 (by decide) (by decide) rfl (by decide) ?_
    refine X.aload_n (i := 0) dX10_accepts_56 rfl rfl ?_
    refine X.iload_n (i := 1) dX10_accepts_57 rfl rfl ?_
    obtain ⟨q6, e6, h⟩ := xbind h
    try dsimp only at h
    refine X.callV (μ' := mX10_acceptsSaid) (As := [.int v1]) (st := []) (st1 := [.int q6.1]) (r := some (.int q6.1)) (f' := q6.2) (g' := g) (tX10_acceptsSaid e6) (Nat.le_of_ble_eq_true rfl) cwX10_acceptsSaid rfl mlX10_59 sC_1 kX10 rfl rfl rfl (Nat.le_of_ble_eq_true rfl) dX10_accepts_58 ?_
    by_cases c7 : xz q6.1
    rotate_left
    · rw [if_neg c7] at h; cases h
    rw [if_pos c7] at h
    obtain rfl := Option.some.inj h
    exact X.zret dX10_accepts_61 rfl (xz_n c7) rfl
  rw [if_neg c5] at h
  by_cases c8 : (f 1 11) = (3 : Int32)
  · rw [if_pos c8] at h
    refine X.swIn (off := 58) (tgt := 62) dX10_accepts_4 c8 (by decide) (by decide) rfl (by decide) ?_
    refine X.aload_n (i := 0) dX10_accepts_62 rfl rfl ?_
    refine X.iload_n (i := 1) dX10_accepts_63 rfl rfl ?_
    refine X.callV (μ' := mX10_acceptsPart) (As := [.int v1]) (st := []) (st1 := [.int (pX10_acceptsPart v1 f).1]) (r := some (.int (pX10_acceptsPart v1 f).1)) (f' := (pX10_acceptsPart v1 f).2) (g' := g) (tX10_acceptsPart rfl) (Nat.le_of_ble_eq_true rfl) cwX10_acceptsPart rfl mlX10_62 sC_1 kX10 rfl rfl rfl (Nat.le_of_ble_eq_true rfl) dX10_accepts_64 ?_
    by_cases c9 : xz (pX10_acceptsPart v1 f).1
    rotate_left
    · rw [if_neg c9] at h; cases h
    rw [if_pos c9] at h
    obtain rfl := Option.some.inj h
    exact X.zret dX10_accepts_67 rfl (xz_n c9) rfl
  rw [if_neg c8] at h
  by_cases c10 : (f 1 11) = (4 : Int32)
  · rw [if_pos c10] at h
    refine X.swIn (off := 64) (tgt := 68) dX10_accepts_4 c10 (by decide) (by decide) rfl (by decide) ?_
    refine X.aload_n (i := 0) dX10_accepts_68 rfl rfl ?_
    refine X.iload_n (i := 1) dX10_accepts_69 rfl rfl ?_
    obtain ⟨q11, e11, h⟩ := xbind h
    try dsimp only at h
    refine X.callV (μ' := mX10_acceptsKind) (As := [.int v1]) (st := []) (st1 := [.int q11.1]) (r := some (.int q11.1)) (f' := q11.2) (g' := g) (tX10_acceptsKind e11) (Nat.le_of_ble_eq_true rfl) cwX10_acceptsKind rfl mlX10_65 sC_1 kX10 rfl rfl rfl (Nat.le_of_ble_eq_true rfl) dX10_accepts_70 ?_
    by_cases c12 : xz q11.1
    rotate_left
    · rw [if_neg c12] at h; cases h
    rw [if_pos c12] at h
    obtain rfl := Option.some.inj h
    exact X.zret dX10_accepts_73 rfl (xz_n c12) rfl
  rw [if_neg c10] at h
  by_cases c13 : (f 1 11) = (5 : Int32)
  · rw [if_pos c13] at h
    refine X.swIn (off := 70) (tgt := 74) dX10_accepts_4 c13 (by decide) (by decide) rfl (by decide) ?_
    refine X.aload_n (i := 0) dX10_accepts_74 rfl rfl ?_
    refine X.iload_n (i := 1) dX10_accepts_75 rfl rfl ?_
    obtain ⟨q14, e14, h⟩ := xbind h
    try dsimp only at h
    refine X.callV (μ' := mX10_acceptsPeriod) (As := [.int v1]) (st := []) (st1 := [.int q14.1]) (r := some (.int q14.1)) (f' := q14.2) (g' := g) (tX10_acceptsPeriod e14) (Nat.le_of_ble_eq_true rfl) cwX10_acceptsPeriod rfl mlX10_68 sC_1 kX10 rfl rfl rfl (Nat.le_of_ble_eq_true rfl) dX10_accepts_76 ?_
    by_cases c15 : xz q14.1
    rotate_left
    · rw [if_neg c15] at h; cases h
    rw [if_pos c15] at h
    obtain rfl := Option.some.inj h
    exact X.zret dX10_accepts_79 rfl (xz_n c15) rfl
  rw [if_neg c13] at h
  refine X.swOut (tgt := 80) dX10_accepts_4 (xsw_out (fun j j1 j2 => ?_)) (by decide) ?_
  · rcases (show j = 0 ∨ j = 1 ∨ j = 2 ∨ j = 3 ∨ j = 4 ∨ j = 5 by omega) with rfl | rfl | rfl | rfl | rfl | rfl <;> assumption
  refine X.aload_n (i := 0) dX10_accepts_80 rfl rfl ?_
  refine X.iload_n (i := 1) dX10_accepts_81 rfl rfl ?_
  obtain ⟨q16, e16, h⟩ := xbind h
  try dsimp only at h
  refine X.callV (μ' := mX10_acceptsLeft) (As := [.int v1]) (st := []) (st1 := [.int q16.1]) (r := some (.int q16.1)) (f' := q16.2) (g' := g) (tX10_acceptsLeft e16) (Nat.le_of_ble_eq_true rfl) cwX10_acceptsLeft rfl mlX10_71 sC_1 kX10 rfl rfl rfl (Nat.le_of_ble_eq_true rfl) dX10_accepts_82 ?_
  by_cases c17 : xz q16.1
  rotate_left
  · rw [if_neg c17] at h; cases h
  rw [if_pos c17] at h
  obtain rfl := Option.some.inj h
  exact X.zret dX10_accepts_85 rfl (xz_n c17) rfl
def pX10_findFault_b37 (F : Nat) : Nat → Int32 → xM → Option (Int32 × xM)
  | 0, _, _ => none
  | n + 1, v1, f => (if (f 1 4) ≤ v1 then (if (f 1 11) = (3 : Int32) then some (((-9 : Int32), f)) else some (((f 1 4), f))) else (if (40 : Int32) ≤ v1 then (if (f 1 11) = (3 : Int32) then some (((-9 : Int32), f)) else some (((f 1 4), f))) else (if xin v1 40 then (Option.bind (pX10_accepts (f 13 v1.toNatClampNeg) f) fun q6 => (if q6.1 = 0 then some ((v1, q6.2)) else (pX10_findFault_b37 F n (v1 + (1 : Int32)) q6.2))) else none)))
set_option maxRecDepth 100000 in
set_option maxHeartbeats 4000000 in
theorem tX10_findFault_b37 {F : Nat} {g : xN} : ∀ (n : Nat) {v1 : Int32} {f : xM} {r : Int32 × xM}, pX10_findFault_b37 F n v1 f = some r → X mX10_findFault 3 (some (.int r.1), r.2, g) 37 [some (.ref 1), some (.int v1)] [] f g := by
  intro n
  induction n with
  | zero => intro v1 f r h; cases h
  | succ n ih =>
    intro v1 f r h
    rw [pX10_findFault_b37] at h
    refine X.iload_n (i := 1) dX10_findFault_37 rfl rfl ?_
    refine X.aload_n (i := 0) dX10_findFault_38 rfl rfl ?_
    refine X.getI (k0 := 4) kX10 sC_1 (Nat.le_of_ble_eq_true rfl) rfl lfX10_24 dX10_findFault_39 ?_
    refine X.icmp_ge (tgt := 75) dX10_findFault_42 (by decide) (fun c1 => ?_) (fun c1 => ?_)
    · rw [if_pos c1] at h
      refine X.aload_n (i := 0) dX10_findFault_75 rfl rfl ?_
      refine X.getI (k0 := 11) kX10 sC_1 (Nat.le_of_ble_eq_true rfl) rfl lfX10_46 dX10_findFault_76 ?_
      refine X.iconst (v := (3 : Int32)) dX10_findFault_79 (by decide) ?_
      refine X.icmp_ne (tgt := 88) dX10_findFault_80 (by decide) (fun c2 => ?_) (fun c2 => ?_)
      · rw [if_neg c2] at h
        refine X.aload_n (i := 0) dX10_findFault_88 rfl rfl ?_
        refine X.getI (k0 := 4) kX10 sC_1 (Nat.le_of_ble_eq_true rfl) rfl lfX10_24 dX10_findFault_89 ?_
        obtain rfl := Option.some.inj h
        exact X.iret dX10_findFault_92 rfl rfl
      · rw [if_pos c2] at h
        refine X.bipush (v := (-9 : Int32)) dX10_findFault_83 (by decide) ?_
        refine X.goto (tgt := 92) dX10_findFault_85 (by decide) ?_
        obtain rfl := Option.some.inj h
        exact X.iret dX10_findFault_92 rfl rfl
    · rw [if_neg c1] at h
      refine X.iload_n (i := 1) dX10_findFault_45 rfl rfl ?_
      refine X.aload_n (i := 0) dX10_findFault_46 rfl rfl ?_
      refine X.getR (k0 := 0) kX10 sC_1 (Nat.le_of_ble_eq_true rfl) rfl lfX10_9 dX10_findFault_47 ?_
      refine X.alen (v := (40 : Int32)) sC_13 (by decide) dX10_findFault_50 ?_
      refine X.icmp_ge (tgt := 75) dX10_findFault_51 (by decide) (fun c3 => ?_) (fun c3 => ?_)
      · rw [if_pos c3] at h
        refine X.aload_n (i := 0) dX10_findFault_75 rfl rfl ?_
        refine X.getI (k0 := 11) kX10 sC_1 (Nat.le_of_ble_eq_true rfl) rfl lfX10_46 dX10_findFault_76 ?_
        refine X.iconst (v := (3 : Int32)) dX10_findFault_79 (by decide) ?_
        refine X.icmp_ne (tgt := 88) dX10_findFault_80 (by decide) (fun c4 => ?_) (fun c4 => ?_)
        · rw [if_neg c4] at h
          refine X.aload_n (i := 0) dX10_findFault_88 rfl rfl ?_
          refine X.getI (k0 := 4) kX10 sC_1 (Nat.le_of_ble_eq_true rfl) rfl lfX10_24 dX10_findFault_89 ?_
          obtain rfl := Option.some.inj h
          exact X.iret dX10_findFault_92 rfl rfl
        · rw [if_pos c4] at h
          refine X.bipush (v := (-9 : Int32)) dX10_findFault_83 (by decide) ?_
          refine X.goto (tgt := 92) dX10_findFault_85 (by decide) ?_
          obtain rfl := Option.some.inj h
          exact X.iret dX10_findFault_92 rfl rfl
      · rw [if_neg c3] at h
        refine X.aload_n (i := 0) dX10_findFault_54 rfl rfl ?_
        refine X.aload_n (i := 0) dX10_findFault_55 rfl rfl ?_
        refine X.getR (k0 := 0) kX10 sC_1 (Nat.le_of_ble_eq_true rfl) rfl lfX10_9 dX10_findFault_56 ?_
        refine X.iload_n (i := 1) dX10_findFault_59 rfl rfl ?_
        by_cases c5 : xin v1 40
        rotate_left
        · rw [if_neg c5] at h; cases h
        rw [if_pos c5] at h
        refine X.iald sC_13 c5 dX10_findFault_60 ?_
        obtain ⟨q6, e6, h⟩ := xbind h
        try dsimp only at h
        refine X.callV (μ' := mX10_accepts) (As := [.int (f 13 v1.toNatClampNeg)]) (st := []) (st1 := [.int q6.1]) (r := some (.int q6.1)) (f' := q6.2) (g' := g) (tX10_accepts e6) (Nat.le_of_ble_eq_true rfl) cwX10_accepts rfl mlX10_49 sC_1 kX10 rfl rfl rfl (Nat.le_of_ble_eq_true rfl) dX10_findFault_61 ?_
        refine X.if_ne (tgt := 69) dX10_findFault_64 (by decide) (fun c7 => ?_) (fun c7 => ?_)
        · rw [if_neg c7] at h
          refine X.iinc (i := 1) (v := (v1 + (1 : Int32))) (L' := [some (.ref 1), some (.int (v1 + (1 : Int32)))]) dX10_findFault_69 rfl rfl (Nat.le_of_ble_eq_true rfl) rfl ?_
          refine X.goto (tgt := 37) dX10_findFault_72 (by decide) ?_
          exact X.weaken (xle_c (xle_c xle_e)) (ih h)
        · rw [if_pos c7] at h
          refine X.iload_n (i := 1) dX10_findFault_67 rfl rfl ?_
          obtain rfl := Option.some.inj h
          exact X.iret dX10_findFault_68 rfl rfl
def pX10_findFault (F : Nat) (f : xM) : Option (Int32 × xM) := (pX10_findFault_b37 F F (0 : Int32) (xu (xu (xu (xu (xu (xu (xu f 1 5 (0 : Int32)) 1 6 (0 : Int32)) 1 7 (0 : Int32)) 1 8 (0 : Int32)) 1 9 (0 : Int32)) 1 10 (0 : Int32)) 1 11 (0 : Int32)))
set_option maxRecDepth 100000 in
set_option maxHeartbeats 4000000 in
theorem tX10_findFault {F : Nat} {g : xN} {f : xM} {r : Int32 × xM} (h : pX10_findFault F f = some r) : XT mX10_findFault 3 [.ref 1] f g (some (.int r.1), r.2, g) := by
  unfold pX10_findFault at h
  refine XT.of (L := [some (.ref 1), none]) [some (.ref 1)] rfl (Nat.le_of_ble_eq_true rfl) rfl (xle_c (xle_z xle_e)) ?_
  refine X.aload_n (i := 0) dX10_findFault_0 rfl rfl ?_
  refine X.iconst (v := (0 : Int32)) dX10_findFault_1 (by decide) ?_
  refine X.putI (k0 := 5) kX10 sC_1 (Nat.le_of_ble_eq_true rfl) rfl lfX10_28 rfl rfl dX10_findFault_2 ?_
  refine X.aload_n (i := 0) dX10_findFault_5 rfl rfl ?_
  refine X.iconst (v := (0 : Int32)) dX10_findFault_6 (by decide) ?_
  refine X.putI (k0 := 6) kX10 sC_1 (Nat.le_of_ble_eq_true rfl) rfl lfX10_31 rfl rfl dX10_findFault_7 ?_
  refine X.aload_n (i := 0) dX10_findFault_10 rfl rfl ?_
  refine X.iconst (v := (0 : Int32)) dX10_findFault_11 (by decide) ?_
  refine X.putI (k0 := 7) kX10 sC_1 (Nat.le_of_ble_eq_true rfl) rfl lfX10_34 rfl rfl dX10_findFault_12 ?_
  refine X.aload_n (i := 0) dX10_findFault_15 rfl rfl ?_
  refine X.iconst (v := (0 : Int32)) dX10_findFault_16 (by decide) ?_
  refine X.putI (k0 := 8) kX10 sC_1 (Nat.le_of_ble_eq_true rfl) rfl lfX10_37 rfl rfl dX10_findFault_17 ?_
  refine X.aload_n (i := 0) dX10_findFault_20 rfl rfl ?_
  refine X.iconst (v := (0 : Int32)) dX10_findFault_21 (by decide) ?_
  refine X.putI (k0 := 9) kX10 sC_1 (Nat.le_of_ble_eq_true rfl) rfl lfX10_40 rfl rfl dX10_findFault_22 ?_
  refine X.aload_n (i := 0) dX10_findFault_25 rfl rfl ?_
  refine X.iconst (v := (0 : Int32)) dX10_findFault_26 (by decide) ?_
  refine X.putI (k0 := 10) kX10 sC_1 (Nat.le_of_ble_eq_true rfl) rfl lfX10_43 rfl rfl dX10_findFault_27 ?_
  refine X.aload_n (i := 0) dX10_findFault_30 rfl rfl ?_
  refine X.iconst (v := (0 : Int32)) dX10_findFault_31 (by decide) ?_
  refine X.putI (k0 := 11) kX10 sC_1 (Nat.le_of_ble_eq_true rfl) rfl lfX10_46 rfl rfl dX10_findFault_32 ?_
  refine X.iconst (v := (0 : Int32)) dX10_findFault_35 (by decide) ?_
  refine X.istore_n (i := 1) (L' := [some (.ref 1), some (.int (0 : Int32))]) dX10_findFault_36 rfl (Nat.le_of_ble_eq_true rfl) rfl ?_
  exact X.weaken (xle_c (xle_c xle_e)) (tX10_findFault_b37 F h)
def pX11_fault (F : Nat) (f : xM) : Option (Int32 × xM) := (Option.bind (pX10_findFault F f) fun q1 => some ((q1.1, q1.2)))
set_option maxRecDepth 100000 in
set_option maxHeartbeats 4000000 in
theorem tX11_fault {F : Nat} {g : xN} {f : xM} {r : Int32 × xM} (h : pX11_fault F f = some r) : XT mX11_fault 4 [.ref 0] f g (some (.int r.1), r.2, g) := by
  unfold pX11_fault at h
  refine XT.of (L := [some (.ref 0)]) [some (.ref 0)] rfl (Nat.le_of_ble_eq_true rfl) rfl (xle_c xle_e) ?_
  refine X.aload_n (i := 0) dX11_fault_0 rfl rfl ?_
  refine X.getR (k0 := 0) kX11 sC_0 (Nat.le_of_ble_eq_true rfl) rfl lfX11_12 dX11_fault_1 ?_
  obtain ⟨q1, e1, h⟩ := xbind h
  try dsimp only at h
  refine X.callVN (μ' := mX10_findFault) (As := []) (st := []) (st1 := [.int q1.1]) (r := some (.int q1.1)) (f' := q1.2) (g' := g) (tX10_findFault e1) (Nat.le_of_ble_eq_true rfl) cwX10_findFault rfl mnX11_89 sC_1 kX10 rfl rfl rfl (Nat.le_of_ble_eq_true rfl) dX11_fault_4 ?_
  obtain rfl := Option.some.inj h
  exact X.iret dX11_fault_7 rfl rfl
def pX9_setSaid (v1 : Int32) (f : xM) : xM := (xu f 19 0 v1)
set_option maxRecDepth 100000 in
set_option maxHeartbeats 4000000 in
theorem tX9_setSaid {g : xN} {v1 : Int32} {f : xM} {r : xM} (h : pX9_setSaid v1 f = r) : XT mX9_setSaid 0 [.ref 11, .int v1] f g (none, r, g) := by
  unfold pX9_setSaid at h
  refine XT.of (L := [some (.ref 11), some (.int v1)]) [some (.ref 11), some (.int v1)] rfl (Nat.le_of_ble_eq_true rfl) rfl (xle_c (xle_c xle_e)) ?_
  refine X.aload_n (i := 0) dX9_setSaid_0 rfl rfl ?_
  refine X.getR (k0 := 0) kX9 sC_11 (Nat.le_of_ble_eq_true rfl) rfl lfX9_11 dX9_setSaid_1 ?_
  refine X.iconst (v := (0 : Int32)) dX9_setSaid_4 (by decide) ?_
  refine X.iload_n (i := 1) dX9_setSaid_5 rfl rfl ?_
  refine X.iastK (m := 0) sC_19 (by decide) (by decide) dX9_setSaid_6 ?_
  subst h
  exact X.vret dX9_setSaid_7 rfl rfl
def pX9_startDays (f : xM) : xM := (xu f 19 1 (0 : Int32))
set_option maxRecDepth 100000 in
set_option maxHeartbeats 4000000 in
theorem tX9_startDays {g : xN} {f : xM} {r : xM} (h : pX9_startDays f = r) : XT mX9_startDays 0 [.ref 11] f g (none, r, g) := by
  unfold pX9_startDays at h
  refine XT.of (L := [some (.ref 11)]) [some (.ref 11)] rfl (Nat.le_of_ble_eq_true rfl) rfl (xle_c xle_e) ?_
  refine X.aload_n (i := 0) dX9_startDays_0 rfl rfl ?_
  refine X.getR (k0 := 0) kX9 sC_11 (Nat.le_of_ble_eq_true rfl) rfl lfX9_11 dX9_startDays_1 ?_
  refine X.iconst (v := (1 : Int32)) dX9_startDays_4 (by decide) ?_
  refine X.iconst (v := (0 : Int32)) dX9_startDays_5 (by decide) ?_
  refine X.iastK (m := 1) sC_19 (by decide) (by decide) dX9_startDays_6 ?_
  subst h
  exact X.vret dX9_startDays_7 rfl rfl
def pX9_setKind (v1 : Int32) (v2 : Int32) (f : xM) : Option (xM) := (if v1 < 0 then some (f) else (if (3 : Int32) ≤ v1 then some (f) else (if xin ((2 : Int32) + v1) 9 then some ((xu f 19 ((2 : Int32) + v1).toNatClampNeg v2)) else none)))
set_option maxRecDepth 100000 in
set_option maxHeartbeats 4000000 in
theorem tX9_setKind {g : xN} {v1 : Int32} {v2 : Int32} {f : xM} {r : xM} (h : pX9_setKind v1 v2 f = some r) : XT mX9_setKind 0 [.ref 11, .int v1, .int v2] f g (none, r, g) := by
  unfold pX9_setKind at h
  refine XT.of (L := [some (.ref 11), some (.int v1), some (.int v2)]) [some (.ref 11), some (.int v1), some (.int v2)] rfl (Nat.le_of_ble_eq_true rfl) rfl (xle_c (xle_c (xle_c xle_e))) ?_
  refine X.iload_n (i := 1) dX9_setKind_0 rfl rfl ?_
  refine X.if_lt (tgt := 18) dX9_setKind_1 (by decide) (fun c1 => ?_) (fun c1 => ?_)
  · rw [if_pos c1] at h
    obtain rfl := Option.some.inj h
    exact X.vret dX9_setKind_18 rfl rfl
  · rw [if_neg c1] at h
    refine X.iload_n (i := 1) dX9_setKind_4 rfl rfl ?_
    refine X.iconst (v := (3 : Int32)) dX9_setKind_5 (by decide) ?_
    refine X.icmp_ge (tgt := 18) dX9_setKind_6 (by decide) (fun c2 => ?_) (fun c2 => ?_)
    · rw [if_pos c2] at h
      obtain rfl := Option.some.inj h
      exact X.vret dX9_setKind_18 rfl rfl
    · rw [if_neg c2] at h
      refine X.aload_n (i := 0) dX9_setKind_9 rfl rfl ?_
      refine X.getR (k0 := 0) kX9 sC_11 (Nat.le_of_ble_eq_true rfl) rfl lfX9_11 dX9_setKind_10 ?_
      refine X.iconst (v := (2 : Int32)) dX9_setKind_13 (by decide) ?_
      refine X.iload_n (i := 1) dX9_setKind_14 rfl rfl ?_
      refine X.iadd dX9_setKind_15 ?_
      refine X.iload_n (i := 2) dX9_setKind_16 rfl rfl ?_
      by_cases c3 : xin ((2 : Int32) + v1) 9
      rotate_left
      · rw [if_neg c3] at h; cases h
      rw [if_pos c3] at h
      refine X.iast sC_19 c3 dX9_setKind_17 ?_
      obtain rfl := Option.some.inj h
      exact X.vret dX9_setKind_18 rfl rfl
def pX9_setBelief (v1 : Int32) (v2 : Int32) (f : xM) : Option (xM) := (if v1 < 0 then some (f) else (if (4 : Int32) ≤ v1 then some (f) else (if xin ((5 : Int32) + v1) 9 then some ((xu f 19 ((5 : Int32) + v1).toNatClampNeg v2)) else none)))
set_option maxRecDepth 100000 in
set_option maxHeartbeats 4000000 in
theorem tX9_setBelief {g : xN} {v1 : Int32} {v2 : Int32} {f : xM} {r : xM} (h : pX9_setBelief v1 v2 f = some r) : XT mX9_setBelief 0 [.ref 11, .int v1, .int v2] f g (none, r, g) := by
  unfold pX9_setBelief at h
  refine XT.of (L := [some (.ref 11), some (.int v1), some (.int v2)]) [some (.ref 11), some (.int v1), some (.int v2)] rfl (Nat.le_of_ble_eq_true rfl) rfl (xle_c (xle_c (xle_c xle_e))) ?_
  refine X.iload_n (i := 1) dX9_setBelief_0 rfl rfl ?_
  refine X.if_lt (tgt := 18) dX9_setBelief_1 (by decide) (fun c1 => ?_) (fun c1 => ?_)
  · rw [if_pos c1] at h
    obtain rfl := Option.some.inj h
    exact X.vret dX9_setBelief_18 rfl rfl
  · rw [if_neg c1] at h
    refine X.iload_n (i := 1) dX9_setBelief_4 rfl rfl ?_
    refine X.iconst (v := (4 : Int32)) dX9_setBelief_5 (by decide) ?_
    refine X.icmp_ge (tgt := 18) dX9_setBelief_6 (by decide) (fun c2 => ?_) (fun c2 => ?_)
    · rw [if_pos c2] at h
      obtain rfl := Option.some.inj h
      exact X.vret dX9_setBelief_18 rfl rfl
    · rw [if_neg c2] at h
      refine X.aload_n (i := 0) dX9_setBelief_9 rfl rfl ?_
      refine X.getR (k0 := 0) kX9 sC_11 (Nat.le_of_ble_eq_true rfl) rfl lfX9_11 dX9_setBelief_10 ?_
      refine X.iconst (v := (5 : Int32)) dX9_setBelief_13 (by decide) ?_
      refine X.iload_n (i := 1) dX9_setBelief_14 rfl rfl ?_
      refine X.iadd dX9_setBelief_15 ?_
      refine X.iload_n (i := 2) dX9_setBelief_16 rfl rfl ?_
      by_cases c3 : xin ((5 : Int32) + v1) 9
      rotate_left
      · rw [if_neg c3] at h; cases h
      rw [if_pos c3] at h
      refine X.iast sC_19 c3 dX9_setBelief_17 ?_
      obtain rfl := Option.some.inj h
      exact X.vret dX9_setBelief_18 rfl rfl
def pX6_makeAnew_b122 (F : Nat) : Nat → Int32 → xM → Option (xM)
  | 0, _, _ => none
  | n + 1, v2, f => (if (f 2 5) ≤ v2 then some (f) else (Option.bind (pX9_setBelief v2 (f 1 10) f) fun q3 => (pX6_makeAnew_b122 F n (v2 + (1 : Int32)) q3)))
set_option maxRecDepth 100000 in
set_option maxHeartbeats 4000000 in
theorem tX6_makeAnew_b122 {F : Nat} {g : xN} : ∀ (n : Nat) {v2 : Int32} {f : xM} {r : xM}, pX6_makeAnew_b122 F n v2 f = some r → X mX6_makeAnew 1 (none, r, g) 122 [some (.ref 2), some (.ref 1), some (.int v2)] [] f g := by
  intro n
  induction n with
  | zero => intro v2 f r h; cases h
  | succ n ih =>
    intro v2 f r h
    rw [pX6_makeAnew_b122] at h
    refine X.iload_n (i := 2) dX6_makeAnew_122 rfl rfl ?_
    refine X.aload_n (i := 0) dX6_makeAnew_123 rfl rfl ?_
    refine X.getI (k0 := 5) kX6 sC_2 (Nat.le_of_ble_eq_true rfl) rfl lfX6_36 dX6_makeAnew_124 ?_
    refine X.icmp_ge (tgt := 148) dX6_makeAnew_127 (by decide) (fun c2 => ?_) (fun c2 => ?_)
    · rw [if_pos c2] at h
      obtain rfl := Option.some.inj h
      exact X.vret dX6_makeAnew_148 rfl rfl
    · rw [if_neg c2] at h
      refine X.aload_n (i := 0) dX6_makeAnew_130 rfl rfl ?_
      refine X.getR (k0 := 1) kX6 sC_2 (Nat.le_of_ble_eq_true rfl) rfl lfX6_21 dX6_makeAnew_131 ?_
      refine X.iload_n (i := 2) dX6_makeAnew_134 rfl rfl ?_
      refine X.aload_n (i := 1) dX6_makeAnew_135 rfl rfl ?_
      refine X.getIN (k0 := 10) kX10 sC_1 (Nat.le_of_ble_eq_true rfl) rfl lnX6_59 dX6_makeAnew_136 ?_
      obtain ⟨q3, e3, h⟩ := xbind h
      try dsimp only at h
      refine X.callVN (μ' := mX9_setBelief) (As := [.int v2, .int (f 1 10)]) (st := []) (st1 := []) (r := none) (f' := q3) (g' := g) (tX9_setBelief e3) (Nat.le_of_ble_eq_true rfl) cwX9_setBelief rfl mnX6_76 sC_11 kX9 rfl rfl rfl (Nat.le_of_ble_eq_true rfl) dX6_makeAnew_139 ?_
      refine X.iinc (i := 2) (v := (v2 + (1 : Int32))) (L' := [some (.ref 2), some (.ref 1), some (.int (v2 + (1 : Int32)))]) dX6_makeAnew_142 rfl rfl (Nat.le_of_ble_eq_true rfl) rfl ?_
      refine X.goto (tgt := 122) dX6_makeAnew_145 (by decide) ?_
      exact X.weaken (xle_c (xle_c (xle_c xle_e))) (ih h)
def pX6_makeAnew_b83 (F : Nat) : Nat → Int32 → xM → Option (xM)
  | 0, _, _ => none
  | n + 1, v2, f => (if (f 2 4) ≤ v2 then (pX6_makeAnew_b122 F F (0 : Int32) f) else (if (3 : Int32) ≤ v2 then (pX6_makeAnew_b122 F F (0 : Int32) f) else (if xin v2 3 then (Option.bind (pX9_setKind v2 (f 14 v2.toNatClampNeg) f) fun q6 => (pX6_makeAnew_b83 F n (v2 + (1 : Int32)) q6)) else none)))
set_option maxRecDepth 100000 in
set_option maxHeartbeats 4000000 in
theorem tX6_makeAnew_b83 {F : Nat} {g : xN} : ∀ (n : Nat) {v2 : Int32} {f : xM} {r : xM}, pX6_makeAnew_b83 F n v2 f = some r → X mX6_makeAnew 1 (none, r, g) 83 [some (.ref 2), some (.ref 1), some (.int v2)] [] f g := by
  intro n
  induction n with
  | zero => intro v2 f r h; cases h
  | succ n ih =>
    intro v2 f r h
    rw [pX6_makeAnew_b83] at h
    refine X.iload_n (i := 2) dX6_makeAnew_83 rfl rfl ?_
    refine X.aload_n (i := 0) dX6_makeAnew_84 rfl rfl ?_
    refine X.getI (k0 := 4) kX6 sC_2 (Nat.le_of_ble_eq_true rfl) rfl lfX6_32 dX6_makeAnew_85 ?_
    refine X.icmp_ge (tgt := 120) dX6_makeAnew_88 (by decide) (fun c1 => ?_) (fun c1 => ?_)
    · rw [if_pos c1] at h
      refine X.iconst (v := (0 : Int32)) dX6_makeAnew_120 (by decide) ?_
      refine X.istore_n (i := 2) (L' := [some (.ref 2), some (.ref 1), some (.int (0 : Int32))]) dX6_makeAnew_121 rfl (Nat.le_of_ble_eq_true rfl) rfl ?_
      exact X.weaken (xle_c (xle_c (xle_c xle_e))) (tX6_makeAnew_b122 F h)
    · rw [if_neg c1] at h
      refine X.iload_n (i := 2) dX6_makeAnew_91 rfl rfl ?_
      refine X.aload_n (i := 1) dX6_makeAnew_92 rfl rfl ?_
      refine X.getRN (k0 := 1) kX10 sC_1 (Nat.le_of_ble_eq_true rfl) rfl lnX6_69 dX6_makeAnew_93 ?_
      refine X.alen (v := (3 : Int32)) sC_14 (by decide) dX6_makeAnew_96 ?_
      refine X.icmp_ge (tgt := 120) dX6_makeAnew_97 (by decide) (fun c4 => ?_) (fun c4 => ?_)
      · rw [if_pos c4] at h
        refine X.iconst (v := (0 : Int32)) dX6_makeAnew_120 (by decide) ?_
        refine X.istore_n (i := 2) (L' := [some (.ref 2), some (.ref 1), some (.int (0 : Int32))]) dX6_makeAnew_121 rfl (Nat.le_of_ble_eq_true rfl) rfl ?_
        exact X.weaken (xle_c (xle_c (xle_c xle_e))) (tX6_makeAnew_b122 F h)
      · rw [if_neg c4] at h
        refine X.aload_n (i := 0) dX6_makeAnew_100 rfl rfl ?_
        refine X.getR (k0 := 1) kX6 sC_2 (Nat.le_of_ble_eq_true rfl) rfl lfX6_21 dX6_makeAnew_101 ?_
        refine X.iload_n (i := 2) dX6_makeAnew_104 rfl rfl ?_
        refine X.aload_n (i := 1) dX6_makeAnew_105 rfl rfl ?_
        refine X.getRN (k0 := 1) kX10 sC_1 (Nat.le_of_ble_eq_true rfl) rfl lnX6_69 dX6_makeAnew_106 ?_
        refine X.iload_n (i := 2) dX6_makeAnew_109 rfl rfl ?_
        by_cases c5 : xin v2 3
        rotate_left
        · rw [if_neg c5] at h; cases h
        rw [if_pos c5] at h
        refine X.iald sC_14 c5 dX6_makeAnew_110 ?_
        obtain ⟨q6, e6, h⟩ := xbind h
        try dsimp only at h
        refine X.callVN (μ' := mX9_setKind) (As := [.int v2, .int (f 14 v2.toNatClampNeg)]) (st := []) (st1 := []) (r := none) (f' := q6) (g' := g) (tX9_setKind e6) (Nat.le_of_ble_eq_true rfl) cwX9_setKind rfl mnX6_72 sC_11 kX9 rfl rfl rfl (Nat.le_of_ble_eq_true rfl) dX6_makeAnew_111 ?_
        refine X.iinc (i := 2) (v := (v2 + (1 : Int32))) (L' := [some (.ref 2), some (.ref 1), some (.int (v2 + (1 : Int32)))]) dX6_makeAnew_114 rfl rfl (Nat.le_of_ble_eq_true rfl) rfl ?_
        refine X.goto (tgt := 83) dX6_makeAnew_117 (by decide) ?_
        exact X.weaken (xle_c (xle_c (xle_c xle_e))) (ih h)
def pX6_makeAnew (F : Nat) (f : xM) : Option (xM) := (pX6_makeAnew_b83 F F (0 : Int32) (pX9_startDays (pX9_setSaid ((xrow (xrow (xu (xu (xu (xu f 10 0 (f 1 7)) 2 6 ((xu f 10 0 (f 1 7)) 1 9)) 2 4 ((xu (xu f 10 0 (f 1 7)) 2 6 ((xu f 10 0 (f 1 7)) 1 9)) 1 5)) 2 5 ((xu (xu (xu f 10 0 (f 1 7)) 2 6 ((xu f 10 0 (f 1 7)) 1 9)) 2 4 ((xu (xu f 10 0 (f 1 7)) 2 6 ((xu f 10 0 (f 1 7)) 1 9)) 1 5)) 1 6)) 17 (va_cpy ((xu (xu (xu (xu f 10 0 (f 1 7)) 2 6 ((xu f 10 0 (f 1 7)) 1 9)) 2 4 ((xu (xu f 10 0 (f 1 7)) 2 6 ((xu f 10 0 (f 1 7)) 1 9)) 1 5)) 2 5 ((xu (xu (xu f 10 0 (f 1 7)) 2 6 ((xu f 10 0 (f 1 7)) 1 9)) 2 4 ((xu (xu f 10 0 (f 1 7)) 2 6 ((xu f 10 0 (f 1 7)) 1 9)) 1 5)) 1 6)) 15) ((xu (xu (xu (xu f 10 0 (f 1 7)) 2 6 ((xu f 10 0 (f 1 7)) 1 9)) 2 4 ((xu (xu f 10 0 (f 1 7)) 2 6 ((xu f 10 0 (f 1 7)) 1 9)) 1 5)) 2 5 ((xu (xu (xu f 10 0 (f 1 7)) 2 6 ((xu f 10 0 (f 1 7)) 1 9)) 2 4 ((xu (xu f 10 0 (f 1 7)) 2 6 ((xu f 10 0 (f 1 7)) 1 9)) 1 5)) 1 6)) 17) (0 : Int32).toNatClampNeg (0 : Int32).toNatClampNeg (4 : Int32).toNatClampNeg)) 18 (va_cpy ((xrow (xu (xu (xu (xu f 10 0 (f 1 7)) 2 6 ((xu f 10 0 (f 1 7)) 1 9)) 2 4 ((xu (xu f 10 0 (f 1 7)) 2 6 ((xu f 10 0 (f 1 7)) 1 9)) 1 5)) 2 5 ((xu (xu (xu f 10 0 (f 1 7)) 2 6 ((xu f 10 0 (f 1 7)) 1 9)) 2 4 ((xu (xu f 10 0 (f 1 7)) 2 6 ((xu f 10 0 (f 1 7)) 1 9)) 1 5)) 1 6)) 17 (va_cpy ((xu (xu (xu (xu f 10 0 (f 1 7)) 2 6 ((xu f 10 0 (f 1 7)) 1 9)) 2 4 ((xu (xu f 10 0 (f 1 7)) 2 6 ((xu f 10 0 (f 1 7)) 1 9)) 1 5)) 2 5 ((xu (xu (xu f 10 0 (f 1 7)) 2 6 ((xu f 10 0 (f 1 7)) 1 9)) 2 4 ((xu (xu f 10 0 (f 1 7)) 2 6 ((xu f 10 0 (f 1 7)) 1 9)) 1 5)) 1 6)) 15) ((xu (xu (xu (xu f 10 0 (f 1 7)) 2 6 ((xu f 10 0 (f 1 7)) 1 9)) 2 4 ((xu (xu f 10 0 (f 1 7)) 2 6 ((xu f 10 0 (f 1 7)) 1 9)) 1 5)) 2 5 ((xu (xu (xu f 10 0 (f 1 7)) 2 6 ((xu f 10 0 (f 1 7)) 1 9)) 2 4 ((xu (xu f 10 0 (f 1 7)) 2 6 ((xu f 10 0 (f 1 7)) 1 9)) 1 5)) 1 6)) 17) (0 : Int32).toNatClampNeg (0 : Int32).toNatClampNeg (4 : Int32).toNatClampNeg)) 16) ((xrow (xu (xu (xu (xu f 10 0 (f 1 7)) 2 6 ((xu f 10 0 (f 1 7)) 1 9)) 2 4 ((xu (xu f 10 0 (f 1 7)) 2 6 ((xu f 10 0 (f 1 7)) 1 9)) 1 5)) 2 5 ((xu (xu (xu f 10 0 (f 1 7)) 2 6 ((xu f 10 0 (f 1 7)) 1 9)) 2 4 ((xu (xu f 10 0 (f 1 7)) 2 6 ((xu f 10 0 (f 1 7)) 1 9)) 1 5)) 1 6)) 17 (va_cpy ((xu (xu (xu (xu f 10 0 (f 1 7)) 2 6 ((xu f 10 0 (f 1 7)) 1 9)) 2 4 ((xu (xu f 10 0 (f 1 7)) 2 6 ((xu f 10 0 (f 1 7)) 1 9)) 1 5)) 2 5 ((xu (xu (xu f 10 0 (f 1 7)) 2 6 ((xu f 10 0 (f 1 7)) 1 9)) 2 4 ((xu (xu f 10 0 (f 1 7)) 2 6 ((xu f 10 0 (f 1 7)) 1 9)) 1 5)) 1 6)) 15) ((xu (xu (xu (xu f 10 0 (f 1 7)) 2 6 ((xu f 10 0 (f 1 7)) 1 9)) 2 4 ((xu (xu f 10 0 (f 1 7)) 2 6 ((xu f 10 0 (f 1 7)) 1 9)) 1 5)) 2 5 ((xu (xu (xu f 10 0 (f 1 7)) 2 6 ((xu f 10 0 (f 1 7)) 1 9)) 2 4 ((xu (xu f 10 0 (f 1 7)) 2 6 ((xu f 10 0 (f 1 7)) 1 9)) 1 5)) 1 6)) 17) (0 : Int32).toNatClampNeg (0 : Int32).toNatClampNeg (4 : Int32).toNatClampNeg)) 18) (0 : Int32).toNatClampNeg (0 : Int32).toNatClampNeg (4 : Int32).toNatClampNeg)) 1 10) (xrow (xrow (xu (xu (xu (xu f 10 0 (f 1 7)) 2 6 ((xu f 10 0 (f 1 7)) 1 9)) 2 4 ((xu (xu f 10 0 (f 1 7)) 2 6 ((xu f 10 0 (f 1 7)) 1 9)) 1 5)) 2 5 ((xu (xu (xu f 10 0 (f 1 7)) 2 6 ((xu f 10 0 (f 1 7)) 1 9)) 2 4 ((xu (xu f 10 0 (f 1 7)) 2 6 ((xu f 10 0 (f 1 7)) 1 9)) 1 5)) 1 6)) 17 (va_cpy ((xu (xu (xu (xu f 10 0 (f 1 7)) 2 6 ((xu f 10 0 (f 1 7)) 1 9)) 2 4 ((xu (xu f 10 0 (f 1 7)) 2 6 ((xu f 10 0 (f 1 7)) 1 9)) 1 5)) 2 5 ((xu (xu (xu f 10 0 (f 1 7)) 2 6 ((xu f 10 0 (f 1 7)) 1 9)) 2 4 ((xu (xu f 10 0 (f 1 7)) 2 6 ((xu f 10 0 (f 1 7)) 1 9)) 1 5)) 1 6)) 15) ((xu (xu (xu (xu f 10 0 (f 1 7)) 2 6 ((xu f 10 0 (f 1 7)) 1 9)) 2 4 ((xu (xu f 10 0 (f 1 7)) 2 6 ((xu f 10 0 (f 1 7)) 1 9)) 1 5)) 2 5 ((xu (xu (xu f 10 0 (f 1 7)) 2 6 ((xu f 10 0 (f 1 7)) 1 9)) 2 4 ((xu (xu f 10 0 (f 1 7)) 2 6 ((xu f 10 0 (f 1 7)) 1 9)) 1 5)) 1 6)) 17) (0 : Int32).toNatClampNeg (0 : Int32).toNatClampNeg (4 : Int32).toNatClampNeg)) 18 (va_cpy ((xrow (xu (xu (xu (xu f 10 0 (f 1 7)) 2 6 ((xu f 10 0 (f 1 7)) 1 9)) 2 4 ((xu (xu f 10 0 (f 1 7)) 2 6 ((xu f 10 0 (f 1 7)) 1 9)) 1 5)) 2 5 ((xu (xu (xu f 10 0 (f 1 7)) 2 6 ((xu f 10 0 (f 1 7)) 1 9)) 2 4 ((xu (xu f 10 0 (f 1 7)) 2 6 ((xu f 10 0 (f 1 7)) 1 9)) 1 5)) 1 6)) 17 (va_cpy ((xu (xu (xu (xu f 10 0 (f 1 7)) 2 6 ((xu f 10 0 (f 1 7)) 1 9)) 2 4 ((xu (xu f 10 0 (f 1 7)) 2 6 ((xu f 10 0 (f 1 7)) 1 9)) 1 5)) 2 5 ((xu (xu (xu f 10 0 (f 1 7)) 2 6 ((xu f 10 0 (f 1 7)) 1 9)) 2 4 ((xu (xu f 10 0 (f 1 7)) 2 6 ((xu f 10 0 (f 1 7)) 1 9)) 1 5)) 1 6)) 15) ((xu (xu (xu (xu f 10 0 (f 1 7)) 2 6 ((xu f 10 0 (f 1 7)) 1 9)) 2 4 ((xu (xu f 10 0 (f 1 7)) 2 6 ((xu f 10 0 (f 1 7)) 1 9)) 1 5)) 2 5 ((xu (xu (xu f 10 0 (f 1 7)) 2 6 ((xu f 10 0 (f 1 7)) 1 9)) 2 4 ((xu (xu f 10 0 (f 1 7)) 2 6 ((xu f 10 0 (f 1 7)) 1 9)) 1 5)) 1 6)) 17) (0 : Int32).toNatClampNeg (0 : Int32).toNatClampNeg (4 : Int32).toNatClampNeg)) 16) ((xrow (xu (xu (xu (xu f 10 0 (f 1 7)) 2 6 ((xu f 10 0 (f 1 7)) 1 9)) 2 4 ((xu (xu f 10 0 (f 1 7)) 2 6 ((xu f 10 0 (f 1 7)) 1 9)) 1 5)) 2 5 ((xu (xu (xu f 10 0 (f 1 7)) 2 6 ((xu f 10 0 (f 1 7)) 1 9)) 2 4 ((xu (xu f 10 0 (f 1 7)) 2 6 ((xu f 10 0 (f 1 7)) 1 9)) 1 5)) 1 6)) 17 (va_cpy ((xu (xu (xu (xu f 10 0 (f 1 7)) 2 6 ((xu f 10 0 (f 1 7)) 1 9)) 2 4 ((xu (xu f 10 0 (f 1 7)) 2 6 ((xu f 10 0 (f 1 7)) 1 9)) 1 5)) 2 5 ((xu (xu (xu f 10 0 (f 1 7)) 2 6 ((xu f 10 0 (f 1 7)) 1 9)) 2 4 ((xu (xu f 10 0 (f 1 7)) 2 6 ((xu f 10 0 (f 1 7)) 1 9)) 1 5)) 1 6)) 15) ((xu (xu (xu (xu f 10 0 (f 1 7)) 2 6 ((xu f 10 0 (f 1 7)) 1 9)) 2 4 ((xu (xu f 10 0 (f 1 7)) 2 6 ((xu f 10 0 (f 1 7)) 1 9)) 1 5)) 2 5 ((xu (xu (xu f 10 0 (f 1 7)) 2 6 ((xu f 10 0 (f 1 7)) 1 9)) 2 4 ((xu (xu f 10 0 (f 1 7)) 2 6 ((xu f 10 0 (f 1 7)) 1 9)) 1 5)) 1 6)) 17) (0 : Int32).toNatClampNeg (0 : Int32).toNatClampNeg (4 : Int32).toNatClampNeg)) 18) (0 : Int32).toNatClampNeg (0 : Int32).toNatClampNeg (4 : Int32).toNatClampNeg)))))
set_option maxRecDepth 100000 in
set_option maxHeartbeats 4000000 in
theorem tX6_makeAnew {F : Nat} {g : xN} {f : xM} {r : xM} (h : pX6_makeAnew F f = some r) : XT mX6_makeAnew 1 [.ref 2, .ref 1] f g (none, r, g) := by
  unfold pX6_makeAnew at h
  refine XT.of (L := [some (.ref 2), some (.ref 1), none]) [some (.ref 2), some (.ref 1)] rfl (Nat.le_of_ble_eq_true rfl) rfl (xle_c (xle_c (xle_z xle_e))) ?_
  refine X.aload_n (i := 0) dX6_makeAnew_0 rfl rfl ?_
  refine X.getR (k0 := 0) kX6 sC_2 (Nat.le_of_ble_eq_true rfl) rfl lfX6_12 dX6_makeAnew_1 ?_
  refine X.aload_n (i := 1) dX6_makeAnew_4 rfl rfl ?_
  refine X.getIN (k0 := 7) kX10 sC_1 (Nat.le_of_ble_eq_true rfl) rfl lnX6_42 dX6_makeAnew_5 ?_
  refine X.putIN (k0 := 0) kX8 sC_10 (Nat.le_of_ble_eq_true rfl) rfl lnX6_47 rfl rfl dX6_makeAnew_8 ?_
  refine X.aload_n (i := 0) dX6_makeAnew_11 rfl rfl ?_
  refine X.aload_n (i := 1) dX6_makeAnew_12 rfl rfl ?_
  refine X.getIN (k0 := 9) kX10 sC_1 (Nat.le_of_ble_eq_true rfl) rfl lnX6_48 dX6_makeAnew_13 ?_
  refine X.putI (k0 := 6) kX6 sC_2 (Nat.le_of_ble_eq_true rfl) rfl lfX6_39 rfl rfl dX6_makeAnew_16 ?_
  refine X.aload_n (i := 0) dX6_makeAnew_19 rfl rfl ?_
  refine X.aload_n (i := 1) dX6_makeAnew_20 rfl rfl ?_
  refine X.getIN (k0 := 5) kX10 sC_1 (Nat.le_of_ble_eq_true rfl) rfl lnX6_49 dX6_makeAnew_21 ?_
  refine X.putI (k0 := 4) kX6 sC_2 (Nat.le_of_ble_eq_true rfl) rfl lfX6_32 rfl rfl dX6_makeAnew_24 ?_
  refine X.aload_n (i := 0) dX6_makeAnew_27 rfl rfl ?_
  refine X.aload_n (i := 1) dX6_makeAnew_28 rfl rfl ?_
  refine X.getIN (k0 := 6) kX10 sC_1 (Nat.le_of_ble_eq_true rfl) rfl lnX6_50 dX6_makeAnew_29 ?_
  refine X.putI (k0 := 5) kX6 sC_2 (Nat.le_of_ble_eq_true rfl) rfl lfX6_36 rfl rfl dX6_makeAnew_32 ?_
  refine X.aload_n (i := 1) dX6_makeAnew_35 rfl rfl ?_
  refine X.getRN (k0 := 2) kX10 sC_1 (Nat.le_of_ble_eq_true rfl) rfl lnX6_51 dX6_makeAnew_36 ?_
  refine X.iconst (v := (0 : Int32)) dX6_makeAnew_39 (by decide) ?_
  refine X.aload_n (i := 0) dX6_makeAnew_40 rfl rfl ?_
  refine X.getR (k0 := 2) kX6 sC_2 (Nat.le_of_ble_eq_true rfl) rfl lfX6_25 dX6_makeAnew_41 ?_
  refine X.iconst (v := (0 : Int32)) dX6_makeAnew_44 (by decide) ?_
  refine X.iconst (v := (4 : Int32)) dX6_makeAnew_45 (by decide) ?_
  refine X.copy mlX6_52 lnat lstatc linitS sC_15 sC_17 (by decide) (by decide) (by decide) (by decide) (by decide) (by decide) (Nat.le_of_ble_eq_true rfl) dX6_makeAnew_46 ?_
  refine X.aload_n (i := 1) dX6_makeAnew_49 rfl rfl ?_
  refine X.getRN (k0 := 3) kX10 sC_1 (Nat.le_of_ble_eq_true rfl) rfl lnX6_58 dX6_makeAnew_50 ?_
  refine X.iconst (v := (0 : Int32)) dX6_makeAnew_53 (by decide) ?_
  refine X.aload_n (i := 0) dX6_makeAnew_54 rfl rfl ?_
  refine X.getR (k0 := 3) kX6 sC_2 (Nat.le_of_ble_eq_true rfl) rfl lfX6_29 dX6_makeAnew_55 ?_
  refine X.iconst (v := (0 : Int32)) dX6_makeAnew_58 (by decide) ?_
  refine X.iconst (v := (4 : Int32)) dX6_makeAnew_59 (by decide) ?_
  refine X.copy mlX6_52 lnat lstatc linitS sC_16 sC_18 (by decide) (by decide) (by decide) (by decide) (by decide) (by decide) (Nat.le_of_ble_eq_true rfl) dX6_makeAnew_60 ?_
  refine X.aload_n (i := 0) dX6_makeAnew_63 rfl rfl ?_
  refine X.getR (k0 := 1) kX6 sC_2 (Nat.le_of_ble_eq_true rfl) rfl lfX6_21 dX6_makeAnew_64 ?_
  refine X.aload_n (i := 1) dX6_makeAnew_67 rfl rfl ?_
  refine X.getIN (k0 := 10) kX10 sC_1 (Nat.le_of_ble_eq_true rfl) rfl lnX6_59 dX6_makeAnew_68 ?_
  refine X.callVN (μ' := mX9_setSaid) (As := [.int ((xrow (xrow (xu (xu (xu (xu f 10 0 (f 1 7)) 2 6 ((xu f 10 0 (f 1 7)) 1 9)) 2 4 ((xu (xu f 10 0 (f 1 7)) 2 6 ((xu f 10 0 (f 1 7)) 1 9)) 1 5)) 2 5 ((xu (xu (xu f 10 0 (f 1 7)) 2 6 ((xu f 10 0 (f 1 7)) 1 9)) 2 4 ((xu (xu f 10 0 (f 1 7)) 2 6 ((xu f 10 0 (f 1 7)) 1 9)) 1 5)) 1 6)) 17 (va_cpy ((xu (xu (xu (xu f 10 0 (f 1 7)) 2 6 ((xu f 10 0 (f 1 7)) 1 9)) 2 4 ((xu (xu f 10 0 (f 1 7)) 2 6 ((xu f 10 0 (f 1 7)) 1 9)) 1 5)) 2 5 ((xu (xu (xu f 10 0 (f 1 7)) 2 6 ((xu f 10 0 (f 1 7)) 1 9)) 2 4 ((xu (xu f 10 0 (f 1 7)) 2 6 ((xu f 10 0 (f 1 7)) 1 9)) 1 5)) 1 6)) 15) ((xu (xu (xu (xu f 10 0 (f 1 7)) 2 6 ((xu f 10 0 (f 1 7)) 1 9)) 2 4 ((xu (xu f 10 0 (f 1 7)) 2 6 ((xu f 10 0 (f 1 7)) 1 9)) 1 5)) 2 5 ((xu (xu (xu f 10 0 (f 1 7)) 2 6 ((xu f 10 0 (f 1 7)) 1 9)) 2 4 ((xu (xu f 10 0 (f 1 7)) 2 6 ((xu f 10 0 (f 1 7)) 1 9)) 1 5)) 1 6)) 17) (0 : Int32).toNatClampNeg (0 : Int32).toNatClampNeg (4 : Int32).toNatClampNeg)) 18 (va_cpy ((xrow (xu (xu (xu (xu f 10 0 (f 1 7)) 2 6 ((xu f 10 0 (f 1 7)) 1 9)) 2 4 ((xu (xu f 10 0 (f 1 7)) 2 6 ((xu f 10 0 (f 1 7)) 1 9)) 1 5)) 2 5 ((xu (xu (xu f 10 0 (f 1 7)) 2 6 ((xu f 10 0 (f 1 7)) 1 9)) 2 4 ((xu (xu f 10 0 (f 1 7)) 2 6 ((xu f 10 0 (f 1 7)) 1 9)) 1 5)) 1 6)) 17 (va_cpy ((xu (xu (xu (xu f 10 0 (f 1 7)) 2 6 ((xu f 10 0 (f 1 7)) 1 9)) 2 4 ((xu (xu f 10 0 (f 1 7)) 2 6 ((xu f 10 0 (f 1 7)) 1 9)) 1 5)) 2 5 ((xu (xu (xu f 10 0 (f 1 7)) 2 6 ((xu f 10 0 (f 1 7)) 1 9)) 2 4 ((xu (xu f 10 0 (f 1 7)) 2 6 ((xu f 10 0 (f 1 7)) 1 9)) 1 5)) 1 6)) 15) ((xu (xu (xu (xu f 10 0 (f 1 7)) 2 6 ((xu f 10 0 (f 1 7)) 1 9)) 2 4 ((xu (xu f 10 0 (f 1 7)) 2 6 ((xu f 10 0 (f 1 7)) 1 9)) 1 5)) 2 5 ((xu (xu (xu f 10 0 (f 1 7)) 2 6 ((xu f 10 0 (f 1 7)) 1 9)) 2 4 ((xu (xu f 10 0 (f 1 7)) 2 6 ((xu f 10 0 (f 1 7)) 1 9)) 1 5)) 1 6)) 17) (0 : Int32).toNatClampNeg (0 : Int32).toNatClampNeg (4 : Int32).toNatClampNeg)) 16) ((xrow (xu (xu (xu (xu f 10 0 (f 1 7)) 2 6 ((xu f 10 0 (f 1 7)) 1 9)) 2 4 ((xu (xu f 10 0 (f 1 7)) 2 6 ((xu f 10 0 (f 1 7)) 1 9)) 1 5)) 2 5 ((xu (xu (xu f 10 0 (f 1 7)) 2 6 ((xu f 10 0 (f 1 7)) 1 9)) 2 4 ((xu (xu f 10 0 (f 1 7)) 2 6 ((xu f 10 0 (f 1 7)) 1 9)) 1 5)) 1 6)) 17 (va_cpy ((xu (xu (xu (xu f 10 0 (f 1 7)) 2 6 ((xu f 10 0 (f 1 7)) 1 9)) 2 4 ((xu (xu f 10 0 (f 1 7)) 2 6 ((xu f 10 0 (f 1 7)) 1 9)) 1 5)) 2 5 ((xu (xu (xu f 10 0 (f 1 7)) 2 6 ((xu f 10 0 (f 1 7)) 1 9)) 2 4 ((xu (xu f 10 0 (f 1 7)) 2 6 ((xu f 10 0 (f 1 7)) 1 9)) 1 5)) 1 6)) 15) ((xu (xu (xu (xu f 10 0 (f 1 7)) 2 6 ((xu f 10 0 (f 1 7)) 1 9)) 2 4 ((xu (xu f 10 0 (f 1 7)) 2 6 ((xu f 10 0 (f 1 7)) 1 9)) 1 5)) 2 5 ((xu (xu (xu f 10 0 (f 1 7)) 2 6 ((xu f 10 0 (f 1 7)) 1 9)) 2 4 ((xu (xu f 10 0 (f 1 7)) 2 6 ((xu f 10 0 (f 1 7)) 1 9)) 1 5)) 1 6)) 17) (0 : Int32).toNatClampNeg (0 : Int32).toNatClampNeg (4 : Int32).toNatClampNeg)) 18) (0 : Int32).toNatClampNeg (0 : Int32).toNatClampNeg (4 : Int32).toNatClampNeg)) 1 10)]) (st := []) (st1 := []) (r := none) (f' := (pX9_setSaid ((xrow (xrow (xu (xu (xu (xu f 10 0 (f 1 7)) 2 6 ((xu f 10 0 (f 1 7)) 1 9)) 2 4 ((xu (xu f 10 0 (f 1 7)) 2 6 ((xu f 10 0 (f 1 7)) 1 9)) 1 5)) 2 5 ((xu (xu (xu f 10 0 (f 1 7)) 2 6 ((xu f 10 0 (f 1 7)) 1 9)) 2 4 ((xu (xu f 10 0 (f 1 7)) 2 6 ((xu f 10 0 (f 1 7)) 1 9)) 1 5)) 1 6)) 17 (va_cpy ((xu (xu (xu (xu f 10 0 (f 1 7)) 2 6 ((xu f 10 0 (f 1 7)) 1 9)) 2 4 ((xu (xu f 10 0 (f 1 7)) 2 6 ((xu f 10 0 (f 1 7)) 1 9)) 1 5)) 2 5 ((xu (xu (xu f 10 0 (f 1 7)) 2 6 ((xu f 10 0 (f 1 7)) 1 9)) 2 4 ((xu (xu f 10 0 (f 1 7)) 2 6 ((xu f 10 0 (f 1 7)) 1 9)) 1 5)) 1 6)) 15) ((xu (xu (xu (xu f 10 0 (f 1 7)) 2 6 ((xu f 10 0 (f 1 7)) 1 9)) 2 4 ((xu (xu f 10 0 (f 1 7)) 2 6 ((xu f 10 0 (f 1 7)) 1 9)) 1 5)) 2 5 ((xu (xu (xu f 10 0 (f 1 7)) 2 6 ((xu f 10 0 (f 1 7)) 1 9)) 2 4 ((xu (xu f 10 0 (f 1 7)) 2 6 ((xu f 10 0 (f 1 7)) 1 9)) 1 5)) 1 6)) 17) (0 : Int32).toNatClampNeg (0 : Int32).toNatClampNeg (4 : Int32).toNatClampNeg)) 18 (va_cpy ((xrow (xu (xu (xu (xu f 10 0 (f 1 7)) 2 6 ((xu f 10 0 (f 1 7)) 1 9)) 2 4 ((xu (xu f 10 0 (f 1 7)) 2 6 ((xu f 10 0 (f 1 7)) 1 9)) 1 5)) 2 5 ((xu (xu (xu f 10 0 (f 1 7)) 2 6 ((xu f 10 0 (f 1 7)) 1 9)) 2 4 ((xu (xu f 10 0 (f 1 7)) 2 6 ((xu f 10 0 (f 1 7)) 1 9)) 1 5)) 1 6)) 17 (va_cpy ((xu (xu (xu (xu f 10 0 (f 1 7)) 2 6 ((xu f 10 0 (f 1 7)) 1 9)) 2 4 ((xu (xu f 10 0 (f 1 7)) 2 6 ((xu f 10 0 (f 1 7)) 1 9)) 1 5)) 2 5 ((xu (xu (xu f 10 0 (f 1 7)) 2 6 ((xu f 10 0 (f 1 7)) 1 9)) 2 4 ((xu (xu f 10 0 (f 1 7)) 2 6 ((xu f 10 0 (f 1 7)) 1 9)) 1 5)) 1 6)) 15) ((xu (xu (xu (xu f 10 0 (f 1 7)) 2 6 ((xu f 10 0 (f 1 7)) 1 9)) 2 4 ((xu (xu f 10 0 (f 1 7)) 2 6 ((xu f 10 0 (f 1 7)) 1 9)) 1 5)) 2 5 ((xu (xu (xu f 10 0 (f 1 7)) 2 6 ((xu f 10 0 (f 1 7)) 1 9)) 2 4 ((xu (xu f 10 0 (f 1 7)) 2 6 ((xu f 10 0 (f 1 7)) 1 9)) 1 5)) 1 6)) 17) (0 : Int32).toNatClampNeg (0 : Int32).toNatClampNeg (4 : Int32).toNatClampNeg)) 16) ((xrow (xu (xu (xu (xu f 10 0 (f 1 7)) 2 6 ((xu f 10 0 (f 1 7)) 1 9)) 2 4 ((xu (xu f 10 0 (f 1 7)) 2 6 ((xu f 10 0 (f 1 7)) 1 9)) 1 5)) 2 5 ((xu (xu (xu f 10 0 (f 1 7)) 2 6 ((xu f 10 0 (f 1 7)) 1 9)) 2 4 ((xu (xu f 10 0 (f 1 7)) 2 6 ((xu f 10 0 (f 1 7)) 1 9)) 1 5)) 1 6)) 17 (va_cpy ((xu (xu (xu (xu f 10 0 (f 1 7)) 2 6 ((xu f 10 0 (f 1 7)) 1 9)) 2 4 ((xu (xu f 10 0 (f 1 7)) 2 6 ((xu f 10 0 (f 1 7)) 1 9)) 1 5)) 2 5 ((xu (xu (xu f 10 0 (f 1 7)) 2 6 ((xu f 10 0 (f 1 7)) 1 9)) 2 4 ((xu (xu f 10 0 (f 1 7)) 2 6 ((xu f 10 0 (f 1 7)) 1 9)) 1 5)) 1 6)) 15) ((xu (xu (xu (xu f 10 0 (f 1 7)) 2 6 ((xu f 10 0 (f 1 7)) 1 9)) 2 4 ((xu (xu f 10 0 (f 1 7)) 2 6 ((xu f 10 0 (f 1 7)) 1 9)) 1 5)) 2 5 ((xu (xu (xu f 10 0 (f 1 7)) 2 6 ((xu f 10 0 (f 1 7)) 1 9)) 2 4 ((xu (xu f 10 0 (f 1 7)) 2 6 ((xu f 10 0 (f 1 7)) 1 9)) 1 5)) 1 6)) 17) (0 : Int32).toNatClampNeg (0 : Int32).toNatClampNeg (4 : Int32).toNatClampNeg)) 18) (0 : Int32).toNatClampNeg (0 : Int32).toNatClampNeg (4 : Int32).toNatClampNeg)) 1 10) (xrow (xrow (xu (xu (xu (xu f 10 0 (f 1 7)) 2 6 ((xu f 10 0 (f 1 7)) 1 9)) 2 4 ((xu (xu f 10 0 (f 1 7)) 2 6 ((xu f 10 0 (f 1 7)) 1 9)) 1 5)) 2 5 ((xu (xu (xu f 10 0 (f 1 7)) 2 6 ((xu f 10 0 (f 1 7)) 1 9)) 2 4 ((xu (xu f 10 0 (f 1 7)) 2 6 ((xu f 10 0 (f 1 7)) 1 9)) 1 5)) 1 6)) 17 (va_cpy ((xu (xu (xu (xu f 10 0 (f 1 7)) 2 6 ((xu f 10 0 (f 1 7)) 1 9)) 2 4 ((xu (xu f 10 0 (f 1 7)) 2 6 ((xu f 10 0 (f 1 7)) 1 9)) 1 5)) 2 5 ((xu (xu (xu f 10 0 (f 1 7)) 2 6 ((xu f 10 0 (f 1 7)) 1 9)) 2 4 ((xu (xu f 10 0 (f 1 7)) 2 6 ((xu f 10 0 (f 1 7)) 1 9)) 1 5)) 1 6)) 15) ((xu (xu (xu (xu f 10 0 (f 1 7)) 2 6 ((xu f 10 0 (f 1 7)) 1 9)) 2 4 ((xu (xu f 10 0 (f 1 7)) 2 6 ((xu f 10 0 (f 1 7)) 1 9)) 1 5)) 2 5 ((xu (xu (xu f 10 0 (f 1 7)) 2 6 ((xu f 10 0 (f 1 7)) 1 9)) 2 4 ((xu (xu f 10 0 (f 1 7)) 2 6 ((xu f 10 0 (f 1 7)) 1 9)) 1 5)) 1 6)) 17) (0 : Int32).toNatClampNeg (0 : Int32).toNatClampNeg (4 : Int32).toNatClampNeg)) 18 (va_cpy ((xrow (xu (xu (xu (xu f 10 0 (f 1 7)) 2 6 ((xu f 10 0 (f 1 7)) 1 9)) 2 4 ((xu (xu f 10 0 (f 1 7)) 2 6 ((xu f 10 0 (f 1 7)) 1 9)) 1 5)) 2 5 ((xu (xu (xu f 10 0 (f 1 7)) 2 6 ((xu f 10 0 (f 1 7)) 1 9)) 2 4 ((xu (xu f 10 0 (f 1 7)) 2 6 ((xu f 10 0 (f 1 7)) 1 9)) 1 5)) 1 6)) 17 (va_cpy ((xu (xu (xu (xu f 10 0 (f 1 7)) 2 6 ((xu f 10 0 (f 1 7)) 1 9)) 2 4 ((xu (xu f 10 0 (f 1 7)) 2 6 ((xu f 10 0 (f 1 7)) 1 9)) 1 5)) 2 5 ((xu (xu (xu f 10 0 (f 1 7)) 2 6 ((xu f 10 0 (f 1 7)) 1 9)) 2 4 ((xu (xu f 10 0 (f 1 7)) 2 6 ((xu f 10 0 (f 1 7)) 1 9)) 1 5)) 1 6)) 15) ((xu (xu (xu (xu f 10 0 (f 1 7)) 2 6 ((xu f 10 0 (f 1 7)) 1 9)) 2 4 ((xu (xu f 10 0 (f 1 7)) 2 6 ((xu f 10 0 (f 1 7)) 1 9)) 1 5)) 2 5 ((xu (xu (xu f 10 0 (f 1 7)) 2 6 ((xu f 10 0 (f 1 7)) 1 9)) 2 4 ((xu (xu f 10 0 (f 1 7)) 2 6 ((xu f 10 0 (f 1 7)) 1 9)) 1 5)) 1 6)) 17) (0 : Int32).toNatClampNeg (0 : Int32).toNatClampNeg (4 : Int32).toNatClampNeg)) 16) ((xrow (xu (xu (xu (xu f 10 0 (f 1 7)) 2 6 ((xu f 10 0 (f 1 7)) 1 9)) 2 4 ((xu (xu f 10 0 (f 1 7)) 2 6 ((xu f 10 0 (f 1 7)) 1 9)) 1 5)) 2 5 ((xu (xu (xu f 10 0 (f 1 7)) 2 6 ((xu f 10 0 (f 1 7)) 1 9)) 2 4 ((xu (xu f 10 0 (f 1 7)) 2 6 ((xu f 10 0 (f 1 7)) 1 9)) 1 5)) 1 6)) 17 (va_cpy ((xu (xu (xu (xu f 10 0 (f 1 7)) 2 6 ((xu f 10 0 (f 1 7)) 1 9)) 2 4 ((xu (xu f 10 0 (f 1 7)) 2 6 ((xu f 10 0 (f 1 7)) 1 9)) 1 5)) 2 5 ((xu (xu (xu f 10 0 (f 1 7)) 2 6 ((xu f 10 0 (f 1 7)) 1 9)) 2 4 ((xu (xu f 10 0 (f 1 7)) 2 6 ((xu f 10 0 (f 1 7)) 1 9)) 1 5)) 1 6)) 15) ((xu (xu (xu (xu f 10 0 (f 1 7)) 2 6 ((xu f 10 0 (f 1 7)) 1 9)) 2 4 ((xu (xu f 10 0 (f 1 7)) 2 6 ((xu f 10 0 (f 1 7)) 1 9)) 1 5)) 2 5 ((xu (xu (xu f 10 0 (f 1 7)) 2 6 ((xu f 10 0 (f 1 7)) 1 9)) 2 4 ((xu (xu f 10 0 (f 1 7)) 2 6 ((xu f 10 0 (f 1 7)) 1 9)) 1 5)) 1 6)) 17) (0 : Int32).toNatClampNeg (0 : Int32).toNatClampNeg (4 : Int32).toNatClampNeg)) 18) (0 : Int32).toNatClampNeg (0 : Int32).toNatClampNeg (4 : Int32).toNatClampNeg)))) (g' := g) (tX9_setSaid rfl) (Nat.le_of_ble_eq_true rfl) cwX9_setSaid rfl mnX6_62 sC_11 kX9 rfl rfl rfl (Nat.le_of_ble_eq_true rfl) dX6_makeAnew_71 ?_
  refine X.aload_n (i := 0) dX6_makeAnew_74 rfl rfl ?_
  refine X.getR (k0 := 1) kX6 sC_2 (Nat.le_of_ble_eq_true rfl) rfl lfX6_21 dX6_makeAnew_75 ?_
  refine X.callVN (μ' := mX9_startDays) (As := []) (st := []) (st1 := []) (r := none) (f' := (pX9_startDays (pX9_setSaid ((xrow (xrow (xu (xu (xu (xu f 10 0 (f 1 7)) 2 6 ((xu f 10 0 (f 1 7)) 1 9)) 2 4 ((xu (xu f 10 0 (f 1 7)) 2 6 ((xu f 10 0 (f 1 7)) 1 9)) 1 5)) 2 5 ((xu (xu (xu f 10 0 (f 1 7)) 2 6 ((xu f 10 0 (f 1 7)) 1 9)) 2 4 ((xu (xu f 10 0 (f 1 7)) 2 6 ((xu f 10 0 (f 1 7)) 1 9)) 1 5)) 1 6)) 17 (va_cpy ((xu (xu (xu (xu f 10 0 (f 1 7)) 2 6 ((xu f 10 0 (f 1 7)) 1 9)) 2 4 ((xu (xu f 10 0 (f 1 7)) 2 6 ((xu f 10 0 (f 1 7)) 1 9)) 1 5)) 2 5 ((xu (xu (xu f 10 0 (f 1 7)) 2 6 ((xu f 10 0 (f 1 7)) 1 9)) 2 4 ((xu (xu f 10 0 (f 1 7)) 2 6 ((xu f 10 0 (f 1 7)) 1 9)) 1 5)) 1 6)) 15) ((xu (xu (xu (xu f 10 0 (f 1 7)) 2 6 ((xu f 10 0 (f 1 7)) 1 9)) 2 4 ((xu (xu f 10 0 (f 1 7)) 2 6 ((xu f 10 0 (f 1 7)) 1 9)) 1 5)) 2 5 ((xu (xu (xu f 10 0 (f 1 7)) 2 6 ((xu f 10 0 (f 1 7)) 1 9)) 2 4 ((xu (xu f 10 0 (f 1 7)) 2 6 ((xu f 10 0 (f 1 7)) 1 9)) 1 5)) 1 6)) 17) (0 : Int32).toNatClampNeg (0 : Int32).toNatClampNeg (4 : Int32).toNatClampNeg)) 18 (va_cpy ((xrow (xu (xu (xu (xu f 10 0 (f 1 7)) 2 6 ((xu f 10 0 (f 1 7)) 1 9)) 2 4 ((xu (xu f 10 0 (f 1 7)) 2 6 ((xu f 10 0 (f 1 7)) 1 9)) 1 5)) 2 5 ((xu (xu (xu f 10 0 (f 1 7)) 2 6 ((xu f 10 0 (f 1 7)) 1 9)) 2 4 ((xu (xu f 10 0 (f 1 7)) 2 6 ((xu f 10 0 (f 1 7)) 1 9)) 1 5)) 1 6)) 17 (va_cpy ((xu (xu (xu (xu f 10 0 (f 1 7)) 2 6 ((xu f 10 0 (f 1 7)) 1 9)) 2 4 ((xu (xu f 10 0 (f 1 7)) 2 6 ((xu f 10 0 (f 1 7)) 1 9)) 1 5)) 2 5 ((xu (xu (xu f 10 0 (f 1 7)) 2 6 ((xu f 10 0 (f 1 7)) 1 9)) 2 4 ((xu (xu f 10 0 (f 1 7)) 2 6 ((xu f 10 0 (f 1 7)) 1 9)) 1 5)) 1 6)) 15) ((xu (xu (xu (xu f 10 0 (f 1 7)) 2 6 ((xu f 10 0 (f 1 7)) 1 9)) 2 4 ((xu (xu f 10 0 (f 1 7)) 2 6 ((xu f 10 0 (f 1 7)) 1 9)) 1 5)) 2 5 ((xu (xu (xu f 10 0 (f 1 7)) 2 6 ((xu f 10 0 (f 1 7)) 1 9)) 2 4 ((xu (xu f 10 0 (f 1 7)) 2 6 ((xu f 10 0 (f 1 7)) 1 9)) 1 5)) 1 6)) 17) (0 : Int32).toNatClampNeg (0 : Int32).toNatClampNeg (4 : Int32).toNatClampNeg)) 16) ((xrow (xu (xu (xu (xu f 10 0 (f 1 7)) 2 6 ((xu f 10 0 (f 1 7)) 1 9)) 2 4 ((xu (xu f 10 0 (f 1 7)) 2 6 ((xu f 10 0 (f 1 7)) 1 9)) 1 5)) 2 5 ((xu (xu (xu f 10 0 (f 1 7)) 2 6 ((xu f 10 0 (f 1 7)) 1 9)) 2 4 ((xu (xu f 10 0 (f 1 7)) 2 6 ((xu f 10 0 (f 1 7)) 1 9)) 1 5)) 1 6)) 17 (va_cpy ((xu (xu (xu (xu f 10 0 (f 1 7)) 2 6 ((xu f 10 0 (f 1 7)) 1 9)) 2 4 ((xu (xu f 10 0 (f 1 7)) 2 6 ((xu f 10 0 (f 1 7)) 1 9)) 1 5)) 2 5 ((xu (xu (xu f 10 0 (f 1 7)) 2 6 ((xu f 10 0 (f 1 7)) 1 9)) 2 4 ((xu (xu f 10 0 (f 1 7)) 2 6 ((xu f 10 0 (f 1 7)) 1 9)) 1 5)) 1 6)) 15) ((xu (xu (xu (xu f 10 0 (f 1 7)) 2 6 ((xu f 10 0 (f 1 7)) 1 9)) 2 4 ((xu (xu f 10 0 (f 1 7)) 2 6 ((xu f 10 0 (f 1 7)) 1 9)) 1 5)) 2 5 ((xu (xu (xu f 10 0 (f 1 7)) 2 6 ((xu f 10 0 (f 1 7)) 1 9)) 2 4 ((xu (xu f 10 0 (f 1 7)) 2 6 ((xu f 10 0 (f 1 7)) 1 9)) 1 5)) 1 6)) 17) (0 : Int32).toNatClampNeg (0 : Int32).toNatClampNeg (4 : Int32).toNatClampNeg)) 18) (0 : Int32).toNatClampNeg (0 : Int32).toNatClampNeg (4 : Int32).toNatClampNeg)) 1 10) (xrow (xrow (xu (xu (xu (xu f 10 0 (f 1 7)) 2 6 ((xu f 10 0 (f 1 7)) 1 9)) 2 4 ((xu (xu f 10 0 (f 1 7)) 2 6 ((xu f 10 0 (f 1 7)) 1 9)) 1 5)) 2 5 ((xu (xu (xu f 10 0 (f 1 7)) 2 6 ((xu f 10 0 (f 1 7)) 1 9)) 2 4 ((xu (xu f 10 0 (f 1 7)) 2 6 ((xu f 10 0 (f 1 7)) 1 9)) 1 5)) 1 6)) 17 (va_cpy ((xu (xu (xu (xu f 10 0 (f 1 7)) 2 6 ((xu f 10 0 (f 1 7)) 1 9)) 2 4 ((xu (xu f 10 0 (f 1 7)) 2 6 ((xu f 10 0 (f 1 7)) 1 9)) 1 5)) 2 5 ((xu (xu (xu f 10 0 (f 1 7)) 2 6 ((xu f 10 0 (f 1 7)) 1 9)) 2 4 ((xu (xu f 10 0 (f 1 7)) 2 6 ((xu f 10 0 (f 1 7)) 1 9)) 1 5)) 1 6)) 15) ((xu (xu (xu (xu f 10 0 (f 1 7)) 2 6 ((xu f 10 0 (f 1 7)) 1 9)) 2 4 ((xu (xu f 10 0 (f 1 7)) 2 6 ((xu f 10 0 (f 1 7)) 1 9)) 1 5)) 2 5 ((xu (xu (xu f 10 0 (f 1 7)) 2 6 ((xu f 10 0 (f 1 7)) 1 9)) 2 4 ((xu (xu f 10 0 (f 1 7)) 2 6 ((xu f 10 0 (f 1 7)) 1 9)) 1 5)) 1 6)) 17) (0 : Int32).toNatClampNeg (0 : Int32).toNatClampNeg (4 : Int32).toNatClampNeg)) 18 (va_cpy ((xrow (xu (xu (xu (xu f 10 0 (f 1 7)) 2 6 ((xu f 10 0 (f 1 7)) 1 9)) 2 4 ((xu (xu f 10 0 (f 1 7)) 2 6 ((xu f 10 0 (f 1 7)) 1 9)) 1 5)) 2 5 ((xu (xu (xu f 10 0 (f 1 7)) 2 6 ((xu f 10 0 (f 1 7)) 1 9)) 2 4 ((xu (xu f 10 0 (f 1 7)) 2 6 ((xu f 10 0 (f 1 7)) 1 9)) 1 5)) 1 6)) 17 (va_cpy ((xu (xu (xu (xu f 10 0 (f 1 7)) 2 6 ((xu f 10 0 (f 1 7)) 1 9)) 2 4 ((xu (xu f 10 0 (f 1 7)) 2 6 ((xu f 10 0 (f 1 7)) 1 9)) 1 5)) 2 5 ((xu (xu (xu f 10 0 (f 1 7)) 2 6 ((xu f 10 0 (f 1 7)) 1 9)) 2 4 ((xu (xu f 10 0 (f 1 7)) 2 6 ((xu f 10 0 (f 1 7)) 1 9)) 1 5)) 1 6)) 15) ((xu (xu (xu (xu f 10 0 (f 1 7)) 2 6 ((xu f 10 0 (f 1 7)) 1 9)) 2 4 ((xu (xu f 10 0 (f 1 7)) 2 6 ((xu f 10 0 (f 1 7)) 1 9)) 1 5)) 2 5 ((xu (xu (xu f 10 0 (f 1 7)) 2 6 ((xu f 10 0 (f 1 7)) 1 9)) 2 4 ((xu (xu f 10 0 (f 1 7)) 2 6 ((xu f 10 0 (f 1 7)) 1 9)) 1 5)) 1 6)) 17) (0 : Int32).toNatClampNeg (0 : Int32).toNatClampNeg (4 : Int32).toNatClampNeg)) 16) ((xrow (xu (xu (xu (xu f 10 0 (f 1 7)) 2 6 ((xu f 10 0 (f 1 7)) 1 9)) 2 4 ((xu (xu f 10 0 (f 1 7)) 2 6 ((xu f 10 0 (f 1 7)) 1 9)) 1 5)) 2 5 ((xu (xu (xu f 10 0 (f 1 7)) 2 6 ((xu f 10 0 (f 1 7)) 1 9)) 2 4 ((xu (xu f 10 0 (f 1 7)) 2 6 ((xu f 10 0 (f 1 7)) 1 9)) 1 5)) 1 6)) 17 (va_cpy ((xu (xu (xu (xu f 10 0 (f 1 7)) 2 6 ((xu f 10 0 (f 1 7)) 1 9)) 2 4 ((xu (xu f 10 0 (f 1 7)) 2 6 ((xu f 10 0 (f 1 7)) 1 9)) 1 5)) 2 5 ((xu (xu (xu f 10 0 (f 1 7)) 2 6 ((xu f 10 0 (f 1 7)) 1 9)) 2 4 ((xu (xu f 10 0 (f 1 7)) 2 6 ((xu f 10 0 (f 1 7)) 1 9)) 1 5)) 1 6)) 15) ((xu (xu (xu (xu f 10 0 (f 1 7)) 2 6 ((xu f 10 0 (f 1 7)) 1 9)) 2 4 ((xu (xu f 10 0 (f 1 7)) 2 6 ((xu f 10 0 (f 1 7)) 1 9)) 1 5)) 2 5 ((xu (xu (xu f 10 0 (f 1 7)) 2 6 ((xu f 10 0 (f 1 7)) 1 9)) 2 4 ((xu (xu f 10 0 (f 1 7)) 2 6 ((xu f 10 0 (f 1 7)) 1 9)) 1 5)) 1 6)) 17) (0 : Int32).toNatClampNeg (0 : Int32).toNatClampNeg (4 : Int32).toNatClampNeg)) 18) (0 : Int32).toNatClampNeg (0 : Int32).toNatClampNeg (4 : Int32).toNatClampNeg))))) (g' := g) (tX9_startDays rfl) (Nat.le_of_ble_eq_true rfl) cwX9_startDays rfl mnX6_66 sC_11 kX9 rfl rfl rfl (Nat.le_of_ble_eq_true rfl) dX6_makeAnew_78 ?_
  refine X.iconst (v := (0 : Int32)) dX6_makeAnew_81 (by decide) ?_
  refine X.istore_n (i := 2) (L' := [some (.ref 2), some (.ref 1), some (.int (0 : Int32))]) dX6_makeAnew_82 rfl (Nat.le_of_ble_eq_true rfl) rfl ?_
  exact X.weaken (xle_c (xle_c (xle_c xle_e))) (tX6_makeAnew_b83 F h)
def pX3_forget (f : xM) : xM := (xu (xu f 3 1 (0 : Int32)) 3 2 (0 : Int32))
set_option maxRecDepth 100000 in
set_option maxHeartbeats 4000000 in
theorem tX3_forget {g : xN} {f : xM} {r : xM} (h : pX3_forget f = r) : XT mX3_forget 0 [.ref 3] f g (none, r, g) := by
  unfold pX3_forget at h
  refine XT.of (L := [some (.ref 3)]) [some (.ref 3)] rfl (Nat.le_of_ble_eq_true rfl) rfl (xle_c xle_e) ?_
  refine X.aload_n (i := 0) dX3_forget_0 rfl rfl ?_
  refine X.iconst (v := (0 : Int32)) dX3_forget_1 (by decide) ?_
  refine X.putI (k0 := 1) kX3 sC_3 (Nat.le_of_ble_eq_true rfl) rfl lfX3_18 rfl rfl dX3_forget_2 ?_
  refine X.aload_n (i := 0) dX3_forget_5 rfl rfl ?_
  refine X.iconst (v := (0 : Int32)) dX3_forget_6 (by decide) ?_
  refine X.putI (k0 := 2) kX3 sC_3 (Nat.le_of_ble_eq_true rfl) rfl lfX3_22 rfl rfl dX3_forget_7 ?_
  subst h
  exact X.vret dX3_forget_10 rfl rfl
def pX11_paper (F : Nat) (f : xM) : Option (Int32 × xM) := (Option.bind (pX10_findFault F f) fun q1 => (if q1.1 = (-9 : Int32) then (Option.bind (pX6_makeAnew F q1.2) fun q3 => some (((((10 : Int32) * ((xu (pX3_forget q3) 0 9 (0 : Int32)) 2 4)) + ((xu (pX3_forget q3) 0 9 (0 : Int32)) 2 5)), (xu (pX3_forget q3) 0 9 (0 : Int32))))) else some (((-3 : Int32), q1.2))))
set_option maxRecDepth 100000 in
set_option maxHeartbeats 4000000 in
theorem tX11_paper {F : Nat} {g : xN} {f : xM} {r : Int32 × xM} (h : pX11_paper F f = some r) : XT mX11_paper 4 [.ref 0] f g (some (.int r.1), r.2, g) := by
  unfold pX11_paper at h
  refine XT.of (L := [some (.ref 0)]) [some (.ref 0)] rfl (Nat.le_of_ble_eq_true rfl) rfl (xle_c xle_e) ?_
  refine X.aload_n (i := 0) dX11_paper_0 rfl rfl ?_
  refine X.getR (k0 := 0) kX11 sC_0 (Nat.le_of_ble_eq_true rfl) rfl lfX11_12 dX11_paper_1 ?_
  obtain ⟨q1, e1, h⟩ := xbind h
  try dsimp only at h
  refine X.callVN (μ' := mX10_findFault) (As := []) (st := []) (st1 := [.int q1.1]) (r := some (.int q1.1)) (f' := q1.2) (g' := g) (tX10_findFault e1) (Nat.le_of_ble_eq_true rfl) cwX10_findFault rfl mnX11_89 sC_1 kX10 rfl rfl rfl (Nat.le_of_ble_eq_true rfl) dX11_paper_4 ?_
  refine X.bipush (v := (-9 : Int32)) dX11_paper_7 (by decide) ?_
  refine X.icmp_eq (tgt := 15) dX11_paper_9 (by decide) (fun c2 => ?_) (fun c2 => ?_)
  · rw [if_pos c2] at h
    refine X.aload_n (i := 0) dX11_paper_15 rfl rfl ?_
    refine X.getR (k0 := 1) kX11 sC_0 (Nat.le_of_ble_eq_true rfl) rfl lfX11_19 dX11_paper_16 ?_
    refine X.aload_n (i := 0) dX11_paper_19 rfl rfl ?_
    refine X.getR (k0 := 0) kX11 sC_0 (Nat.le_of_ble_eq_true rfl) rfl lfX11_12 dX11_paper_20 ?_
    obtain ⟨q3, e3, h⟩ := xbind h
    try dsimp only at h
    refine X.callVN (μ' := mX6_makeAnew) (As := [.ref 1]) (st := []) (st1 := []) (r := none) (f' := q3) (g' := g) (tX6_makeAnew e3) (Nat.le_of_ble_eq_true rfl) cwX6_makeAnew rfl mnX11_93 sC_2 kX6 rfl rfl rfl (Nat.le_of_ble_eq_true rfl) dX11_paper_23 ?_
    refine X.aload_n (i := 0) dX11_paper_26 rfl rfl ?_
    refine X.getR (k0 := 2) kX11 sC_0 (Nat.le_of_ble_eq_true rfl) rfl lfX11_26 dX11_paper_27 ?_
    refine X.callVN (μ' := mX3_forget) (As := []) (st := []) (st1 := []) (r := none) (f' := (pX3_forget q3)) (g' := g) (tX3_forget rfl) (Nat.le_of_ble_eq_true rfl) cwX3_forget rfl mnX11_97 sC_3 kX3 rfl rfl rfl (Nat.le_of_ble_eq_true rfl) dX11_paper_30 ?_
    refine X.aload_n (i := 0) dX11_paper_33 rfl rfl ?_
    refine X.iconst (v := (0 : Int32)) dX11_paper_34 (by decide) ?_
    refine X.putI (k0 := 9) kX11 sC_0 (Nat.le_of_ble_eq_true rfl) rfl lfX11_74 rfl rfl dX11_paper_35 ?_
    refine X.bipush (v := (10 : Int32)) dX11_paper_38 (by decide) ?_
    refine X.aload_n (i := 0) dX11_paper_40 rfl rfl ?_
    refine X.getR (k0 := 1) kX11 sC_0 (Nat.le_of_ble_eq_true rfl) rfl lfX11_19 dX11_paper_41 ?_
    refine X.getIN (k0 := 4) kX6 sC_2 (Nat.le_of_ble_eq_true rfl) rfl lnX11_100 dX11_paper_44 ?_
    refine X.imul dX11_paper_47 ?_
    refine X.aload_n (i := 0) dX11_paper_48 rfl rfl ?_
    refine X.getR (k0 := 1) kX11 sC_0 (Nat.le_of_ble_eq_true rfl) rfl lfX11_19 dX11_paper_49 ?_
    refine X.getIN (k0 := 5) kX6 sC_2 (Nat.le_of_ble_eq_true rfl) rfl lnX11_103 dX11_paper_52 ?_
    refine X.iadd dX11_paper_55 ?_
    obtain rfl := Option.some.inj h
    exact X.iret dX11_paper_56 rfl rfl
  · rw [if_neg c2] at h
    refine X.bipush (v := (-3 : Int32)) dX11_paper_12 (by decide) ?_
    obtain rfl := Option.some.inj h
    exact X.iret dX11_paper_14 rfl rfl
def pX9_beliefOf (f : xM) (v1 : Int32) : Option (Int32) := (if v1 < 0 then some ((-9 : Int32)) else (if (4 : Int32) ≤ v1 then some ((-9 : Int32)) else (if xin ((5 : Int32) + v1) 9 then some ((f 19 ((5 : Int32) + v1).toNatClampNeg)) else none)))
set_option maxRecDepth 100000 in
set_option maxHeartbeats 4000000 in
theorem tX9_beliefOf {f : xM} {g : xN} {v1 : Int32} {r : Int32} (h : pX9_beliefOf f v1 = some r) : XT mX9_beliefOf 0 [.ref 11, .int v1] f g (some (.int r), f, g) := by
  unfold pX9_beliefOf at h
  refine XT.of (L := [some (.ref 11), some (.int v1)]) [some (.ref 11), some (.int v1)] rfl (Nat.le_of_ble_eq_true rfl) rfl (xle_c (xle_c xle_e)) ?_
  refine X.iload_n (i := 1) dX9_beliefOf_0 rfl rfl ?_
  refine X.if_lt (tgt := 20) dX9_beliefOf_1 (by decide) (fun c1 => ?_) (fun c1 => ?_)
  · rw [if_pos c1] at h
    refine X.bipush (v := (-9 : Int32)) dX9_beliefOf_20 (by decide) ?_
    obtain rfl := Option.some.inj h
    exact X.iret dX9_beliefOf_22 rfl rfl
  · rw [if_neg c1] at h
    refine X.iload_n (i := 1) dX9_beliefOf_4 rfl rfl ?_
    refine X.iconst (v := (4 : Int32)) dX9_beliefOf_5 (by decide) ?_
    refine X.icmp_ge (tgt := 20) dX9_beliefOf_6 (by decide) (fun c2 => ?_) (fun c2 => ?_)
    · rw [if_pos c2] at h
      refine X.bipush (v := (-9 : Int32)) dX9_beliefOf_20 (by decide) ?_
      obtain rfl := Option.some.inj h
      exact X.iret dX9_beliefOf_22 rfl rfl
    · rw [if_neg c2] at h
      refine X.aload_n (i := 0) dX9_beliefOf_9 rfl rfl ?_
      refine X.getR (k0 := 0) kX9 sC_11 (Nat.le_of_ble_eq_true rfl) rfl lfX9_11 dX9_beliefOf_10 ?_
      refine X.iconst (v := (5 : Int32)) dX9_beliefOf_13 (by decide) ?_
      refine X.iload_n (i := 1) dX9_beliefOf_14 rfl rfl ?_
      refine X.iadd dX9_beliefOf_15 ?_
      by_cases c3 : xin ((5 : Int32) + v1) 9
      rotate_left
      · rw [if_neg c3] at h; cases h
      rw [if_pos c3] at h
      refine X.iald sC_19 c3 dX9_beliefOf_16 ?_
      refine X.goto (tgt := 22) dX9_beliefOf_17 (by decide) ?_
      obtain rfl := Option.some.inj h
      exact X.iret dX9_beliefOf_22 rfl rfl
def pX6_believingTruth_b4 (F : Nat) (f : xM) : Nat → Int32 → Int32 → Option (Int32)
  | 0, _, _ => none
  | n + 1, v1, v2 => (if (f 2 5) ≤ v2 then some (v1) else (Option.bind (pX9_beliefOf f v2) fun q2 => (if q2 = (f 2 6) then (pX6_believingTruth_b4 F f n (v1 ||| ((1 : Int32) <<< (v2 &&& 31))) (v2 + (1 : Int32))) else (pX6_believingTruth_b4 F f n v1 (v2 + (1 : Int32))))))
set_option maxRecDepth 100000 in
set_option maxHeartbeats 4000000 in
theorem tX6_believingTruth_b4 {F : Nat} {f : xM} {g : xN} : ∀ (n : Nat) {v1 : Int32} {v2 : Int32} {r : Int32}, pX6_believingTruth_b4 F f n v1 v2 = some r → X mX6_believingTruth 1 (some (.int r), f, g) 4 [some (.ref 2), some (.int v1), some (.int v2)] [] f g := by
  intro n
  induction n with
  | zero => intro v1 v2 r h; cases h
  | succ n ih =>
    intro v1 v2 r h
    rw [pX6_believingTruth_b4] at h
    refine X.iload_n (i := 2) dX6_believingTruth_4 rfl rfl ?_
    refine X.aload_n (i := 0) dX6_believingTruth_5 rfl rfl ?_
    refine X.getI (k0 := 5) kX6 sC_2 (Nat.le_of_ble_eq_true rfl) rfl lfX6_36 dX6_believingTruth_6 ?_
    refine X.icmp_ge (tgt := 39) dX6_believingTruth_9 (by decide) (fun c1 => ?_) (fun c1 => ?_)
    · rw [if_pos c1] at h
      refine X.iload_n (i := 1) dX6_believingTruth_39 rfl rfl ?_
      obtain rfl := Option.some.inj h
      exact X.iret dX6_believingTruth_40 rfl rfl
    · rw [if_neg c1] at h
      refine X.aload_n (i := 0) dX6_believingTruth_12 rfl rfl ?_
      refine X.getR (k0 := 1) kX6 sC_2 (Nat.le_of_ble_eq_true rfl) rfl lfX6_21 dX6_believingTruth_13 ?_
      refine X.iload_n (i := 2) dX6_believingTruth_16 rfl rfl ?_
      obtain ⟨q2, e2, h⟩ := xbind h
      try dsimp only at h
      refine X.callVN (μ' := mX9_beliefOf) (As := [.int v2]) (st := []) (st1 := [.int q2]) (r := some (.int q2)) (f' := f) (g' := g) (tX9_beliefOf e2) (Nat.le_of_ble_eq_true rfl) cwX9_beliefOf rfl mnX6_101 sC_11 kX9 rfl rfl rfl (Nat.le_of_ble_eq_true rfl) dX6_believingTruth_17 ?_
      refine X.aload_n (i := 0) dX6_believingTruth_20 rfl rfl ?_
      refine X.getI (k0 := 6) kX6 sC_2 (Nat.le_of_ble_eq_true rfl) rfl lfX6_39 dX6_believingTruth_21 ?_
      refine X.icmp_ne (tgt := 33) dX6_believingTruth_24 (by decide) (fun c3 => ?_) (fun c3 => ?_)
      · rw [if_neg c3] at h
        refine X.iinc (i := 2) (v := (v2 + (1 : Int32))) (L' := [some (.ref 2), some (.int v1), some (.int (v2 + (1 : Int32)))]) dX6_believingTruth_33 rfl rfl (Nat.le_of_ble_eq_true rfl) rfl ?_
        refine X.goto (tgt := 4) dX6_believingTruth_36 (by decide) ?_
        exact X.weaken (xle_c (xle_c (xle_c xle_e))) (ih h)
      · rw [if_pos c3] at h
        refine X.iload_n (i := 1) dX6_believingTruth_27 rfl rfl ?_
        refine X.iconst (v := (1 : Int32)) dX6_believingTruth_28 (by decide) ?_
        refine X.iload_n (i := 2) dX6_believingTruth_29 rfl rfl ?_
        refine X.ishl dX6_believingTruth_30 ?_
        refine X.ior dX6_believingTruth_31 ?_
        refine X.istore_n (i := 1) (L' := [some (.ref 2), some (.int (v1 ||| ((1 : Int32) <<< (v2 &&& 31)))), some (.int v2)]) dX6_believingTruth_32 rfl (Nat.le_of_ble_eq_true rfl) rfl ?_
        refine X.iinc (i := 2) (v := (v2 + (1 : Int32))) (L' := [some (.ref 2), some (.int (v1 ||| ((1 : Int32) <<< (v2 &&& 31)))), some (.int (v2 + (1 : Int32)))]) dX6_believingTruth_33 rfl rfl (Nat.le_of_ble_eq_true rfl) rfl ?_
        refine X.goto (tgt := 4) dX6_believingTruth_36 (by decide) ?_
        exact X.weaken (xle_c (xle_c (xle_c xle_e))) (ih h)
def pX6_believingTruth (F : Nat) (f : xM) : Option (Int32) := (pX6_believingTruth_b4 F f F (0 : Int32) (0 : Int32))
set_option maxRecDepth 100000 in
set_option maxHeartbeats 4000000 in
theorem tX6_believingTruth {F : Nat} {f : xM} {g : xN} {r : Int32} (h : pX6_believingTruth F f = some r) : XT mX6_believingTruth 1 [.ref 2] f g (some (.int r), f, g) := by
  unfold pX6_believingTruth at h
  refine XT.of (L := [some (.ref 2), none, none]) [some (.ref 2)] rfl (Nat.le_of_ble_eq_true rfl) rfl (xle_c (xle_z (xle_z xle_e))) ?_
  refine X.iconst (v := (0 : Int32)) dX6_believingTruth_0 (by decide) ?_
  refine X.istore_n (i := 1) (L' := [some (.ref 2), some (.int (0 : Int32)), none]) dX6_believingTruth_1 rfl (Nat.le_of_ble_eq_true rfl) rfl ?_
  refine X.iconst (v := (0 : Int32)) dX6_believingTruth_2 (by decide) ?_
  refine X.istore_n (i := 2) (L' := [some (.ref 2), some (.int (0 : Int32)), some (.int (0 : Int32))]) dX6_believingTruth_3 rfl (Nat.le_of_ble_eq_true rfl) rfl ?_
  exact X.weaken (xle_c (xle_c (xle_c xle_e))) (tX6_believingTruth_b4 F h)
def pX9_day (f : xM) : Int32 := (f 19 1)
set_option maxRecDepth 100000 in
set_option maxHeartbeats 4000000 in
theorem tX9_day {f : xM} {g : xN} {r : Int32} (h : pX9_day f = r) : XT mX9_day 0 [.ref 11] f g (some (.int r), f, g) := by
  unfold pX9_day at h
  refine XT.of (L := [some (.ref 11)]) [some (.ref 11)] rfl (Nat.le_of_ble_eq_true rfl) rfl (xle_c xle_e) ?_
  refine X.aload_n (i := 0) dX9_day_0 rfl rfl ?_
  refine X.getR (k0 := 0) kX9 sC_11 (Nat.le_of_ble_eq_true rfl) rfl lfX9_11 dX9_day_1 ?_
  refine X.iconst (v := (1 : Int32)) dX9_day_4 (by decide) ?_
  refine X.ialdK (m := 1) sC_19 (by decide) (by decide) dX9_day_5 ?_
  subst h
  exact X.iret dX9_day_6 rfl rfl
def pX6_periodOf (f : xM) (v1 : Int32) : Option (Int32) := (if v1 < 0 then some ((0 : Int32)) else (if (4 : Int32) ≤ v1 then some ((0 : Int32)) else (if xin v1 4 then some ((f 17 v1.toNatClampNeg)) else none)))
set_option maxRecDepth 100000 in
set_option maxHeartbeats 4000000 in
theorem tX6_periodOf {f : xM} {g : xN} {v1 : Int32} {r : Int32} (h : pX6_periodOf f v1 = some r) : XT mX6_periodOf 0 [.ref 2, .int v1] f g (some (.int r), f, g) := by
  unfold pX6_periodOf at h
  refine XT.of (L := [some (.ref 2), some (.int v1)]) [some (.ref 2), some (.int v1)] rfl (Nat.le_of_ble_eq_true rfl) rfl (xle_c (xle_c xle_e)) ?_
  refine X.iload_n (i := 1) dX6_periodOf_0 rfl rfl ?_
  refine X.if_lt (tgt := 22) dX6_periodOf_1 (by decide) (fun c1 => ?_) (fun c1 => ?_)
  · rw [if_pos c1] at h
    refine X.iconst (v := (0 : Int32)) dX6_periodOf_22 (by decide) ?_
    obtain rfl := Option.some.inj h
    exact X.iret dX6_periodOf_23 rfl rfl
  · rw [if_neg c1] at h
    refine X.iload_n (i := 1) dX6_periodOf_4 rfl rfl ?_
    refine X.aload_n (i := 0) dX6_periodOf_5 rfl rfl ?_
    refine X.getR (k0 := 2) kX6 sC_2 (Nat.le_of_ble_eq_true rfl) rfl lfX6_25 dX6_periodOf_6 ?_
    refine X.alen (v := (4 : Int32)) sC_17 (by decide) dX6_periodOf_9 ?_
    refine X.icmp_ge (tgt := 22) dX6_periodOf_10 (by decide) (fun c2 => ?_) (fun c2 => ?_)
    · rw [if_pos c2] at h
      refine X.iconst (v := (0 : Int32)) dX6_periodOf_22 (by decide) ?_
      obtain rfl := Option.some.inj h
      exact X.iret dX6_periodOf_23 rfl rfl
    · rw [if_neg c2] at h
      refine X.aload_n (i := 0) dX6_periodOf_13 rfl rfl ?_
      refine X.getR (k0 := 2) kX6 sC_2 (Nat.le_of_ble_eq_true rfl) rfl lfX6_25 dX6_periodOf_14 ?_
      refine X.iload_n (i := 1) dX6_periodOf_17 rfl rfl ?_
      by_cases c3 : xin v1 4
      rotate_left
      · rw [if_neg c3] at h; cases h
      rw [if_pos c3] at h
      refine X.iald sC_17 c3 dX6_periodOf_18 ?_
      refine X.goto (tgt := 23) dX6_periodOf_19 (by decide) ?_
      obtain rfl := Option.some.inj h
      exact X.iret dX6_periodOf_23 rfl rfl
def pX6_leftOf (f : xM) (v1 : Int32) : Option (Int32) := (if v1 < 0 then some ((0 : Int32)) else (if (4 : Int32) ≤ v1 then some ((0 : Int32)) else (if xin v1 4 then some ((f 18 v1.toNatClampNeg)) else none)))
set_option maxRecDepth 100000 in
set_option maxHeartbeats 4000000 in
theorem tX6_leftOf {f : xM} {g : xN} {v1 : Int32} {r : Int32} (h : pX6_leftOf f v1 = some r) : XT mX6_leftOf 0 [.ref 2, .int v1] f g (some (.int r), f, g) := by
  unfold pX6_leftOf at h
  refine XT.of (L := [some (.ref 2), some (.int v1)]) [some (.ref 2), some (.int v1)] rfl (Nat.le_of_ble_eq_true rfl) rfl (xle_c (xle_c xle_e)) ?_
  refine X.iload_n (i := 1) dX6_leftOf_0 rfl rfl ?_
  refine X.if_lt (tgt := 22) dX6_leftOf_1 (by decide) (fun c1 => ?_) (fun c1 => ?_)
  · rw [if_pos c1] at h
    refine X.iconst (v := (0 : Int32)) dX6_leftOf_22 (by decide) ?_
    obtain rfl := Option.some.inj h
    exact X.iret dX6_leftOf_23 rfl rfl
  · rw [if_neg c1] at h
    refine X.iload_n (i := 1) dX6_leftOf_4 rfl rfl ?_
    refine X.aload_n (i := 0) dX6_leftOf_5 rfl rfl ?_
    refine X.getR (k0 := 3) kX6 sC_2 (Nat.le_of_ble_eq_true rfl) rfl lfX6_29 dX6_leftOf_6 ?_
    refine X.alen (v := (4 : Int32)) sC_18 (by decide) dX6_leftOf_9 ?_
    refine X.icmp_ge (tgt := 22) dX6_leftOf_10 (by decide) (fun c2 => ?_) (fun c2 => ?_)
    · rw [if_pos c2] at h
      refine X.iconst (v := (0 : Int32)) dX6_leftOf_22 (by decide) ?_
      obtain rfl := Option.some.inj h
      exact X.iret dX6_leftOf_23 rfl rfl
    · rw [if_neg c2] at h
      refine X.aload_n (i := 0) dX6_leftOf_13 rfl rfl ?_
      refine X.getR (k0 := 3) kX6 sC_2 (Nat.le_of_ble_eq_true rfl) rfl lfX6_29 dX6_leftOf_14 ?_
      refine X.iload_n (i := 1) dX6_leftOf_17 rfl rfl ?_
      by_cases c3 : xin v1 4
      rotate_left
      · rw [if_neg c3] at h; cases h
      rw [if_pos c3] at h
      refine X.iald sC_18 c3 dX6_leftOf_18 ?_
      refine X.goto (tgt := 23) dX6_leftOf_19 (by decide) ?_
      obtain rfl := Option.some.inj h
      exact X.iret dX6_leftOf_23 rfl rfl
def pX6_readsOn (f : xM) (v1 : Int32) (v2 : Int32) : Option (Int32) := (Option.bind (pX6_periodOf f v1) fun q1 => (if q1 ≤ 0 then some ((0 : Int32)) else (if q1 = 0 then none else (Option.bind (pX6_leftOf f v1) fun q4 => (if (v2 - v2 / q1 * q1) = q4 then some ((1 : Int32)) else some ((0 : Int32)))))))
set_option maxRecDepth 100000 in
set_option maxHeartbeats 4000000 in
theorem tX6_readsOn {f : xM} {g : xN} {v1 : Int32} {v2 : Int32} {r : Int32} (h : pX6_readsOn f v1 v2 = some r) : XT mX6_readsOn 1 [.ref 2, .int v1, .int v2] f g (some (.int r), f, g) := by
  unfold pX6_readsOn at h
  refine XT.of (L := [some (.ref 2), some (.int v1), some (.int v2), none]) [some (.ref 2), some (.int v1), some (.int v2)] rfl (Nat.le_of_ble_eq_true rfl) rfl (xle_c (xle_c (xle_c (xle_z xle_e)))) ?_
  refine X.aload_n (i := 0) dX6_readsOn_0 rfl rfl ?_
  refine X.iload_n (i := 1) dX6_readsOn_1 rfl rfl ?_
  obtain ⟨q1, e1, h⟩ := xbind h
  try dsimp only at h
  refine X.callV (μ' := mX6_periodOf) (As := [.int v1]) (st := []) (st1 := [.int q1]) (r := some (.int q1)) (f' := f) (g' := g) (tX6_periodOf e1) (Nat.le_of_ble_eq_true rfl) cwX6_periodOf rfl mlX6_83 sC_2 kX6 rfl rfl rfl (Nat.le_of_ble_eq_true rfl) dX6_readsOn_2 ?_
  refine X.istore_n (i := 3) (L' := [some (.ref 2), some (.int v1), some (.int v2), some (.int q1)]) dX6_readsOn_5 rfl (Nat.le_of_ble_eq_true rfl) rfl ?_
  refine X.iload_n (i := 3) dX6_readsOn_6 rfl rfl ?_
  refine X.if_le (tgt := 25) dX6_readsOn_7 (by decide) (fun c2 => ?_) (fun c2 => ?_)
  · rw [if_pos c2] at h
    refine X.iconst (v := (0 : Int32)) dX6_readsOn_25 (by decide) ?_
    obtain rfl := Option.some.inj h
    exact X.zret dX6_readsOn_26 rfl rfl rfl
  · rw [if_neg c2] at h
    refine X.iload_n (i := 2) dX6_readsOn_10 rfl rfl ?_
    refine X.iload_n (i := 3) dX6_readsOn_11 rfl rfl ?_
    by_cases c3 : q1 = 0
    · rw [if_pos c3] at h; cases h
    rw [if_neg c3] at h
    refine X.irem dX6_readsOn_12 c3 ?_
    refine X.aload_n (i := 0) dX6_readsOn_13 rfl rfl ?_
    refine X.iload_n (i := 1) dX6_readsOn_14 rfl rfl ?_
    obtain ⟨q4, e4, h⟩ := xbind h
    try dsimp only at h
    refine X.callV (μ' := mX6_leftOf) (As := [.int v1]) (st := [.int (v2 - v2 / q1 * q1)]) (st1 := [.int q4, .int (v2 - v2 / q1 * q1)]) (r := some (.int q4)) (f' := f) (g' := g) (tX6_leftOf e4) (Nat.le_of_ble_eq_true rfl) cwX6_leftOf rfl mlX6_87 sC_2 kX6 rfl rfl rfl (Nat.le_of_ble_eq_true rfl) dX6_readsOn_15 ?_
    refine X.icmp_ne (tgt := 25) dX6_readsOn_18 (by decide) (fun c5 => ?_) (fun c5 => ?_)
    · rw [if_neg c5] at h
      refine X.iconst (v := (0 : Int32)) dX6_readsOn_25 (by decide) ?_
      obtain rfl := Option.some.inj h
      exact X.zret dX6_readsOn_26 rfl rfl rfl
    · rw [if_pos c5] at h
      refine X.iconst (v := (1 : Int32)) dX6_readsOn_21 (by decide) ?_
      refine X.goto (tgt := 26) dX6_readsOn_22 (by decide) ?_
      obtain rfl := Option.some.inj h
      exact X.zret dX6_readsOn_26 rfl rfl rfl
def pX6_readingToday_b4 (F : Nat) (f : xM) : Nat → Int32 → Int32 → Option (Int32)
  | 0, _, _ => none
  | n + 1, v1, v2 => (if (f 2 5) ≤ v2 then some (v1) else (Option.bind (pX6_readsOn f v2 (pX9_day f)) fun q2 => (if q2 = 0 then (pX6_readingToday_b4 F f n v1 (v2 + (1 : Int32))) else (pX6_readingToday_b4 F f n (v1 ||| ((1 : Int32) <<< (v2 &&& 31))) (v2 + (1 : Int32))))))
set_option maxRecDepth 100000 in
set_option maxHeartbeats 4000000 in
theorem tX6_readingToday_b4 {F : Nat} {f : xM} {g : xN} : ∀ (n : Nat) {v1 : Int32} {v2 : Int32} {r : Int32}, pX6_readingToday_b4 F f n v1 v2 = some r → X mX6_readingToday 2 (some (.int r), f, g) 4 [some (.ref 2), some (.int v1), some (.int v2)] [] f g := by
  intro n
  induction n with
  | zero => intro v1 v2 r h; cases h
  | succ n ih =>
    intro v1 v2 r h
    rw [pX6_readingToday_b4] at h
    refine X.iload_n (i := 2) dX6_readingToday_4 rfl rfl ?_
    refine X.aload_n (i := 0) dX6_readingToday_5 rfl rfl ?_
    refine X.getI (k0 := 5) kX6 sC_2 (Nat.le_of_ble_eq_true rfl) rfl lfX6_36 dX6_readingToday_6 ?_
    refine X.icmp_ge (tgt := 39) dX6_readingToday_9 (by decide) (fun c1 => ?_) (fun c1 => ?_)
    · rw [if_pos c1] at h
      refine X.iload_n (i := 1) dX6_readingToday_39 rfl rfl ?_
      obtain rfl := Option.some.inj h
      exact X.iret dX6_readingToday_40 rfl rfl
    · rw [if_neg c1] at h
      refine X.aload_n (i := 0) dX6_readingToday_12 rfl rfl ?_
      refine X.iload_n (i := 2) dX6_readingToday_13 rfl rfl ?_
      refine X.aload_n (i := 0) dX6_readingToday_14 rfl rfl ?_
      refine X.getR (k0 := 1) kX6 sC_2 (Nat.le_of_ble_eq_true rfl) rfl lfX6_21 dX6_readingToday_15 ?_
      refine X.callVN (μ' := mX9_day) (As := []) (st := [.int v2, .ref 2]) (st1 := [.int (pX9_day f), .int v2, .ref 2]) (r := some (.int (pX9_day f))) (f' := f) (g' := g) (tX9_day rfl) (Nat.le_of_ble_eq_true rfl) cwX9_day rfl mnX6_93 sC_11 kX9 rfl rfl rfl (Nat.le_of_ble_eq_true rfl) dX6_readingToday_18 ?_
      obtain ⟨q2, e2, h⟩ := xbind h
      try dsimp only at h
      refine X.callV (μ' := mX6_readsOn) (As := [.int v2, .int (pX9_day f)]) (st := []) (st1 := [.int q2]) (r := some (.int q2)) (f' := f) (g' := g) (tX6_readsOn e2) (Nat.le_of_ble_eq_true rfl) cwX6_readsOn rfl mlX6_97 sC_2 kX6 rfl rfl rfl (Nat.le_of_ble_eq_true rfl) dX6_readingToday_21 ?_
      refine X.if_eq (tgt := 33) dX6_readingToday_24 (by decide) (fun c3 => ?_) (fun c3 => ?_)
      · rw [if_pos c3] at h
        refine X.iinc (i := 2) (v := (v2 + (1 : Int32))) (L' := [some (.ref 2), some (.int v1), some (.int (v2 + (1 : Int32)))]) dX6_readingToday_33 rfl rfl (Nat.le_of_ble_eq_true rfl) rfl ?_
        refine X.goto (tgt := 4) dX6_readingToday_36 (by decide) ?_
        exact X.weaken (xle_c (xle_c (xle_c xle_e))) (ih h)
      · rw [if_neg c3] at h
        refine X.iload_n (i := 1) dX6_readingToday_27 rfl rfl ?_
        refine X.iconst (v := (1 : Int32)) dX6_readingToday_28 (by decide) ?_
        refine X.iload_n (i := 2) dX6_readingToday_29 rfl rfl ?_
        refine X.ishl dX6_readingToday_30 ?_
        refine X.ior dX6_readingToday_31 ?_
        refine X.istore_n (i := 1) (L' := [some (.ref 2), some (.int (v1 ||| ((1 : Int32) <<< (v2 &&& 31)))), some (.int v2)]) dX6_readingToday_32 rfl (Nat.le_of_ble_eq_true rfl) rfl ?_
        refine X.iinc (i := 2) (v := (v2 + (1 : Int32))) (L' := [some (.ref 2), some (.int (v1 ||| ((1 : Int32) <<< (v2 &&& 31)))), some (.int (v2 + (1 : Int32)))]) dX6_readingToday_33 rfl rfl (Nat.le_of_ble_eq_true rfl) rfl ?_
        refine X.goto (tgt := 4) dX6_readingToday_36 (by decide) ?_
        exact X.weaken (xle_c (xle_c (xle_c xle_e))) (ih h)
def pX6_readingToday (F : Nat) (f : xM) : Option (Int32) := (pX6_readingToday_b4 F f F (0 : Int32) (0 : Int32))
set_option maxRecDepth 100000 in
set_option maxHeartbeats 4000000 in
theorem tX6_readingToday {F : Nat} {f : xM} {g : xN} {r : Int32} (h : pX6_readingToday F f = some r) : XT mX6_readingToday 2 [.ref 2] f g (some (.int r), f, g) := by
  unfold pX6_readingToday at h
  refine XT.of (L := [some (.ref 2), none, none]) [some (.ref 2)] rfl (Nat.le_of_ble_eq_true rfl) rfl (xle_c (xle_z (xle_z xle_e))) ?_
  refine X.iconst (v := (0 : Int32)) dX6_readingToday_0 (by decide) ?_
  refine X.istore_n (i := 1) (L' := [some (.ref 2), some (.int (0 : Int32)), none]) dX6_readingToday_1 rfl (Nat.le_of_ble_eq_true rfl) rfl ?_
  refine X.iconst (v := (0 : Int32)) dX6_readingToday_2 (by decide) ?_
  refine X.istore_n (i := 2) (L' := [some (.ref 2), some (.int (0 : Int32)), some (.int (0 : Int32))]) dX6_readingToday_3 rfl (Nat.le_of_ble_eq_true rfl) rfl ?_
  exact X.weaken (xle_c (xle_c (xle_c xle_e))) (tX6_readingToday_b4 F h)
def pX9_said (f : xM) : Int32 := (f 19 0)
set_option maxRecDepth 100000 in
set_option maxHeartbeats 4000000 in
theorem tX9_said {f : xM} {g : xN} {r : Int32} (h : pX9_said f = r) : XT mX9_said 0 [.ref 11] f g (some (.int r), f, g) := by
  unfold pX9_said at h
  refine XT.of (L := [some (.ref 11)]) [some (.ref 11)] rfl (Nat.le_of_ble_eq_true rfl) rfl (xle_c xle_e) ?_
  refine X.aload_n (i := 0) dX9_said_0 rfl rfl ?_
  refine X.getR (k0 := 0) kX9 sC_11 (Nat.le_of_ble_eq_true rfl) rfl lfX9_11 dX9_said_1 ?_
  refine X.iconst (v := (0 : Int32)) dX9_said_4 (by decide) ?_
  refine X.ialdK (m := 0) sC_19 (by decide) (by decide) dX9_said_5 ?_
  subst h
  exact X.iret dX9_said_6 rfl rfl
def pJ6_bitCount_0f7a4 (v0 : Int32) : Int32 := ((((((((v0 - ((v0.toUInt32 >>> ((1 : Int32).toUInt32 &&& Int32.toUInt32 31)).toInt32 &&& (1431655765 : Int32))) &&& (858993459 : Int32)) + (((v0 - ((v0.toUInt32 >>> ((1 : Int32).toUInt32 &&& Int32.toUInt32 31)).toInt32 &&& (1431655765 : Int32))).toUInt32 >>> ((2 : Int32).toUInt32 &&& Int32.toUInt32 31)).toInt32 &&& (858993459 : Int32))) + ((((v0 - ((v0.toUInt32 >>> ((1 : Int32).toUInt32 &&& Int32.toUInt32 31)).toInt32 &&& (1431655765 : Int32))) &&& (858993459 : Int32)) + (((v0 - ((v0.toUInt32 >>> ((1 : Int32).toUInt32 &&& Int32.toUInt32 31)).toInt32 &&& (1431655765 : Int32))).toUInt32 >>> ((2 : Int32).toUInt32 &&& Int32.toUInt32 31)).toInt32 &&& (858993459 : Int32))).toUInt32 >>> ((4 : Int32).toUInt32 &&& Int32.toUInt32 31)).toInt32) &&& (252645135 : Int32)) + ((((((v0 - ((v0.toUInt32 >>> ((1 : Int32).toUInt32 &&& Int32.toUInt32 31)).toInt32 &&& (1431655765 : Int32))) &&& (858993459 : Int32)) + (((v0 - ((v0.toUInt32 >>> ((1 : Int32).toUInt32 &&& Int32.toUInt32 31)).toInt32 &&& (1431655765 : Int32))).toUInt32 >>> ((2 : Int32).toUInt32 &&& Int32.toUInt32 31)).toInt32 &&& (858993459 : Int32))) + ((((v0 - ((v0.toUInt32 >>> ((1 : Int32).toUInt32 &&& Int32.toUInt32 31)).toInt32 &&& (1431655765 : Int32))) &&& (858993459 : Int32)) + (((v0 - ((v0.toUInt32 >>> ((1 : Int32).toUInt32 &&& Int32.toUInt32 31)).toInt32 &&& (1431655765 : Int32))).toUInt32 >>> ((2 : Int32).toUInt32 &&& Int32.toUInt32 31)).toInt32 &&& (858993459 : Int32))).toUInt32 >>> ((4 : Int32).toUInt32 &&& Int32.toUInt32 31)).toInt32) &&& (252645135 : Int32)).toUInt32 >>> ((8 : Int32).toUInt32 &&& Int32.toUInt32 31)).toInt32) + (((((((v0 - ((v0.toUInt32 >>> ((1 : Int32).toUInt32 &&& Int32.toUInt32 31)).toInt32 &&& (1431655765 : Int32))) &&& (858993459 : Int32)) + (((v0 - ((v0.toUInt32 >>> ((1 : Int32).toUInt32 &&& Int32.toUInt32 31)).toInt32 &&& (1431655765 : Int32))).toUInt32 >>> ((2 : Int32).toUInt32 &&& Int32.toUInt32 31)).toInt32 &&& (858993459 : Int32))) + ((((v0 - ((v0.toUInt32 >>> ((1 : Int32).toUInt32 &&& Int32.toUInt32 31)).toInt32 &&& (1431655765 : Int32))) &&& (858993459 : Int32)) + (((v0 - ((v0.toUInt32 >>> ((1 : Int32).toUInt32 &&& Int32.toUInt32 31)).toInt32 &&& (1431655765 : Int32))).toUInt32 >>> ((2 : Int32).toUInt32 &&& Int32.toUInt32 31)).toInt32 &&& (858993459 : Int32))).toUInt32 >>> ((4 : Int32).toUInt32 &&& Int32.toUInt32 31)).toInt32) &&& (252645135 : Int32)) + ((((((v0 - ((v0.toUInt32 >>> ((1 : Int32).toUInt32 &&& Int32.toUInt32 31)).toInt32 &&& (1431655765 : Int32))) &&& (858993459 : Int32)) + (((v0 - ((v0.toUInt32 >>> ((1 : Int32).toUInt32 &&& Int32.toUInt32 31)).toInt32 &&& (1431655765 : Int32))).toUInt32 >>> ((2 : Int32).toUInt32 &&& Int32.toUInt32 31)).toInt32 &&& (858993459 : Int32))) + ((((v0 - ((v0.toUInt32 >>> ((1 : Int32).toUInt32 &&& Int32.toUInt32 31)).toInt32 &&& (1431655765 : Int32))) &&& (858993459 : Int32)) + (((v0 - ((v0.toUInt32 >>> ((1 : Int32).toUInt32 &&& Int32.toUInt32 31)).toInt32 &&& (1431655765 : Int32))).toUInt32 >>> ((2 : Int32).toUInt32 &&& Int32.toUInt32 31)).toInt32 &&& (858993459 : Int32))).toUInt32 >>> ((4 : Int32).toUInt32 &&& Int32.toUInt32 31)).toInt32) &&& (252645135 : Int32)).toUInt32 >>> ((8 : Int32).toUInt32 &&& Int32.toUInt32 31)).toInt32).toUInt32 >>> ((16 : Int32).toUInt32 &&& Int32.toUInt32 31)).toInt32) &&& (63 : Int32))
set_option maxRecDepth 100000 in
set_option maxHeartbeats 4000000 in
theorem tJ6_bitCount_0f7a4 {f : xM} {g : xN} {v0 : Int32} {r : Int32} (h : pJ6_bitCount_0f7a4 v0 = r) : XT mJ6_bitCount_0f7a4 0 [.int v0] f g (some (.int r), f, g) := by
  unfold pJ6_bitCount_0f7a4 at h
  refine XT.of (L := [some (.int v0)]) [some (.int v0)] rfl (Nat.le_of_ble_eq_true rfl) rfl (xle_c xle_e) ?_
  refine X.iload_n (i := 0) dJ6_bitCount_0f7a4_0 rfl rfl ?_
  refine X.iload_n (i := 0) dJ6_bitCount_0f7a4_1 rfl rfl ?_
  refine X.iconst (v := (1 : Int32)) dJ6_bitCount_0f7a4_2 (by decide) ?_
  refine X.iushr dJ6_bitCount_0f7a4_3 ?_
  refine X.ldcw dJ6_bitCount_0f7a4_4 lcJ6_265 ?_
  refine X.iand dJ6_bitCount_0f7a4_7 ?_
  refine X.isub dJ6_bitCount_0f7a4_8 ?_
  refine X.istore_n (i := 0) (L' := [some (.int (v0 - ((v0.toUInt32 >>> ((1 : Int32).toUInt32 &&& Int32.toUInt32 31)).toInt32 &&& (1431655765 : Int32))))]) dJ6_bitCount_0f7a4_9 rfl (Nat.le_of_ble_eq_true rfl) rfl ?_
  refine X.iload_n (i := 0) dJ6_bitCount_0f7a4_10 rfl rfl ?_
  refine X.ldcw dJ6_bitCount_0f7a4_11 lcJ6_266 ?_
  refine X.iand dJ6_bitCount_0f7a4_14 ?_
  refine X.iload_n (i := 0) dJ6_bitCount_0f7a4_15 rfl rfl ?_
  refine X.iconst (v := (2 : Int32)) dJ6_bitCount_0f7a4_16 (by decide) ?_
  refine X.iushr dJ6_bitCount_0f7a4_17 ?_
  refine X.ldcw dJ6_bitCount_0f7a4_18 lcJ6_266 ?_
  refine X.iand dJ6_bitCount_0f7a4_21 ?_
  refine X.iadd dJ6_bitCount_0f7a4_22 ?_
  refine X.istore_n (i := 0) (L' := [some (.int (((v0 - ((v0.toUInt32 >>> ((1 : Int32).toUInt32 &&& Int32.toUInt32 31)).toInt32 &&& (1431655765 : Int32))) &&& (858993459 : Int32)) + (((v0 - ((v0.toUInt32 >>> ((1 : Int32).toUInt32 &&& Int32.toUInt32 31)).toInt32 &&& (1431655765 : Int32))).toUInt32 >>> ((2 : Int32).toUInt32 &&& Int32.toUInt32 31)).toInt32 &&& (858993459 : Int32))))]) dJ6_bitCount_0f7a4_23 rfl (Nat.le_of_ble_eq_true rfl) rfl ?_
  refine X.iload_n (i := 0) dJ6_bitCount_0f7a4_24 rfl rfl ?_
  refine X.iload_n (i := 0) dJ6_bitCount_0f7a4_25 rfl rfl ?_
  refine X.iconst (v := (4 : Int32)) dJ6_bitCount_0f7a4_26 (by decide) ?_
  refine X.iushr dJ6_bitCount_0f7a4_27 ?_
  refine X.iadd dJ6_bitCount_0f7a4_28 ?_
  refine X.ldcw dJ6_bitCount_0f7a4_29 lcJ6_267 ?_
  refine X.iand dJ6_bitCount_0f7a4_32 ?_
  refine X.istore_n (i := 0) (L' := [some (.int (((((v0 - ((v0.toUInt32 >>> ((1 : Int32).toUInt32 &&& Int32.toUInt32 31)).toInt32 &&& (1431655765 : Int32))) &&& (858993459 : Int32)) + (((v0 - ((v0.toUInt32 >>> ((1 : Int32).toUInt32 &&& Int32.toUInt32 31)).toInt32 &&& (1431655765 : Int32))).toUInt32 >>> ((2 : Int32).toUInt32 &&& Int32.toUInt32 31)).toInt32 &&& (858993459 : Int32))) + ((((v0 - ((v0.toUInt32 >>> ((1 : Int32).toUInt32 &&& Int32.toUInt32 31)).toInt32 &&& (1431655765 : Int32))) &&& (858993459 : Int32)) + (((v0 - ((v0.toUInt32 >>> ((1 : Int32).toUInt32 &&& Int32.toUInt32 31)).toInt32 &&& (1431655765 : Int32))).toUInt32 >>> ((2 : Int32).toUInt32 &&& Int32.toUInt32 31)).toInt32 &&& (858993459 : Int32))).toUInt32 >>> ((4 : Int32).toUInt32 &&& Int32.toUInt32 31)).toInt32) &&& (252645135 : Int32)))]) dJ6_bitCount_0f7a4_33 rfl (Nat.le_of_ble_eq_true rfl) rfl ?_
  refine X.iload_n (i := 0) dJ6_bitCount_0f7a4_34 rfl rfl ?_
  refine X.iload_n (i := 0) dJ6_bitCount_0f7a4_35 rfl rfl ?_
  refine X.bipush (v := (8 : Int32)) dJ6_bitCount_0f7a4_36 (by decide) ?_
  refine X.iushr dJ6_bitCount_0f7a4_38 ?_
  refine X.iadd dJ6_bitCount_0f7a4_39 ?_
  refine X.istore_n (i := 0) (L' := [some (.int ((((((v0 - ((v0.toUInt32 >>> ((1 : Int32).toUInt32 &&& Int32.toUInt32 31)).toInt32 &&& (1431655765 : Int32))) &&& (858993459 : Int32)) + (((v0 - ((v0.toUInt32 >>> ((1 : Int32).toUInt32 &&& Int32.toUInt32 31)).toInt32 &&& (1431655765 : Int32))).toUInt32 >>> ((2 : Int32).toUInt32 &&& Int32.toUInt32 31)).toInt32 &&& (858993459 : Int32))) + ((((v0 - ((v0.toUInt32 >>> ((1 : Int32).toUInt32 &&& Int32.toUInt32 31)).toInt32 &&& (1431655765 : Int32))) &&& (858993459 : Int32)) + (((v0 - ((v0.toUInt32 >>> ((1 : Int32).toUInt32 &&& Int32.toUInt32 31)).toInt32 &&& (1431655765 : Int32))).toUInt32 >>> ((2 : Int32).toUInt32 &&& Int32.toUInt32 31)).toInt32 &&& (858993459 : Int32))).toUInt32 >>> ((4 : Int32).toUInt32 &&& Int32.toUInt32 31)).toInt32) &&& (252645135 : Int32)) + ((((((v0 - ((v0.toUInt32 >>> ((1 : Int32).toUInt32 &&& Int32.toUInt32 31)).toInt32 &&& (1431655765 : Int32))) &&& (858993459 : Int32)) + (((v0 - ((v0.toUInt32 >>> ((1 : Int32).toUInt32 &&& Int32.toUInt32 31)).toInt32 &&& (1431655765 : Int32))).toUInt32 >>> ((2 : Int32).toUInt32 &&& Int32.toUInt32 31)).toInt32 &&& (858993459 : Int32))) + ((((v0 - ((v0.toUInt32 >>> ((1 : Int32).toUInt32 &&& Int32.toUInt32 31)).toInt32 &&& (1431655765 : Int32))) &&& (858993459 : Int32)) + (((v0 - ((v0.toUInt32 >>> ((1 : Int32).toUInt32 &&& Int32.toUInt32 31)).toInt32 &&& (1431655765 : Int32))).toUInt32 >>> ((2 : Int32).toUInt32 &&& Int32.toUInt32 31)).toInt32 &&& (858993459 : Int32))).toUInt32 >>> ((4 : Int32).toUInt32 &&& Int32.toUInt32 31)).toInt32) &&& (252645135 : Int32)).toUInt32 >>> ((8 : Int32).toUInt32 &&& Int32.toUInt32 31)).toInt32))]) dJ6_bitCount_0f7a4_40 rfl (Nat.le_of_ble_eq_true rfl) rfl ?_
  refine X.iload_n (i := 0) dJ6_bitCount_0f7a4_41 rfl rfl ?_
  refine X.iload_n (i := 0) dJ6_bitCount_0f7a4_42 rfl rfl ?_
  refine X.bipush (v := (16 : Int32)) dJ6_bitCount_0f7a4_43 (by decide) ?_
  refine X.iushr dJ6_bitCount_0f7a4_45 ?_
  refine X.iadd dJ6_bitCount_0f7a4_46 ?_
  refine X.istore_n (i := 0) (L' := [some (.int (((((((v0 - ((v0.toUInt32 >>> ((1 : Int32).toUInt32 &&& Int32.toUInt32 31)).toInt32 &&& (1431655765 : Int32))) &&& (858993459 : Int32)) + (((v0 - ((v0.toUInt32 >>> ((1 : Int32).toUInt32 &&& Int32.toUInt32 31)).toInt32 &&& (1431655765 : Int32))).toUInt32 >>> ((2 : Int32).toUInt32 &&& Int32.toUInt32 31)).toInt32 &&& (858993459 : Int32))) + ((((v0 - ((v0.toUInt32 >>> ((1 : Int32).toUInt32 &&& Int32.toUInt32 31)).toInt32 &&& (1431655765 : Int32))) &&& (858993459 : Int32)) + (((v0 - ((v0.toUInt32 >>> ((1 : Int32).toUInt32 &&& Int32.toUInt32 31)).toInt32 &&& (1431655765 : Int32))).toUInt32 >>> ((2 : Int32).toUInt32 &&& Int32.toUInt32 31)).toInt32 &&& (858993459 : Int32))).toUInt32 >>> ((4 : Int32).toUInt32 &&& Int32.toUInt32 31)).toInt32) &&& (252645135 : Int32)) + ((((((v0 - ((v0.toUInt32 >>> ((1 : Int32).toUInt32 &&& Int32.toUInt32 31)).toInt32 &&& (1431655765 : Int32))) &&& (858993459 : Int32)) + (((v0 - ((v0.toUInt32 >>> ((1 : Int32).toUInt32 &&& Int32.toUInt32 31)).toInt32 &&& (1431655765 : Int32))).toUInt32 >>> ((2 : Int32).toUInt32 &&& Int32.toUInt32 31)).toInt32 &&& (858993459 : Int32))) + ((((v0 - ((v0.toUInt32 >>> ((1 : Int32).toUInt32 &&& Int32.toUInt32 31)).toInt32 &&& (1431655765 : Int32))) &&& (858993459 : Int32)) + (((v0 - ((v0.toUInt32 >>> ((1 : Int32).toUInt32 &&& Int32.toUInt32 31)).toInt32 &&& (1431655765 : Int32))).toUInt32 >>> ((2 : Int32).toUInt32 &&& Int32.toUInt32 31)).toInt32 &&& (858993459 : Int32))).toUInt32 >>> ((4 : Int32).toUInt32 &&& Int32.toUInt32 31)).toInt32) &&& (252645135 : Int32)).toUInt32 >>> ((8 : Int32).toUInt32 &&& Int32.toUInt32 31)).toInt32) + (((((((v0 - ((v0.toUInt32 >>> ((1 : Int32).toUInt32 &&& Int32.toUInt32 31)).toInt32 &&& (1431655765 : Int32))) &&& (858993459 : Int32)) + (((v0 - ((v0.toUInt32 >>> ((1 : Int32).toUInt32 &&& Int32.toUInt32 31)).toInt32 &&& (1431655765 : Int32))).toUInt32 >>> ((2 : Int32).toUInt32 &&& Int32.toUInt32 31)).toInt32 &&& (858993459 : Int32))) + ((((v0 - ((v0.toUInt32 >>> ((1 : Int32).toUInt32 &&& Int32.toUInt32 31)).toInt32 &&& (1431655765 : Int32))) &&& (858993459 : Int32)) + (((v0 - ((v0.toUInt32 >>> ((1 : Int32).toUInt32 &&& Int32.toUInt32 31)).toInt32 &&& (1431655765 : Int32))).toUInt32 >>> ((2 : Int32).toUInt32 &&& Int32.toUInt32 31)).toInt32 &&& (858993459 : Int32))).toUInt32 >>> ((4 : Int32).toUInt32 &&& Int32.toUInt32 31)).toInt32) &&& (252645135 : Int32)) + ((((((v0 - ((v0.toUInt32 >>> ((1 : Int32).toUInt32 &&& Int32.toUInt32 31)).toInt32 &&& (1431655765 : Int32))) &&& (858993459 : Int32)) + (((v0 - ((v0.toUInt32 >>> ((1 : Int32).toUInt32 &&& Int32.toUInt32 31)).toInt32 &&& (1431655765 : Int32))).toUInt32 >>> ((2 : Int32).toUInt32 &&& Int32.toUInt32 31)).toInt32 &&& (858993459 : Int32))) + ((((v0 - ((v0.toUInt32 >>> ((1 : Int32).toUInt32 &&& Int32.toUInt32 31)).toInt32 &&& (1431655765 : Int32))) &&& (858993459 : Int32)) + (((v0 - ((v0.toUInt32 >>> ((1 : Int32).toUInt32 &&& Int32.toUInt32 31)).toInt32 &&& (1431655765 : Int32))).toUInt32 >>> ((2 : Int32).toUInt32 &&& Int32.toUInt32 31)).toInt32 &&& (858993459 : Int32))).toUInt32 >>> ((4 : Int32).toUInt32 &&& Int32.toUInt32 31)).toInt32) &&& (252645135 : Int32)).toUInt32 >>> ((8 : Int32).toUInt32 &&& Int32.toUInt32 31)).toInt32).toUInt32 >>> ((16 : Int32).toUInt32 &&& Int32.toUInt32 31)).toInt32))]) dJ6_bitCount_0f7a4_47 rfl (Nat.le_of_ble_eq_true rfl) rfl ?_
  refine X.iload_n (i := 0) dJ6_bitCount_0f7a4_48 rfl rfl ?_
  refine X.bipush (v := (63 : Int32)) dJ6_bitCount_0f7a4_49 (by decide) ?_
  refine X.iand dJ6_bitCount_0f7a4_51 ?_
  subst h
  exact X.iret dJ6_bitCount_0f7a4_52 rfl rfl
def pX8_placesUnlike (v0 : Int32) : Int32 := (pJ6_bitCount_0f7a4 ((v0 ||| (v0 >>> ((1 : Int32) &&& 31))) &&& (341 : Int32)))
set_option maxRecDepth 100000 in
set_option maxHeartbeats 4000000 in
theorem tX8_placesUnlike {f : xM} {g : xN} {v0 : Int32} {r : Int32} (h : pX8_placesUnlike v0 = r) : XT mX8_placesUnlike 1 [.int v0] f g (some (.int r), f, g) := by
  unfold pX8_placesUnlike at h
  refine XT.of (L := [some (.int v0)]) [some (.int v0)] rfl (Nat.le_of_ble_eq_true rfl) rfl (xle_c xle_e) ?_
  refine X.iload_n (i := 0) dX8_placesUnlike_0 rfl rfl ?_
  refine X.iload_n (i := 0) dX8_placesUnlike_1 rfl rfl ?_
  refine X.iconst (v := (1 : Int32)) dX8_placesUnlike_2 (by decide) ?_
  refine X.ishr dX8_placesUnlike_3 ?_
  refine X.ior dX8_placesUnlike_4 ?_
  refine X.sipush (v := (341 : Int32)) dX8_placesUnlike_5 (by decide) ?_
  refine X.iand dX8_placesUnlike_8 ?_
  refine X.callS (μ' := mJ6_bitCount_0f7a4) (As := [.int ((v0 ||| (v0 >>> ((1 : Int32) &&& 31))) &&& (341 : Int32))]) (st := []) (st1 := [.int (pJ6_bitCount_0f7a4 ((v0 ||| (v0 >>> ((1 : Int32) &&& 31))) &&& (341 : Int32)))]) (r := some (.int (pJ6_bitCount_0f7a4 ((v0 ||| (v0 >>> ((1 : Int32) &&& 31))) &&& (341 : Int32))))) (f' := f) (g' := g) (tJ6_bitCount_0f7a4 rfl) (Nat.le_of_ble_eq_true rfl) cwJ6_bitCount_0f7a4 rfl mlX8_27 rfl rfl rfl (Nat.le_of_ble_eq_true rfl) dX8_placesUnlike_9 ?_
  subst h
  exact X.iret dX8_placesUnlike_12 rfl rfl
def pX6_rightOf (f : xM) (v1 : Int32) : Int32 := ((f 10 0) - (pX8_placesUnlike (v1 ^^^ (f 2 6))))
set_option maxRecDepth 100000 in
set_option maxHeartbeats 4000000 in
theorem tX6_rightOf {f : xM} {g : xN} {v1 : Int32} {r : Int32} (h : pX6_rightOf f v1 = r) : XT mX6_rightOf 2 [.ref 2, .int v1] f g (some (.int r), f, g) := by
  unfold pX6_rightOf at h
  refine XT.of (L := [some (.ref 2), some (.int v1)]) [some (.ref 2), some (.int v1)] rfl (Nat.le_of_ble_eq_true rfl) rfl (xle_c (xle_c xle_e)) ?_
  refine X.aload_n (i := 0) dX6_rightOf_0 rfl rfl ?_
  refine X.getR (k0 := 0) kX6 sC_2 (Nat.le_of_ble_eq_true rfl) rfl lfX6_12 dX6_rightOf_1 ?_
  refine X.getIN (k0 := 0) kX8 sC_10 (Nat.le_of_ble_eq_true rfl) rfl lnX6_47 dX6_rightOf_4 ?_
  refine X.iload_n (i := 1) dX6_rightOf_7 rfl rfl ?_
  refine X.aload_n (i := 0) dX6_rightOf_8 rfl rfl ?_
  refine X.getI (k0 := 6) kX6 sC_2 (Nat.le_of_ble_eq_true rfl) rfl lfX6_39 dX6_rightOf_9 ?_
  refine X.ixor dX6_rightOf_12 ?_
  refine X.callSN (μ' := mX8_placesUnlike) (As := [.int (v1 ^^^ (f 2 6))]) (st := [.int (f 10 0)]) (st1 := [.int (pX8_placesUnlike (v1 ^^^ (f 2 6))), .int (f 10 0)]) (r := some (.int (pX8_placesUnlike (v1 ^^^ (f 2 6))))) (f' := f) (g' := g) (tX8_placesUnlike rfl) (Nat.le_of_ble_eq_true rfl) cwX8_placesUnlike rfl mnX6_90 rfl rfl rfl (Nat.le_of_ble_eq_true rfl) dX6_rightOf_13 ?_
  refine X.isub dX6_rightOf_16 ?_
  subst h
  exact X.iret dX6_rightOf_17 rfl rfl
def pX8_letterAt (f : xM) (v1 : Int32) (v2 : Int32) : Int32 := ((v1 >>> (((2 : Int32) * (((f 10 0) - (1 : Int32)) - v2)) &&& 31)) &&& (3 : Int32))
set_option maxRecDepth 100000 in
set_option maxHeartbeats 4000000 in
theorem tX8_letterAt {f : xM} {g : xN} {v1 : Int32} {v2 : Int32} {r : Int32} (h : pX8_letterAt f v1 v2 = r) : XT mX8_letterAt 0 [.ref 10, .int v1, .int v2] f g (some (.int r), f, g) := by
  unfold pX8_letterAt at h
  refine XT.of (L := [some (.ref 10), some (.int v1), some (.int v2)]) [some (.ref 10), some (.int v1), some (.int v2)] rfl (Nat.le_of_ble_eq_true rfl) rfl (xle_c (xle_c (xle_c xle_e))) ?_
  refine X.iload_n (i := 1) dX8_letterAt_0 rfl rfl ?_
  refine X.iconst (v := (2 : Int32)) dX8_letterAt_1 (by decide) ?_
  refine X.aload_n (i := 0) dX8_letterAt_2 rfl rfl ?_
  refine X.getI (k0 := 0) kX8 sC_10 (Nat.le_of_ble_eq_true rfl) rfl lfX8_9 dX8_letterAt_3 ?_
  refine X.iconst (v := (1 : Int32)) dX8_letterAt_6 (by decide) ?_
  refine X.isub dX8_letterAt_7 ?_
  refine X.iload_n (i := 2) dX8_letterAt_8 rfl rfl ?_
  refine X.isub dX8_letterAt_9 ?_
  refine X.imul dX8_letterAt_10 ?_
  refine X.ishr dX8_letterAt_11 ?_
  refine X.iconst (v := (3 : Int32)) dX8_letterAt_12 (by decide) ?_
  refine X.iand dX8_letterAt_13 ?_
  subst h
  exact X.iret dX8_letterAt_14 rfl rfl
def pX8_told_b4 (F : Nat) (f : xM) : Nat → Int32 → Int32 → Int32 → Option (Int32)
  | 0, _, _, _ => none
  | n + 1, v1, v2, v3 => (if (f 10 0) ≤ v3 then some (v2) else (pX8_told_b4 F f n v1 ((v2 * (10 : Int32)) + (pX8_letterAt f v1 v3)) (v3 + (1 : Int32))))
set_option maxRecDepth 100000 in
set_option maxHeartbeats 4000000 in
theorem tX8_told_b4 {F : Nat} {f : xM} {g : xN} : ∀ (n : Nat) {v1 : Int32} {v2 : Int32} {v3 : Int32} {r : Int32}, pX8_told_b4 F f n v1 v2 v3 = some r → X mX8_told 1 (some (.int r), f, g) 4 [some (.ref 10), some (.int v1), some (.int v2), some (.int v3)] [] f g := by
  intro n
  induction n with
  | zero => intro v1 v2 v3 r h; cases h
  | succ n ih =>
    intro v1 v2 v3 r h
    rw [pX8_told_b4] at h
    refine X.iload_n (i := 3) dX8_told_4 rfl rfl ?_
    refine X.aload_n (i := 0) dX8_told_5 rfl rfl ?_
    refine X.getI (k0 := 0) kX8 sC_10 (Nat.le_of_ble_eq_true rfl) rfl lfX8_9 dX8_told_6 ?_
    refine X.icmp_ge (tgt := 30) dX8_told_9 (by decide) (fun c1 => ?_) (fun c1 => ?_)
    · rw [if_pos c1] at h
      refine X.iload_n (i := 2) dX8_told_30 rfl rfl ?_
      obtain rfl := Option.some.inj h
      exact X.iret dX8_told_31 rfl rfl
    · rw [if_neg c1] at h
      refine X.iload_n (i := 2) dX8_told_12 rfl rfl ?_
      refine X.bipush (v := (10 : Int32)) dX8_told_13 (by decide) ?_
      refine X.imul dX8_told_15 ?_
      refine X.aload_n (i := 0) dX8_told_16 rfl rfl ?_
      refine X.iload_n (i := 1) dX8_told_17 rfl rfl ?_
      refine X.iload_n (i := 3) dX8_told_18 rfl rfl ?_
      refine X.callV (μ' := mX8_letterAt) (As := [.int v1, .int v3]) (st := [.int (v2 * (10 : Int32))]) (st1 := [.int (pX8_letterAt f v1 v3), .int (v2 * (10 : Int32))]) (r := some (.int (pX8_letterAt f v1 v3))) (f' := f) (g' := g) (tX8_letterAt rfl) (Nat.le_of_ble_eq_true rfl) cwX8_letterAt rfl mlX8_23 sC_10 kX8 rfl rfl rfl (Nat.le_of_ble_eq_true rfl) dX8_told_19 ?_
      refine X.iadd dX8_told_22 ?_
      refine X.istore_n (i := 2) (L' := [some (.ref 10), some (.int v1), some (.int ((v2 * (10 : Int32)) + (pX8_letterAt f v1 v3))), some (.int v3)]) dX8_told_23 rfl (Nat.le_of_ble_eq_true rfl) rfl ?_
      refine X.iinc (i := 3) (v := (v3 + (1 : Int32))) (L' := [some (.ref 10), some (.int v1), some (.int ((v2 * (10 : Int32)) + (pX8_letterAt f v1 v3))), some (.int (v3 + (1 : Int32)))]) dX8_told_24 rfl rfl (Nat.le_of_ble_eq_true rfl) rfl ?_
      refine X.goto (tgt := 4) dX8_told_27 (by decide) ?_
      exact X.weaken (xle_c (xle_c (xle_c (xle_c xle_e)))) (ih h)
def pX8_told (F : Nat) (f : xM) (v1 : Int32) : Option (Int32) := (pX8_told_b4 F f F v1 (0 : Int32) (0 : Int32))
set_option maxRecDepth 100000 in
set_option maxHeartbeats 4000000 in
theorem tX8_told {F : Nat} {f : xM} {g : xN} {v1 : Int32} {r : Int32} (h : pX8_told F f v1 = some r) : XT mX8_told 1 [.ref 10, .int v1] f g (some (.int r), f, g) := by
  unfold pX8_told at h
  refine XT.of (L := [some (.ref 10), some (.int v1), none, none]) [some (.ref 10), some (.int v1)] rfl (Nat.le_of_ble_eq_true rfl) rfl (xle_c (xle_c (xle_z (xle_z xle_e)))) ?_
  refine X.iconst (v := (0 : Int32)) dX8_told_0 (by decide) ?_
  refine X.istore_n (i := 2) (L' := [some (.ref 10), some (.int v1), some (.int (0 : Int32)), none]) dX8_told_1 rfl (Nat.le_of_ble_eq_true rfl) rfl ?_
  refine X.iconst (v := (0 : Int32)) dX8_told_2 (by decide) ?_
  refine X.istore_n (i := 3) (L' := [some (.ref 10), some (.int v1), some (.int (0 : Int32)), some (.int (0 : Int32))]) dX8_told_3 rfl (Nat.le_of_ble_eq_true rfl) rfl ?_
  exact X.weaken (xle_c (xle_c (xle_c (xle_c xle_e)))) (tX8_told_b4 F h)
def pX11_about (F : Nat) (f : xM) (v1 : Int32) : Option (Int32) := (if v1 = (0 : Int32) then some ((f 2 4)) else (if v1 = (1 : Int32) then some ((f 2 5)) else (if v1 = (2 : Int32) then some ((f 10 0)) else (if v1 = (3 : Int32) then (Option.bind (pX8_told F f (f 2 6)) fun q5 => some (q5)) else (if v1 = (4 : Int32) then (Option.bind (pX8_told F f (pX9_said f)) fun q7 => some (q7)) else (if v1 = (5 : Int32) then some ((pX6_rightOf f (pX9_said f))) else (if v1 = (6 : Int32) then some ((pX9_day f)) else (if v1 = (7 : Int32) then (Option.bind (pX6_readingToday F f) fun q11 => some (q11)) else (if v1 = (8 : Int32) then (Option.bind (pX6_believingTruth F f) fun q13 => some (q13)) else (if v1 = (9 : Int32) then some ((f 3 2)) else (if v1 = (10 : Int32) then some ((f 1 4)) else some ((-2 : Int32)))))))))))))
set_option maxRecDepth 100000 in
set_option maxHeartbeats 4000000 in
theorem tX11_about {F : Nat} {f : xM} {g : xN} {v1 : Int32} {r : Int32} (h : pX11_about F f v1 = some r) : XT mX11_about 3 [.ref 0, .int v1] f g (some (.int r), f, g) := by
  unfold pX11_about at h
  refine XT.of (L := [some (.ref 0), some (.int v1), none]) [some (.ref 0), some (.int v1)] rfl (Nat.le_of_ble_eq_true rfl) rfl (xle_c (xle_c (xle_z xle_e))) ?_
  refine X.aload_n (i := 0) dX11_about_0 rfl rfl ?_
  refine X.getR (k0 := 1) kX11 sC_0 (Nat.le_of_ble_eq_true rfl) rfl lfX11_19 dX11_about_1 ?_
  refine X.getRN (k0 := 1) kX6 sC_2 (Nat.le_of_ble_eq_true rfl) rfl lnX11_106 dX11_about_4 ?_
  refine X.astore_n (i := 2) (L' := [some (.ref 0), some (.int v1), some (.ref 11)]) dX11_about_7 rfl (Nat.le_of_ble_eq_true rfl) rfl ?_
  refine X.iload_n (i := 1) dX11_about_8 rfl rfl ?_
  by_cases c1 : v1 = (0 : Int32)
  · rw [if_pos c1] at h
    refine X.swIn (off := 59) (tgt := 68) dX11_about_9 c1 (by decide) (by decide) rfl (by decide) ?_
    refine X.aload_n (i := 0) dX11_about_68 rfl rfl ?_
    refine X.getR (k0 := 1) kX11 sC_0 (Nat.le_of_ble_eq_true rfl) rfl lfX11_19 dX11_about_69 ?_
    refine X.getIN (k0 := 4) kX6 sC_2 (Nat.le_of_ble_eq_true rfl) rfl lnX11_100 dX11_about_72 ?_
    obtain rfl := Option.some.inj h
    exact X.iret dX11_about_75 rfl rfl
  rw [if_neg c1] at h
  by_cases c2 : v1 = (1 : Int32)
  · rw [if_pos c2] at h
    refine X.swIn (off := 67) (tgt := 76) dX11_about_9 c2 (by decide) (by decide) rfl (by decide) ?_
    refine X.aload_n (i := 0) dX11_about_76 rfl rfl ?_
    refine X.getR (k0 := 1) kX11 sC_0 (Nat.le_of_ble_eq_true rfl) rfl lfX11_19 dX11_about_77 ?_
    refine X.getIN (k0 := 5) kX6 sC_2 (Nat.le_of_ble_eq_true rfl) rfl lnX11_103 dX11_about_80 ?_
    obtain rfl := Option.some.inj h
    exact X.iret dX11_about_83 rfl rfl
  rw [if_neg c2] at h
  by_cases c3 : v1 = (2 : Int32)
  · rw [if_pos c3] at h
    refine X.swIn (off := 75) (tgt := 84) dX11_about_9 c3 (by decide) (by decide) rfl (by decide) ?_
    refine X.aload_n (i := 0) dX11_about_84 rfl rfl ?_
    refine X.getR (k0 := 1) kX11 sC_0 (Nat.le_of_ble_eq_true rfl) rfl lfX11_19 dX11_about_85 ?_
    refine X.getRN (k0 := 0) kX6 sC_2 (Nat.le_of_ble_eq_true rfl) rfl lnX11_110 dX11_about_88 ?_
    refine X.getIN (k0 := 0) kX8 sC_10 (Nat.le_of_ble_eq_true rfl) rfl lnX11_114 dX11_about_91 ?_
    obtain rfl := Option.some.inj h
    exact X.iret dX11_about_94 rfl rfl
  rw [if_neg c3] at h
  by_cases c4 : v1 = (3 : Int32)
  · rw [if_pos c4] at h
    refine X.swIn (off := 86) (tgt := 95) dX11_about_9 c4 (by decide) (by decide) rfl (by decide) ?_
    refine X.aload_n (i := 0) dX11_about_95 rfl rfl ?_
    refine X.getR (k0 := 1) kX11 sC_0 (Nat.le_of_ble_eq_true rfl) rfl lfX11_19 dX11_about_96 ?_
    refine X.getRN (k0 := 0) kX6 sC_2 (Nat.le_of_ble_eq_true rfl) rfl lnX11_110 dX11_about_99 ?_
    refine X.aload_n (i := 0) dX11_about_102 rfl rfl ?_
    refine X.getR (k0 := 1) kX11 sC_0 (Nat.le_of_ble_eq_true rfl) rfl lfX11_19 dX11_about_103 ?_
    refine X.getIN (k0 := 6) kX6 sC_2 (Nat.le_of_ble_eq_true rfl) rfl lnX11_119 dX11_about_106 ?_
    obtain ⟨q5, e5, h⟩ := xbind h
    try dsimp only at h
    refine X.callVN (μ' := mX8_told) (As := [.int (f 2 6)]) (st := []) (st1 := [.int q5]) (r := some (.int q5)) (f' := f) (g' := g) (tX8_told e5) (Nat.le_of_ble_eq_true rfl) cwX8_told rfl mnX11_122 sC_10 kX8 rfl rfl rfl (Nat.le_of_ble_eq_true rfl) dX11_about_109 ?_
    obtain rfl := Option.some.inj h
    exact X.iret dX11_about_112 rfl rfl
  rw [if_neg c4] at h
  by_cases c6 : v1 = (4 : Int32)
  · rw [if_pos c6] at h
    refine X.swIn (off := 104) (tgt := 113) dX11_about_9 c6 (by decide) (by decide) rfl (by decide) ?_
    refine X.aload_n (i := 0) dX11_about_113 rfl rfl ?_
    refine X.getR (k0 := 1) kX11 sC_0 (Nat.le_of_ble_eq_true rfl) rfl lfX11_19 dX11_about_114 ?_
    refine X.getRN (k0 := 0) kX6 sC_2 (Nat.le_of_ble_eq_true rfl) rfl lnX11_110 dX11_about_117 ?_
    refine X.aload_n (i := 2) dX11_about_120 rfl rfl ?_
    refine X.callVN (μ' := mX9_said) (As := []) (st := [.ref 10]) (st1 := [.int (pX9_said f), .ref 10]) (r := some (.int (pX9_said f))) (f' := f) (g' := g) (tX9_said rfl) (Nat.le_of_ble_eq_true rfl) cwX9_said rfl mnX11_126 sC_11 kX9 rfl rfl rfl (Nat.le_of_ble_eq_true rfl) dX11_about_121 ?_
    obtain ⟨q7, e7, h⟩ := xbind h
    try dsimp only at h
    refine X.callVN (μ' := mX8_told) (As := [.int (pX9_said f)]) (st := []) (st1 := [.int q7]) (r := some (.int q7)) (f' := f) (g' := g) (tX8_told e7) (Nat.le_of_ble_eq_true rfl) cwX8_told rfl mnX11_122 sC_10 kX8 rfl rfl rfl (Nat.le_of_ble_eq_true rfl) dX11_about_124 ?_
    obtain rfl := Option.some.inj h
    exact X.iret dX11_about_127 rfl rfl
  rw [if_neg c6] at h
  by_cases c8 : v1 = (5 : Int32)
  · rw [if_pos c8] at h
    refine X.swIn (off := 119) (tgt := 128) dX11_about_9 c8 (by decide) (by decide) rfl (by decide) ?_
    refine X.aload_n (i := 0) dX11_about_128 rfl rfl ?_
    refine X.getR (k0 := 1) kX11 sC_0 (Nat.le_of_ble_eq_true rfl) rfl lfX11_19 dX11_about_129 ?_
    refine X.aload_n (i := 2) dX11_about_132 rfl rfl ?_
    refine X.callVN (μ' := mX9_said) (As := []) (st := [.ref 2]) (st1 := [.int (pX9_said f), .ref 2]) (r := some (.int (pX9_said f))) (f' := f) (g' := g) (tX9_said rfl) (Nat.le_of_ble_eq_true rfl) cwX9_said rfl mnX11_126 sC_11 kX9 rfl rfl rfl (Nat.le_of_ble_eq_true rfl) dX11_about_133 ?_
    refine X.callVN (μ' := mX6_rightOf) (As := [.int (pX9_said f)]) (st := []) (st1 := [.int (pX6_rightOf f (pX9_said f))]) (r := some (.int (pX6_rightOf f (pX9_said f)))) (f' := f) (g' := g) (tX6_rightOf rfl) (Nat.le_of_ble_eq_true rfl) cwX6_rightOf rfl mnX11_131 sC_2 kX6 rfl rfl rfl (Nat.le_of_ble_eq_true rfl) dX11_about_136 ?_
    obtain rfl := Option.some.inj h
    exact X.iret dX11_about_139 rfl rfl
  rw [if_neg c8] at h
  by_cases c9 : v1 = (6 : Int32)
  · rw [if_pos c9] at h
    refine X.swIn (off := 131) (tgt := 140) dX11_about_9 c9 (by decide) (by decide) rfl (by decide) ?_
    refine X.aload_n (i := 2) dX11_about_140 rfl rfl ?_
    refine X.callVN (μ' := mX9_day) (As := []) (st := []) (st1 := [.int (pX9_day f)]) (r := some (.int (pX9_day f))) (f' := f) (g' := g) (tX9_day rfl) (Nat.le_of_ble_eq_true rfl) cwX9_day rfl mnX11_134 sC_11 kX9 rfl rfl rfl (Nat.le_of_ble_eq_true rfl) dX11_about_141 ?_
    obtain rfl := Option.some.inj h
    exact X.iret dX11_about_144 rfl rfl
  rw [if_neg c9] at h
  by_cases c10 : v1 = (7 : Int32)
  · rw [if_pos c10] at h
    refine X.swIn (off := 136) (tgt := 145) dX11_about_9 c10 (by decide) (by decide) rfl (by decide) ?_
    refine X.aload_n (i := 0) dX11_about_145 rfl rfl ?_
    refine X.getR (k0 := 1) kX11 sC_0 (Nat.le_of_ble_eq_true rfl) rfl lfX11_19 dX11_about_146 ?_
    obtain ⟨q11, e11, h⟩ := xbind h
    try dsimp only at h
    refine X.callVN (μ' := mX6_readingToday) (As := []) (st := []) (st1 := [.int q11]) (r := some (.int q11)) (f' := f) (g' := g) (tX6_readingToday e11) (Nat.le_of_ble_eq_true rfl) cwX6_readingToday rfl mnX11_137 sC_2 kX6 rfl rfl rfl (Nat.le_of_ble_eq_true rfl) dX11_about_149 ?_
    obtain rfl := Option.some.inj h
    exact X.iret dX11_about_152 rfl rfl
  rw [if_neg c10] at h
  by_cases c12 : v1 = (8 : Int32)
  · rw [if_pos c12] at h
    refine X.swIn (off := 144) (tgt := 153) dX11_about_9 c12 (by decide) (by decide) rfl (by decide) ?_
    refine X.aload_n (i := 0) dX11_about_153 rfl rfl ?_
    refine X.getR (k0 := 1) kX11 sC_0 (Nat.le_of_ble_eq_true rfl) rfl lfX11_19 dX11_about_154 ?_
    obtain ⟨q13, e13, h⟩ := xbind h
    try dsimp only at h
    refine X.callVN (μ' := mX6_believingTruth) (As := []) (st := []) (st1 := [.int q13]) (r := some (.int q13)) (f' := f) (g' := g) (tX6_believingTruth e13) (Nat.le_of_ble_eq_true rfl) cwX6_believingTruth rfl mnX11_140 sC_2 kX6 rfl rfl rfl (Nat.le_of_ble_eq_true rfl) dX11_about_157 ?_
    obtain rfl := Option.some.inj h
    exact X.iret dX11_about_160 rfl rfl
  rw [if_neg c12] at h
  by_cases c14 : v1 = (9 : Int32)
  · rw [if_pos c14] at h
    refine X.swIn (off := 152) (tgt := 161) dX11_about_9 c14 (by decide) (by decide) rfl (by decide) ?_
    refine X.aload_n (i := 0) dX11_about_161 rfl rfl ?_
    refine X.getR (k0 := 2) kX11 sC_0 (Nat.le_of_ble_eq_true rfl) rfl lfX11_26 dX11_about_162 ?_
    refine X.getIN (k0 := 2) kX3 sC_3 (Nat.le_of_ble_eq_true rfl) rfl lnX11_143 dX11_about_165 ?_
    obtain rfl := Option.some.inj h
    exact X.iret dX11_about_168 rfl rfl
  rw [if_neg c14] at h
  by_cases c15 : v1 = (10 : Int32)
  · rw [if_pos c15] at h
    refine X.swIn (off := 160) (tgt := 169) dX11_about_9 c15 (by decide) (by decide) rfl (by decide) ?_
    refine X.aload_n (i := 0) dX11_about_169 rfl rfl ?_
    refine X.getR (k0 := 0) kX11 sC_0 (Nat.le_of_ble_eq_true rfl) rfl lfX11_12 dX11_about_170 ?_
    refine X.getIN (k0 := 4) kX10 sC_1 (Nat.le_of_ble_eq_true rfl) rfl lnX11_86 dX11_about_173 ?_
    obtain rfl := Option.some.inj h
    exact X.iret dX11_about_176 rfl rfl
  rw [if_neg c15] at h
  refine X.swOut (tgt := 177) dX11_about_9 (xsw_out (fun j j1 j2 => ?_)) (by decide) ?_
  · rcases (show j = 0 ∨ j = 1 ∨ j = 2 ∨ j = 3 ∨ j = 4 ∨ j = 5 ∨ j = 6 ∨ j = 7 ∨ j = 8 ∨ j = 9 ∨ j = 10 by omega) with rfl | rfl | rfl | rfl | rfl | rfl | rfl | rfl | rfl | rfl | rfl <;> assumption
  refine X.bipush (v := (-2 : Int32)) dX11_about_177 (by decide) ?_
  obtain rfl := Option.some.inj h
  exact X.iret dX11_about_179 rfl rfl
def pX6_hasCompositor (f : xM) (v1 : Int32) : Int32 := (if v1 < 0 then (0 : Int32) else (if (f 2 4) ≤ v1 then (0 : Int32) else (1 : Int32)))
set_option maxRecDepth 100000 in
set_option maxHeartbeats 4000000 in
theorem tX6_hasCompositor {f : xM} {g : xN} {v1 : Int32} {r : Int32} (h : pX6_hasCompositor f v1 = r) : XT mX6_hasCompositor 0 [.ref 2, .int v1] f g (some (.int r), f, g) := by
  unfold pX6_hasCompositor at h
  refine XT.of (L := [some (.ref 2), some (.int v1)]) [some (.ref 2), some (.int v1)] rfl (Nat.le_of_ble_eq_true rfl) rfl (xle_c (xle_c xle_e)) ?_
  refine X.iload_n (i := 1) dX6_hasCompositor_0 rfl rfl ?_
  refine X.if_lt (tgt := 16) dX6_hasCompositor_1 (by decide) (fun c1 => ?_) (fun c1 => ?_)
  · rw [if_pos c1] at h
    refine X.iconst (v := (0 : Int32)) dX6_hasCompositor_16 (by decide) ?_
    subst h
    exact X.zret dX6_hasCompositor_17 rfl rfl rfl
  · rw [if_neg c1] at h
    refine X.iload_n (i := 1) dX6_hasCompositor_4 rfl rfl ?_
    refine X.aload_n (i := 0) dX6_hasCompositor_5 rfl rfl ?_
    refine X.getI (k0 := 4) kX6 sC_2 (Nat.le_of_ble_eq_true rfl) rfl lfX6_32 dX6_hasCompositor_6 ?_
    refine X.icmp_ge (tgt := 16) dX6_hasCompositor_9 (by decide) (fun c2 => ?_) (fun c2 => ?_)
    · rw [if_pos c2] at h
      refine X.iconst (v := (0 : Int32)) dX6_hasCompositor_16 (by decide) ?_
      subst h
      exact X.zret dX6_hasCompositor_17 rfl rfl rfl
    · rw [if_neg c2] at h
      refine X.iconst (v := (1 : Int32)) dX6_hasCompositor_12 (by decide) ?_
      refine X.goto (tgt := 17) dX6_hasCompositor_13 (by decide) ?_
      subst h
      exact X.zret dX6_hasCompositor_17 rfl rfl rfl
def pX9_kindOf (f : xM) (v1 : Int32) : Option (Int32) := (if v1 < 0 then some ((0 : Int32)) else (if (3 : Int32) ≤ v1 then some ((0 : Int32)) else (if xin ((2 : Int32) + v1) 9 then some ((f 19 ((2 : Int32) + v1).toNatClampNeg)) else none)))
set_option maxRecDepth 100000 in
set_option maxHeartbeats 4000000 in
theorem tX9_kindOf {f : xM} {g : xN} {v1 : Int32} {r : Int32} (h : pX9_kindOf f v1 = some r) : XT mX9_kindOf 0 [.ref 11, .int v1] f g (some (.int r), f, g) := by
  unfold pX9_kindOf at h
  refine XT.of (L := [some (.ref 11), some (.int v1)]) [some (.ref 11), some (.int v1)] rfl (Nat.le_of_ble_eq_true rfl) rfl (xle_c (xle_c xle_e)) ?_
  refine X.iload_n (i := 1) dX9_kindOf_0 rfl rfl ?_
  refine X.if_lt (tgt := 20) dX9_kindOf_1 (by decide) (fun c1 => ?_) (fun c1 => ?_)
  · rw [if_pos c1] at h
    refine X.iconst (v := (0 : Int32)) dX9_kindOf_20 (by decide) ?_
    obtain rfl := Option.some.inj h
    exact X.iret dX9_kindOf_21 rfl rfl
  · rw [if_neg c1] at h
    refine X.iload_n (i := 1) dX9_kindOf_4 rfl rfl ?_
    refine X.iconst (v := (3 : Int32)) dX9_kindOf_5 (by decide) ?_
    refine X.icmp_ge (tgt := 20) dX9_kindOf_6 (by decide) (fun c2 => ?_) (fun c2 => ?_)
    · rw [if_pos c2] at h
      refine X.iconst (v := (0 : Int32)) dX9_kindOf_20 (by decide) ?_
      obtain rfl := Option.some.inj h
      exact X.iret dX9_kindOf_21 rfl rfl
    · rw [if_neg c2] at h
      refine X.aload_n (i := 0) dX9_kindOf_9 rfl rfl ?_
      refine X.getR (k0 := 0) kX9 sC_11 (Nat.le_of_ble_eq_true rfl) rfl lfX9_11 dX9_kindOf_10 ?_
      refine X.iconst (v := (2 : Int32)) dX9_kindOf_13 (by decide) ?_
      refine X.iload_n (i := 1) dX9_kindOf_14 rfl rfl ?_
      refine X.iadd dX9_kindOf_15 ?_
      by_cases c3 : xin ((2 : Int32) + v1) 9
      rotate_left
      · rw [if_neg c3] at h; cases h
      rw [if_pos c3] at h
      refine X.iald sC_19 c3 dX9_kindOf_16 ?_
      refine X.goto (tgt := 21) dX9_kindOf_17 (by decide) ?_
      obtain rfl := Option.some.inj h
      exact X.iret dX9_kindOf_21 rfl rfl
def pX11_kind (f : xM) (v1 : Int32) : Option (Int32) := (if (pX6_hasCompositor f v1) = 0 then some ((-1 : Int32)) else (Option.bind (pX9_kindOf f v1) fun q2 => some (q2)))
set_option maxRecDepth 100000 in
set_option maxHeartbeats 4000000 in
theorem tX11_kind {f : xM} {g : xN} {v1 : Int32} {r : Int32} (h : pX11_kind f v1 = some r) : XT mX11_kind 1 [.ref 0, .int v1] f g (some (.int r), f, g) := by
  unfold pX11_kind at h
  refine XT.of (L := [some (.ref 0), some (.int v1)]) [some (.ref 0), some (.int v1)] rfl (Nat.le_of_ble_eq_true rfl) rfl (xle_c (xle_c xle_e)) ?_
  refine X.aload_n (i := 0) dX11_kind_0 rfl rfl ?_
  refine X.getR (k0 := 1) kX11 sC_0 (Nat.le_of_ble_eq_true rfl) rfl lfX11_19 dX11_kind_1 ?_
  refine X.iload_n (i := 1) dX11_kind_4 rfl rfl ?_
  refine X.callVN (μ' := mX6_hasCompositor) (As := [.int v1]) (st := []) (st1 := [.int (pX6_hasCompositor f v1)]) (r := some (.int (pX6_hasCompositor f v1))) (f' := f) (g' := g) (tX6_hasCompositor rfl) (Nat.le_of_ble_eq_true rfl) cwX6_hasCompositor rfl mnX11_146 sC_2 kX6 rfl rfl rfl (Nat.le_of_ble_eq_true rfl) dX11_kind_5 ?_
  refine X.if_eq (tgt := 25) dX11_kind_8 (by decide) (fun c1 => ?_) (fun c1 => ?_)
  · rw [if_pos c1] at h
    refine X.iconst (v := (-1 : Int32)) dX11_kind_25 (by decide) ?_
    obtain rfl := Option.some.inj h
    exact X.iret dX11_kind_26 rfl rfl
  · rw [if_neg c1] at h
    refine X.aload_n (i := 0) dX11_kind_11 rfl rfl ?_
    refine X.getR (k0 := 1) kX11 sC_0 (Nat.le_of_ble_eq_true rfl) rfl lfX11_19 dX11_kind_12 ?_
    refine X.getRN (k0 := 1) kX6 sC_2 (Nat.le_of_ble_eq_true rfl) rfl lnX11_106 dX11_kind_15 ?_
    refine X.iload_n (i := 1) dX11_kind_18 rfl rfl ?_
    obtain ⟨q2, e2, h⟩ := xbind h
    try dsimp only at h
    refine X.callVN (μ' := mX9_kindOf) (As := [.int v1]) (st := []) (st1 := [.int q2]) (r := some (.int q2)) (f' := f) (g' := g) (tX9_kindOf e2) (Nat.le_of_ble_eq_true rfl) cwX9_kindOf rfl mnX11_149 sC_11 kX9 rfl rfl rfl (Nat.le_of_ble_eq_true rfl) dX11_kind_19 ?_
    refine X.goto (tgt := 26) dX11_kind_22 (by decide) ?_
    obtain rfl := Option.some.inj h
    exact X.iret dX11_kind_26 rfl rfl
def pX6_hasReader (f : xM) (v1 : Int32) : Int32 := (if v1 < 0 then (0 : Int32) else (if (f 2 5) ≤ v1 then (0 : Int32) else (1 : Int32)))
set_option maxRecDepth 100000 in
set_option maxHeartbeats 4000000 in
theorem tX6_hasReader {f : xM} {g : xN} {v1 : Int32} {r : Int32} (h : pX6_hasReader f v1 = r) : XT mX6_hasReader 0 [.ref 2, .int v1] f g (some (.int r), f, g) := by
  unfold pX6_hasReader at h
  refine XT.of (L := [some (.ref 2), some (.int v1)]) [some (.ref 2), some (.int v1)] rfl (Nat.le_of_ble_eq_true rfl) rfl (xle_c (xle_c xle_e)) ?_
  refine X.iload_n (i := 1) dX6_hasReader_0 rfl rfl ?_
  refine X.if_lt (tgt := 16) dX6_hasReader_1 (by decide) (fun c1 => ?_) (fun c1 => ?_)
  · rw [if_pos c1] at h
    refine X.iconst (v := (0 : Int32)) dX6_hasReader_16 (by decide) ?_
    subst h
    exact X.zret dX6_hasReader_17 rfl rfl rfl
  · rw [if_neg c1] at h
    refine X.iload_n (i := 1) dX6_hasReader_4 rfl rfl ?_
    refine X.aload_n (i := 0) dX6_hasReader_5 rfl rfl ?_
    refine X.getI (k0 := 5) kX6 sC_2 (Nat.le_of_ble_eq_true rfl) rfl lfX6_36 dX6_hasReader_6 ?_
    refine X.icmp_ge (tgt := 16) dX6_hasReader_9 (by decide) (fun c2 => ?_) (fun c2 => ?_)
    · rw [if_pos c2] at h
      refine X.iconst (v := (0 : Int32)) dX6_hasReader_16 (by decide) ?_
      subst h
      exact X.zret dX6_hasReader_17 rfl rfl rfl
    · rw [if_neg c2] at h
      refine X.iconst (v := (1 : Int32)) dX6_hasReader_12 (by decide) ?_
      refine X.goto (tgt := 17) dX6_hasReader_13 (by decide) ?_
      subst h
      exact X.zret dX6_hasReader_17 rfl rfl rfl
def pX11_reader (F : Nat) (f : xM) (v1 : Int32) (v2 : Int32) : Option (Int32) := (if (pX6_hasReader f v1) = 0 then some ((-1 : Int32)) else (if v2 = (0 : Int32) then (Option.bind (pX6_periodOf f v1) fun q3 => some (q3)) else (if v2 = (1 : Int32) then (Option.bind (pX6_leftOf f v1) fun q5 => some (q5)) else (if v2 = (2 : Int32) then (Option.bind (pX9_beliefOf f v1) fun q7 => (Option.bind (pX8_told F f q7) fun q8 => some (q8))) else (if v2 = (3 : Int32) then (Option.bind (pX9_beliefOf f v1) fun q10 => some ((pX6_rightOf f q10))) else some ((-2 : Int32)))))))
set_option maxRecDepth 100000 in
set_option maxHeartbeats 4000000 in
theorem tX11_reader {F : Nat} {f : xM} {g : xN} {v1 : Int32} {v2 : Int32} {r : Int32} (h : pX11_reader F f v1 v2 = some r) : XT mX11_reader 3 [.ref 0, .int v1, .int v2] f g (some (.int r), f, g) := by
  unfold pX11_reader at h
  refine XT.of (L := [some (.ref 0), some (.int v1), some (.int v2)]) [some (.ref 0), some (.int v1), some (.int v2)] rfl (Nat.le_of_ble_eq_true rfl) rfl (xle_c (xle_c (xle_c xle_e))) ?_
  refine X.aload_n (i := 0) dX11_reader_0 rfl rfl ?_
  refine X.getR (k0 := 1) kX11 sC_0 (Nat.le_of_ble_eq_true rfl) rfl lfX11_19 dX11_reader_1 ?_
  refine X.iload_n (i := 1) dX11_reader_4 rfl rfl ?_
  refine X.callVN (μ' := mX6_hasReader) (As := [.int v1]) (st := []) (st1 := [.int (pX6_hasReader f v1)]) (r := some (.int (pX6_hasReader f v1))) (f' := f) (g' := g) (tX6_hasReader rfl) (Nat.le_of_ble_eq_true rfl) cwX6_hasReader rfl mnX11_152 sC_2 kX6 rfl rfl rfl (Nat.le_of_ble_eq_true rfl) dX11_reader_5 ?_
  refine X.if_ne (tgt := 13) dX11_reader_8 (by decide) (fun c1 => ?_) (fun c1 => ?_)
  · rw [if_neg c1] at h
    refine X.iload_n (i := 2) dX11_reader_13 rfl rfl ?_
    by_cases c2 : v2 = (0 : Int32)
    · rw [if_pos c2] at h
      refine X.swIn (off := 30) (tgt := 44) dX11_reader_14 c2 (by decide) (by decide) rfl (by decide) ?_
      refine X.aload_n (i := 0) dX11_reader_44 rfl rfl ?_
      refine X.getR (k0 := 1) kX11 sC_0 (Nat.le_of_ble_eq_true rfl) rfl lfX11_19 dX11_reader_45 ?_
      refine X.iload_n (i := 1) dX11_reader_48 rfl rfl ?_
      obtain ⟨q3, e3, h⟩ := xbind h
      try dsimp only at h
      refine X.callVN (μ' := mX6_periodOf) (As := [.int v1]) (st := []) (st1 := [.int q3]) (r := some (.int q3)) (f' := f) (g' := g) (tX6_periodOf e3) (Nat.le_of_ble_eq_true rfl) cwX6_periodOf rfl mnX11_155 sC_2 kX6 rfl rfl rfl (Nat.le_of_ble_eq_true rfl) dX11_reader_49 ?_
      obtain rfl := Option.some.inj h
      exact X.iret dX11_reader_52 rfl rfl
    rw [if_neg c2] at h
    by_cases c4 : v2 = (1 : Int32)
    · rw [if_pos c4] at h
      refine X.swIn (off := 39) (tgt := 53) dX11_reader_14 c4 (by decide) (by decide) rfl (by decide) ?_
      refine X.aload_n (i := 0) dX11_reader_53 rfl rfl ?_
      refine X.getR (k0 := 1) kX11 sC_0 (Nat.le_of_ble_eq_true rfl) rfl lfX11_19 dX11_reader_54 ?_
      refine X.iload_n (i := 1) dX11_reader_57 rfl rfl ?_
      obtain ⟨q5, e5, h⟩ := xbind h
      try dsimp only at h
      refine X.callVN (μ' := mX6_leftOf) (As := [.int v1]) (st := []) (st1 := [.int q5]) (r := some (.int q5)) (f' := f) (g' := g) (tX6_leftOf e5) (Nat.le_of_ble_eq_true rfl) cwX6_leftOf rfl mnX11_158 sC_2 kX6 rfl rfl rfl (Nat.le_of_ble_eq_true rfl) dX11_reader_58 ?_
      obtain rfl := Option.some.inj h
      exact X.iret dX11_reader_61 rfl rfl
    rw [if_neg c4] at h
    by_cases c6 : v2 = (2 : Int32)
    · rw [if_pos c6] at h
      refine X.swIn (off := 48) (tgt := 62) dX11_reader_14 c6 (by decide) (by decide) rfl (by decide) ?_
      refine X.aload_n (i := 0) dX11_reader_62 rfl rfl ?_
      refine X.getR (k0 := 1) kX11 sC_0 (Nat.le_of_ble_eq_true rfl) rfl lfX11_19 dX11_reader_63 ?_
      refine X.getRN (k0 := 0) kX6 sC_2 (Nat.le_of_ble_eq_true rfl) rfl lnX11_110 dX11_reader_66 ?_
      refine X.aload_n (i := 0) dX11_reader_69 rfl rfl ?_
      refine X.getR (k0 := 1) kX11 sC_0 (Nat.le_of_ble_eq_true rfl) rfl lfX11_19 dX11_reader_70 ?_
      refine X.getRN (k0 := 1) kX6 sC_2 (Nat.le_of_ble_eq_true rfl) rfl lnX11_106 dX11_reader_73 ?_
      refine X.iload_n (i := 1) dX11_reader_76 rfl rfl ?_
      obtain ⟨q7, e7, h⟩ := xbind h
      try dsimp only at h
      refine X.callVN (μ' := mX9_beliefOf) (As := [.int v1]) (st := [.ref 10]) (st1 := [.int q7, .ref 10]) (r := some (.int q7)) (f' := f) (g' := g) (tX9_beliefOf e7) (Nat.le_of_ble_eq_true rfl) cwX9_beliefOf rfl mnX11_161 sC_11 kX9 rfl rfl rfl (Nat.le_of_ble_eq_true rfl) dX11_reader_77 ?_
      obtain ⟨q8, e8, h⟩ := xbind h
      try dsimp only at h
      refine X.callVN (μ' := mX8_told) (As := [.int q7]) (st := []) (st1 := [.int q8]) (r := some (.int q8)) (f' := f) (g' := g) (tX8_told e8) (Nat.le_of_ble_eq_true rfl) cwX8_told rfl mnX11_122 sC_10 kX8 rfl rfl rfl (Nat.le_of_ble_eq_true rfl) dX11_reader_80 ?_
      obtain rfl := Option.some.inj h
      exact X.iret dX11_reader_83 rfl rfl
    rw [if_neg c6] at h
    by_cases c9 : v2 = (3 : Int32)
    · rw [if_pos c9] at h
      refine X.swIn (off := 70) (tgt := 84) dX11_reader_14 c9 (by decide) (by decide) rfl (by decide) ?_
      refine X.aload_n (i := 0) dX11_reader_84 rfl rfl ?_
      refine X.getR (k0 := 1) kX11 sC_0 (Nat.le_of_ble_eq_true rfl) rfl lfX11_19 dX11_reader_85 ?_
      refine X.aload_n (i := 0) dX11_reader_88 rfl rfl ?_
      refine X.getR (k0 := 1) kX11 sC_0 (Nat.le_of_ble_eq_true rfl) rfl lfX11_19 dX11_reader_89 ?_
      refine X.getRN (k0 := 1) kX6 sC_2 (Nat.le_of_ble_eq_true rfl) rfl lnX11_106 dX11_reader_92 ?_
      refine X.iload_n (i := 1) dX11_reader_95 rfl rfl ?_
      obtain ⟨q10, e10, h⟩ := xbind h
      try dsimp only at h
      refine X.callVN (μ' := mX9_beliefOf) (As := [.int v1]) (st := [.ref 2]) (st1 := [.int q10, .ref 2]) (r := some (.int q10)) (f' := f) (g' := g) (tX9_beliefOf e10) (Nat.le_of_ble_eq_true rfl) cwX9_beliefOf rfl mnX11_161 sC_11 kX9 rfl rfl rfl (Nat.le_of_ble_eq_true rfl) dX11_reader_96 ?_
      refine X.callVN (μ' := mX6_rightOf) (As := [.int q10]) (st := []) (st1 := [.int (pX6_rightOf f q10)]) (r := some (.int (pX6_rightOf f q10))) (f' := f) (g' := g) (tX6_rightOf rfl) (Nat.le_of_ble_eq_true rfl) cwX6_rightOf rfl mnX11_131 sC_2 kX6 rfl rfl rfl (Nat.le_of_ble_eq_true rfl) dX11_reader_99 ?_
      obtain rfl := Option.some.inj h
      exact X.iret dX11_reader_102 rfl rfl
    rw [if_neg c9] at h
    refine X.swOut (tgt := 103) dX11_reader_14 (xsw_out (fun j j1 j2 => ?_)) (by decide) ?_
    · rcases (show j = 0 ∨ j = 1 ∨ j = 2 ∨ j = 3 by omega) with rfl | rfl | rfl | rfl <;> assumption
    refine X.bipush (v := (-2 : Int32)) dX11_reader_103 (by decide) ?_
    obtain rfl := Option.some.inj h
    exact X.iret dX11_reader_105 rfl rfl
  · rw [if_pos c1] at h
    refine X.iconst (v := (-1 : Int32)) dX11_reader_11 (by decide) ?_
    obtain rfl := Option.some.inj h
    exact X.iret dX11_reader_12 rfl rfl
def pX8_hasPlace (f : xM) (v1 : Int32) : Int32 := (if v1 < 0 then (0 : Int32) else (if (f 10 0) ≤ v1 then (0 : Int32) else (1 : Int32)))
set_option maxRecDepth 100000 in
set_option maxHeartbeats 4000000 in
theorem tX8_hasPlace {f : xM} {g : xN} {v1 : Int32} {r : Int32} (h : pX8_hasPlace f v1 = r) : XT mX8_hasPlace 0 [.ref 10, .int v1] f g (some (.int r), f, g) := by
  unfold pX8_hasPlace at h
  refine XT.of (L := [some (.ref 10), some (.int v1)]) [some (.ref 10), some (.int v1)] rfl (Nat.le_of_ble_eq_true rfl) rfl (xle_c (xle_c xle_e)) ?_
  refine X.iload_n (i := 1) dX8_hasPlace_0 rfl rfl ?_
  refine X.if_lt (tgt := 16) dX8_hasPlace_1 (by decide) (fun c1 => ?_) (fun c1 => ?_)
  · rw [if_pos c1] at h
    refine X.iconst (v := (0 : Int32)) dX8_hasPlace_16 (by decide) ?_
    subst h
    exact X.zret dX8_hasPlace_17 rfl rfl rfl
  · rw [if_neg c1] at h
    refine X.iload_n (i := 1) dX8_hasPlace_4 rfl rfl ?_
    refine X.aload_n (i := 0) dX8_hasPlace_5 rfl rfl ?_
    refine X.getI (k0 := 0) kX8 sC_10 (Nat.le_of_ble_eq_true rfl) rfl lfX8_9 dX8_hasPlace_6 ?_
    refine X.icmp_ge (tgt := 16) dX8_hasPlace_9 (by decide) (fun c2 => ?_) (fun c2 => ?_)
    · rw [if_pos c2] at h
      refine X.iconst (v := (0 : Int32)) dX8_hasPlace_16 (by decide) ?_
      subst h
      exact X.zret dX8_hasPlace_17 rfl rfl rfl
    · rw [if_neg c2] at h
      refine X.iconst (v := (1 : Int32)) dX8_hasPlace_12 (by decide) ?_
      refine X.goto (tgt := 17) dX8_hasPlace_13 (by decide) ?_
      subst h
      exact X.zret dX8_hasPlace_17 rfl rfl rfl
def pX6_isNoticeFor (f : xM) (v1 : Int32) (v2 : Int32) : Int32 := (if (pX8_hasPlace f v1) = 0 then (0 : Int32) else (if v2 < 0 then (0 : Int32) else (if (4 : Int32) ≤ v2 then (0 : Int32) else (1 : Int32))))
set_option maxRecDepth 100000 in
set_option maxHeartbeats 4000000 in
theorem tX6_isNoticeFor {f : xM} {g : xN} {v1 : Int32} {v2 : Int32} {r : Int32} (h : pX6_isNoticeFor f v1 v2 = r) : XT mX6_isNoticeFor 1 [.ref 2, .int v1, .int v2] f g (some (.int r), f, g) := by
  unfold pX6_isNoticeFor at h
  refine XT.of (L := [some (.ref 2), some (.int v1), some (.int v2)]) [some (.ref 2), some (.int v1), some (.int v2)] rfl (Nat.le_of_ble_eq_true rfl) rfl (xle_c (xle_c (xle_c xle_e))) ?_
  refine X.aload_n (i := 0) dX6_isNoticeFor_0 rfl rfl ?_
  refine X.getR (k0 := 0) kX6 sC_2 (Nat.le_of_ble_eq_true rfl) rfl lfX6_12 dX6_isNoticeFor_1 ?_
  refine X.iload_n (i := 1) dX6_isNoticeFor_4 rfl rfl ?_
  refine X.callVN (μ' := mX8_hasPlace) (As := [.int v1]) (st := []) (st1 := [.int (pX8_hasPlace f v1)]) (r := some (.int (pX8_hasPlace f v1))) (f' := f) (g' := g) (tX8_hasPlace rfl) (Nat.le_of_ble_eq_true rfl) cwX8_hasPlace rfl mnX6_79 sC_10 kX8 rfl rfl rfl (Nat.le_of_ble_eq_true rfl) dX6_isNoticeFor_5 ?_
  refine X.if_eq (tgt := 24) dX6_isNoticeFor_8 (by decide) (fun c1 => ?_) (fun c1 => ?_)
  · rw [if_pos c1] at h
    refine X.iconst (v := (0 : Int32)) dX6_isNoticeFor_24 (by decide) ?_
    subst h
    exact X.zret dX6_isNoticeFor_25 rfl rfl rfl
  · rw [if_neg c1] at h
    refine X.iload_n (i := 2) dX6_isNoticeFor_11 rfl rfl ?_
    refine X.if_lt (tgt := 24) dX6_isNoticeFor_12 (by decide) (fun c2 => ?_) (fun c2 => ?_)
    · rw [if_pos c2] at h
      refine X.iconst (v := (0 : Int32)) dX6_isNoticeFor_24 (by decide) ?_
      subst h
      exact X.zret dX6_isNoticeFor_25 rfl rfl rfl
    · rw [if_neg c2] at h
      refine X.iload_n (i := 2) dX6_isNoticeFor_15 rfl rfl ?_
      refine X.iconst (v := (4 : Int32)) dX6_isNoticeFor_16 (by decide) ?_
      refine X.icmp_ge (tgt := 24) dX6_isNoticeFor_17 (by decide) (fun c3 => ?_) (fun c3 => ?_)
      · rw [if_pos c3] at h
        refine X.iconst (v := (0 : Int32)) dX6_isNoticeFor_24 (by decide) ?_
        subst h
        exact X.zret dX6_isNoticeFor_25 rfl rfl rfl
      · rw [if_neg c3] at h
        refine X.iconst (v := (1 : Int32)) dX6_isNoticeFor_20 (by decide) ?_
        refine X.goto (tgt := 25) dX6_isNoticeFor_21 (by decide) ?_
        subst h
        exact X.zret dX6_isNoticeFor_25 rfl rfl rfl
def pX7_holds_12 (v1 : Int32) : Int32 := (if v1 < 0 then (0 : Int32) else (if ((126 : Int32) / (9 : Int32)) ≤ v1 then (0 : Int32) else (1 : Int32)))
set_option maxRecDepth 100000 in
set_option maxHeartbeats 4000000 in
theorem tX7_holds_12 {f : xM} {g : xN} {v1 : Int32} {r : Int32} (h : pX7_holds_12 v1 = r) : XT mX7_holds 0 [.ref 12, .int v1] f g (some (.int r), f, g) := by
  unfold pX7_holds_12 at h
  refine XT.of (L := [some (.ref 12), some (.int v1)]) [some (.ref 12), some (.int v1)] rfl (Nat.le_of_ble_eq_true rfl) rfl (xle_c (xle_c xle_e)) ?_
  refine X.iload_n (i := 1) dX7_holds_0 rfl rfl ?_
  refine X.if_lt (tgt := 20) dX7_holds_1 (by decide) (fun c1 => ?_) (fun c1 => ?_)
  · rw [if_pos c1] at h
    refine X.iconst (v := (0 : Int32)) dX7_holds_20 (by decide) ?_
    subst h
    exact X.zret dX7_holds_21 rfl rfl rfl
  · rw [if_neg c1] at h
    refine X.iload_n (i := 1) dX7_holds_4 rfl rfl ?_
    refine X.aload_n (i := 0) dX7_holds_5 rfl rfl ?_
    refine X.getR (k0 := 0) kX7 sC_12 (Nat.le_of_ble_eq_true rfl) rfl lfX7_15 dX7_holds_6 ?_
    refine X.alen (v := (126 : Int32)) sC_21 (by decide) dX7_holds_9 ?_
    refine X.bipush (v := (9 : Int32)) dX7_holds_10 (by decide) ?_
    refine X.idiv dX7_holds_12 (by decide) ?_
    refine X.icmp_ge (tgt := 20) dX7_holds_13 (by decide) (fun c2 => ?_) (fun c2 => ?_)
    · rw [if_pos c2] at h
      refine X.iconst (v := (0 : Int32)) dX7_holds_20 (by decide) ?_
      subst h
      exact X.zret dX7_holds_21 rfl rfl rfl
    · rw [if_neg c2] at h
      refine X.iconst (v := (1 : Int32)) dX7_holds_16 (by decide) ?_
      refine X.goto (tgt := 21) dX7_holds_17 (by decide) ?_
      subst h
      exact X.zret dX7_holds_21 rfl rfl rfl
def pX7_put_12 (v1 : Int32) (f : xM) : Option (xM) := (if (pX7_holds_12 v1) = 0 then some (f) else (if xcok (0 : Int32) (v1 * (9 : Int32)) (9 : Int32) 9 126 then some ((xrow f 21 (va_cpy (f 19) (f 21) (0 : Int32).toNatClampNeg (v1 * (9 : Int32)).toNatClampNeg (9 : Int32).toNatClampNeg))) else none))
set_option maxRecDepth 100000 in
set_option maxHeartbeats 4000000 in
theorem tX7_put_12 {g : xN} {v1 : Int32} {f : xM} {r : xM} (h : pX7_put_12 v1 f = some r) : XT mX7_put 1 [.ref 12, .int v1, .ref 11] f g (none, r, g) := by
  unfold pX7_put_12 at h
  refine XT.of (L := [some (.ref 12), some (.int v1), some (.ref 11)]) [some (.ref 12), some (.int v1), some (.ref 11)] rfl (Nat.le_of_ble_eq_true rfl) rfl (xle_c (xle_c (xle_c xle_e))) ?_
  refine X.aload_n (i := 0) dX7_put_0 rfl rfl ?_
  refine X.iload_n (i := 1) dX7_put_1 rfl rfl ?_
  refine X.callV (μ' := mX7_holds) (As := [.int v1]) (st := []) (st1 := [.int (pX7_holds_12 v1)]) (r := some (.int (pX7_holds_12 v1))) (f' := f) (g' := g) (tX7_holds_12 rfl) (Nat.le_of_ble_eq_true rfl) cwX7_holds rfl mlX7_21 sC_12 kX7 rfl rfl rfl (Nat.le_of_ble_eq_true rfl) dX7_put_2 ?_
  refine X.if_eq (tgt := 26) dX7_put_5 (by decide) (fun c1 => ?_) (fun c1 => ?_)
  · rw [if_pos c1] at h
    obtain rfl := Option.some.inj h
    exact X.vret dX7_put_26 rfl rfl
  · rw [if_neg c1] at h
    refine X.aload_n (i := 2) dX7_put_8 rfl rfl ?_
    refine X.getRN (k0 := 0) kX9 sC_11 (Nat.le_of_ble_eq_true rfl) rfl lnX7_25 dX7_put_9 ?_
    refine X.iconst (v := (0 : Int32)) dX7_put_12 (by decide) ?_
    refine X.aload_n (i := 0) dX7_put_13 rfl rfl ?_
    refine X.getR (k0 := 0) kX7 sC_12 (Nat.le_of_ble_eq_true rfl) rfl lfX7_15 dX7_put_14 ?_
    refine X.iload_n (i := 1) dX7_put_17 rfl rfl ?_
    refine X.bipush (v := (9 : Int32)) dX7_put_18 (by decide) ?_
    refine X.imul dX7_put_20 ?_
    refine X.bipush (v := (9 : Int32)) dX7_put_21 (by decide) ?_
    by_cases c2 : xcok (0 : Int32) (v1 * (9 : Int32)) (9 : Int32) 9 126
    rotate_left
    · rw [if_neg c2] at h; cases h
    rw [if_pos c2] at h
    refine X.copy mlX7_28 lnat lstatc linitS sC_19 sC_21 c2.1 c2.2.1 c2.2.2.1 c2.2.2.2.1 c2.2.2.2.2 (by decide) (Nat.le_of_ble_eq_true rfl) dX7_put_23 ?_
    obtain rfl := Option.some.inj h
    exact X.vret dX7_put_26 rfl rfl
def pX3_note (f : xM) : Option (xM) := (Option.bind (pX7_put_12 ((f 3 1) - (f 3 1) / (14 : Int32) * (14 : Int32)) f) fun q1 => some ((xu (xu q1 3 1 ((q1 3 1) + (1 : Int32))) 3 2 (if (14 : Int32) < (((xu q1 3 1 ((q1 3 1) + (1 : Int32))) 3 2) + (1 : Int32)) then (14 : Int32) else (((xu q1 3 1 ((q1 3 1) + (1 : Int32))) 3 2) + (1 : Int32))))))
set_option maxRecDepth 100000 in
set_option maxHeartbeats 4000000 in
theorem tX3_note {g : xN} {f : xM} {r : xM} (h : pX3_note f = some r) : XT mX3_note 2 [.ref 3, .ref 11] f g (none, r, g) := by
  unfold pX3_note at h
  refine XT.of (L := [some (.ref 3), some (.ref 11)]) [some (.ref 3), some (.ref 11)] rfl (Nat.le_of_ble_eq_true rfl) rfl (xle_c (xle_c xle_e)) ?_
  refine X.aload_n (i := 0) dX3_note_0 rfl rfl ?_
  refine X.getR (k0 := 0) kX3 sC_3 (Nat.le_of_ble_eq_true rfl) rfl lfX3_14 dX3_note_1 ?_
  refine X.aload_n (i := 0) dX3_note_4 rfl rfl ?_
  refine X.getI (k0 := 1) kX3 sC_3 (Nat.le_of_ble_eq_true rfl) rfl lfX3_18 dX3_note_5 ?_
  refine X.bipush (v := (14 : Int32)) dX3_note_8 (by decide) ?_
  refine X.irem dX3_note_10 (by decide) ?_
  refine X.aload_n (i := 1) dX3_note_11 rfl rfl ?_
  obtain ⟨q1, e1, h⟩ := xbind h
  try dsimp only at h
  refine X.callVN (μ' := mX7_put) (As := [.int ((f 3 1) - (f 3 1) / (14 : Int32) * (14 : Int32)), .ref 11]) (st := []) (st1 := []) (r := none) (f' := q1) (g' := g) (tX7_put_12 e1) (Nat.le_of_ble_eq_true rfl) cwX7_put rfl mnX3_25 sC_12 kX7 rfl rfl rfl (Nat.le_of_ble_eq_true rfl) dX3_note_12 ?_
  refine X.aload_n (i := 0) dX3_note_15 rfl rfl ?_
  refine X.dup dX3_note_16 rfl ?_
  refine X.getI (k0 := 1) kX3 sC_3 (Nat.le_of_ble_eq_true rfl) rfl lfX3_18 dX3_note_17 ?_
  refine X.iconst (v := (1 : Int32)) dX3_note_20 (by decide) ?_
  refine X.iadd dX3_note_21 ?_
  refine X.putI (k0 := 1) kX3 sC_3 (Nat.le_of_ble_eq_true rfl) rfl lfX3_18 rfl rfl dX3_note_22 ?_
  refine X.aload_n (i := 0) dX3_note_25 rfl rfl ?_
  refine X.aload_n (i := 0) dX3_note_26 rfl rfl ?_
  refine X.getI (k0 := 2) kX3 sC_3 (Nat.le_of_ble_eq_true rfl) rfl lfX3_22 dX3_note_27 ?_
  refine X.iconst (v := (1 : Int32)) dX3_note_30 (by decide) ?_
  refine X.iadd dX3_note_31 ?_
  refine X.bipush (v := (14 : Int32)) dX3_note_32 (by decide) ?_
  refine X.min mlX3_29 lstmin linitM lcomin (by decide) (Nat.le_of_ble_eq_true rfl) dX3_note_34 ?_
  refine X.putI (k0 := 2) kX3 sC_3 (Nat.le_of_ble_eq_true rfl) rfl lfX3_22 rfl rfl dX3_note_37 ?_
  obtain rfl := Option.some.inj h
  exact X.vret dX3_note_40 rfl rfl
def pX8_nextPlace (f : xM) (v1 : Int32) : Int32 := (if (f 10 0) ≤ (v1 + (1 : Int32)) then (0 : Int32) else (v1 + (1 : Int32)))
set_option maxRecDepth 100000 in
set_option maxHeartbeats 4000000 in
theorem tX8_nextPlace {f : xM} {g : xN} {v1 : Int32} {r : Int32} (h : pX8_nextPlace f v1 = r) : XT mX8_nextPlace 0 [.ref 10, .int v1] f g (some (.int r), f, g) := by
  unfold pX8_nextPlace at h
  refine XT.of (L := [some (.ref 10), some (.int v1)]) [some (.ref 10), some (.int v1)] rfl (Nat.le_of_ble_eq_true rfl) rfl (xle_c (xle_c xle_e)) ?_
  refine X.iload_n (i := 1) dX8_nextPlace_0 rfl rfl ?_
  refine X.iconst (v := (1 : Int32)) dX8_nextPlace_1 (by decide) ?_
  refine X.iadd dX8_nextPlace_2 ?_
  refine X.aload_n (i := 0) dX8_nextPlace_3 rfl rfl ?_
  refine X.getI (k0 := 0) kX8 sC_10 (Nat.le_of_ble_eq_true rfl) rfl lfX8_9 dX8_nextPlace_4 ?_
  refine X.icmp_ge (tgt := 16) dX8_nextPlace_7 (by decide) (fun c1 => ?_) (fun c1 => ?_)
  · rw [if_pos c1] at h
    refine X.iconst (v := (0 : Int32)) dX8_nextPlace_16 (by decide) ?_
    subst h
    exact X.iret dX8_nextPlace_17 rfl rfl
  · rw [if_neg c1] at h
    refine X.iload_n (i := 1) dX8_nextPlace_10 rfl rfl ?_
    refine X.iconst (v := (1 : Int32)) dX8_nextPlace_11 (by decide) ?_
    refine X.iadd dX8_nextPlace_12 ?_
    refine X.goto (tgt := 17) dX8_nextPlace_13 (by decide) ?_
    subst h
    exact X.iret dX8_nextPlace_17 rfl rfl
def pX8_withLetter (f : xM) (v1 : Int32) (v2 : Int32) (v3 : Int32) : Int32 := ((v1 &&& (((3 : Int32) <<< (((2 : Int32) * (((f 10 0) - (1 : Int32)) - v2)) &&& 31)) ^^^ (-1 : Int32))) ||| ((v3 &&& (3 : Int32)) <<< (((2 : Int32) * (((f 10 0) - (1 : Int32)) - v2)) &&& 31)))
set_option maxRecDepth 100000 in
set_option maxHeartbeats 4000000 in
theorem tX8_withLetter {f : xM} {g : xN} {v1 : Int32} {v2 : Int32} {v3 : Int32} {r : Int32} (h : pX8_withLetter f v1 v2 v3 = r) : XT mX8_withLetter 0 [.ref 10, .int v1, .int v2, .int v3] f g (some (.int r), f, g) := by
  unfold pX8_withLetter at h
  refine XT.of (L := [some (.ref 10), some (.int v1), some (.int v2), some (.int v3), none]) [some (.ref 10), some (.int v1), some (.int v2), some (.int v3)] rfl (Nat.le_of_ble_eq_true rfl) rfl (xle_c (xle_c (xle_c (xle_c (xle_z xle_e))))) ?_
  refine X.iconst (v := (2 : Int32)) dX8_withLetter_0 (by decide) ?_
  refine X.aload_n (i := 0) dX8_withLetter_1 rfl rfl ?_
  refine X.getI (k0 := 0) kX8 sC_10 (Nat.le_of_ble_eq_true rfl) rfl lfX8_9 dX8_withLetter_2 ?_
  refine X.iconst (v := (1 : Int32)) dX8_withLetter_5 (by decide) ?_
  refine X.isub dX8_withLetter_6 ?_
  refine X.iload_n (i := 2) dX8_withLetter_7 rfl rfl ?_
  refine X.isub dX8_withLetter_8 ?_
  refine X.imul dX8_withLetter_9 ?_
  refine X.istore (i := 4) (L' := [some (.ref 10), some (.int v1), some (.int v2), some (.int v3), some (.int ((2 : Int32) * (((f 10 0) - (1 : Int32)) - v2)))]) dX8_withLetter_10 (Nat.le_of_ble_eq_true rfl) rfl ?_
  refine X.iload_n (i := 1) dX8_withLetter_12 rfl rfl ?_
  refine X.iconst (v := (3 : Int32)) dX8_withLetter_13 (by decide) ?_
  refine X.iload (i := 4) dX8_withLetter_14 rfl ?_
  refine X.ishl dX8_withLetter_16 ?_
  refine X.iconst (v := (-1 : Int32)) dX8_withLetter_17 (by decide) ?_
  refine X.ixor dX8_withLetter_18 ?_
  refine X.iand dX8_withLetter_19 ?_
  refine X.iload_n (i := 3) dX8_withLetter_20 rfl rfl ?_
  refine X.iconst (v := (3 : Int32)) dX8_withLetter_21 (by decide) ?_
  refine X.iand dX8_withLetter_22 ?_
  refine X.iload (i := 4) dX8_withLetter_23 rfl ?_
  refine X.ishl dX8_withLetter_25 ?_
  refine X.ior dX8_withLetter_26 ?_
  subst h
  exact X.iret dX8_withLetter_27 rfl rfl
def pX8_noticed (f : xM) (v1 : Int32) (v2 : Int32) (v3 : Int32) (v4 : Int32) : Int32 := (if v1 = (1 : Int32) then (pX8_withLetter f (pX8_withLetter f v2 v3 v4) (pX8_nextPlace f v3) ((pX8_letterAt f (pX8_withLetter f v2 v3 v4) (pX8_nextPlace f v3)) + (1 : Int32))) else (if v1 = (2 : Int32) then (pX8_withLetter f (pX8_withLetter f v2 v3 v4) v3 (v4 + (1 : Int32))) else (if v1 = (3 : Int32) then (pX8_withLetter f (pX8_withLetter f (pX8_withLetter f v2 v3 v4) v3 (pX8_letterAt f (pX8_withLetter f v2 v3 v4) (pX8_nextPlace f v3))) (pX8_nextPlace f v3) v4) else (pX8_withLetter f v2 v3 v4))))
set_option maxRecDepth 100000 in
set_option maxHeartbeats 4000000 in
theorem tX8_noticed {f : xM} {g : xN} {v1 : Int32} {v2 : Int32} {v3 : Int32} {v4 : Int32} {r : Int32} (h : pX8_noticed f v1 v2 v3 v4 = r) : XT mX8_noticed 1 [.ref 10, .int v1, .int v2, .int v3, .int v4] f g (some (.int r), f, g) := by
  unfold pX8_noticed at h
  refine XT.of (L := [some (.ref 10), some (.int v1), some (.int v2), some (.int v3), some (.int v4), none, none]) [some (.ref 10), some (.int v1), some (.int v2), some (.int v3), some (.int v4)] rfl (Nat.le_of_ble_eq_true rfl) rfl (xle_c (xle_c (xle_c (xle_c (xle_c (xle_z (xle_z xle_e))))))) ?_
  refine X.aload_n (i := 0) dX8_noticed_0 rfl rfl ?_
  refine X.iload_n (i := 3) dX8_noticed_1 rfl rfl ?_
  refine X.callV (μ' := mX8_nextPlace) (As := [.int v3]) (st := []) (st1 := [.int (pX8_nextPlace f v3)]) (r := some (.int (pX8_nextPlace f v3))) (f' := f) (g' := g) (tX8_nextPlace rfl) (Nat.le_of_ble_eq_true rfl) cwX8_nextPlace rfl mlX8_15 sC_10 kX8 rfl rfl rfl (Nat.le_of_ble_eq_true rfl) dX8_noticed_2 ?_
  refine X.istore (i := 5) (L' := [some (.ref 10), some (.int v1), some (.int v2), some (.int v3), some (.int v4), some (.int (pX8_nextPlace f v3)), none]) dX8_noticed_5 (Nat.le_of_ble_eq_true rfl) rfl ?_
  refine X.aload_n (i := 0) dX8_noticed_7 rfl rfl ?_
  refine X.iload_n (i := 2) dX8_noticed_8 rfl rfl ?_
  refine X.iload_n (i := 3) dX8_noticed_9 rfl rfl ?_
  refine X.iload (i := 4) dX8_noticed_10 rfl ?_
  refine X.callV (μ' := mX8_withLetter) (As := [.int v2, .int v3, .int v4]) (st := []) (st1 := [.int (pX8_withLetter f v2 v3 v4)]) (r := some (.int (pX8_withLetter f v2 v3 v4))) (f' := f) (g' := g) (tX8_withLetter rfl) (Nat.le_of_ble_eq_true rfl) cwX8_withLetter rfl mlX8_19 sC_10 kX8 rfl rfl rfl (Nat.le_of_ble_eq_true rfl) dX8_noticed_12 ?_
  refine X.istore (i := 6) (L' := [some (.ref 10), some (.int v1), some (.int v2), some (.int v3), some (.int v4), some (.int (pX8_nextPlace f v3)), some (.int (pX8_withLetter f v2 v3 v4))]) dX8_noticed_15 (Nat.le_of_ble_eq_true rfl) rfl ?_
  refine X.iload_n (i := 1) dX8_noticed_17 rfl rfl ?_
  by_cases c1 : v1 = (1 : Int32)
  · rw [if_pos c1] at h
    refine X.swIn (off := 26) (tgt := 44) dX8_noticed_18 c1 (by decide) (by decide) rfl (by decide) ?_
    refine X.aload_n (i := 0) dX8_noticed_44 rfl rfl ?_
    refine X.iload (i := 6) dX8_noticed_45 rfl ?_
    refine X.iload (i := 5) dX8_noticed_47 rfl ?_
    refine X.aload_n (i := 0) dX8_noticed_49 rfl rfl ?_
    refine X.iload (i := 6) dX8_noticed_50 rfl ?_
    refine X.iload (i := 5) dX8_noticed_52 rfl ?_
    refine X.callV (μ' := mX8_letterAt) (As := [.int (pX8_withLetter f v2 v3 v4), .int (pX8_nextPlace f v3)]) (st := [.int (pX8_nextPlace f v3), .int (pX8_withLetter f v2 v3 v4), .ref 10]) (st1 := [.int (pX8_letterAt f (pX8_withLetter f v2 v3 v4) (pX8_nextPlace f v3)), .int (pX8_nextPlace f v3), .int (pX8_withLetter f v2 v3 v4), .ref 10]) (r := some (.int (pX8_letterAt f (pX8_withLetter f v2 v3 v4) (pX8_nextPlace f v3)))) (f' := f) (g' := g) (tX8_letterAt rfl) (Nat.le_of_ble_eq_true rfl) cwX8_letterAt rfl mlX8_23 sC_10 kX8 rfl rfl rfl (Nat.le_of_ble_eq_true rfl) dX8_noticed_54 ?_
    refine X.iconst (v := (1 : Int32)) dX8_noticed_57 (by decide) ?_
    refine X.iadd dX8_noticed_58 ?_
    refine X.callV (μ' := mX8_withLetter) (As := [.int (pX8_withLetter f v2 v3 v4), .int (pX8_nextPlace f v3), .int ((pX8_letterAt f (pX8_withLetter f v2 v3 v4) (pX8_nextPlace f v3)) + (1 : Int32))]) (st := []) (st1 := [.int (pX8_withLetter f (pX8_withLetter f v2 v3 v4) (pX8_nextPlace f v3) ((pX8_letterAt f (pX8_withLetter f v2 v3 v4) (pX8_nextPlace f v3)) + (1 : Int32)))]) (r := some (.int (pX8_withLetter f (pX8_withLetter f v2 v3 v4) (pX8_nextPlace f v3) ((pX8_letterAt f (pX8_withLetter f v2 v3 v4) (pX8_nextPlace f v3)) + (1 : Int32))))) (f' := f) (g' := g) (tX8_withLetter rfl) (Nat.le_of_ble_eq_true rfl) cwX8_withLetter rfl mlX8_19 sC_10 kX8 rfl rfl rfl (Nat.le_of_ble_eq_true rfl) dX8_noticed_59 ?_
    subst h
    exact X.iret dX8_noticed_62 rfl rfl
  rw [if_neg c1] at h
  by_cases c2 : v1 = (2 : Int32)
  · rw [if_pos c2] at h
    refine X.swIn (off := 45) (tgt := 63) dX8_noticed_18 c2 (by decide) (by decide) rfl (by decide) ?_
    refine X.aload_n (i := 0) dX8_noticed_63 rfl rfl ?_
    refine X.iload (i := 6) dX8_noticed_64 rfl ?_
    refine X.iload_n (i := 3) dX8_noticed_66 rfl rfl ?_
    refine X.iload (i := 4) dX8_noticed_67 rfl ?_
    refine X.iconst (v := (1 : Int32)) dX8_noticed_69 (by decide) ?_
    refine X.iadd dX8_noticed_70 ?_
    refine X.callV (μ' := mX8_withLetter) (As := [.int (pX8_withLetter f v2 v3 v4), .int v3, .int (v4 + (1 : Int32))]) (st := []) (st1 := [.int (pX8_withLetter f (pX8_withLetter f v2 v3 v4) v3 (v4 + (1 : Int32)))]) (r := some (.int (pX8_withLetter f (pX8_withLetter f v2 v3 v4) v3 (v4 + (1 : Int32))))) (f' := f) (g' := g) (tX8_withLetter rfl) (Nat.le_of_ble_eq_true rfl) cwX8_withLetter rfl mlX8_19 sC_10 kX8 rfl rfl rfl (Nat.le_of_ble_eq_true rfl) dX8_noticed_71 ?_
    subst h
    exact X.iret dX8_noticed_74 rfl rfl
  rw [if_neg c2] at h
  by_cases c3 : v1 = (3 : Int32)
  · rw [if_pos c3] at h
    refine X.swIn (off := 57) (tgt := 75) dX8_noticed_18 c3 (by decide) (by decide) rfl (by decide) ?_
    refine X.aload_n (i := 0) dX8_noticed_75 rfl rfl ?_
    refine X.aload_n (i := 0) dX8_noticed_76 rfl rfl ?_
    refine X.iload (i := 6) dX8_noticed_77 rfl ?_
    refine X.iload_n (i := 3) dX8_noticed_79 rfl rfl ?_
    refine X.aload_n (i := 0) dX8_noticed_80 rfl rfl ?_
    refine X.iload (i := 6) dX8_noticed_81 rfl ?_
    refine X.iload (i := 5) dX8_noticed_83 rfl ?_
    refine X.callV (μ' := mX8_letterAt) (As := [.int (pX8_withLetter f v2 v3 v4), .int (pX8_nextPlace f v3)]) (st := [.int v3, .int (pX8_withLetter f v2 v3 v4), .ref 10, .ref 10]) (st1 := [.int (pX8_letterAt f (pX8_withLetter f v2 v3 v4) (pX8_nextPlace f v3)), .int v3, .int (pX8_withLetter f v2 v3 v4), .ref 10, .ref 10]) (r := some (.int (pX8_letterAt f (pX8_withLetter f v2 v3 v4) (pX8_nextPlace f v3)))) (f' := f) (g' := g) (tX8_letterAt rfl) (Nat.le_of_ble_eq_true rfl) cwX8_letterAt rfl mlX8_23 sC_10 kX8 rfl rfl rfl (Nat.le_of_ble_eq_true rfl) dX8_noticed_85 ?_
    refine X.callV (μ' := mX8_withLetter) (As := [.int (pX8_withLetter f v2 v3 v4), .int v3, .int (pX8_letterAt f (pX8_withLetter f v2 v3 v4) (pX8_nextPlace f v3))]) (st := [.ref 10]) (st1 := [.int (pX8_withLetter f (pX8_withLetter f v2 v3 v4) v3 (pX8_letterAt f (pX8_withLetter f v2 v3 v4) (pX8_nextPlace f v3))), .ref 10]) (r := some (.int (pX8_withLetter f (pX8_withLetter f v2 v3 v4) v3 (pX8_letterAt f (pX8_withLetter f v2 v3 v4) (pX8_nextPlace f v3))))) (f' := f) (g' := g) (tX8_withLetter rfl) (Nat.le_of_ble_eq_true rfl) cwX8_withLetter rfl mlX8_19 sC_10 kX8 rfl rfl rfl (Nat.le_of_ble_eq_true rfl) dX8_noticed_88 ?_
    refine X.iload (i := 5) dX8_noticed_91 rfl ?_
    refine X.iload (i := 4) dX8_noticed_93 rfl ?_
    refine X.callV (μ' := mX8_withLetter) (As := [.int (pX8_withLetter f (pX8_withLetter f v2 v3 v4) v3 (pX8_letterAt f (pX8_withLetter f v2 v3 v4) (pX8_nextPlace f v3))), .int (pX8_nextPlace f v3), .int v4]) (st := []) (st1 := [.int (pX8_withLetter f (pX8_withLetter f (pX8_withLetter f v2 v3 v4) v3 (pX8_letterAt f (pX8_withLetter f v2 v3 v4) (pX8_nextPlace f v3))) (pX8_nextPlace f v3) v4)]) (r := some (.int (pX8_withLetter f (pX8_withLetter f (pX8_withLetter f v2 v3 v4) v3 (pX8_letterAt f (pX8_withLetter f v2 v3 v4) (pX8_nextPlace f v3))) (pX8_nextPlace f v3) v4))) (f' := f) (g' := g) (tX8_withLetter rfl) (Nat.le_of_ble_eq_true rfl) cwX8_withLetter rfl mlX8_19 sC_10 kX8 rfl rfl rfl (Nat.le_of_ble_eq_true rfl) dX8_noticed_95 ?_
    subst h
    exact X.iret dX8_noticed_98 rfl rfl
  rw [if_neg c3] at h
  refine X.swOut (tgt := 99) dX8_noticed_18 (xsw_out (fun j j1 j2 => ?_)) (by decide) ?_
  · rcases (show j = 1 ∨ j = 2 ∨ j = 3 by omega) with rfl | rfl | rfl <;> assumption
  refine X.iload (i := 6) dX8_noticed_99 rfl ?_
  subst h
  exact X.iret dX8_noticed_101 rfl rfl
def pX6_noticed (f : xM) (v1 : Int32) (v2 : Int32) (v3 : Int32) (v4 : Int32) : Option (Int32) := (Option.bind (pX9_kindOf f v1) fun q1 => some ((pX8_noticed f q1 v2 v3 v4)))
set_option maxRecDepth 100000 in
set_option maxHeartbeats 4000000 in
theorem tX6_noticed {f : xM} {g : xN} {v1 : Int32} {v2 : Int32} {v3 : Int32} {v4 : Int32} {r : Int32} (h : pX6_noticed f v1 v2 v3 v4 = some r) : XT mX6_noticed 2 [.ref 2, .int v1, .int v2, .int v3, .int v4] f g (some (.int r), f, g) := by
  unfold pX6_noticed at h
  refine XT.of (L := [some (.ref 2), some (.int v1), some (.int v2), some (.int v3), some (.int v4)]) [some (.ref 2), some (.int v1), some (.int v2), some (.int v3), some (.int v4)] rfl (Nat.le_of_ble_eq_true rfl) rfl (xle_c (xle_c (xle_c (xle_c (xle_c xle_e))))) ?_
  refine X.aload_n (i := 0) dX6_noticed_0 rfl rfl ?_
  refine X.getR (k0 := 0) kX6 sC_2 (Nat.le_of_ble_eq_true rfl) rfl lfX6_12 dX6_noticed_1 ?_
  refine X.aload_n (i := 0) dX6_noticed_4 rfl rfl ?_
  refine X.getR (k0 := 1) kX6 sC_2 (Nat.le_of_ble_eq_true rfl) rfl lfX6_21 dX6_noticed_5 ?_
  refine X.iload_n (i := 1) dX6_noticed_8 rfl rfl ?_
  obtain ⟨q1, e1, h⟩ := xbind h
  try dsimp only at h
  refine X.callVN (μ' := mX9_kindOf) (As := [.int v1]) (st := [.ref 10]) (st1 := [.int q1, .ref 10]) (r := some (.int q1)) (f' := f) (g' := g) (tX9_kindOf e1) (Nat.le_of_ble_eq_true rfl) cwX9_kindOf rfl mnX6_104 sC_11 kX9 rfl rfl rfl (Nat.le_of_ble_eq_true rfl) dX6_noticed_9 ?_
  refine X.iload_n (i := 2) dX6_noticed_12 rfl rfl ?_
  refine X.iload_n (i := 3) dX6_noticed_13 rfl rfl ?_
  refine X.iload (i := 4) dX6_noticed_14 rfl ?_
  refine X.callVN (μ' := mX8_noticed) (As := [.int q1, .int v2, .int v3, .int v4]) (st := []) (st1 := [.int (pX8_noticed f q1 v2 v3 v4)]) (r := some (.int (pX8_noticed f q1 v2 v3 v4))) (f' := f) (g' := g) (tX8_noticed rfl) (Nat.le_of_ble_eq_true rfl) cwX8_noticed rfl mnX6_107 sC_10 kX8 rfl rfl rfl (Nat.le_of_ble_eq_true rfl) dX6_noticed_16 ?_
  obtain rfl := Option.some.inj h
  exact X.iret dX6_noticed_19 rfl rfl
