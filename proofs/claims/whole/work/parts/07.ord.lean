set_option maxRecDepth 100000 in
set_option maxHeartbeats 4000000 in
theorem tX2_ordersOf {f : xM} {g : xN} {v0 : Int32} : XT mX2_ordersOf 0 [.int v0] f g (some (.int (xordersOf v0)), f, g) := by
  refine XT.of (L := [some (.int v0)]) [some (.int v0)] rfl (Nat.le_of_ble_eq_true rfl) rfl (xle_c xle_e) ?_
  refine X.iload_n (i := 0) dX2_ordersOf_0 rfl rfl ?_
  refine X.if_lt (tgt := 20) dX2_ordersOf_1 (by decide) (fun c => ?_) (fun c => ?_)
  · refine X.iconst (v := (1 : Int32)) dX2_ordersOf_20 (by decide) ?_
    refine X.iret dX2_ordersOf_21 rfl ?_
    simp only [xordersOf, if_pos c]
  · refine X.iload_n (i := 0) dX2_ordersOf_4 rfl rfl ?_
    refine X.ordLen lfOrd dX2_ordersOf_5 dX2_ordersOf_8 ?_
    refine X.icmp_ge (tgt := 20) dX2_ordersOf_9 (by decide) (fun c2 => ?_) (fun c2 => ?_)
    · refine X.iconst (v := (1 : Int32)) dX2_ordersOf_20 (by decide) ?_
      refine X.iret dX2_ordersOf_21 rfl ?_
      simp only [xordersOf, if_neg c, if_pos c2]
    · have hin : xin v0 4 := by
        intro h
        rcases h with h | h
        · exact c h
        · apply c2
          rw [Int32.le_iff_toInt_le]
          have h1 : v0.toNatClampNeg = v0.toInt.toNat := rfl
          have h2 : (4 : Int32).toInt = 4 := by decide
          omega
      refine X.ordAt (i := 0) lfOrd dX2_ordersOf_12 dX2_ordersOf_15 rfl rfl hin dX2_ordersOf_16 ?_
      refine X.goto (tgt := 21) dX2_ordersOf_17 (by decide) ?_
      refine X.iret dX2_ordersOf_21 rfl ?_
      simp only [xordersOf, if_neg c, if_neg c2]
