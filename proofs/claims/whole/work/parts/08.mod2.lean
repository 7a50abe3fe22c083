def pX12_nameOf_b75 (F : Nat) (f : xM) (K31 : Int32 → Int32 → Int32 → Int32 → Option (Int32)) (v1 : Int32) (v2 : Int32) (v4 : Int32) (v5 : Int32) : Option (Int32) := (K31 v1 (((4 : Int32) * v2) + v5) (0 : Int32) (v4 + (1 : Int32)))
set_option maxRecDepth 100000 in
set_option maxHeartbeats 4000000 in
theorem tX12_nameOf_b75 {F : Nat} {f : xM} {g : xN} {K31 : Int32 → Int32 → Int32 → Int32 → Option (Int32)} (hK31 : ∀ {v1 : Int32} {v2 : Int32} {v3 : Int32} {v4 : Int32} {r : Int32}, K31 v1 v2 v3 v4 = some r → X mX12_nameOf 1 (some (.int r), f, g) 31 [some (.ref 0), some (.int v1), some (.int v2), some (.int v3), some (.int v4), none] [] f g) {v1 : Int32} {v2 : Int32} {v4 : Int32} {v5 : Int32} {r : Int32} (h : pX12_nameOf_b75 F f K31 v1 v2 v4 v5 = some r) : X mX12_nameOf 1 (some (.int r), f, g) 75 [some (.ref 0), some (.int v1), some (.int v2), none, some (.int v4), some (.int v5)] [] f g := by
  unfold pX12_nameOf_b75 at h
  refine X.iconst (v := (0 : Int32)) dX12_nameOf_75 (by decide) ?_
  refine X.istore_n (i := 3) (L' := [some (.ref 0), some (.int v1), some (.int v2), some (.int (0 : Int32)), some (.int v4), some (.int v5)]) dX12_nameOf_76 rfl (Nat.le_of_ble_eq_true rfl) rfl ?_
  refine X.iconst (v := (4 : Int32)) dX12_nameOf_77 (by decide) ?_
  refine X.iload_n (i := 2) dX12_nameOf_78 rfl rfl ?_
  refine X.imul dX12_nameOf_79 ?_
  refine X.iload (i := 5) dX12_nameOf_80 rfl ?_
  refine X.iadd dX12_nameOf_82 ?_
  refine X.istore_n (i := 2) (L' := [some (.ref 0), some (.int v1), some (.int (((4 : Int32) * v2) + v5)), some (.int (0 : Int32)), some (.int v4), some (.int v5)]) dX12_nameOf_83 rfl (Nat.le_of_ble_eq_true rfl) rfl ?_
  refine X.iinc (i := 4) (v := (v4 + (1 : Int32))) (L' := [some (.ref 0), some (.int v1), some (.int (((4 : Int32) * v2) + v5)), some (.int (0 : Int32)), some (.int (v4 + (1 : Int32))), some (.int v5)]) dX12_nameOf_84 rfl rfl (Nat.le_of_ble_eq_true rfl) rfl ?_
  refine X.goto (tgt := 31) dX12_nameOf_87 (by decide) ?_
  exact X.weaken (xle_c (xle_c (xle_c (xle_c (xle_c (xle_n xle_e)))))) (hK31 h)
def pX12_nameOf_b31 (F : Nat) (f : xM) : Nat → Int32 → Int32 → Int32 → Int32 → Option (Int32)
  | 0, _, _, _, _ => none
  | n + 1, v1, v2, v3, v4 => (if (f 0 4) ≤ v4 then (if v3 = 0 then some ((-9 : Int32)) else some (v2)) else (Option.bind (pX12_power F (10 : Int32) (((f 0 4) - (1 : Int32)) - v4)) fun q5 => (if q5 = 0 then none else (if v3 = 0 then (pX12_nameOf_b75 F f (pX12_nameOf_b31 F f n) v1 v2 v4 ((v1 / q5) - (v1 / q5) / (10 : Int32) * (10 : Int32))) else (if (4 : Int32) ≤ ((v1 / q5) - (v1 / q5) / (10 : Int32) * (10 : Int32)) then (pX12_nameOf_b75 F f (pX12_nameOf_b31 F f n) v1 v2 v4 ((v1 / q5) - (v1 / q5) / (10 : Int32) * (10 : Int32))) else (pX12_nameOf_b31 F f n v1 (((4 : Int32) * v2) + ((v1 / q5) - (v1 / q5) / (10 : Int32) * (10 : Int32))) (1 : Int32) (v4 + (1 : Int32))))))))
set_option maxRecDepth 100000 in
set_option maxHeartbeats 4000000 in
theorem tX12_nameOf_b31 {F : Nat} {f : xM} {g : xN} : ∀ (n : Nat) {v1 : Int32} {v2 : Int32} {v3 : Int32} {v4 : Int32} {r : Int32}, pX12_nameOf_b31 F f n v1 v2 v3 v4 = some r → X mX12_nameOf 1 (some (.int r), f, g) 31 [some (.ref 0), some (.int v1), some (.int v2), some (.int v3), some (.int v4), none] [] f g := by
  intro n
  induction n with
  | zero => intro v1 v2 v3 v4 r h; cases h
  | succ n ih =>
    intro v1 v2 v3 v4 r h
    rw [pX12_nameOf_b31] at h
    refine X.iload (i := 4) dX12_nameOf_31 rfl ?_
    refine X.aload_n (i := 0) dX12_nameOf_33 rfl rfl ?_
    refine X.getI (k0 := 4) kX12 sM_0 (Nat.le_of_ble_eq_true rfl) rfl lfX12_13 dX12_nameOf_34 ?_
    refine X.icmp_ge (tgt := 90) dX12_nameOf_37 (by decide) (fun c3 => ?_) (fun c3 => ?_)
    · rw [if_pos c3] at h
      refine X.iload_n (i := 3) dX12_nameOf_90 rfl rfl ?_
      refine X.if_eq (tgt := 98) dX12_nameOf_91 (by decide) (fun c4 => ?_) (fun c4 => ?_)
      · rw [if_pos c4] at h
        refine X.bipush (v := (-9 : Int32)) dX12_nameOf_98 (by decide) ?_
        obtain rfl := Option.some.inj h
        exact X.iret dX12_nameOf_100 rfl rfl
      · rw [if_neg c4] at h
        refine X.iload_n (i := 2) dX12_nameOf_94 rfl rfl ?_
        refine X.goto (tgt := 100) dX12_nameOf_95 (by decide) ?_
        obtain rfl := Option.some.inj h
        exact X.iret dX12_nameOf_100 rfl rfl
    · rw [if_neg c3] at h
      refine X.iload_n (i := 1) dX12_nameOf_40 rfl rfl ?_
      refine X.bipush (v := (10 : Int32)) dX12_nameOf_41 (by decide) ?_
      refine X.aload_n (i := 0) dX12_nameOf_43 rfl rfl ?_
      refine X.getI (k0 := 4) kX12 sM_0 (Nat.le_of_ble_eq_true rfl) rfl lfX12_13 dX12_nameOf_44 ?_
      refine X.iconst (v := (1 : Int32)) dX12_nameOf_47 (by decide) ?_
      refine X.isub dX12_nameOf_48 ?_
      refine X.iload (i := 4) dX12_nameOf_49 rfl ?_
      refine X.isub dX12_nameOf_51 ?_
      obtain ⟨q5, e5, h⟩ := xbind h
      try dsimp only at h
      refine X.callS (μ' := mX12_power) (As := [.int (10 : Int32), .int (((f 0 4) - (1 : Int32)) - v4)]) (st := [.int v1]) (st1 := [.int q5, .int v1]) (r := some (.int q5)) (f' := f) (g' := g) (tX12_power e5) (Nat.le_of_ble_eq_true rfl) cwX12_power rfl mlX12_121 rfl rfl rfl (Nat.le_of_ble_eq_true rfl) dX12_nameOf_52 ?_
      by_cases c6 : q5 = 0
      · rw [if_pos c6] at h; cases h
      rw [if_neg c6] at h
      refine X.idiv dX12_nameOf_55 c6 ?_
      refine X.bipush (v := (10 : Int32)) dX12_nameOf_56 (by decide) ?_
      refine X.irem dX12_nameOf_58 (by decide) ?_
      refine X.istore (i := 5) (L' := [some (.ref 0), some (.int v1), some (.int v2), some (.int v3), some (.int v4), some (.int ((v1 / q5) - (v1 / q5) / (10 : Int32) * (10 : Int32)))]) dX12_nameOf_59 (Nat.le_of_ble_eq_true rfl) rfl ?_
      refine X.iload_n (i := 3) dX12_nameOf_61 rfl rfl ?_
      refine X.if_eq (tgt := 75) dX12_nameOf_62 (by decide) (fun c7 => ?_) (fun c7 => ?_)
      · rw [if_pos c7] at h
        exact X.weaken (xle_c (xle_c (xle_c (xle_n (xle_c (xle_c xle_e)))))) (tX12_nameOf_b75 ih h)
      · rw [if_neg c7] at h
        refine X.iload (i := 5) dX12_nameOf_65 rfl ?_
        refine X.iconst (v := (4 : Int32)) dX12_nameOf_67 (by decide) ?_
        refine X.icmp_ge (tgt := 75) dX12_nameOf_68 (by decide) (fun c8 => ?_) (fun c8 => ?_)
        · rw [if_pos c8] at h
          exact X.weaken (xle_c (xle_c (xle_c (xle_n (xle_c (xle_c xle_e)))))) (tX12_nameOf_b75 ih h)
        · rw [if_neg c8] at h
          refine X.iconst (v := (1 : Int32)) dX12_nameOf_71 (by decide) ?_
          refine X.goto (tgt := 76) dX12_nameOf_72 (by decide) ?_
          refine X.istore_n (i := 3) (L' := [some (.ref 0), some (.int v1), some (.int v2), some (.int (1 : Int32)), some (.int v4), some (.int ((v1 / q5) - (v1 / q5) / (10 : Int32) * (10 : Int32)))]) dX12_nameOf_76 rfl (Nat.le_of_ble_eq_true rfl) rfl ?_
          refine X.iconst (v := (4 : Int32)) dX12_nameOf_77 (by decide) ?_
          refine X.iload_n (i := 2) dX12_nameOf_78 rfl rfl ?_
          refine X.imul dX12_nameOf_79 ?_
          refine X.iload (i := 5) dX12_nameOf_80 rfl ?_
          refine X.iadd dX12_nameOf_82 ?_
          refine X.istore_n (i := 2) (L' := [some (.ref 0), some (.int v1), some (.int (((4 : Int32) * v2) + ((v1 / q5) - (v1 / q5) / (10 : Int32) * (10 : Int32)))), some (.int (1 : Int32)), some (.int v4), some (.int ((v1 / q5) - (v1 / q5) / (10 : Int32) * (10 : Int32)))]) dX12_nameOf_83 rfl (Nat.le_of_ble_eq_true rfl) rfl ?_
          refine X.iinc (i := 4) (v := (v4 + (1 : Int32))) (L' := [some (.ref 0), some (.int v1), some (.int (((4 : Int32) * v2) + ((v1 / q5) - (v1 / q5) / (10 : Int32) * (10 : Int32)))), some (.int (1 : Int32)), some (.int (v4 + (1 : Int32))), some (.int ((v1 / q5) - (v1 / q5) / (10 : Int32) * (10 : Int32)))]) dX12_nameOf_84 rfl rfl (Nat.le_of_ble_eq_true rfl) rfl ?_
          refine X.goto (tgt := 31) dX12_nameOf_87 (by decide) ?_
          exact X.weaken (xle_c (xle_c (xle_c (xle_c (xle_c (xle_n xle_e)))))) (ih h)
def pX12_nameOf (F : Nat) (f : xM) (v1 : Int32) : Option (Int32) := (Option.bind (pX12_power F (10 : Int32) (f 0 4)) fun q1 => (if (pX12_in v1.toInt64 (0 : Int64) (q1 - (1 : Int32)).toInt64) = 0 then some ((-9 : Int32)) else (pX12_nameOf_b31 F f F v1 (0 : Int32) (1 : Int32) (0 : Int32))))
set_option maxRecDepth 100000 in
set_option maxHeartbeats 4000000 in
theorem tX12_nameOf {F : Nat} {f : xM} {g : xN} {v1 : Int32} {r : Int32} (h : pX12_nameOf F f v1 = some r) : XT mX12_nameOf 1 [.ref 0, .int v1] f g (some (.int r), f, g) := by
  unfold pX12_nameOf at h
  refine XT.of (L := [some (.ref 0), some (.int v1), none, none, none, none]) [some (.ref 0), some (.int v1)] rfl (Nat.le_of_ble_eq_true rfl) rfl (xle_c (xle_c (xle_z (xle_z (xle_z (xle_z xle_e)))))) ?_
  refine X.iload_n (i := 1) dX12_nameOf_0 rfl rfl ?_
  refine X.i2l dX12_nameOf_1 ?_
  refine X.lconst (v := (0 : Int64)) dX12_nameOf_2 (by decide) ?_
  refine X.bipush (v := (10 : Int32)) dX12_nameOf_3 (by decide) ?_
  refine X.aload_n (i := 0) dX12_nameOf_5 rfl rfl ?_
  refine X.getI (k0 := 4) kX12 sM_0 (Nat.le_of_ble_eq_true rfl) rfl lfX12_13 dX12_nameOf_6 ?_
  obtain ⟨q1, e1, h⟩ := xbind h
  try dsimp only at h
  refine X.callS (μ' := mX12_power) (As := [.int (10 : Int32), .int (f 0 4)]) (st := [.long (0 : Int64), .long v1.toInt64]) (st1 := [.int q1, .long (0 : Int64), .long v1.toInt64]) (r := some (.int q1)) (f' := f) (g' := g) (tX12_power e1) (Nat.le_of_ble_eq_true rfl) cwX12_power rfl mlX12_121 rfl rfl rfl (Nat.le_of_ble_eq_true rfl) dX12_nameOf_9 ?_
  refine X.iconst (v := (1 : Int32)) dX12_nameOf_12 (by decide) ?_
  refine X.isub dX12_nameOf_13 ?_
  refine X.i2l dX12_nameOf_14 ?_
  refine X.callS (μ' := mX12_in) (As := [.long v1.toInt64, .long (0 : Int64), .long (q1 - (1 : Int32)).toInt64]) (st := []) (st1 := [.int (pX12_in v1.toInt64 (0 : Int64) (q1 - (1 : Int32)).toInt64)]) (r := some (.int (pX12_in v1.toInt64 (0 : Int64) (q1 - (1 : Int32)).toInt64))) (f' := f) (g' := g) (tX12_in rfl) (Nat.le_of_ble_eq_true rfl) cwX12_in rfl mlX12_65 rfl rfl rfl (Nat.le_of_ble_eq_true rfl) dX12_nameOf_15 ?_
  refine X.if_ne (tgt := 24) dX12_nameOf_18 (by decide) (fun c2 => ?_) (fun c2 => ?_)
  · rw [if_neg c2] at h
    refine X.iconst (v := (0 : Int32)) dX12_nameOf_24 (by decide) ?_
    refine X.istore_n (i := 2) (L' := [some (.ref 0), some (.int v1), some (.int (0 : Int32)), none, none, none]) dX12_nameOf_25 rfl (Nat.le_of_ble_eq_true rfl) rfl ?_
    refine X.iconst (v := (1 : Int32)) dX12_nameOf_26 (by decide) ?_
    refine X.istore_n (i := 3) (L' := [some (.ref 0), some (.int v1), some (.int (0 : Int32)), some (.int (1 : Int32)), none, none]) dX12_nameOf_27 rfl (Nat.le_of_ble_eq_true rfl) rfl ?_
    refine X.iconst (v := (0 : Int32)) dX12_nameOf_28 (by decide) ?_
    refine X.istore (i := 4) (L' := [some (.ref 0), some (.int v1), some (.int (0 : Int32)), some (.int (1 : Int32)), some (.int (0 : Int32)), none]) dX12_nameOf_29 (Nat.le_of_ble_eq_true rfl) rfl ?_
    exact X.weaken (xle_c (xle_c (xle_c (xle_c (xle_c (xle_n xle_e)))))) (tX12_nameOf_b31 F h)
  · rw [if_pos c2] at h
    refine X.bipush (v := (-9 : Int32)) dX12_nameOf_21 (by decide) ?_
    obtain rfl := Option.some.inj h
    exact X.iret dX12_nameOf_23 rfl rfl
def pX12_thousand_b4 (F : Nat) : Nat → Int32 → Int64 → Int32 → Option (Int64)
  | 0, _, _, _ => none
  | n + 1, v0, v1, v3 => (if v0 ≤ v3 then some (v1) else (pX12_thousand_b4 F n v0 (v1 * (1000 : Int64)) (v3 + (1 : Int32))))
set_option maxRecDepth 100000 in
set_option maxHeartbeats 4000000 in
theorem tX12_thousand_b4 {F : Nat} {f : xM} {g : xN} : ∀ (n : Nat) {v0 : Int32} {v1 : Int64} {v3 : Int32} {r : Int64}, pX12_thousand_b4 F n v0 v1 v3 = some r → X mX12_thousand 0 (some (.long r), f, g) 4 [some (.int v0), some (.long v1), none, some (.int v3)] [] f g := by
  intro n
  induction n with
  | zero => intro v0 v1 v3 r h; cases h
  | succ n ih =>
    intro v0 v1 v3 r h
    rw [pX12_thousand_b4] at h
    refine X.iload_n (i := 3) dX12_thousand_4 rfl rfl ?_
    refine X.iload_n (i := 0) dX12_thousand_5 rfl rfl ?_
    refine X.icmp_ge (tgt := 21) dX12_thousand_6 (by decide) (fun c1 => ?_) (fun c1 => ?_)
    · rw [if_pos c1] at h
      refine X.lload_n (i := 1) dX12_thousand_21 rfl rfl ?_
      obtain rfl := Option.some.inj h
      exact X.lret dX12_thousand_22 rfl rfl
    · rw [if_neg c1] at h
      refine X.lload_n (i := 1) dX12_thousand_9 rfl rfl ?_
      refine X.ldc2 dX12_thousand_10 lcX12_60 ?_
      refine X.lmul dX12_thousand_13 ?_
      refine X.lstore_n (i := 1) (L' := [some (.int v0), some (.long (v1 * (1000 : Int64))), none, some (.int v3)]) dX12_thousand_14 rfl (Nat.le_of_ble_eq_true rfl) rfl ?_
      refine X.iinc (i := 3) (v := (v3 + (1 : Int32))) (L' := [some (.int v0), some (.long (v1 * (1000 : Int64))), none, some (.int (v3 + (1 : Int32)))]) dX12_thousand_15 rfl rfl (Nat.le_of_ble_eq_true rfl) rfl ?_
      refine X.goto (tgt := 4) dX12_thousand_18 (by decide) ?_
      exact X.weaken (xle_c (xle_c (xle_n (xle_c xle_e)))) (ih h)
def pX12_thousand (F : Nat) (v0 : Int32) : Option (Int64) := (pX12_thousand_b4 F F v0 (1 : Int64) (0 : Int32))
set_option maxRecDepth 100000 in
set_option maxHeartbeats 4000000 in
theorem tX12_thousand {F : Nat} {f : xM} {g : xN} {v0 : Int32} {r : Int64} (h : pX12_thousand F v0 = some r) : XT mX12_thousand 0 [.int v0] f g (some (.long r), f, g) := by
  unfold pX12_thousand at h
  refine XT.of (L := [some (.int v0), none, none, none]) [some (.int v0)] rfl (Nat.le_of_ble_eq_true rfl) rfl (xle_c (xle_z (xle_z (xle_z xle_e)))) ?_
  refine X.lconst (v := (1 : Int64)) dX12_thousand_0 (by decide) ?_
  refine X.lstore_n (i := 1) (L' := [some (.int v0), some (.long (1 : Int64)), none, none]) dX12_thousand_1 rfl (Nat.le_of_ble_eq_true rfl) rfl ?_
  refine X.iconst (v := (0 : Int32)) dX12_thousand_2 (by decide) ?_
  refine X.istore_n (i := 3) (L' := [some (.int v0), some (.long (1 : Int64)), none, some (.int (0 : Int32))]) dX12_thousand_3 rfl (Nat.le_of_ble_eq_true rfl) rfl ?_
  exact X.weaken (xle_c (xle_c (xle_n (xle_c xle_e)))) (tX12_thousand_b4 F h)
def pX12_threeOf (F : Nat) (v0 : Int32) (v1 : Int64) (v3 : Int32) : Option (Int32) := (Option.bind (pX12_thousand F ((v0 - (1 : Int32)) - v3)) fun q1 => (if q1 = 0 then none else some (((v1 / q1) - (v1 / q1) / (1000 : Int64) * (1000 : Int64)).toInt32)))
set_option maxRecDepth 100000 in
set_option maxHeartbeats 4000000 in
theorem tX12_threeOf {F : Nat} {f : xM} {g : xN} {v0 : Int32} {v1 : Int64} {v3 : Int32} {r : Int32} (h : pX12_threeOf F v0 v1 v3 = some r) : XT mX12_threeOf 1 [.int v0, .long v1, .int v3] f g (some (.int r), f, g) := by
  unfold pX12_threeOf at h
  refine XT.of (L := [some (.int v0), some (.long v1), none, some (.int v3)]) [some (.int v0), some (.long v1), none, some (.int v3)] rfl (Nat.le_of_ble_eq_true rfl) rfl (xle_c (xle_c (xle_n (xle_c xle_e)))) ?_
  refine X.lload_n (i := 1) dX12_threeOf_0 rfl rfl ?_
  refine X.iload_n (i := 0) dX12_threeOf_1 rfl rfl ?_
  refine X.iconst (v := (1 : Int32)) dX12_threeOf_2 (by decide) ?_
  refine X.isub dX12_threeOf_3 ?_
  refine X.iload_n (i := 3) dX12_threeOf_4 rfl rfl ?_
  refine X.isub dX12_threeOf_5 ?_
  obtain ⟨q1, e1, h⟩ := xbind h
  try dsimp only at h
  refine X.callS (μ' := mX12_thousand) (As := [.int ((v0 - (1 : Int32)) - v3)]) (st := [.long v1]) (st1 := [.long q1, .long v1]) (r := some (.long q1)) (f' := f) (g' := g) (tX12_thousand e1) (Nat.le_of_ble_eq_true rfl) cwX12_thousand rfl mlX12_166 rfl rfl rfl (Nat.le_of_ble_eq_true rfl) dX12_threeOf_6 ?_
  by_cases c2 : q1 = 0
  · rw [if_pos c2] at h; cases h
  rw [if_neg c2] at h
  refine X.ldiv dX12_threeOf_9 c2 ?_
  refine X.ldc2 dX12_threeOf_10 lcX12_60 ?_
  refine X.lrem dX12_threeOf_13 (by decide) ?_
  refine X.l2i dX12_threeOf_14 ?_
  obtain rfl := Option.some.inj h
  exact X.iret dX12_threeOf_15 rfl rfl
def pX12_noNotice (f : xM) (v1 : Int32) : Int32 := (if (pX12_noCompositor f (v1 / (100 : Int32))) = 0 then (if (pX12_noPlace f ((v1 / (10 : Int32)) - (v1 / (10 : Int32)) / (10 : Int32) * (10 : Int32))) = 0 then (if (pX12_noLetter (v1 - v1 / (10 : Int32) * (10 : Int32))) = 0 then (0 : Int32) else (1 : Int32)) else (1 : Int32)) else (1 : Int32))
set_option maxRecDepth 100000 in
set_option maxHeartbeats 4000000 in
theorem tX12_noNotice {f : xM} {g : xN} {v1 : Int32} {r : Int32} (h : pX12_noNotice f v1 = r) : XT mX12_noNotice 2 [.ref 0, .int v1] f g (some (.int r), f, g) := by
  unfold pX12_noNotice at h
  refine XT.of (L := [some (.ref 0), some (.int v1)]) [some (.ref 0), some (.int v1)] rfl (Nat.le_of_ble_eq_true rfl) rfl (xle_c (xle_c xle_e)) ?_
  refine X.aload_n (i := 0) dX12_noNotice_0 rfl rfl ?_
  refine X.iload_n (i := 1) dX12_noNotice_1 rfl rfl ?_
  refine X.bipush (v := (100 : Int32)) dX12_noNotice_2 (by decide) ?_
  refine X.idiv dX12_noNotice_4 (by decide) ?_
  refine X.callV (μ' := mX12_noCompositor) (As := [.int (v1 / (100 : Int32))]) (st := []) (st1 := [.int (pX12_noCompositor f (v1 / (100 : Int32)))]) (r := some (.int (pX12_noCompositor f (v1 / (100 : Int32))))) (f' := f) (g' := g) (tX12_noCompositor rfl) (Nat.le_of_ble_eq_true rfl) cwX12_noCompositor rfl mlX12_142 sM_0 kX12 rfl rfl rfl (Nat.le_of_ble_eq_true rfl) dX12_noNotice_5 ?_
  refine X.if_ne (tgt := 35) dX12_noNotice_8 (by decide) (fun c1 => ?_) (fun c1 => ?_)
  · rw [if_neg c1] at h
    refine X.iconst (v := (1 : Int32)) dX12_noNotice_35 (by decide) ?_
    refine X.goto (tgt := 40) dX12_noNotice_36 (by decide) ?_
    subst h
    exact X.zret dX12_noNotice_40 rfl rfl rfl
  · rw [if_pos c1] at h
    refine X.aload_n (i := 0) dX12_noNotice_11 rfl rfl ?_
    refine X.iload_n (i := 1) dX12_noNotice_12 rfl rfl ?_
    refine X.bipush (v := (10 : Int32)) dX12_noNotice_13 (by decide) ?_
    refine X.idiv dX12_noNotice_15 (by decide) ?_
    refine X.bipush (v := (10 : Int32)) dX12_noNotice_16 (by decide) ?_
    refine X.irem dX12_noNotice_18 (by decide) ?_
    refine X.callV (μ' := mX12_noPlace) (As := [.int ((v1 / (10 : Int32)) - (v1 / (10 : Int32)) / (10 : Int32) * (10 : Int32))]) (st := []) (st1 := [.int (pX12_noPlace f ((v1 / (10 : Int32)) - (v1 / (10 : Int32)) / (10 : Int32) * (10 : Int32)))]) (r := some (.int (pX12_noPlace f ((v1 / (10 : Int32)) - (v1 / (10 : Int32)) / (10 : Int32) * (10 : Int32))))) (f' := f) (g' := g) (tX12_noPlace rfl) (Nat.le_of_ble_eq_true rfl) cwX12_noPlace rfl mlX12_153 sM_0 kX12 rfl rfl rfl (Nat.le_of_ble_eq_true rfl) dX12_noNotice_19 ?_
    refine X.if_ne (tgt := 35) dX12_noNotice_22 (by decide) (fun c2 => ?_) (fun c2 => ?_)
    · rw [if_neg c2] at h
      refine X.iconst (v := (1 : Int32)) dX12_noNotice_35 (by decide) ?_
      refine X.goto (tgt := 40) dX12_noNotice_36 (by decide) ?_
      subst h
      exact X.zret dX12_noNotice_40 rfl rfl rfl
    · rw [if_pos c2] at h
      refine X.iload_n (i := 1) dX12_noNotice_25 rfl rfl ?_
      refine X.bipush (v := (10 : Int32)) dX12_noNotice_26 (by decide) ?_
      refine X.irem dX12_noNotice_28 (by decide) ?_
      refine X.callS (μ' := mX12_noLetter) (As := [.int (v1 - v1 / (10 : Int32) * (10 : Int32))]) (st := []) (st1 := [.int (pX12_noLetter (v1 - v1 / (10 : Int32) * (10 : Int32)))]) (r := some (.int (pX12_noLetter (v1 - v1 / (10 : Int32) * (10 : Int32))))) (f' := f) (g' := g) (tX12_noLetter rfl) (Nat.le_of_ble_eq_true rfl) cwX12_noLetter rfl mlX12_156 rfl rfl rfl (Nat.le_of_ble_eq_true rfl) dX12_noNotice_29 ?_
      refine X.if_eq (tgt := 39) dX12_noNotice_32 (by decide) (fun c3 => ?_) (fun c3 => ?_)
      · rw [if_pos c3] at h
        refine X.iconst (v := (0 : Int32)) dX12_noNotice_39 (by decide) ?_
        subst h
        exact X.zret dX12_noNotice_40 rfl rfl rfl
      · rw [if_neg c3] at h
        refine X.iconst (v := (1 : Int32)) dX12_noNotice_35 (by decide) ?_
        refine X.goto (tgt := 40) dX12_noNotice_36 (by decide) ?_
        subst h
        exact X.zret dX12_noNotice_40 rfl rfl rfl
def pX12_noRow_b33 (F : Nat) (f : xM) : Nat → Int32 → Int64 → Int32 → Int32 → Option (Int32)
  | 0, _, _, _, _ => none
  | n + 1, v1, v3, v5, v6 => (if v1 ≤ v6 then (if v5 = 0 then some ((1 : Int32)) else some ((0 : Int32))) else (if v5 = 0 then (pX12_noRow_b33 F f n v1 v3 (0 : Int32) (v6 + (1 : Int32))) else (Option.bind (pX12_threeOf F v1 v3 v6) fun q7 => (if (pX12_noNotice f q7) = 0 then (pX12_noRow_b33 F f n v1 v3 (1 : Int32) (v6 + (1 : Int32))) else (pX12_noRow_b33 F f n v1 v3 (0 : Int32) (v6 + (1 : Int32)))))))
set_option maxRecDepth 100000 in
set_option maxHeartbeats 4000000 in
theorem tX12_noRow_b33 {F : Nat} {f : xM} {g : xN} : ∀ (n : Nat) {v1 : Int32} {v3 : Int64} {v5 : Int32} {v6 : Int32} {r : Int32}, pX12_noRow_b33 F f n v1 v3 v5 v6 = some r → X mX12_noRow 3 (some (.int r), f, g) 33 [some (.ref 0), some (.int v1), none, some (.long v3), none, some (.int v5), some (.int v6)] [] f g := by
  intro n
  induction n with
  | zero => intro v1 v3 v5 v6 r h; cases h
  | succ n ih =>
    intro v1 v3 v5 v6 r h
    rw [pX12_noRow_b33] at h
    refine X.iload (i := 6) dX12_noRow_33 rfl ?_
    refine X.iload_n (i := 1) dX12_noRow_35 rfl rfl ?_
    refine X.icmp_ge (tgt := 71) dX12_noRow_36 (by decide) (fun c4 => ?_) (fun c4 => ?_)
    · rw [if_pos c4] at h
      refine X.iload (i := 5) dX12_noRow_71 rfl ?_
      refine X.if_ne (tgt := 80) dX12_noRow_73 (by decide) (fun c5 => ?_) (fun c5 => ?_)
      · rw [if_neg c5] at h
        refine X.iconst (v := (0 : Int32)) dX12_noRow_80 (by decide) ?_
        obtain rfl := Option.some.inj h
        exact X.zret dX12_noRow_81 rfl rfl rfl
      · rw [if_pos c5] at h
        refine X.iconst (v := (1 : Int32)) dX12_noRow_76 (by decide) ?_
        refine X.goto (tgt := 81) dX12_noRow_77 (by decide) ?_
        obtain rfl := Option.some.inj h
        exact X.zret dX12_noRow_81 rfl rfl rfl
    · rw [if_neg c4] at h
      refine X.iload (i := 5) dX12_noRow_39 rfl ?_
      refine X.if_eq (tgt := 62) dX12_noRow_41 (by decide) (fun c6 => ?_) (fun c6 => ?_)
      · rw [if_pos c6] at h
        refine X.iconst (v := (0 : Int32)) dX12_noRow_62 (by decide) ?_
        refine X.istore (i := 5) (L' := [some (.ref 0), some (.int v1), none, some (.long v3), none, some (.int (0 : Int32)), some (.int v6)]) dX12_noRow_63 (Nat.le_of_ble_eq_true rfl) rfl ?_
        refine X.iinc (i := 6) (v := (v6 + (1 : Int32))) (L' := [some (.ref 0), some (.int v1), none, some (.long v3), none, some (.int (0 : Int32)), some (.int (v6 + (1 : Int32)))]) dX12_noRow_65 rfl rfl (Nat.le_of_ble_eq_true rfl) rfl ?_
        refine X.goto (tgt := 33) dX12_noRow_68 (by decide) ?_
        exact X.weaken (xle_c (xle_c (xle_n (xle_c (xle_n (xle_c (xle_c xle_e))))))) (ih h)
      · rw [if_neg c6] at h
        refine X.aload_n (i := 0) dX12_noRow_44 rfl rfl ?_
        refine X.iload_n (i := 1) dX12_noRow_45 rfl rfl ?_
        refine X.lload_n (i := 3) dX12_noRow_46 rfl rfl ?_
        refine X.iload (i := 6) dX12_noRow_47 rfl ?_
        obtain ⟨q7, e7, h⟩ := xbind h
        try dsimp only at h
        refine X.callS (μ' := mX12_threeOf) (As := [.int v1, .long v3, .int v6]) (st := [.ref 0]) (st1 := [.int q7, .ref 0]) (r := some (.int q7)) (f' := f) (g' := g) (tX12_threeOf e7) (Nat.le_of_ble_eq_true rfl) cwX12_threeOf rfl mlX12_170 rfl rfl rfl (Nat.le_of_ble_eq_true rfl) dX12_noRow_49 ?_
        refine X.callV (μ' := mX12_noNotice) (As := [.int q7]) (st := []) (st1 := [.int (pX12_noNotice f q7)]) (r := some (.int (pX12_noNotice f q7))) (f' := f) (g' := g) (tX12_noNotice rfl) (Nat.le_of_ble_eq_true rfl) cwX12_noNotice rfl mlX12_174 sM_0 kX12 rfl rfl rfl (Nat.le_of_ble_eq_true rfl) dX12_noRow_52 ?_
        refine X.if_ne (tgt := 62) dX12_noRow_55 (by decide) (fun c8 => ?_) (fun c8 => ?_)
        · rw [if_neg c8] at h
          refine X.iconst (v := (0 : Int32)) dX12_noRow_62 (by decide) ?_
          refine X.istore (i := 5) (L' := [some (.ref 0), some (.int v1), none, some (.long v3), none, some (.int (0 : Int32)), some (.int v6)]) dX12_noRow_63 (Nat.le_of_ble_eq_true rfl) rfl ?_
          refine X.iinc (i := 6) (v := (v6 + (1 : Int32))) (L' := [some (.ref 0), some (.int v1), none, some (.long v3), none, some (.int (0 : Int32)), some (.int (v6 + (1 : Int32)))]) dX12_noRow_65 rfl rfl (Nat.le_of_ble_eq_true rfl) rfl ?_
          refine X.goto (tgt := 33) dX12_noRow_68 (by decide) ?_
          exact X.weaken (xle_c (xle_c (xle_n (xle_c (xle_n (xle_c (xle_c xle_e))))))) (ih h)
        · rw [if_pos c8] at h
          refine X.iconst (v := (1 : Int32)) dX12_noRow_58 (by decide) ?_
          refine X.goto (tgt := 63) dX12_noRow_59 (by decide) ?_
          refine X.istore (i := 5) (L' := [some (.ref 0), some (.int v1), none, some (.long v3), none, some (.int (1 : Int32)), some (.int v6)]) dX12_noRow_63 (Nat.le_of_ble_eq_true rfl) rfl ?_
          refine X.iinc (i := 6) (v := (v6 + (1 : Int32))) (L' := [some (.ref 0), some (.int v1), none, some (.long v3), none, some (.int (1 : Int32)), some (.int (v6 + (1 : Int32)))]) dX12_noRow_65 rfl rfl (Nat.le_of_ble_eq_true rfl) rfl ?_
          refine X.goto (tgt := 33) dX12_noRow_68 (by decide) ?_
          exact X.weaken (xle_c (xle_c (xle_n (xle_c (xle_n (xle_c (xle_c xle_e))))))) (ih h)
def pX12_noRow (F : Nat) (f : xM) (v1 : Int32) (v2 : Int32) (v3 : Int64) : Option (Int32) := (if (pX12_in v1.toInt64 (1 : Int64) v2.toInt64) = 0 then some ((1 : Int32)) else (Option.bind (pX12_thousand F v1) fun q2 => (if (pX12_in v3 (0 : Int64) (q2 - (1 : Int64))) = 0 then some ((1 : Int32)) else (pX12_noRow_b33 F f F v1 v3 (1 : Int32) (0 : Int32)))))
set_option maxRecDepth 100000 in
set_option maxHeartbeats 4000000 in
theorem tX12_noRow {F : Nat} {f : xM} {g : xN} {v1 : Int32} {v2 : Int32} {v3 : Int64} {r : Int32} (h : pX12_noRow F f v1 v2 v3 = some r) : XT mX12_noRow 3 [.ref 0, .int v1, .int v2, .long v3] f g (some (.int r), f, g) := by
  unfold pX12_noRow at h
  refine XT.of (L := [some (.ref 0), some (.int v1), some (.int v2), some (.long v3), none, none, none]) [some (.ref 0), some (.int v1), some (.int v2), some (.long v3), none] rfl (Nat.le_of_ble_eq_true rfl) rfl (xle_c (xle_c (xle_c (xle_c (xle_n (xle_z (xle_z xle_e))))))) ?_
  refine X.iload_n (i := 1) dX12_noRow_0 rfl rfl ?_
  refine X.i2l dX12_noRow_1 ?_
  refine X.lconst (v := (1 : Int64)) dX12_noRow_2 (by decide) ?_
  refine X.iload_n (i := 2) dX12_noRow_3 rfl rfl ?_
  refine X.i2l dX12_noRow_4 ?_
  refine X.callS (μ' := mX12_in) (As := [.long v1.toInt64, .long (1 : Int64), .long v2.toInt64]) (st := []) (st1 := [.int (pX12_in v1.toInt64 (1 : Int64) v2.toInt64)]) (r := some (.int (pX12_in v1.toInt64 (1 : Int64) v2.toInt64))) (f' := f) (g' := g) (tX12_in rfl) (Nat.le_of_ble_eq_true rfl) cwX12_in rfl mlX12_65 rfl rfl rfl (Nat.le_of_ble_eq_true rfl) dX12_noRow_5 ?_
  refine X.if_eq (tgt := 25) dX12_noRow_8 (by decide) (fun c1 => ?_) (fun c1 => ?_)
  · rw [if_pos c1] at h
    refine X.iconst (v := (1 : Int32)) dX12_noRow_25 (by decide) ?_
    obtain rfl := Option.some.inj h
    exact X.zret dX12_noRow_26 rfl rfl rfl
  · rw [if_neg c1] at h
    refine X.lload_n (i := 3) dX12_noRow_11 rfl rfl ?_
    refine X.lconst (v := (0 : Int64)) dX12_noRow_12 (by decide) ?_
    refine X.iload_n (i := 1) dX12_noRow_13 rfl rfl ?_
    obtain ⟨q2, e2, h⟩ := xbind h
    try dsimp only at h
    refine X.callS (μ' := mX12_thousand) (As := [.int v1]) (st := [.long (0 : Int64), .long v3]) (st1 := [.long q2, .long (0 : Int64), .long v3]) (r := some (.long q2)) (f' := f) (g' := g) (tX12_thousand e2) (Nat.le_of_ble_eq_true rfl) cwX12_thousand rfl mlX12_166 rfl rfl rfl (Nat.le_of_ble_eq_true rfl) dX12_noRow_14 ?_
    refine X.lconst (v := (1 : Int64)) dX12_noRow_17 (by decide) ?_
    refine X.lsub dX12_noRow_18 ?_
    refine X.callS (μ' := mX12_in) (As := [.long v3, .long (0 : Int64), .long (q2 - (1 : Int64))]) (st := []) (st1 := [.int (pX12_in v3 (0 : Int64) (q2 - (1 : Int64)))]) (r := some (.int (pX12_in v3 (0 : Int64) (q2 - (1 : Int64))))) (f' := f) (g' := g) (tX12_in rfl) (Nat.le_of_ble_eq_true rfl) cwX12_in rfl mlX12_65 rfl rfl rfl (Nat.le_of_ble_eq_true rfl) dX12_noRow_19 ?_
    refine X.if_ne (tgt := 27) dX12_noRow_22 (by decide) (fun c3 => ?_) (fun c3 => ?_)
    · rw [if_neg c3] at h
      refine X.iconst (v := (1 : Int32)) dX12_noRow_27 (by decide) ?_
      refine X.istore (i := 5) (L' := [some (.ref 0), some (.int v1), some (.int v2), some (.long v3), none, some (.int (1 : Int32)), none]) dX12_noRow_28 (Nat.le_of_ble_eq_true rfl) rfl ?_
      refine X.iconst (v := (0 : Int32)) dX12_noRow_30 (by decide) ?_
      refine X.istore (i := 6) (L' := [some (.ref 0), some (.int v1), some (.int v2), some (.long v3), none, some (.int (1 : Int32)), some (.int (0 : Int32))]) dX12_noRow_31 (Nat.le_of_ble_eq_true rfl) rfl ?_
      exact X.weaken (xle_c (xle_c (xle_n (xle_c (xle_n (xle_c (xle_c xle_e))))))) (tX12_noRow_b33 F h)
    · rw [if_pos c3] at h
      refine X.iconst (v := (1 : Int32)) dX12_noRow_25 (by decide) ?_
      obtain rfl := Option.some.inj h
      exact X.zret dX12_noRow_26 rfl rfl rfl
def pX12_noticed (F : Nat) (f : xM) (v1 : Int32) (v2 : Int32) : Option (Int32) := (if xin ((2 : Int32) + (v2 / (100 : Int32))) 9 then (Option.bind (pX12_notice F f v1 (f 7 ((2 : Int32) + (v2 / (100 : Int32))).toNatClampNeg) ((v2 / (10 : Int32)) - (v2 / (10 : Int32)) / (10 : Int32) * (10 : Int32)) (v2 - v2 / (10 : Int32) * (10 : Int32))) fun q2 => some (q2)) else none)
set_option maxRecDepth 100000 in
set_option maxHeartbeats 4000000 in
theorem tX12_noticed {F : Nat} {f : xM} {g : xN} {v1 : Int32} {v2 : Int32} {r : Int32} (h : pX12_noticed F f v1 v2 = some r) : XT mX12_noticed 4 [.ref 0, .int v1, .int v2] f g (some (.int r), f, g) := by
  unfold pX12_noticed at h
  refine XT.of (L := [some (.ref 0), some (.int v1), some (.int v2)]) [some (.ref 0), some (.int v1), some (.int v2)] rfl (Nat.le_of_ble_eq_true rfl) rfl (xle_c (xle_c (xle_c xle_e))) ?_
  refine X.aload_n (i := 0) dX12_noticed_0 rfl rfl ?_
  refine X.iload_n (i := 1) dX12_noticed_1 rfl rfl ?_
  refine X.aload_n (i := 0) dX12_noticed_2 rfl rfl ?_
  refine X.getR (k0 := 18) kX12 sM_0 (Nat.le_of_ble_eq_true rfl) rfl lfX12_32 dX12_noticed_3 ?_
  refine X.iconst (v := (2 : Int32)) dX12_noticed_6 (by decide) ?_
  refine X.iload_n (i := 2) dX12_noticed_7 rfl rfl ?_
  refine X.bipush (v := (100 : Int32)) dX12_noticed_8 (by decide) ?_
  refine X.idiv dX12_noticed_10 (by decide) ?_
  refine X.iadd dX12_noticed_11 ?_
  by_cases c1 : xin ((2 : Int32) + (v2 / (100 : Int32))) 9
  rotate_left
  · rw [if_neg c1] at h; cases h
  rw [if_pos c1] at h
  refine X.iald sM_7 c1 dX12_noticed_12 ?_
  refine X.iload_n (i := 2) dX12_noticed_13 rfl rfl ?_
  refine X.bipush (v := (10 : Int32)) dX12_noticed_14 (by decide) ?_
  refine X.idiv dX12_noticed_16 (by decide) ?_
  refine X.bipush (v := (10 : Int32)) dX12_noticed_17 (by decide) ?_
  refine X.irem dX12_noticed_19 (by decide) ?_
  refine X.iload_n (i := 2) dX12_noticed_20 rfl rfl ?_
  refine X.bipush (v := (10 : Int32)) dX12_noticed_21 (by decide) ?_
  refine X.irem dX12_noticed_23 (by decide) ?_
  obtain ⟨q2, e2, h⟩ := xbind h
  try dsimp only at h
  refine X.callV (μ' := mX12_notice) (As := [.int v1, .int (f 7 ((2 : Int32) + (v2 / (100 : Int32))).toNatClampNeg), .int ((v2 / (10 : Int32)) - (v2 / (10 : Int32)) / (10 : Int32) * (10 : Int32)), .int (v2 - v2 / (10 : Int32) * (10 : Int32))]) (st := []) (st1 := [.int q2]) (r := some (.int q2)) (f' := f) (g' := g) (tX12_notice e2) (Nat.le_of_ble_eq_true rfl) cwX12_notice rfl mlX12_149 sM_0 kX12 rfl rfl rfl (Nat.le_of_ble_eq_true rfl) dX12_noticed_24 ?_
  obtain rfl := Option.some.inj h
  exact X.iret dX12_noticed_27 rfl rfl
def pX12_afterRow_b6 (F : Nat) (f : xM) : Nat → Int32 → Int64 → Int32 → Int32 → Option (Int32)
  | 0, _, _, _, _ => none
  | n + 1, v2, v3, v5, v6 => (if v2 ≤ v6 then some (v5) else (Option.bind (pX12_threeOf F v2 v3 v6) fun q2 => (Option.bind (pX12_noticed F f v5 q2) fun q3 => (pX12_afterRow_b6 F f n v2 v3 q3 (v6 + (1 : Int32))))))
set_option maxRecDepth 100000 in
set_option maxHeartbeats 4000000 in
theorem tX12_afterRow_b6 {F : Nat} {f : xM} {g : xN} : ∀ (n : Nat) {v2 : Int32} {v3 : Int64} {v5 : Int32} {v6 : Int32} {r : Int32}, pX12_afterRow_b6 F f n v2 v3 v5 v6 = some r → X mX12_afterRow 5 (some (.int r), f, g) 6 [some (.ref 0), none, some (.int v2), some (.long v3), none, some (.int v5), some (.int v6)] [] f g := by
  intro n
  induction n with
  | zero => intro v2 v3 v5 v6 r h; cases h
  | succ n ih =>
    intro v2 v3 v5 v6 r h
    rw [pX12_afterRow_b6] at h
    refine X.iload (i := 6) dX12_afterRow_6 rfl ?_
    refine X.iload_n (i := 2) dX12_afterRow_8 rfl rfl ?_
    refine X.icmp_ge (tgt := 33) dX12_afterRow_9 (by decide) (fun c1 => ?_) (fun c1 => ?_)
    · rw [if_pos c1] at h
      refine X.iload (i := 5) dX12_afterRow_33 rfl ?_
      obtain rfl := Option.some.inj h
      exact X.iret dX12_afterRow_35 rfl rfl
    · rw [if_neg c1] at h
      refine X.aload_n (i := 0) dX12_afterRow_12 rfl rfl ?_
      refine X.iload (i := 5) dX12_afterRow_13 rfl ?_
      refine X.iload_n (i := 2) dX12_afterRow_15 rfl rfl ?_
      refine X.lload_n (i := 3) dX12_afterRow_16 rfl rfl ?_
      refine X.iload (i := 6) dX12_afterRow_17 rfl ?_
      obtain ⟨q2, e2, h⟩ := xbind h
      try dsimp only at h
      refine X.callS (μ' := mX12_threeOf) (As := [.int v2, .long v3, .int v6]) (st := [.int v5, .ref 0]) (st1 := [.int q2, .int v5, .ref 0]) (r := some (.int q2)) (f' := f) (g' := g) (tX12_threeOf e2) (Nat.le_of_ble_eq_true rfl) cwX12_threeOf rfl mlX12_170 rfl rfl rfl (Nat.le_of_ble_eq_true rfl) dX12_afterRow_19 ?_
      obtain ⟨q3, e3, h⟩ := xbind h
      try dsimp only at h
      refine X.callV (μ' := mX12_noticed) (As := [.int v5, .int q2]) (st := []) (st1 := [.int q3]) (r := some (.int q3)) (f' := f) (g' := g) (tX12_noticed e3) (Nat.le_of_ble_eq_true rfl) cwX12_noticed rfl mlX12_177 sM_0 kX12 rfl rfl rfl (Nat.le_of_ble_eq_true rfl) dX12_afterRow_22 ?_
      refine X.istore (i := 5) (L' := [some (.ref 0), none, some (.int v2), some (.long v3), none, some (.int q3), some (.int v6)]) dX12_afterRow_25 (Nat.le_of_ble_eq_true rfl) rfl ?_
      refine X.iinc (i := 6) (v := (v6 + (1 : Int32))) (L' := [some (.ref 0), none, some (.int v2), some (.long v3), none, some (.int q3), some (.int (v6 + (1 : Int32)))]) dX12_afterRow_27 rfl rfl (Nat.le_of_ble_eq_true rfl) rfl ?_
      refine X.goto (tgt := 6) dX12_afterRow_30 (by decide) ?_
      exact X.weaken (xle_c (xle_n (xle_c (xle_c (xle_n (xle_c (xle_c xle_e))))))) (ih h)
def pX12_afterRow (F : Nat) (f : xM) (v1 : Int32) (v2 : Int32) (v3 : Int64) : Option (Int32) := (pX12_afterRow_b6 F f F v2 v3 v1 (0 : Int32))
set_option maxRecDepth 100000 in
set_option maxHeartbeats 4000000 in
theorem tX12_afterRow {F : Nat} {f : xM} {g : xN} {v1 : Int32} {v2 : Int32} {v3 : Int64} {r : Int32} (h : pX12_afterRow F f v1 v2 v3 = some r) : XT mX12_afterRow 5 [.ref 0, .int v1, .int v2, .long v3] f g (some (.int r), f, g) := by
  unfold pX12_afterRow at h
  refine XT.of (L := [some (.ref 0), some (.int v1), some (.int v2), some (.long v3), none, none, none]) [some (.ref 0), some (.int v1), some (.int v2), some (.long v3), none] rfl (Nat.le_of_ble_eq_true rfl) rfl (xle_c (xle_c (xle_c (xle_c (xle_n (xle_z (xle_z xle_e))))))) ?_
  refine X.iload_n (i := 1) dX12_afterRow_0 rfl rfl ?_
  refine X.istore (i := 5) (L' := [some (.ref 0), some (.int v1), some (.int v2), some (.long v3), none, some (.int v1), none]) dX12_afterRow_1 (Nat.le_of_ble_eq_true rfl) rfl ?_
  refine X.iconst (v := (0 : Int32)) dX12_afterRow_3 (by decide) ?_
  refine X.istore (i := 6) (L' := [some (.ref 0), some (.int v1), some (.int v2), some (.long v3), none, some (.int v1), some (.int (0 : Int32))]) dX12_afterRow_4 (Nat.le_of_ble_eq_true rfl) rfl ?_
  exact X.weaken (xle_c (xle_n (xle_c (xle_c (xle_n (xle_c (xle_c xle_e))))))) (tX12_afterRow_b6 F h)
def pX12_after (F : Nat) (v1 : Int32) (v2 : Int32) (v3 : Int64) (f : xM) : Option (Int32 × xM) := (Option.bind (pX12_nameOf F (xu f 0 0 (0 : Int32)) v1) fun q1 => (if q1 = (-9 : Int32) then some (((-2 : Int32), (xu f 0 0 (0 : Int32)))) else (Option.bind (pX12_noRow F (xu f 0 0 (0 : Int32)) v2 (4 : Int32) v3) fun q3 => (if q3 = 0 then (Option.bind (pX12_afterRow F (xu f 0 0 (0 : Int32)) q1 v2 v3) fun q5 => (Option.bind (pX12_told F (xu f 0 0 (0 : Int32)) q5) fun q6 => some ((q6, (xu f 0 0 (0 : Int32)))))) else some (((-2 : Int32), (xu f 0 0 (0 : Int32))))))))
set_option maxRecDepth 100000 in
set_option maxHeartbeats 4000000 in
theorem tX12_after {F : Nat} {g : xN} {v1 : Int32} {v2 : Int32} {v3 : Int64} {f : xM} {r : Int32 × xM} (h : pX12_after F v1 v2 v3 f = some r) : XT mX12_after 6 [.ref 0, .int v1, .int v2, .long v3] f g (some (.int r.1), r.2, g) := by
  unfold pX12_after at h
  refine XT.of (L := [some (.ref 0), some (.int v1), some (.int v2), some (.long v3), none, none]) [some (.ref 0), some (.int v1), some (.int v2), some (.long v3), none] rfl (Nat.le_of_ble_eq_true rfl) rfl (xle_c (xle_c (xle_c (xle_c (xle_n (xle_z xle_e)))))) ?_
  refine X.aload_n (i := 0) dX12_after_0 rfl rfl ?_
  refine X.iconst (v := (0 : Int32)) dX12_after_1 (by decide) ?_
  refine X.putI (k0 := 0) kX12 sM_0 (Nat.le_of_ble_eq_true rfl) rfl lfX12_57 rfl rfl dX12_after_2 ?_
  refine X.aload_n (i := 0) dX12_after_5 rfl rfl ?_
  refine X.iload_n (i := 1) dX12_after_6 rfl rfl ?_
  obtain ⟨q1, e1, h⟩ := xbind h
  try dsimp only at h
  refine X.callV (μ' := mX12_nameOf) (As := [.int v1]) (st := []) (st1 := [.int q1]) (r := some (.int q1)) (f' := (xu f 0 0 (0 : Int32))) (g' := g) (tX12_nameOf e1) (Nat.le_of_ble_eq_true rfl) cwX12_nameOf rfl mlX12_180 sM_0 kX12 rfl rfl rfl (Nat.le_of_ble_eq_true rfl) dX12_after_7 ?_
  refine X.istore (i := 5) (L' := [some (.ref 0), some (.int v1), some (.int v2), some (.long v3), none, some (.int q1)]) dX12_after_10 (Nat.le_of_ble_eq_true rfl) rfl ?_
  refine X.iload (i := 5) dX12_after_12 rfl ?_
  refine X.bipush (v := (-9 : Int32)) dX12_after_14 (by decide) ?_
  refine X.icmp_eq (tgt := 29) dX12_after_16 (by decide) (fun c2 => ?_) (fun c2 => ?_)
  · rw [if_pos c2] at h
    refine X.bipush (v := (-2 : Int32)) dX12_after_29 (by decide) ?_
    refine X.goto (tgt := 46) dX12_after_31 (by decide) ?_
    obtain rfl := Option.some.inj h
    exact X.iret dX12_after_46 rfl rfl
  · rw [if_neg c2] at h
    refine X.aload_n (i := 0) dX12_after_19 rfl rfl ?_
    refine X.iload_n (i := 2) dX12_after_20 rfl rfl ?_
    refine X.iconst (v := (4 : Int32)) dX12_after_21 (by decide) ?_
    refine X.lload_n (i := 3) dX12_after_22 rfl rfl ?_
    obtain ⟨q3, e3, h⟩ := xbind h
    try dsimp only at h
    refine X.callV (μ' := mX12_noRow) (As := [.int v2, .int (4 : Int32), .long v3]) (st := []) (st1 := [.int q3]) (r := some (.int q3)) (f' := (xu f 0 0 (0 : Int32))) (g' := g) (tX12_noRow e3) (Nat.le_of_ble_eq_true rfl) cwX12_noRow rfl mlX12_183 sM_0 kX12 rfl rfl rfl (Nat.le_of_ble_eq_true rfl) dX12_after_23 ?_
    refine X.if_eq (tgt := 34) dX12_after_26 (by decide) (fun c4 => ?_) (fun c4 => ?_)
    · rw [if_pos c4] at h
      refine X.aload_n (i := 0) dX12_after_34 rfl rfl ?_
      refine X.aload_n (i := 0) dX12_after_35 rfl rfl ?_
      refine X.iload (i := 5) dX12_after_36 rfl ?_
      refine X.iload_n (i := 2) dX12_after_38 rfl rfl ?_
      refine X.lload_n (i := 3) dX12_after_39 rfl rfl ?_
      obtain ⟨q5, e5, h⟩ := xbind h
      try dsimp only at h
      refine X.callV (μ' := mX12_afterRow) (As := [.int q1, .int v2, .long v3]) (st := [.ref 0]) (st1 := [.int q5, .ref 0]) (r := some (.int q5)) (f' := (xu f 0 0 (0 : Int32))) (g' := g) (tX12_afterRow e5) (Nat.le_of_ble_eq_true rfl) cwX12_afterRow rfl mlX12_187 sM_0 kX12 rfl rfl rfl (Nat.le_of_ble_eq_true rfl) dX12_after_40 ?_
      obtain ⟨q6, e6, h⟩ := xbind h
      try dsimp only at h
      refine X.callV (μ' := mX12_told) (As := [.int q5]) (st := []) (st1 := [.int q6]) (r := some (.int q6)) (f' := (xu f 0 0 (0 : Int32))) (g' := g) (tX12_told e6) (Nat.le_of_ble_eq_true rfl) cwX12_told rfl mlX12_135 sM_0 kX12 rfl rfl rfl (Nat.le_of_ble_eq_true rfl) dX12_after_43 ?_
      obtain rfl := Option.some.inj h
      exact X.iret dX12_after_46 rfl rfl
    · rw [if_neg c4] at h
      refine X.bipush (v := (-2 : Int32)) dX12_after_29 (by decide) ?_
      refine X.goto (tgt := 46) dX12_after_31 (by decide) ?_
      obtain rfl := Option.some.inj h
      exact X.iret dX12_after_46 rfl rfl
def pX12_begin_b2 (F : Nat) : Nat → Int32 → xM → Option (xM)
  | 0, _, _ => none
  | n + 1, v1, f => (if (9 : Int32) ≤ v1 then some (f) else (if xin v1 9 then (if xin v1 9 then (pX12_begin_b2 F n (v1 + (1 : Int32)) (xu f 8 v1.toNatClampNeg (f 7 v1.toNatClampNeg))) else none) else none))
set_option maxRecDepth 100000 in
set_option maxHeartbeats 4000000 in
theorem tX12_begin_b2 {F : Nat} {g : xN} : ∀ (n : Nat) {v1 : Int32} {f : xM} {r : xM}, pX12_begin_b2 F n v1 f = some r → X mX12_begin 0 (none, r, g) 2 [some (.ref 0), some (.int v1)] [] f g := by
  intro n
  induction n with
  | zero => intro v1 f r h; cases h
  | succ n ih =>
    intro v1 f r h
    rw [pX12_begin_b2] at h
    refine X.iload_n (i := 1) dX12_begin_2 rfl rfl ?_
    refine X.bipush (v := (9 : Int32)) dX12_begin_3 (by decide) ?_
    refine X.icmp_ge (tgt := 26) dX12_begin_5 (by decide) (fun c1 => ?_) (fun c1 => ?_)
    · rw [if_pos c1] at h
      obtain rfl := Option.some.inj h
      exact X.vret dX12_begin_26 rfl rfl
    · rw [if_neg c1] at h
      refine X.aload_n (i := 0) dX12_begin_8 rfl rfl ?_
      refine X.getR (k0 := 19) kX12 sM_0 (Nat.le_of_ble_eq_true rfl) rfl lfX12_35 dX12_begin_9 ?_
      refine X.iload_n (i := 1) dX12_begin_12 rfl rfl ?_
      refine X.aload_n (i := 0) dX12_begin_13 rfl rfl ?_
      refine X.getR (k0 := 18) kX12 sM_0 (Nat.le_of_ble_eq_true rfl) rfl lfX12_32 dX12_begin_14 ?_
      refine X.iload_n (i := 1) dX12_begin_17 rfl rfl ?_
      by_cases c2 : xin v1 9
      rotate_left
      · rw [if_neg c2] at h; cases h
      rw [if_pos c2] at h
      refine X.iald sM_7 c2 dX12_begin_18 ?_
      by_cases c3 : xin v1 9
      rotate_left
      · rw [if_neg c3] at h; cases h
      rw [if_pos c3] at h
      refine X.iast sM_8 c3 dX12_begin_19 ?_
      refine X.iinc (i := 1) (v := (v1 + (1 : Int32))) (L' := [some (.ref 0), some (.int (v1 + (1 : Int32)))]) dX12_begin_20 rfl rfl (Nat.le_of_ble_eq_true rfl) rfl ?_
      refine X.goto (tgt := 2) dX12_begin_23 (by decide) ?_
      exact X.weaken (xle_c (xle_c xle_e)) (ih h)
def pX12_begin (F : Nat) (f : xM) : Option (xM) := (pX12_begin_b2 F F (0 : Int32) f)
set_option maxRecDepth 100000 in
set_option maxHeartbeats 4000000 in
theorem tX12_begin {F : Nat} {g : xN} {f : xM} {r : xM} (h : pX12_begin F f = some r) : XT mX12_begin 0 [.ref 0] f g (none, r, g) := by
  unfold pX12_begin at h
  refine XT.of (L := [some (.ref 0), none]) [some (.ref 0)] rfl (Nat.le_of_ble_eq_true rfl) rfl (xle_c (xle_z xle_e)) ?_
  refine X.iconst (v := (0 : Int32)) dX12_begin_0 (by decide) ?_
  refine X.istore_n (i := 1) (L' := [some (.ref 0), some (.int (0 : Int32))]) dX12_begin_1 rfl (Nat.le_of_ble_eq_true rfl) rfl ?_
  exact X.weaken (xle_c (xle_c xle_e)) (tX12_begin_b2 F h)
def pX12_doesRead_8 (f : xM) (v2 : Int32) : Option (Int32) := (if xin v2 4 then (if (f 2 v2.toNatClampNeg) = 0 then none else (if xin v2 4 then (if ((f 8 1) - (f 8 1) / (f 2 v2.toNatClampNeg) * (f 2 v2.toNatClampNeg)) = (f 3 v2.toNatClampNeg) then some ((1 : Int32)) else some ((0 : Int32))) else none)) else none)
set_option maxRecDepth 100000 in
set_option maxHeartbeats 4000000 in
theorem tX12_doesRead_8 {f : xM} {g : xN} {v2 : Int32} {r : Int32} (h : pX12_doesRead_8 f v2 = some r) : XT mX12_doesRead 0 [.ref 0, .ref 8, .int v2] f g (some (.int r), f, g) := by
  unfold pX12_doesRead_8 at h
  refine XT.of (L := [some (.ref 0), some (.ref 8), some (.int v2)]) [some (.ref 0), some (.ref 8), some (.int v2)] rfl (Nat.le_of_ble_eq_true rfl) rfl (xle_c (xle_c (xle_c xle_e))) ?_
  refine X.aload_n (i := 1) dX12_doesRead_0 rfl rfl ?_
  refine X.iconst (v := (1 : Int32)) dX12_doesRead_1 (by decide) ?_
  refine X.ialdK (m := 1) sM_8 (by decide) (by decide) dX12_doesRead_2 ?_
  refine X.aload_n (i := 0) dX12_doesRead_3 rfl rfl ?_
  refine X.getR (k0 := 8) kX12 sM_0 (Nat.le_of_ble_eq_true rfl) rfl lfX12_17 dX12_doesRead_4 ?_
  refine X.iload_n (i := 2) dX12_doesRead_7 rfl rfl ?_
  by_cases c1 : xin v2 4
  rotate_left
  · rw [if_neg c1] at h; cases h
  rw [if_pos c1] at h
  refine X.iald sM_2 c1 dX12_doesRead_8 ?_
  by_cases c2 : (f 2 v2.toNatClampNeg) = 0
  · rw [if_pos c2] at h; cases h
  rw [if_neg c2] at h
  refine X.irem dX12_doesRead_9 c2 ?_
  refine X.aload_n (i := 0) dX12_doesRead_10 rfl rfl ?_
  refine X.getR (k0 := 9) kX12 sM_0 (Nat.le_of_ble_eq_true rfl) rfl lfX12_20 dX12_doesRead_11 ?_
  refine X.iload_n (i := 2) dX12_doesRead_14 rfl rfl ?_
  by_cases c3 : xin v2 4
  rotate_left
  · rw [if_neg c3] at h; cases h
  rw [if_pos c3] at h
  refine X.iald sM_3 c3 dX12_doesRead_15 ?_
  refine X.icmp_ne (tgt := 23) dX12_doesRead_16 (by decide) (fun c4 => ?_) (fun c4 => ?_)
  · rw [if_neg c4] at h
    refine X.iconst (v := (0 : Int32)) dX12_doesRead_23 (by decide) ?_
    obtain rfl := Option.some.inj h
    exact X.zret dX12_doesRead_24 rfl rfl rfl
  · rw [if_pos c4] at h
    refine X.iconst (v := (1 : Int32)) dX12_doesRead_19 (by decide) ?_
    refine X.goto (tgt := 24) dX12_doesRead_20 (by decide) ?_
    obtain rfl := Option.some.inj h
    exact X.zret dX12_doesRead_24 rfl rfl rfl
def pX12_goPrint_8_b21 (F : Nat) : Nat → Int32 → Int32 → Int32 → Int32 → xM → Option (xM)
  | 0, _, _, _, _, _ => none
  | n + 1, v2, v3, v4, v5, f => (if (f 0 7) ≤ v5 then some ((xu f 8 1 ((f 8 1) + (1 : Int32)))) else (Option.bind (pX12_doesRead_8 f v5) fun q4 => (if q4 = 0 then (pX12_goPrint_8_b21 F n v2 v3 v4 (v5 + (1 : Int32)) f) else (if xin ((5 : Int32) + v5) 9 then (if xin ((2 : Int32) + v2) 9 then (Option.bind (pX12_notice F f (f 8 ((5 : Int32) + v5).toNatClampNeg) (f 8 ((2 : Int32) + v2).toNatClampNeg) v3 v4) fun q8 => (if xin ((5 : Int32) + v5) 9 then (pX12_goPrint_8_b21 F n v2 v3 v4 (v5 + (1 : Int32)) (xu f 8 ((5 : Int32) + v5).toNatClampNeg q8)) else none)) else none) else none))))
set_option maxRecDepth 100000 in
set_option maxHeartbeats 4000000 in
theorem tX12_goPrint_8_b21 {F : Nat} {g : xN} : ∀ (n : Nat) {v2 : Int32} {v3 : Int32} {v4 : Int32} {v5 : Int32} {f : xM} {r : xM}, pX12_goPrint_8_b21 F n v2 v3 v4 v5 f = some r → X mX12_goPrint 4 (none, r, g) 21 [some (.ref 0), some (.ref 8), some (.int v2), some (.int v3), some (.int v4), some (.int v5)] [] f g := by
  intro n
  induction n with
  | zero => intro v2 v3 v4 v5 f r h; cases h
  | succ n ih =>
    intro v2 v3 v4 v5 f r h
    rw [pX12_goPrint_8_b21] at h
    refine X.iload (i := 5) dX12_goPrint_21 rfl ?_
    refine X.aload_n (i := 0) dX12_goPrint_23 rfl rfl ?_
    refine X.getI (k0 := 7) kX12 sM_0 (Nat.le_of_ble_eq_true rfl) rfl lfX12_69 dX12_goPrint_24 ?_
    refine X.icmp_ge (tgt := 70) dX12_goPrint_27 (by decide) (fun c3 => ?_) (fun c3 => ?_)
    · rw [if_pos c3] at h
      refine X.aload_n (i := 1) dX12_goPrint_70 rfl rfl ?_
      refine X.iconst (v := (1 : Int32)) dX12_goPrint_71 (by decide) ?_
      refine X.dup2 dX12_goPrint_72 rfl rfl ?_
      refine X.ialdK (m := 1) sM_8 (by decide) (by decide) dX12_goPrint_73 ?_
      refine X.iconst (v := (1 : Int32)) dX12_goPrint_74 (by decide) ?_
      refine X.iadd dX12_goPrint_75 ?_
      refine X.iastK (m := 1) sM_8 (by decide) (by decide) dX12_goPrint_76 ?_
      obtain rfl := Option.some.inj h
      exact X.vret dX12_goPrint_77 rfl rfl
    · rw [if_neg c3] at h
      refine X.aload_n (i := 0) dX12_goPrint_30 rfl rfl ?_
      refine X.aload_n (i := 1) dX12_goPrint_31 rfl rfl ?_
      refine X.iload (i := 5) dX12_goPrint_32 rfl ?_
      obtain ⟨q4, e4, h⟩ := xbind h
      try dsimp only at h
      refine X.callV (μ' := mX12_doesRead) (As := [.ref 8, .int v5]) (st := []) (st1 := [.int q4]) (r := some (.int q4)) (f' := f) (g' := g) (tX12_doesRead_8 e4) (Nat.le_of_ble_eq_true rfl) cwX12_doesRead rfl mlX12_131 sM_0 kX12 rfl rfl rfl (Nat.le_of_ble_eq_true rfl) dX12_goPrint_34 ?_
      refine X.if_eq (tgt := 64) dX12_goPrint_37 (by decide) (fun c5 => ?_) (fun c5 => ?_)
      · rw [if_pos c5] at h
        refine X.iinc (i := 5) (v := (v5 + (1 : Int32))) (L' := [some (.ref 0), some (.ref 8), some (.int v2), some (.int v3), some (.int v4), some (.int (v5 + (1 : Int32)))]) dX12_goPrint_64 rfl rfl (Nat.le_of_ble_eq_true rfl) rfl ?_
        refine X.goto (tgt := 21) dX12_goPrint_67 (by decide) ?_
        exact X.weaken (xle_c (xle_c (xle_c (xle_c (xle_c (xle_c xle_e)))))) (ih h)
      · rw [if_neg c5] at h
        refine X.aload_n (i := 1) dX12_goPrint_40 rfl rfl ?_
        refine X.iconst (v := (5 : Int32)) dX12_goPrint_41 (by decide) ?_
        refine X.iload (i := 5) dX12_goPrint_42 rfl ?_
        refine X.iadd dX12_goPrint_44 ?_
        refine X.aload_n (i := 0) dX12_goPrint_45 rfl rfl ?_
        refine X.aload_n (i := 1) dX12_goPrint_46 rfl rfl ?_
        refine X.iconst (v := (5 : Int32)) dX12_goPrint_47 (by decide) ?_
        refine X.iload (i := 5) dX12_goPrint_48 rfl ?_
        refine X.iadd dX12_goPrint_50 ?_
        by_cases c6 : xin ((5 : Int32) + v5) 9
        rotate_left
        · rw [if_neg c6] at h; cases h
        rw [if_pos c6] at h
        refine X.iald sM_8 c6 dX12_goPrint_51 ?_
        refine X.aload_n (i := 1) dX12_goPrint_52 rfl rfl ?_
        refine X.iconst (v := (2 : Int32)) dX12_goPrint_53 (by decide) ?_
        refine X.iload_n (i := 2) dX12_goPrint_54 rfl rfl ?_
        refine X.iadd dX12_goPrint_55 ?_
        by_cases c7 : xin ((2 : Int32) + v2) 9
        rotate_left
        · rw [if_neg c7] at h; cases h
        rw [if_pos c7] at h
        refine X.iald sM_8 c7 dX12_goPrint_56 ?_
        refine X.iload_n (i := 3) dX12_goPrint_57 rfl rfl ?_
        refine X.iload (i := 4) dX12_goPrint_58 rfl ?_
        obtain ⟨q8, e8, h⟩ := xbind h
        try dsimp only at h
        refine X.callV (μ' := mX12_notice) (As := [.int (f 8 ((5 : Int32) + v5).toNatClampNeg), .int (f 8 ((2 : Int32) + v2).toNatClampNeg), .int v3, .int v4]) (st := [.int ((5 : Int32) + v5), .ref 8]) (st1 := [.int q8, .int ((5 : Int32) + v5), .ref 8]) (r := some (.int q8)) (f' := f) (g' := g) (tX12_notice e8) (Nat.le_of_ble_eq_true rfl) cwX12_notice rfl mlX12_149 sM_0 kX12 rfl rfl rfl (Nat.le_of_ble_eq_true rfl) dX12_goPrint_60 ?_
        by_cases c9 : xin ((5 : Int32) + v5) 9
        rotate_left
        · rw [if_neg c9] at h; cases h
        rw [if_pos c9] at h
        refine X.iast sM_8 c9 dX12_goPrint_63 ?_
        refine X.iinc (i := 5) (v := (v5 + (1 : Int32))) (L' := [some (.ref 0), some (.ref 8), some (.int v2), some (.int v3), some (.int v4), some (.int (v5 + (1 : Int32)))]) dX12_goPrint_64 rfl rfl (Nat.le_of_ble_eq_true rfl) rfl ?_
        refine X.goto (tgt := 21) dX12_goPrint_67 (by decide) ?_
        exact X.weaken (xle_c (xle_c (xle_c (xle_c (xle_c (xle_c xle_e)))))) (ih h)
def pX12_goPrint_8 (F : Nat) (v2 : Int32) (v3 : Int32) (v4 : Int32) (f : xM) : Option (xM) := (if xin ((2 : Int32) + v2) 9 then (Option.bind (pX12_notice F f (f 8 0) (f 8 ((2 : Int32) + v2).toNatClampNeg) v3 v4) fun q2 => (pX12_goPrint_8_b21 F F v2 v3 v4 (0 : Int32) (xu f 8 0 q2))) else none)
set_option maxRecDepth 100000 in
set_option maxHeartbeats 4000000 in
theorem tX12_goPrint_8 {F : Nat} {g : xN} {v2 : Int32} {v3 : Int32} {v4 : Int32} {f : xM} {r : xM} (h : pX12_goPrint_8 F v2 v3 v4 f = some r) : XT mX12_goPrint 4 [.ref 0, .ref 8, .int v2, .int v3, .int v4] f g (none, r, g) := by
  unfold pX12_goPrint_8 at h
  refine XT.of (L := [some (.ref 0), some (.ref 8), some (.int v2), some (.int v3), some (.int v4), none]) [some (.ref 0), some (.ref 8), some (.int v2), some (.int v3), some (.int v4)] rfl (Nat.le_of_ble_eq_true rfl) rfl (xle_c (xle_c (xle_c (xle_c (xle_c (xle_z xle_e)))))) ?_
  refine X.aload_n (i := 1) dX12_goPrint_0 rfl rfl ?_
  refine X.iconst (v := (0 : Int32)) dX12_goPrint_1 (by decide) ?_
  refine X.aload_n (i := 0) dX12_goPrint_2 rfl rfl ?_
  refine X.aload_n (i := 1) dX12_goPrint_3 rfl rfl ?_
  refine X.iconst (v := (0 : Int32)) dX12_goPrint_4 (by decide) ?_
  refine X.ialdK (m := 0) sM_8 (by decide) (by decide) dX12_goPrint_5 ?_
  refine X.aload_n (i := 1) dX12_goPrint_6 rfl rfl ?_
  refine X.iconst (v := (2 : Int32)) dX12_goPrint_7 (by decide) ?_
  refine X.iload_n (i := 2) dX12_goPrint_8 rfl rfl ?_
  refine X.iadd dX12_goPrint_9 ?_
  by_cases c1 : xin ((2 : Int32) + v2) 9
  rotate_left
  · rw [if_neg c1] at h; cases h
  rw [if_pos c1] at h
  refine X.iald sM_8 c1 dX12_goPrint_10 ?_
  refine X.iload_n (i := 3) dX12_goPrint_11 rfl rfl ?_
  refine X.iload (i := 4) dX12_goPrint_12 rfl ?_
  obtain ⟨q2, e2, h⟩ := xbind h
  try dsimp only at h
  refine X.callV (μ' := mX12_notice) (As := [.int (f 8 0), .int (f 8 ((2 : Int32) + v2).toNatClampNeg), .int v3, .int v4]) (st := [.int (0 : Int32), .ref 8]) (st1 := [.int q2, .int (0 : Int32), .ref 8]) (r := some (.int q2)) (f' := f) (g' := g) (tX12_notice e2) (Nat.le_of_ble_eq_true rfl) cwX12_notice rfl mlX12_149 sM_0 kX12 rfl rfl rfl (Nat.le_of_ble_eq_true rfl) dX12_goPrint_14 ?_
  refine X.iastK (m := 0) sM_8 (by decide) (by decide) dX12_goPrint_17 ?_
  refine X.iconst (v := (0 : Int32)) dX12_goPrint_18 (by decide) ?_
  refine X.istore (i := 5) (L' := [some (.ref 0), some (.ref 8), some (.int v2), some (.int v3), some (.int v4), some (.int (0 : Int32))]) dX12_goPrint_19 (Nat.le_of_ble_eq_true rfl) rfl ?_
  exact X.weaken (xle_c (xle_c (xle_c (xle_c (xle_c (xle_c xle_e)))))) (tX12_goPrint_8_b21 F h)
def pX12_isAllRight_b21 (F : Nat) (f : xM) : Nat → Int32 → Int32 → Option (Int32)
  | 0, _, _ => none
  | n + 1, v1, v2 => (if (f 0 7) ≤ v2 then (if xz v1 then some (v1) else none) else (if v1 = 0 then (pX12_isAllRight_b21 F f n (0 : Int32) (v2 + (1 : Int32))) else (if xin ((5 : Int32) + v2) 9 then (if (f 8 ((5 : Int32) + v2).toNatClampNeg) = (f 0 5) then (pX12_isAllRight_b21 F f n (1 : Int32) (v2 + (1 : Int32))) else (pX12_isAllRight_b21 F f n (0 : Int32) (v2 + (1 : Int32)))) else none)))
set_option maxRecDepth 100000 in
set_option maxHeartbeats 4000000 in
theorem tX12_isAllRight_b21 {F : Nat} {f : xM} {g : xN} : ∀ (n : Nat) {v1 : Int32} {v2 : Int32} {r : Int32}, pX12_isAllRight_b21 F f n v1 v2 = some r → X mX12_isAllRight 0 (some (.int r), f, g) 21 [some (.ref 0), some (.int v1), some (.int v2)] [] f g := by
  intro n
  induction n with
  | zero => intro v1 v2 r h; cases h
  | succ n ih =>
    intro v1 v2 r h
    rw [pX12_isAllRight_b21] at h
    refine X.iload_n (i := 2) dX12_isAllRight_21 rfl rfl ?_
    refine X.aload_n (i := 0) dX12_isAllRight_22 rfl rfl ?_
    refine X.getI (k0 := 7) kX12 sM_0 (Nat.le_of_ble_eq_true rfl) rfl lfX12_69 dX12_isAllRight_23 ?_
    refine X.icmp_ge (tgt := 60) dX12_isAllRight_26 (by decide) (fun c2 => ?_) (fun c2 => ?_)
    · rw [if_pos c2] at h
      refine X.iload_n (i := 1) dX12_isAllRight_60 rfl rfl ?_
      by_cases c3 : xz v1
      rotate_left
      · rw [if_neg c3] at h; cases h
      rw [if_pos c3] at h
      obtain rfl := Option.some.inj h
      exact X.zret dX12_isAllRight_61 rfl (xz_n c3) rfl
    · rw [if_neg c2] at h
      refine X.iload_n (i := 1) dX12_isAllRight_29 rfl rfl ?_
      refine X.if_eq (tgt := 52) dX12_isAllRight_30 (by decide) (fun c4 => ?_) (fun c4 => ?_)
      · rw [if_pos c4] at h
        refine X.iconst (v := (0 : Int32)) dX12_isAllRight_52 (by decide) ?_
        refine X.istore_n (i := 1) (L' := [some (.ref 0), some (.int (0 : Int32)), some (.int v2)]) dX12_isAllRight_53 rfl (Nat.le_of_ble_eq_true rfl) rfl ?_
        refine X.iinc (i := 2) (v := (v2 + (1 : Int32))) (L' := [some (.ref 0), some (.int (0 : Int32)), some (.int (v2 + (1 : Int32)))]) dX12_isAllRight_54 rfl rfl (Nat.le_of_ble_eq_true rfl) rfl ?_
        refine X.goto (tgt := 21) dX12_isAllRight_57 (by decide) ?_
        exact X.weaken (xle_c (xle_c (xle_c xle_e))) (ih h)
      · rw [if_neg c4] at h
        refine X.aload_n (i := 0) dX12_isAllRight_33 rfl rfl ?_
        refine X.getR (k0 := 19) kX12 sM_0 (Nat.le_of_ble_eq_true rfl) rfl lfX12_35 dX12_isAllRight_34 ?_
        refine X.iconst (v := (5 : Int32)) dX12_isAllRight_37 (by decide) ?_
        refine X.iload_n (i := 2) dX12_isAllRight_38 rfl rfl ?_
        refine X.iadd dX12_isAllRight_39 ?_
        by_cases c5 : xin ((5 : Int32) + v2) 9
        rotate_left
        · rw [if_neg c5] at h; cases h
        rw [if_pos c5] at h
        refine X.iald sM_8 c5 dX12_isAllRight_40 ?_
        refine X.aload_n (i := 0) dX12_isAllRight_41 rfl rfl ?_
        refine X.getI (k0 := 5) kX12 sM_0 (Nat.le_of_ble_eq_true rfl) rfl lfX12_115 dX12_isAllRight_42 ?_
        refine X.icmp_ne (tgt := 52) dX12_isAllRight_45 (by decide) (fun c6 => ?_) (fun c6 => ?_)
        · rw [if_neg c6] at h
          refine X.iconst (v := (0 : Int32)) dX12_isAllRight_52 (by decide) ?_
          refine X.istore_n (i := 1) (L' := [some (.ref 0), some (.int (0 : Int32)), some (.int v2)]) dX12_isAllRight_53 rfl (Nat.le_of_ble_eq_true rfl) rfl ?_
          refine X.iinc (i := 2) (v := (v2 + (1 : Int32))) (L' := [some (.ref 0), some (.int (0 : Int32)), some (.int (v2 + (1 : Int32)))]) dX12_isAllRight_54 rfl rfl (Nat.le_of_ble_eq_true rfl) rfl ?_
          refine X.goto (tgt := 21) dX12_isAllRight_57 (by decide) ?_
          exact X.weaken (xle_c (xle_c (xle_c xle_e))) (ih h)
        · rw [if_pos c6] at h
          refine X.iconst (v := (1 : Int32)) dX12_isAllRight_48 (by decide) ?_
          refine X.goto (tgt := 53) dX12_isAllRight_49 (by decide) ?_
          refine X.istore_n (i := 1) (L' := [some (.ref 0), some (.int (1 : Int32)), some (.int v2)]) dX12_isAllRight_53 rfl (Nat.le_of_ble_eq_true rfl) rfl ?_
          refine X.iinc (i := 2) (v := (v2 + (1 : Int32))) (L' := [some (.ref 0), some (.int (1 : Int32)), some (.int (v2 + (1 : Int32)))]) dX12_isAllRight_54 rfl rfl (Nat.le_of_ble_eq_true rfl) rfl ?_
          refine X.goto (tgt := 21) dX12_isAllRight_57 (by decide) ?_
          exact X.weaken (xle_c (xle_c (xle_c xle_e))) (ih h)
def pX12_isAllRight (F : Nat) (f : xM) : Option (Int32) := (if (f 8 0) = (f 0 5) then (pX12_isAllRight_b21 F f F (1 : Int32) (0 : Int32)) else (pX12_isAllRight_b21 F f F (0 : Int32) (0 : Int32)))
set_option maxRecDepth 100000 in
set_option maxHeartbeats 4000000 in
theorem tX12_isAllRight {F : Nat} {f : xM} {g : xN} {r : Int32} (h : pX12_isAllRight F f = some r) : XT mX12_isAllRight 0 [.ref 0] f g (some (.int r), f, g) := by
  unfold pX12_isAllRight at h
  refine XT.of (L := [some (.ref 0), none, none]) [some (.ref 0)] rfl (Nat.le_of_ble_eq_true rfl) rfl (xle_c (xle_z (xle_z xle_e))) ?_
  refine X.aload_n (i := 0) dX12_isAllRight_0 rfl rfl ?_
  refine X.getR (k0 := 19) kX12 sM_0 (Nat.le_of_ble_eq_true rfl) rfl lfX12_35 dX12_isAllRight_1 ?_
  refine X.iconst (v := (0 : Int32)) dX12_isAllRight_4 (by decide) ?_
  refine X.ialdK (m := 0) sM_8 (by decide) (by decide) dX12_isAllRight_5 ?_
  refine X.aload_n (i := 0) dX12_isAllRight_6 rfl rfl ?_
  refine X.getI (k0 := 5) kX12 sM_0 (Nat.le_of_ble_eq_true rfl) rfl lfX12_115 dX12_isAllRight_7 ?_
  refine X.icmp_ne (tgt := 17) dX12_isAllRight_10 (by decide) (fun c1 => ?_) (fun c1 => ?_)
  · rw [if_neg c1] at h
    refine X.iconst (v := (0 : Int32)) dX12_isAllRight_17 (by decide) ?_
    refine X.istore_n (i := 1) (L' := [some (.ref 0), some (.int (0 : Int32)), none]) dX12_isAllRight_18 rfl (Nat.le_of_ble_eq_true rfl) rfl ?_
    refine X.iconst (v := (0 : Int32)) dX12_isAllRight_19 (by decide) ?_
    refine X.istore_n (i := 2) (L' := [some (.ref 0), some (.int (0 : Int32)), some (.int (0 : Int32))]) dX12_isAllRight_20 rfl (Nat.le_of_ble_eq_true rfl) rfl ?_
    exact X.weaken (xle_c (xle_c (xle_c xle_e))) (tX12_isAllRight_b21 F h)
  · rw [if_pos c1] at h
    refine X.iconst (v := (1 : Int32)) dX12_isAllRight_13 (by decide) ?_
    refine X.goto (tgt := 18) dX12_isAllRight_14 (by decide) ?_
    refine X.istore_n (i := 1) (L' := [some (.ref 0), some (.int (1 : Int32)), none]) dX12_isAllRight_18 rfl (Nat.le_of_ble_eq_true rfl) rfl ?_
    refine X.iconst (v := (0 : Int32)) dX12_isAllRight_19 (by decide) ?_
    refine X.istore_n (i := 2) (L' := [some (.ref 0), some (.int (1 : Int32)), some (.int (0 : Int32))]) dX12_isAllRight_20 rfl (Nat.le_of_ble_eq_true rfl) rfl ?_
    exact X.weaken (xle_c (xle_c (xle_c xle_e))) (tX12_isAllRight_b21 F h)
def pX12_rights_b84 (F : Nat) (v3 : Int32) (v4 : Int32) (f : xM) : Option (Int32 × xM) := (if v4 = 0 then some (((0 : Int32), f)) else (if v3 = 0 then (if (f 8 0) = (f 0 5) then some (((1 : Int32), f)) else some (((0 : Int32), f))) else (Option.bind (pX12_isAllRight F f) fun q6 => (if q6 = 0 then some (((0 : Int32), f)) else some (((1 : Int32), f))))))
set_option maxRecDepth 100000 in
set_option maxHeartbeats 4000000 in
theorem tX12_rights_b84 {F : Nat} {g : xN} {v3 : Int32} {v4 : Int32} {f : xM} {r : Int32 × xM} (h : pX12_rights_b84 F v3 v4 f = some r) : X mX12_rights 5 (some (.int r.1), r.2, g) 84 [some (.ref 0), none, none, some (.int v3), some (.int v4), none, none] [] f g := by
  unfold pX12_rights_b84 at h
  refine X.iload (i := 4) dX12_rights_84 rfl ?_
  refine X.if_eq (tgt := 120) dX12_rights_86 (by decide) (fun c3 => ?_) (fun c3 => ?_)
  · rw [if_pos c3] at h
    refine X.iconst (v := (0 : Int32)) dX12_rights_120 (by decide) ?_
    obtain rfl := Option.some.inj h
    exact X.zret dX12_rights_121 rfl rfl rfl
  · rw [if_neg c3] at h
    refine X.iload_n (i := 3) dX12_rights_89 rfl rfl ?_
    refine X.if_eq (tgt := 103) dX12_rights_90 (by decide) (fun c4 => ?_) (fun c4 => ?_)
    · rw [if_pos c4] at h
      refine X.aload_n (i := 0) dX12_rights_103 rfl rfl ?_
      refine X.getR (k0 := 19) kX12 sM_0 (Nat.le_of_ble_eq_true rfl) rfl lfX12_35 dX12_rights_104 ?_
      refine X.iconst (v := (0 : Int32)) dX12_rights_107 (by decide) ?_
      refine X.ialdK (m := 0) sM_8 (by decide) (by decide) dX12_rights_108 ?_
      refine X.aload_n (i := 0) dX12_rights_109 rfl rfl ?_
      refine X.getI (k0 := 5) kX12 sM_0 (Nat.le_of_ble_eq_true rfl) rfl lfX12_115 dX12_rights_110 ?_
      refine X.icmp_ne (tgt := 120) dX12_rights_113 (by decide) (fun c5 => ?_) (fun c5 => ?_)
      · rw [if_neg c5] at h
        refine X.iconst (v := (0 : Int32)) dX12_rights_120 (by decide) ?_
        obtain rfl := Option.some.inj h
        exact X.zret dX12_rights_121 rfl rfl rfl
      · rw [if_pos c5] at h
        refine X.iconst (v := (1 : Int32)) dX12_rights_116 (by decide) ?_
        refine X.goto (tgt := 121) dX12_rights_117 (by decide) ?_
        obtain rfl := Option.some.inj h
        exact X.zret dX12_rights_121 rfl rfl rfl
    · rw [if_neg c4] at h
      refine X.aload_n (i := 0) dX12_rights_93 rfl rfl ?_
      obtain ⟨q6, e6, h⟩ := xbind h
      try dsimp only at h
      refine X.callV (μ' := mX12_isAllRight) (As := []) (st := []) (st1 := [.int q6]) (r := some (.int q6)) (f' := f) (g' := g) (tX12_isAllRight e6) (Nat.le_of_ble_eq_true rfl) cwX12_isAllRight rfl mlX12_194 sM_0 kX12 rfl rfl rfl (Nat.le_of_ble_eq_true rfl) dX12_rights_94 ?_
      refine X.if_eq (tgt := 120) dX12_rights_97 (by decide) (fun c7 => ?_) (fun c7 => ?_)
      · rw [if_pos c7] at h
        refine X.iconst (v := (0 : Int32)) dX12_rights_120 (by decide) ?_
        obtain rfl := Option.some.inj h
        exact X.zret dX12_rights_121 rfl rfl rfl
      · rw [if_neg c7] at h
        refine X.goto (tgt := 116) dX12_rights_100 (by decide) ?_
        refine X.iconst (v := (1 : Int32)) dX12_rights_116 (by decide) ?_
        refine X.goto (tgt := 121) dX12_rights_117 (by decide) ?_
        obtain rfl := Option.some.inj h
        exact X.zret dX12_rights_121 rfl rfl rfl
def pX12_rights_b45 (F : Nat) (K10 : Int32 → Int32 → Int32 → Int32 → Int32 → xM → Option (Int32 × xM)) (v1 : Int32) (v2 : Int32) (v3 : Int32) (v5 : Int32) (v6 : Int32) (s0 : Int32) (f : xM) : Option (Int32 × xM) := (if s0 = 0 then (K10 v1 v2 v3 s0 (v5 + (1 : Int32)) f) else (Option.bind (pX12_goPrint_8 F (v6 / (100 : Int32)) ((v6 / (10 : Int32)) - (v6 / (10 : Int32)) / (10 : Int32) * (10 : Int32)) (v6 - v6 / (10 : Int32) * (10 : Int32)) f) fun q12 => (K10 v1 v2 v3 s0 (v5 + (1 : Int32)) q12)))
set_option maxRecDepth 100000 in
set_option maxHeartbeats 4000000 in
theorem tX12_rights_b45 {F : Nat} {g : xN} {K10 : Int32 → Int32 → Int32 → Int32 → Int32 → xM → Option (Int32 × xM)} (hK10 : ∀ {v1 : Int32} {v2 : Int32} {v3 : Int32} {v4 : Int32} {v5 : Int32} {f : xM} {r : Int32 × xM}, K10 v1 v2 v3 v4 v5 f = some r → X mX12_rights 5 (some (.int r.1), r.2, g) 10 [some (.ref 0), some (.int v1), some (.int v2), some (.int v3), some (.int v4), some (.int v5), none] [] f g) {v1 : Int32} {v2 : Int32} {v3 : Int32} {v5 : Int32} {v6 : Int32} {s0 : Int32} {f : xM} {r : Int32 × xM} (h : pX12_rights_b45 F K10 v1 v2 v3 v5 v6 s0 f = some r) : X mX12_rights 5 (some (.int r.1), r.2, g) 45 [some (.ref 0), some (.int v1), some (.int v2), some (.int v3), none, some (.int v5), some (.int v6)] [.int s0] f g := by
  unfold pX12_rights_b45 at h
  refine X.istore (i := 4) (L' := [some (.ref 0), some (.int v1), some (.int v2), some (.int v3), some (.int s0), some (.int v5), some (.int v6)]) dX12_rights_45 (Nat.le_of_ble_eq_true rfl) rfl ?_
  refine X.iload (i := 4) dX12_rights_47 rfl ?_
  refine X.if_eq (tgt := 78) dX12_rights_49 (by decide) (fun c11 => ?_) (fun c11 => ?_)
  · rw [if_pos c11] at h
    refine X.iinc (i := 5) (v := (v5 + (1 : Int32))) (L' := [some (.ref 0), some (.int v1), some (.int v2), some (.int v3), some (.int s0), some (.int (v5 + (1 : Int32))), some (.int v6)]) dX12_rights_78 rfl rfl (Nat.le_of_ble_eq_true rfl) rfl ?_
    refine X.goto (tgt := 10) dX12_rights_81 (by decide) ?_
    exact X.weaken (xle_c (xle_c (xle_c (xle_c (xle_c (xle_c (xle_n xle_e))))))) (hK10 h)
  · rw [if_neg c11] at h
    refine X.aload_n (i := 0) dX12_rights_52 rfl rfl ?_
    refine X.aload_n (i := 0) dX12_rights_53 rfl rfl ?_
    refine X.getR (k0 := 19) kX12 sM_0 (Nat.le_of_ble_eq_true rfl) rfl lfX12_35 dX12_rights_54 ?_
    refine X.iload (i := 6) dX12_rights_57 rfl ?_
    refine X.bipush (v := (100 : Int32)) dX12_rights_59 (by decide) ?_
    refine X.idiv dX12_rights_61 (by decide) ?_
    refine X.iload (i := 6) dX12_rights_62 rfl ?_
    refine X.bipush (v := (10 : Int32)) dX12_rights_64 (by decide) ?_
    refine X.idiv dX12_rights_66 (by decide) ?_
    refine X.bipush (v := (10 : Int32)) dX12_rights_67 (by decide) ?_
    refine X.irem dX12_rights_69 (by decide) ?_
    refine X.iload (i := 6) dX12_rights_70 rfl ?_
    refine X.bipush (v := (10 : Int32)) dX12_rights_72 (by decide) ?_
    refine X.irem dX12_rights_74 (by decide) ?_
    obtain ⟨q12, e12, h⟩ := xbind h
    try dsimp only at h
    refine X.callV (μ' := mX12_goPrint) (As := [.ref 8, .int (v6 / (100 : Int32)), .int ((v6 / (10 : Int32)) - (v6 / (10 : Int32)) / (10 : Int32) * (10 : Int32)), .int (v6 - v6 / (10 : Int32) * (10 : Int32))]) (st := []) (st1 := []) (r := none) (f' := q12) (g' := g) (tX12_goPrint_8 e12) (Nat.le_of_ble_eq_true rfl) cwX12_goPrint rfl mlX12_162 sM_0 kX12 rfl rfl rfl (Nat.le_of_ble_eq_true rfl) dX12_rights_75 ?_
    refine X.iinc (i := 5) (v := (v5 + (1 : Int32))) (L' := [some (.ref 0), some (.int v1), some (.int v2), some (.int v3), some (.int s0), some (.int (v5 + (1 : Int32))), some (.int v6)]) dX12_rights_78 rfl rfl (Nat.le_of_ble_eq_true rfl) rfl ?_
    refine X.goto (tgt := 10) dX12_rights_81 (by decide) ?_
    exact X.weaken (xle_c (xle_c (xle_c (xle_c (xle_c (xle_c (xle_n xle_e))))))) (hK10 h)
def pX12_rights_b10 (F : Nat) : Nat → Int32 → Int32 → Int32 → Int32 → Int32 → xM → Option (Int32 × xM)
  | 0, _, _, _, _, _, _ => none
  | n + 1, v1, v2, v3, v4, v5, f => (if v1 ≤ v5 then (pX12_rights_b84 F v3 v4 f) else (if v4 = 0 then (pX12_rights_b84 F v3 v4 f) else (Option.bind (pX12_threeOf F v1 v2.toInt64 v5) fun q9 => (if (pX12_noNotice f q9) = 0 then (pX12_rights_b45 F (pX12_rights_b10 F n) v1 v2 v3 v5 q9 (1 : Int32) f) else (pX12_rights_b45 F (pX12_rights_b10 F n) v1 v2 v3 v5 q9 (0 : Int32) f)))))
set_option maxRecDepth 100000 in
set_option maxHeartbeats 4000000 in
theorem tX12_rights_b10 {F : Nat} {g : xN} : ∀ (n : Nat) {v1 : Int32} {v2 : Int32} {v3 : Int32} {v4 : Int32} {v5 : Int32} {f : xM} {r : Int32 × xM}, pX12_rights_b10 F n v1 v2 v3 v4 v5 f = some r → X mX12_rights 5 (some (.int r.1), r.2, g) 10 [some (.ref 0), some (.int v1), some (.int v2), some (.int v3), some (.int v4), some (.int v5), none] [] f g := by
  intro n
  induction n with
  | zero => intro v1 v2 v3 v4 v5 f r h; cases h
  | succ n ih =>
    intro v1 v2 v3 v4 v5 f r h
    rw [pX12_rights_b10] at h
    refine X.iload (i := 5) dX12_rights_10 rfl ?_
    refine X.iload_n (i := 1) dX12_rights_12 rfl rfl ?_
    refine X.icmp_ge (tgt := 84) dX12_rights_13 (by decide) (fun c2 => ?_) (fun c2 => ?_)
    · rw [if_pos c2] at h
      exact X.weaken (xle_c (xle_n (xle_n (xle_c (xle_c (xle_n (xle_n xle_e))))))) (tX12_rights_b84 h)
    · rw [if_neg c2] at h
      refine X.iload (i := 4) dX12_rights_16 rfl ?_
      refine X.if_eq (tgt := 84) dX12_rights_18 (by decide) (fun c8 => ?_) (fun c8 => ?_)
      · rw [if_pos c8] at h
        exact X.weaken (xle_c (xle_n (xle_n (xle_c (xle_c (xle_n (xle_n xle_e))))))) (tX12_rights_b84 h)
      · rw [if_neg c8] at h
        refine X.iload_n (i := 1) dX12_rights_21 rfl rfl ?_
        refine X.iload_n (i := 2) dX12_rights_22 rfl rfl ?_
        refine X.i2l dX12_rights_23 ?_
        refine X.iload (i := 5) dX12_rights_24 rfl ?_
        obtain ⟨q9, e9, h⟩ := xbind h
        try dsimp only at h
        refine X.callS (μ' := mX12_threeOf) (As := [.int v1, .long v2.toInt64, .int v5]) (st := []) (st1 := [.int q9]) (r := some (.int q9)) (f' := f) (g' := g) (tX12_threeOf e9) (Nat.le_of_ble_eq_true rfl) cwX12_threeOf rfl mlX12_170 rfl rfl rfl (Nat.le_of_ble_eq_true rfl) dX12_rights_26 ?_
        refine X.istore (i := 6) (L' := [some (.ref 0), some (.int v1), some (.int v2), some (.int v3), some (.int v4), some (.int v5), some (.int q9)]) dX12_rights_29 (Nat.le_of_ble_eq_true rfl) rfl ?_
        refine X.aload_n (i := 0) dX12_rights_31 rfl rfl ?_
        refine X.iload (i := 6) dX12_rights_32 rfl ?_
        refine X.callV (μ' := mX12_noNotice) (As := [.int q9]) (st := []) (st1 := [.int (pX12_noNotice f q9)]) (r := some (.int (pX12_noNotice f q9))) (f' := f) (g' := g) (tX12_noNotice rfl) (Nat.le_of_ble_eq_true rfl) cwX12_noNotice rfl mlX12_174 sM_0 kX12 rfl rfl rfl (Nat.le_of_ble_eq_true rfl) dX12_rights_34 ?_
        refine X.if_ne (tgt := 44) dX12_rights_37 (by decide) (fun c10 => ?_) (fun c10 => ?_)
        · rw [if_neg c10] at h
          refine X.iconst (v := (0 : Int32)) dX12_rights_44 (by decide) ?_
          exact X.weaken (xle_c (xle_c (xle_c (xle_c (xle_n (xle_c (xle_c xle_e))))))) (tX12_rights_b45 ih h)
        · rw [if_pos c10] at h
          refine X.iconst (v := (1 : Int32)) dX12_rights_40 (by decide) ?_
          refine X.goto (tgt := 45) dX12_rights_41 (by decide) ?_
          exact X.weaken (xle_c (xle_c (xle_c (xle_c (xle_n (xle_c (xle_c xle_e))))))) (tX12_rights_b45 ih h)
def pX12_rights (F : Nat) (v1 : Int32) (v2 : Int32) (v3 : Int32) (f : xM) : Option (Int32 × xM) := (Option.bind (pX12_begin F f) fun q1 => (pX12_rights_b10 F F v1 v2 v3 (1 : Int32) (0 : Int32) q1))
set_option maxRecDepth 100000 in
set_option maxHeartbeats 4000000 in
theorem tX12_rights {F : Nat} {g : xN} {v1 : Int32} {v2 : Int32} {v3 : Int32} {f : xM} {r : Int32 × xM} (h : pX12_rights F v1 v2 v3 f = some r) : XT mX12_rights 5 [.ref 0, .int v1, .int v2, .int v3] f g (some (.int r.1), r.2, g) := by
  unfold pX12_rights at h
  refine XT.of (L := [some (.ref 0), some (.int v1), some (.int v2), some (.int v3), none, none, none]) [some (.ref 0), some (.int v1), some (.int v2), some (.int v3)] rfl (Nat.le_of_ble_eq_true rfl) rfl (xle_c (xle_c (xle_c (xle_c (xle_z (xle_z (xle_z xle_e))))))) ?_
  refine X.aload_n (i := 0) dX12_rights_0 rfl rfl ?_
  obtain ⟨q1, e1, h⟩ := xbind h
  try dsimp only at h
  refine X.callV (μ' := mX12_begin) (As := []) (st := []) (st1 := []) (r := none) (f' := q1) (g' := g) (tX12_begin e1) (Nat.le_of_ble_eq_true rfl) cwX12_begin rfl mlX12_191 sM_0 kX12 rfl rfl rfl (Nat.le_of_ble_eq_true rfl) dX12_rights_1 ?_
  refine X.iconst (v := (1 : Int32)) dX12_rights_4 (by decide) ?_
  refine X.istore (i := 4) (L' := [some (.ref 0), some (.int v1), some (.int v2), some (.int v3), some (.int (1 : Int32)), none, none]) dX12_rights_5 (Nat.le_of_ble_eq_true rfl) rfl ?_
  refine X.iconst (v := (0 : Int32)) dX12_rights_7 (by decide) ?_
  refine X.istore (i := 5) (L' := [some (.ref 0), some (.int v1), some (.int v2), some (.int v3), some (.int (1 : Int32)), some (.int (0 : Int32)), none]) dX12_rights_8 (Nat.le_of_ble_eq_true rfl) rfl ?_
  exact X.weaken (xle_c (xle_c (xle_c (xle_c (xle_c (xle_c (xle_n xle_e))))))) (tX12_rights_b10 F h)
def pX12_findRow_b94 (F : Nat) (K14 : Int32 → Int32 → xM → Option (xM)) (K53 : Int32 → Int32 → Int32 → Int32 → xM → Option (xM)) (v1 : Int32) (v2 : Int32) (v3 : Int32) (v4 : Int32) (f : xM) : Option (xM) := (Option.bind (pX12_rights F v2 v4 v1 f) fun q8 => (if q8.1 = 0 then (K53 v1 v2 v3 (v4 + (1 : Int32)) q8.2) else (K53 v1 v2 v3 (v4 + (1 : Int32)) (xu (xu q8.2 0 25 v2) 0 26 v4))))
set_option maxRecDepth 100000 in
set_option maxHeartbeats 4000000 in
theorem tX12_findRow_b94 {F : Nat} {g : xN} {K14 : Int32 → Int32 → xM → Option (xM)} (hK14 : ∀ {v1 : Int32} {v2 : Int32} {f : xM} {r : xM}, K14 v1 v2 f = some r → X mX12_findRow 6 (none, r, g) 14 [some (.ref 0), some (.int v1), some (.int v2), none, none] [] f g) {K53 : Int32 → Int32 → Int32 → Int32 → xM → Option (xM)} (hK53 : ∀ {v1 : Int32} {v2 : Int32} {v3 : Int32} {v4 : Int32} {f : xM} {r : xM}, K53 v1 v2 v3 v4 f = some r → X mX12_findRow 6 (none, r, g) 53 [some (.ref 0), some (.int v1), some (.int v2), some (.int v3), some (.int v4)] [] f g) {v1 : Int32} {v2 : Int32} {v3 : Int32} {v4 : Int32} {f : xM} {r : xM} (h : pX12_findRow_b94 F K14 K53 v1 v2 v3 v4 f = some r) : X mX12_findRow 6 (none, r, g) 94 [some (.ref 0), some (.int v1), some (.int v2), some (.int v3), some (.int v4)] [] f g := by
  unfold pX12_findRow_b94 at h
  refine X.aload_n (i := 0) dX12_findRow_94 rfl rfl ?_
  refine X.iload_n (i := 2) dX12_findRow_95 rfl rfl ?_
  refine X.iload (i := 4) dX12_findRow_96 rfl ?_
  refine X.iload_n (i := 1) dX12_findRow_98 rfl rfl ?_
  obtain ⟨q8, e8, h⟩ := xbind h
  try dsimp only at h
  refine X.callV (μ' := mX12_rights) (As := [.int v2, .int v4, .int v1]) (st := []) (st1 := [.int q8.1]) (r := some (.int q8.1)) (f' := q8.2) (g' := g) (tX12_rights e8) (Nat.le_of_ble_eq_true rfl) cwX12_rights rfl mlX12_204 sM_0 kX12 rfl rfl rfl (Nat.le_of_ble_eq_true rfl) dX12_findRow_99 ?_
  refine X.if_eq (tgt := 116) dX12_findRow_102 (by decide) (fun c9 => ?_) (fun c9 => ?_)
  · rw [if_pos c9] at h
    refine X.iinc (i := 4) (v := (v4 + (1 : Int32))) (L' := [some (.ref 0), some (.int v1), some (.int v2), some (.int v3), some (.int (v4 + (1 : Int32)))]) dX12_findRow_116 rfl rfl (Nat.le_of_ble_eq_true rfl) rfl ?_
    refine X.goto (tgt := 53) dX12_findRow_119 (by decide) ?_
    exact X.weaken (xle_c (xle_c (xle_c (xle_c (xle_c xle_e))))) (hK53 h)
  · rw [if_neg c9] at h
    refine X.aload_n (i := 0) dX12_findRow_105 rfl rfl ?_
    refine X.iload_n (i := 2) dX12_findRow_106 rfl rfl ?_
    refine X.putI (k0 := 25) kX12 sM_0 (Nat.le_of_ble_eq_true rfl) rfl lfX12_197 rfl rfl dX12_findRow_107 ?_
    refine X.aload_n (i := 0) dX12_findRow_110 rfl rfl ?_
    refine X.iload (i := 4) dX12_findRow_111 rfl ?_
    refine X.putI (k0 := 26) kX12 sM_0 (Nat.le_of_ble_eq_true rfl) rfl lfX12_200 rfl rfl dX12_findRow_113 ?_
    refine X.iinc (i := 4) (v := (v4 + (1 : Int32))) (L' := [some (.ref 0), some (.int v1), some (.int v2), some (.int v3), some (.int (v4 + (1 : Int32)))]) dX12_findRow_116 rfl rfl (Nat.le_of_ble_eq_true rfl) rfl ?_
    refine X.goto (tgt := 53) dX12_findRow_119 (by decide) ?_
    exact X.weaken (xle_c (xle_c (xle_c (xle_c (xle_c xle_e))))) (hK53 h)
def pX12_findRow_b53 (F : Nat) (K14 : Int32 → Int32 → xM → Option (xM)) : Nat → Int32 → Int32 → Int32 → Int32 → xM → Option (xM)
  | 0, _, _, _, _, _ => none
  | n + 1, v1, v2, v3, v4, f => (if v3 ≤ v4 then (K14 v1 (v2 + (1 : Int32)) f) else (if (f 0 25) = (-9 : Int32) then (if v2 < (2 : Int32) then (pX12_findRow_b94 F K14 (pX12_findRow_b53 F K14 n) v1 v2 v3 v4 f) else (if (4 : Int32) ≤ (v4 - v4 / (10 : Int32) * (10 : Int32)) then (pX12_findRow_b53 F K14 n v1 v2 v3 (v4 + (1 : Int32)) f) else (if (300 : Int32) ≤ (v4 - v4 / (1000 : Int32) * (1000 : Int32)) then (pX12_findRow_b53 F K14 n v1 v2 v3 (v4 + (1 : Int32)) f) else (pX12_findRow_b94 F K14 (pX12_findRow_b53 F K14 n) v1 v2 v3 v4 f)))) else (K14 v1 (v2 + (1 : Int32)) f)))
set_option maxRecDepth 100000 in
set_option maxHeartbeats 4000000 in
theorem tX12_findRow_b53 {F : Nat} {g : xN} {K14 : Int32 → Int32 → xM → Option (xM)} (hK14 : ∀ {v1 : Int32} {v2 : Int32} {f : xM} {r : xM}, K14 v1 v2 f = some r → X mX12_findRow 6 (none, r, g) 14 [some (.ref 0), some (.int v1), some (.int v2), none, none] [] f g) : ∀ (n : Nat) {v1 : Int32} {v2 : Int32} {v3 : Int32} {v4 : Int32} {f : xM} {r : xM}, pX12_findRow_b53 F K14 n v1 v2 v3 v4 f = some r → X mX12_findRow 6 (none, r, g) 53 [some (.ref 0), some (.int v1), some (.int v2), some (.int v3), some (.int v4)] [] f g := by
  intro n
  induction n with
  | zero => intro v1 v2 v3 v4 f r h; cases h
  | succ n ih =>
    intro v1 v2 v3 v4 f r h
    rw [pX12_findRow_b53] at h
    refine X.iload (i := 4) dX12_findRow_53 rfl ?_
    refine X.iload_n (i := 3) dX12_findRow_55 rfl rfl ?_
    refine X.icmp_ge (tgt := 122) dX12_findRow_56 (by decide) (fun c5 => ?_) (fun c5 => ?_)
    · rw [if_pos c5] at h
      refine X.iinc (i := 2) (v := (v2 + (1 : Int32))) (L' := [some (.ref 0), some (.int v1), some (.int (v2 + (1 : Int32))), some (.int v3), some (.int v4)]) dX12_findRow_122 rfl rfl (Nat.le_of_ble_eq_true rfl) rfl ?_
      refine X.goto (tgt := 14) dX12_findRow_125 (by decide) ?_
      exact X.weaken (xle_c (xle_c (xle_c (xle_n (xle_n xle_e))))) (hK14 h)
    · rw [if_neg c5] at h
      refine X.aload_n (i := 0) dX12_findRow_59 rfl rfl ?_
      refine X.getI (k0 := 25) kX12 sM_0 (Nat.le_of_ble_eq_true rfl) rfl lfX12_197 dX12_findRow_60 ?_
      refine X.bipush (v := (-9 : Int32)) dX12_findRow_63 (by decide) ?_
      refine X.icmp_ne (tgt := 122) dX12_findRow_65 (by decide) (fun c6 => ?_) (fun c6 => ?_)
      · rw [if_neg c6] at h
        refine X.iinc (i := 2) (v := (v2 + (1 : Int32))) (L' := [some (.ref 0), some (.int v1), some (.int (v2 + (1 : Int32))), some (.int v3), some (.int v4)]) dX12_findRow_122 rfl rfl (Nat.le_of_ble_eq_true rfl) rfl ?_
        refine X.goto (tgt := 14) dX12_findRow_125 (by decide) ?_
        exact X.weaken (xle_c (xle_c (xle_c (xle_n (xle_n xle_e))))) (hK14 h)
      · rw [if_pos c6] at h
        refine X.iload_n (i := 2) dX12_findRow_68 rfl rfl ?_
        refine X.iconst (v := (2 : Int32)) dX12_findRow_69 (by decide) ?_
        refine X.icmp_lt (tgt := 94) dX12_findRow_70 (by decide) (fun c7 => ?_) (fun c7 => ?_)
        · rw [if_pos c7] at h
          exact X.weaken (xle_c (xle_c (xle_c (xle_c (xle_c xle_e))))) (tX12_findRow_b94 hK14 ih h)
        · rw [if_neg c7] at h
          refine X.iload (i := 4) dX12_findRow_73 rfl ?_
          refine X.bipush (v := (10 : Int32)) dX12_findRow_75 (by decide) ?_
          refine X.irem dX12_findRow_77 (by decide) ?_
          refine X.iconst (v := (4 : Int32)) dX12_findRow_78 (by decide) ?_
          refine X.icmp_ge (tgt := 116) dX12_findRow_79 (by decide) (fun c10 => ?_) (fun c10 => ?_)
          · rw [if_pos c10] at h
            refine X.iinc (i := 4) (v := (v4 + (1 : Int32))) (L' := [some (.ref 0), some (.int v1), some (.int v2), some (.int v3), some (.int (v4 + (1 : Int32)))]) dX12_findRow_116 rfl rfl (Nat.le_of_ble_eq_true rfl) rfl ?_
            refine X.goto (tgt := 53) dX12_findRow_119 (by decide) ?_
            exact X.weaken (xle_c (xle_c (xle_c (xle_c (xle_c xle_e))))) (ih h)
          · rw [if_neg c10] at h
            refine X.iload (i := 4) dX12_findRow_82 rfl ?_
            refine X.sipush (v := (1000 : Int32)) dX12_findRow_84 (by decide) ?_
            refine X.irem dX12_findRow_87 (by decide) ?_
            refine X.sipush (v := (300 : Int32)) dX12_findRow_88 (by decide) ?_
            refine X.icmp_ge (tgt := 116) dX12_findRow_91 (by decide) (fun c11 => ?_) (fun c11 => ?_)
            · rw [if_pos c11] at h
              refine X.iinc (i := 4) (v := (v4 + (1 : Int32))) (L' := [some (.ref 0), some (.int v1), some (.int v2), some (.int v3), some (.int (v4 + (1 : Int32)))]) dX12_findRow_116 rfl rfl (Nat.le_of_ble_eq_true rfl) rfl ?_
              refine X.goto (tgt := 53) dX12_findRow_119 (by decide) ?_
              exact X.weaken (xle_c (xle_c (xle_c (xle_c (xle_c xle_e))))) (ih h)
            · rw [if_neg c11] at h
              exact X.weaken (xle_c (xle_c (xle_c (xle_c (xle_c xle_e))))) (tX12_findRow_b94 hK14 ih h)
def pX12_findRow_b14 (F : Nat) : Nat → Int32 → Int32 → xM → Option (xM)
  | 0, _, _, _ => none
  | n + 1, v1, v2, f => (if (2 : Int32) < v2 then some (f) else (if (f 0 25) = (-9 : Int32) then (if v2 = 0 then (pX12_findRow_b53 F (pX12_findRow_b14 F n) F v1 v2 (1 : Int32) (0 : Int32) f) else (if v2 = (1 : Int32) then (pX12_findRow_b53 F (pX12_findRow_b14 F n) F v1 v2 (300 : Int32) (0 : Int32) f) else (pX12_findRow_b53 F (pX12_findRow_b14 F n) F v1 v2 (300000 : Int32) (0 : Int32) f))) else some (f)))
set_option maxRecDepth 100000 in
set_option maxHeartbeats 4000000 in
theorem tX12_findRow_b14 {F : Nat} {g : xN} : ∀ (n : Nat) {v1 : Int32} {v2 : Int32} {f : xM} {r : xM}, pX12_findRow_b14 F n v1 v2 f = some r → X mX12_findRow 6 (none, r, g) 14 [some (.ref 0), some (.int v1), some (.int v2), none, none] [] f g := by
  intro n
  induction n with
  | zero => intro v1 v2 f r h; cases h
  | succ n ih =>
    intro v1 v2 f r h
    rw [pX12_findRow_b14] at h
    refine X.iload_n (i := 2) dX12_findRow_14 rfl rfl ?_
    refine X.iconst (v := (2 : Int32)) dX12_findRow_15 (by decide) ?_
    refine X.icmp_gt (tgt := 128) dX12_findRow_16 (by decide) (fun c1 => ?_) (fun c1 => ?_)
    · rw [if_pos c1] at h
      obtain rfl := Option.some.inj h
      exact X.vret dX12_findRow_128 rfl rfl
    · rw [if_neg c1] at h
      refine X.aload_n (i := 0) dX12_findRow_19 rfl rfl ?_
      refine X.getI (k0 := 25) kX12 sM_0 (Nat.le_of_ble_eq_true rfl) rfl lfX12_197 dX12_findRow_20 ?_
      refine X.bipush (v := (-9 : Int32)) dX12_findRow_23 (by decide) ?_
      refine X.icmp_ne (tgt := 128) dX12_findRow_25 (by decide) (fun c2 => ?_) (fun c2 => ?_)
      · rw [if_neg c2] at h
        obtain rfl := Option.some.inj h
        exact X.vret dX12_findRow_128 rfl rfl
      · rw [if_pos c2] at h
        refine X.iload_n (i := 2) dX12_findRow_28 rfl rfl ?_
        refine X.if_ne (tgt := 36) dX12_findRow_29 (by decide) (fun c3 => ?_) (fun c3 => ?_)
        · rw [if_neg c3] at h
          refine X.iload_n (i := 2) dX12_findRow_36 rfl rfl ?_
          refine X.iconst (v := (1 : Int32)) dX12_findRow_37 (by decide) ?_
          refine X.icmp_ne (tgt := 47) dX12_findRow_38 (by decide) (fun c4 => ?_) (fun c4 => ?_)
          · rw [if_neg c4] at h
            refine X.ldc dX12_findRow_47 lcX12_203 ?_
            refine X.istore_n (i := 3) (L' := [some (.ref 0), some (.int v1), some (.int v2), some (.int (300000 : Int32)), none]) dX12_findRow_49 rfl (Nat.le_of_ble_eq_true rfl) rfl ?_
            refine X.iconst (v := (0 : Int32)) dX12_findRow_50 (by decide) ?_
            refine X.istore (i := 4) (L' := [some (.ref 0), some (.int v1), some (.int v2), some (.int (300000 : Int32)), some (.int (0 : Int32))]) dX12_findRow_51 (Nat.le_of_ble_eq_true rfl) rfl ?_
            exact X.weaken (xle_c (xle_c (xle_c (xle_c (xle_c xle_e))))) (tX12_findRow_b53 ih F h)
          · rw [if_pos c4] at h
            refine X.sipush (v := (300 : Int32)) dX12_findRow_41 (by decide) ?_
            refine X.goto (tgt := 49) dX12_findRow_44 (by decide) ?_
            refine X.istore_n (i := 3) (L' := [some (.ref 0), some (.int v1), some (.int v2), some (.int (300 : Int32)), none]) dX12_findRow_49 rfl (Nat.le_of_ble_eq_true rfl) rfl ?_
            refine X.iconst (v := (0 : Int32)) dX12_findRow_50 (by decide) ?_
            refine X.istore (i := 4) (L' := [some (.ref 0), some (.int v1), some (.int v2), some (.int (300 : Int32)), some (.int (0 : Int32))]) dX12_findRow_51 (Nat.le_of_ble_eq_true rfl) rfl ?_
            exact X.weaken (xle_c (xle_c (xle_c (xle_c (xle_c xle_e))))) (tX12_findRow_b53 ih F h)
        · rw [if_pos c3] at h
          refine X.iconst (v := (1 : Int32)) dX12_findRow_32 (by decide) ?_
          refine X.goto (tgt := 49) dX12_findRow_33 (by decide) ?_
          refine X.istore_n (i := 3) (L' := [some (.ref 0), some (.int v1), some (.int v2), some (.int (1 : Int32)), none]) dX12_findRow_49 rfl (Nat.le_of_ble_eq_true rfl) rfl ?_
          refine X.iconst (v := (0 : Int32)) dX12_findRow_50 (by decide) ?_
          refine X.istore (i := 4) (L' := [some (.ref 0), some (.int v1), some (.int v2), some (.int (1 : Int32)), some (.int (0 : Int32))]) dX12_findRow_51 (Nat.le_of_ble_eq_true rfl) rfl ?_
          exact X.weaken (xle_c (xle_c (xle_c (xle_c (xle_c xle_e))))) (tX12_findRow_b53 ih F h)
def pX12_findRow (F : Nat) (v1 : Int32) (f : xM) : Option (xM) := (pX12_findRow_b14 F F v1 (0 : Int32) (xu (xu f 0 25 (-9 : Int32)) 0 26 (-9 : Int32)))
set_option maxRecDepth 100000 in
set_option maxHeartbeats 4000000 in
theorem tX12_findRow {F : Nat} {g : xN} {v1 : Int32} {f : xM} {r : xM} (h : pX12_findRow F v1 f = some r) : XT mX12_findRow 6 [.ref 0, .int v1] f g (none, r, g) := by
  unfold pX12_findRow at h
  refine XT.of (L := [some (.ref 0), some (.int v1), none, none, none]) [some (.ref 0), some (.int v1)] rfl (Nat.le_of_ble_eq_true rfl) rfl (xle_c (xle_c (xle_z (xle_z (xle_z xle_e))))) ?_
  refine X.aload_n (i := 0) dX12_findRow_0 rfl rfl ?_
  refine X.bipush (v := (-9 : Int32)) dX12_findRow_1 (by decide) ?_
  refine X.putI (k0 := 25) kX12 sM_0 (Nat.le_of_ble_eq_true rfl) rfl lfX12_197 rfl rfl dX12_findRow_3 ?_
  refine X.aload_n (i := 0) dX12_findRow_6 rfl rfl ?_
  refine X.bipush (v := (-9 : Int32)) dX12_findRow_7 (by decide) ?_
  refine X.putI (k0 := 26) kX12 sM_0 (Nat.le_of_ble_eq_true rfl) rfl lfX12_200 rfl rfl dX12_findRow_9 ?_
  refine X.iconst (v := (0 : Int32)) dX12_findRow_12 (by decide) ?_
  refine X.istore_n (i := 2) (L' := [some (.ref 0), some (.int v1), some (.int (0 : Int32)), none, none]) dX12_findRow_13 rfl (Nat.le_of_ble_eq_true rfl) rfl ?_
  exact X.weaken (xle_c (xle_c (xle_c (xle_n (xle_n xle_e))))) (tX12_findRow_b14 F h)
def pX12_righted (F : Nat) (v1 : Int32) (f : xM) : Option (Int32 × xM) := (if (pX12_in v1.toInt64 (0 : Int64) (1 : Int64)) = 0 then some (((-2 : Int32), (xu f 0 0 (0 : Int32)))) else (Option.bind (pX12_findRow F (0 : Int32) (xu f 0 0 (0 : Int32))) fun q2 => (if v1 = 0 then some (((q2 0 25), q2)) else some (((q2 0 26), q2)))))
set_option maxRecDepth 100000 in
set_option maxHeartbeats 4000000 in
theorem tX12_righted {F : Nat} {g : xN} {v1 : Int32} {f : xM} {r : Int32 × xM} (h : pX12_righted F v1 f = some r) : XT mX12_righted 7 [.ref 0, .int v1] f g (some (.int r.1), r.2, g) := by
  unfold pX12_righted at h
  refine XT.of (L := [some (.ref 0), some (.int v1)]) [some (.ref 0), some (.int v1)] rfl (Nat.le_of_ble_eq_true rfl) rfl (xle_c (xle_c xle_e)) ?_
  refine X.aload_n (i := 0) dX12_righted_0 rfl rfl ?_
  refine X.iconst (v := (0 : Int32)) dX12_righted_1 (by decide) ?_
  refine X.putI (k0 := 0) kX12 sM_0 (Nat.le_of_ble_eq_true rfl) rfl lfX12_57 rfl rfl dX12_righted_2 ?_
  refine X.iload_n (i := 1) dX12_righted_5 rfl rfl ?_
  refine X.i2l dX12_righted_6 ?_
  refine X.lconst (v := (0 : Int64)) dX12_righted_7 (by decide) ?_
  refine X.lconst (v := (1 : Int64)) dX12_righted_8 (by decide) ?_
  refine X.callS (μ' := mX12_in) (As := [.long v1.toInt64, .long (0 : Int64), .long (1 : Int64)]) (st := []) (st1 := [.int (pX12_in v1.toInt64 (0 : Int64) (1 : Int64))]) (r := some (.int (pX12_in v1.toInt64 (0 : Int64) (1 : Int64)))) (f' := (xu f 0 0 (0 : Int32))) (g' := g) (tX12_in rfl) (Nat.le_of_ble_eq_true rfl) cwX12_in rfl mlX12_65 rfl rfl rfl (Nat.le_of_ble_eq_true rfl) dX12_righted_9 ?_
  refine X.if_ne (tgt := 18) dX12_righted_12 (by decide) (fun c1 => ?_) (fun c1 => ?_)
  · rw [if_neg c1] at h
    refine X.aload_n (i := 0) dX12_righted_18 rfl rfl ?_
    refine X.iconst (v := (0 : Int32)) dX12_righted_19 (by decide) ?_
    obtain ⟨q2, e2, h⟩ := xbind h
    try dsimp only at h
    refine X.callV (μ' := mX12_findRow) (As := [.int (0 : Int32)]) (st := []) (st1 := []) (r := none) (f' := q2) (g' := g) (tX12_findRow e2) (Nat.le_of_ble_eq_true rfl) cwX12_findRow rfl mlX12_208 sM_0 kX12 rfl rfl rfl (Nat.le_of_ble_eq_true rfl) dX12_righted_20 ?_
    refine X.iload_n (i := 1) dX12_righted_23 rfl rfl ?_
    refine X.if_ne (tgt := 34) dX12_righted_24 (by decide) (fun c3 => ?_) (fun c3 => ?_)
    · rw [if_neg c3] at h
      refine X.aload_n (i := 0) dX12_righted_34 rfl rfl ?_
      refine X.getI (k0 := 26) kX12 sM_0 (Nat.le_of_ble_eq_true rfl) rfl lfX12_200 dX12_righted_35 ?_
      obtain rfl := Option.some.inj h
      exact X.iret dX12_righted_38 rfl rfl
    · rw [if_pos c3] at h
      refine X.aload_n (i := 0) dX12_righted_27 rfl rfl ?_
      refine X.getI (k0 := 25) kX12 sM_0 (Nat.le_of_ble_eq_true rfl) rfl lfX12_197 dX12_righted_28 ?_
      refine X.goto (tgt := 38) dX12_righted_31 (by decide) ?_
      obtain rfl := Option.some.inj h
      exact X.iret dX12_righted_38 rfl rfl
  · rw [if_pos c1] at h
    refine X.bipush (v := (-2 : Int32)) dX12_righted_15 (by decide) ?_
    obtain rfl := Option.some.inj h
    exact X.iret dX12_righted_17 rfl rfl
def pX12_allRighted (F : Nat) (v1 : Int32) (f : xM) : Option (Int32 × xM) := (if (pX12_in v1.toInt64 (0 : Int64) (1 : Int64)) = 0 then some (((-2 : Int32), (xu f 0 0 (0 : Int32)))) else (Option.bind (pX12_findRow F (1 : Int32) (xu f 0 0 (0 : Int32))) fun q2 => (if v1 = 0 then some (((q2 0 25), q2)) else some (((q2 0 26), q2)))))
set_option maxRecDepth 100000 in
set_option maxHeartbeats 4000000 in
theorem tX12_allRighted {F : Nat} {g : xN} {v1 : Int32} {f : xM} {r : Int32 × xM} (h : pX12_allRighted F v1 f = some r) : XT mX12_allRighted 7 [.ref 0, .int v1] f g (some (.int r.1), r.2, g) := by
  unfold pX12_allRighted at h
  refine XT.of (L := [some (.ref 0), some (.int v1)]) [some (.ref 0), some (.int v1)] rfl (Nat.le_of_ble_eq_true rfl) rfl (xle_c (xle_c xle_e)) ?_
  refine X.aload_n (i := 0) dX12_allRighted_0 rfl rfl ?_
  refine X.iconst (v := (0 : Int32)) dX12_allRighted_1 (by decide) ?_
  refine X.putI (k0 := 0) kX12 sM_0 (Nat.le_of_ble_eq_true rfl) rfl lfX12_57 rfl rfl dX12_allRighted_2 ?_
  refine X.iload_n (i := 1) dX12_allRighted_5 rfl rfl ?_
  refine X.i2l dX12_allRighted_6 ?_
  refine X.lconst (v := (0 : Int64)) dX12_allRighted_7 (by decide) ?_
  refine X.lconst (v := (1 : Int64)) dX12_allRighted_8 (by decide) ?_
  refine X.callS (μ' := mX12_in) (As := [.long v1.toInt64, .long (0 : Int64), .long (1 : Int64)]) (st := []) (st1 := [.int (pX12_in v1.toInt64 (0 : Int64) (1 : Int64))]) (r := some (.int (pX12_in v1.toInt64 (0 : Int64) (1 : Int64)))) (f' := (xu f 0 0 (0 : Int32))) (g' := g) (tX12_in rfl) (Nat.le_of_ble_eq_true rfl) cwX12_in rfl mlX12_65 rfl rfl rfl (Nat.le_of_ble_eq_true rfl) dX12_allRighted_9 ?_
  refine X.if_ne (tgt := 18) dX12_allRighted_12 (by decide) (fun c1 => ?_) (fun c1 => ?_)
  · rw [if_neg c1] at h
    refine X.aload_n (i := 0) dX12_allRighted_18 rfl rfl ?_
    refine X.iconst (v := (1 : Int32)) dX12_allRighted_19 (by decide) ?_
    obtain ⟨q2, e2, h⟩ := xbind h
    try dsimp only at h
    refine X.callV (μ' := mX12_findRow) (As := [.int (1 : Int32)]) (st := []) (st1 := []) (r := none) (f' := q2) (g' := g) (tX12_findRow e2) (Nat.le_of_ble_eq_true rfl) cwX12_findRow rfl mlX12_208 sM_0 kX12 rfl rfl rfl (Nat.le_of_ble_eq_true rfl) dX12_allRighted_20 ?_
    refine X.iload_n (i := 1) dX12_allRighted_23 rfl rfl ?_
    refine X.if_ne (tgt := 34) dX12_allRighted_24 (by decide) (fun c3 => ?_) (fun c3 => ?_)
    · rw [if_neg c3] at h
      refine X.aload_n (i := 0) dX12_allRighted_34 rfl rfl ?_
      refine X.getI (k0 := 26) kX12 sM_0 (Nat.le_of_ble_eq_true rfl) rfl lfX12_200 dX12_allRighted_35 ?_
      obtain rfl := Option.some.inj h
      exact X.iret dX12_allRighted_38 rfl rfl
    · rw [if_pos c3] at h
      refine X.aload_n (i := 0) dX12_allRighted_27 rfl rfl ?_
      refine X.getI (k0 := 25) kX12 sM_0 (Nat.le_of_ble_eq_true rfl) rfl lfX12_197 dX12_allRighted_28 ?_
      refine X.goto (tgt := 38) dX12_allRighted_31 (by decide) ?_
      obtain rfl := Option.some.inj h
      exact X.iret dX12_allRighted_38 rfl rfl
  · rw [if_pos c1] at h
    refine X.bipush (v := (-2 : Int32)) dX12_allRighted_15 (by decide) ?_
    obtain rfl := Option.some.inj h
    exact X.iret dX12_allRighted_17 rfl rfl
def pX12_ring_b64 (F : Nat) (K44 : Int32 → Int64 → Int32 → Int32 → xM → Option (Int32 × xM)) : Nat → Int32 → Int64 → Int32 → Int32 → Int32 → Int32 → xM → Option (Int32 × xM)
  | 0, _, _, _, _, _, _, _ => none
  | n + 1, v1, v2, v4, v5, v6, v7, f => (if v5 ≤ v7 then (if xin v5 1026 then (K44 v1 v2 v4 (v5 + (1 : Int32)) (xu f 14 v5.toNatClampNeg v6)) else none) else (if xin v7 1026 then (if (f 14 v7.toNatClampNeg) = v6 then (if v4 = 0 then some ((v7, f)) else some (((v5 - v7), f))) else (pX12_ring_b64 F K44 n v1 v2 v4 v5 v6 (v7 + (1 : Int32)) f)) else none))
set_option maxRecDepth 100000 in
set_option maxHeartbeats 4000000 in
theorem tX12_ring_b64 {F : Nat} {g : xN} {K44 : Int32 → Int64 → Int32 → Int32 → xM → Option (Int32 × xM)} (hK44 : ∀ {v1 : Int32} {v2 : Int64} {v4 : Int32} {v5 : Int32} {f : xM} {r : Int32 × xM}, K44 v1 v2 v4 v5 f = some r → X mX12_ring 6 (some (.int r.1), r.2, g) 44 [some (.ref 0), some (.int v1), some (.long v2), none, some (.int v4), some (.int v5), none, none] [] f g) : ∀ (n : Nat) {v1 : Int32} {v2 : Int64} {v4 : Int32} {v5 : Int32} {v6 : Int32} {v7 : Int32} {f : xM} {r : Int32 × xM}, pX12_ring_b64 F K44 n v1 v2 v4 v5 v6 v7 f = some r → X mX12_ring 6 (some (.int r.1), r.2, g) 64 [some (.ref 0), some (.int v1), some (.long v2), none, some (.int v4), some (.int v5), some (.int v6), some (.int v7)] [] f g := by
  intro n
  induction n with
  | zero => intro v1 v2 v4 v5 v6 v7 f r h; cases h
  | succ n ih =>
    intro v1 v2 v4 v5 v6 v7 f r h
    rw [pX12_ring_b64] at h
    refine X.iload (i := 7) dX12_ring_64 rfl ?_
    refine X.iload (i := 5) dX12_ring_66 rfl ?_
    refine X.icmp_ge (tgt := 105) dX12_ring_68 (by decide) (fun c6 => ?_) (fun c6 => ?_)
    · rw [if_pos c6] at h
      refine X.aload_n (i := 0) dX12_ring_105 rfl rfl ?_
      refine X.getR (k0 := 33) kX12 sM_0 (Nat.le_of_ble_eq_true rfl) rfl lfX12_54 dX12_ring_106 ?_
      refine X.iload (i := 5) dX12_ring_109 rfl ?_
      refine X.iload (i := 6) dX12_ring_111 rfl ?_
      by_cases c7 : xin v5 1026
      rotate_left
      · rw [if_neg c7] at h; cases h
      rw [if_pos c7] at h
      refine X.iast sM_14 c7 dX12_ring_113 ?_
      refine X.iinc (i := 5) (v := (v5 + (1 : Int32))) (L' := [some (.ref 0), some (.int v1), some (.long v2), none, some (.int v4), some (.int (v5 + (1 : Int32))), some (.int v6), some (.int v7)]) dX12_ring_114 rfl rfl (Nat.le_of_ble_eq_true rfl) rfl ?_
      refine X.goto (tgt := 44) dX12_ring_117 (by decide) ?_
      exact X.weaken (xle_c (xle_c (xle_c (xle_n (xle_c (xle_c (xle_n (xle_n xle_e)))))))) (hK44 h)
    · rw [if_neg c6] at h
      refine X.aload_n (i := 0) dX12_ring_71 rfl rfl ?_
      refine X.getR (k0 := 33) kX12 sM_0 (Nat.le_of_ble_eq_true rfl) rfl lfX12_54 dX12_ring_72 ?_
      refine X.iload (i := 7) dX12_ring_75 rfl ?_
      by_cases c8 : xin v7 1026
      rotate_left
      · rw [if_neg c8] at h; cases h
      rw [if_pos c8] at h
      refine X.iald sM_14 c8 dX12_ring_77 ?_
      refine X.iload (i := 6) dX12_ring_78 rfl ?_
      refine X.icmp_ne (tgt := 99) dX12_ring_80 (by decide) (fun c9 => ?_) (fun c9 => ?_)
      · rw [if_neg c9] at h
        refine X.iinc (i := 7) (v := (v7 + (1 : Int32))) (L' := [some (.ref 0), some (.int v1), some (.long v2), none, some (.int v4), some (.int v5), some (.int v6), some (.int (v7 + (1 : Int32)))]) dX12_ring_99 rfl rfl (Nat.le_of_ble_eq_true rfl) rfl ?_
        refine X.goto (tgt := 64) dX12_ring_102 (by decide) ?_
        exact X.weaken (xle_c (xle_c (xle_c (xle_n (xle_c (xle_c (xle_c (xle_c xle_e)))))))) (ih h)
      · rw [if_pos c9] at h
        refine X.iload (i := 4) dX12_ring_83 rfl ?_
        refine X.if_ne (tgt := 93) dX12_ring_85 (by decide) (fun c10 => ?_) (fun c10 => ?_)
        · rw [if_neg c10] at h
          refine X.iload (i := 5) dX12_ring_93 rfl ?_
          refine X.iload (i := 7) dX12_ring_95 rfl ?_
          refine X.isub dX12_ring_97 ?_
          obtain rfl := Option.some.inj h
          exact X.iret dX12_ring_98 rfl rfl
        · rw [if_pos c10] at h
          refine X.iload (i := 7) dX12_ring_88 rfl ?_
          refine X.goto (tgt := 98) dX12_ring_90 (by decide) ?_
          obtain rfl := Option.some.inj h
          exact X.iret dX12_ring_98 rfl rfl
def pX12_ring_b44 (F : Nat) : Nat → Int32 → Int64 → Int32 → Int32 → xM → Option (Int32 × xM)
  | 0, _, _, _, _, _ => none
  | n + 1, v1, v2, v4, v5, f => (if xin (v5 - (1 : Int32)) 1026 then (Option.bind (pX12_afterRow F f (f 14 (v5 - (1 : Int32)).toNatClampNeg) v1 v2) fun q5 => (pX12_ring_b64 F (pX12_ring_b44 F n) F v1 v2 v4 v5 q5 (0 : Int32) f)) else none)
set_option maxRecDepth 100000 in
set_option maxHeartbeats 4000000 in
theorem tX12_ring_b44 {F : Nat} {g : xN} : ∀ (n : Nat) {v1 : Int32} {v2 : Int64} {v4 : Int32} {v5 : Int32} {f : xM} {r : Int32 × xM}, pX12_ring_b44 F n v1 v2 v4 v5 f = some r → X mX12_ring 6 (some (.int r.1), r.2, g) 44 [some (.ref 0), some (.int v1), some (.long v2), none, some (.int v4), some (.int v5), none, none] [] f g := by
  intro n
  induction n with
  | zero => intro v1 v2 v4 v5 f r h; cases h
  | succ n ih =>
    intro v1 v2 v4 v5 f r h
    rw [pX12_ring_b44] at h
    refine X.aload_n (i := 0) dX12_ring_44 rfl rfl ?_
    refine X.aload_n (i := 0) dX12_ring_45 rfl rfl ?_
    refine X.getR (k0 := 33) kX12 sM_0 (Nat.le_of_ble_eq_true rfl) rfl lfX12_54 dX12_ring_46 ?_
    refine X.iload (i := 5) dX12_ring_49 rfl ?_
    refine X.iconst (v := (1 : Int32)) dX12_ring_51 (by decide) ?_
    refine X.isub dX12_ring_52 ?_
    by_cases c4 : xin (v5 - (1 : Int32)) 1026
    rotate_left
    · rw [if_neg c4] at h; cases h
    rw [if_pos c4] at h
    refine X.iald sM_14 c4 dX12_ring_53 ?_
    refine X.iload_n (i := 1) dX12_ring_54 rfl rfl ?_
    refine X.lload_n (i := 2) dX12_ring_55 rfl rfl ?_
    obtain ⟨q5, e5, h⟩ := xbind h
    try dsimp only at h
    refine X.callV (μ' := mX12_afterRow) (As := [.int (f 14 (v5 - (1 : Int32)).toNatClampNeg), .int v1, .long v2]) (st := []) (st1 := [.int q5]) (r := some (.int q5)) (f' := f) (g' := g) (tX12_afterRow e5) (Nat.le_of_ble_eq_true rfl) cwX12_afterRow rfl mlX12_187 sM_0 kX12 rfl rfl rfl (Nat.le_of_ble_eq_true rfl) dX12_ring_56 ?_
    refine X.istore (i := 6) (L' := [some (.ref 0), some (.int v1), some (.long v2), none, some (.int v4), some (.int v5), some (.int q5), none]) dX12_ring_59 (Nat.le_of_ble_eq_true rfl) rfl ?_
    refine X.iconst (v := (0 : Int32)) dX12_ring_61 (by decide) ?_
    refine X.istore (i := 7) (L' := [some (.ref 0), some (.int v1), some (.long v2), none, some (.int v4), some (.int v5), some (.int q5), some (.int (0 : Int32))]) dX12_ring_62 (Nat.le_of_ble_eq_true rfl) rfl ?_
    exact X.weaken (xle_c (xle_c (xle_c (xle_n (xle_c (xle_c (xle_c (xle_c xle_e)))))))) (tX12_ring_b64 ih F h)
def pX12_ring (F : Nat) (v1 : Int32) (v2 : Int64) (v4 : Int32) (f : xM) : Option (Int32 × xM) := (Option.bind (pX12_noRow F (xu f 0 0 (0 : Int32)) v1 (3 : Int32) v2) fun q1 => (if q1 = 0 then (if (pX12_in v4.toInt64 (0 : Int64) (1 : Int64)) = 0 then some (((-2 : Int32), (xu f 0 0 (0 : Int32)))) else (pX12_ring_b44 F F v1 v2 v4 (1 : Int32) (xu (xu f 0 0 (0 : Int32)) 14 0 ((xu f 0 0 (0 : Int32)) 7 0)))) else some (((-2 : Int32), (xu f 0 0 (0 : Int32))))))
set_option maxRecDepth 100000 in
set_option maxHeartbeats 4000000 in
theorem tX12_ring {F : Nat} {g : xN} {v1 : Int32} {v2 : Int64} {v4 : Int32} {f : xM} {r : Int32 × xM} (h : pX12_ring F v1 v2 v4 f = some r) : XT mX12_ring 6 [.ref 0, .int v1, .long v2, .int v4] f g (some (.int r.1), r.2, g) := by
  unfold pX12_ring at h
  refine XT.of (L := [some (.ref 0), some (.int v1), some (.long v2), none, some (.int v4), none, none, none]) [some (.ref 0), some (.int v1), some (.long v2), none, some (.int v4)] rfl (Nat.le_of_ble_eq_true rfl) rfl (xle_c (xle_c (xle_c (xle_n (xle_c (xle_z (xle_z (xle_z xle_e)))))))) ?_
  refine X.aload_n (i := 0) dX12_ring_0 rfl rfl ?_
  refine X.iconst (v := (0 : Int32)) dX12_ring_1 (by decide) ?_
  refine X.putI (k0 := 0) kX12 sM_0 (Nat.le_of_ble_eq_true rfl) rfl lfX12_57 rfl rfl dX12_ring_2 ?_
  refine X.aload_n (i := 0) dX12_ring_5 rfl rfl ?_
  refine X.iload_n (i := 1) dX12_ring_6 rfl rfl ?_
  refine X.iconst (v := (3 : Int32)) dX12_ring_7 (by decide) ?_
  refine X.lload_n (i := 2) dX12_ring_8 rfl rfl ?_
  obtain ⟨q1, e1, h⟩ := xbind h
  try dsimp only at h
  refine X.callV (μ' := mX12_noRow) (As := [.int v1, .int (3 : Int32), .long v2]) (st := []) (st1 := [.int q1]) (r := some (.int q1)) (f' := (xu f 0 0 (0 : Int32))) (g' := g) (tX12_noRow e1) (Nat.le_of_ble_eq_true rfl) cwX12_noRow rfl mlX12_183 sM_0 kX12 rfl rfl rfl (Nat.le_of_ble_eq_true rfl) dX12_ring_9 ?_
  refine X.if_ne (tgt := 26) dX12_ring_12 (by decide) (fun c2 => ?_) (fun c2 => ?_)
  · rw [if_neg c2] at h
    refine X.bipush (v := (-2 : Int32)) dX12_ring_26 (by decide) ?_
    obtain rfl := Option.some.inj h
    exact X.iret dX12_ring_28 rfl rfl
  · rw [if_pos c2] at h
    refine X.iload (i := 4) dX12_ring_15 rfl ?_
    refine X.i2l dX12_ring_17 ?_
    refine X.lconst (v := (0 : Int64)) dX12_ring_18 (by decide) ?_
    refine X.lconst (v := (1 : Int64)) dX12_ring_19 (by decide) ?_
    refine X.callS (μ' := mX12_in) (As := [.long v4.toInt64, .long (0 : Int64), .long (1 : Int64)]) (st := []) (st1 := [.int (pX12_in v4.toInt64 (0 : Int64) (1 : Int64))]) (r := some (.int (pX12_in v4.toInt64 (0 : Int64) (1 : Int64)))) (f' := (xu f 0 0 (0 : Int32))) (g' := g) (tX12_in rfl) (Nat.le_of_ble_eq_true rfl) cwX12_in rfl mlX12_65 rfl rfl rfl (Nat.le_of_ble_eq_true rfl) dX12_ring_20 ?_
    refine X.if_ne (tgt := 29) dX12_ring_23 (by decide) (fun c3 => ?_) (fun c3 => ?_)
    · rw [if_neg c3] at h
      refine X.aload_n (i := 0) dX12_ring_29 rfl rfl ?_
      refine X.getR (k0 := 33) kX12 sM_0 (Nat.le_of_ble_eq_true rfl) rfl lfX12_54 dX12_ring_30 ?_
      refine X.iconst (v := (0 : Int32)) dX12_ring_33 (by decide) ?_
      refine X.aload_n (i := 0) dX12_ring_34 rfl rfl ?_
      refine X.getR (k0 := 18) kX12 sM_0 (Nat.le_of_ble_eq_true rfl) rfl lfX12_32 dX12_ring_35 ?_
      refine X.iconst (v := (0 : Int32)) dX12_ring_38 (by decide) ?_
      refine X.ialdK (m := 0) sM_7 (by decide) (by decide) dX12_ring_39 ?_
      refine X.iastK (m := 0) sM_14 (by decide) (by decide) dX12_ring_40 ?_
      refine X.iconst (v := (1 : Int32)) dX12_ring_41 (by decide) ?_
      refine X.istore (i := 5) (L' := [some (.ref 0), some (.int v1), some (.long v2), none, some (.int v4), some (.int (1 : Int32)), none, none]) dX12_ring_42 (Nat.le_of_ble_eq_true rfl) rfl ?_
      exact X.weaken (xle_c (xle_c (xle_c (xle_n (xle_c (xle_c (xle_n (xle_n xle_e)))))))) (tX12_ring_b44 F h)
    · rw [if_pos c3] at h
      refine X.bipush (v := (-2 : Int32)) dX12_ring_26 (by decide) ?_
      obtain rfl := Option.some.inj h
      exact X.iret dX12_ring_28 rfl rfl
def pX12_names (F : Nat) (f : xM) : Option (Int32) := (Option.bind (pX12_power F (4 : Int32) (f 0 4)) fun q1 => some (q1))
set_option maxRecDepth 100000 in
set_option maxHeartbeats 4000000 in
theorem tX12_names {F : Nat} {f : xM} {g : xN} {r : Int32} (h : pX12_names F f = some r) : XT mX12_names 1 [.ref 0] f g (some (.int r), f, g) := by
  unfold pX12_names at h
  refine XT.of (L := [some (.ref 0)]) [some (.ref 0)] rfl (Nat.le_of_ble_eq_true rfl) rfl (xle_c xle_e) ?_
  refine X.iconst (v := (4 : Int32)) dX12_names_0 (by decide) ?_
  refine X.aload_n (i := 0) dX12_names_1 rfl rfl ?_
  refine X.getI (k0 := 4) kX12 sM_0 (Nat.le_of_ble_eq_true rfl) rfl lfX12_13 dX12_names_2 ?_
  obtain ⟨q1, e1, h⟩ := xbind h
  try dsimp only at h
  refine X.callS (μ' := mX12_power) (As := [.int (4 : Int32), .int (f 0 4)]) (st := []) (st1 := [.int q1]) (r := some (.int q1)) (f' := f) (g' := g) (tX12_power e1) (Nat.le_of_ble_eq_true rfl) cwX12_power rfl mlX12_121 rfl rfl rfl (Nat.le_of_ble_eq_true rfl) dX12_names_5 ?_
  obtain rfl := Option.some.inj h
  exact X.iret dX12_names_8 rfl rfl
def pX12_findFirst_b85 (F : Nat) (K26 : Int32 → Int64 → Int32 → xM → Option (xM)) : Nat → Int32 → Int64 → Int32 → Int32 → xM → Option (xM)
  | 0, _, _, _, _, _ => none
  | n + 1, v1, v2, v4, v5, f => (if (f 0 4) ≤ v5 then (K26 v1 v2 (v4 + (1 : Int32)) f) else (Option.bind (pX12_letterOf F f v4 v5) fun q7 => (Option.bind (pX12_letterOf F f (f 0 28) v5) fun q8 => (if q7 = q8 then (pX12_findFirst_b85 F K26 n v1 v2 v4 (v5 + (1 : Int32)) (xu f 0 29 ((f 0 29) &&& (-1 : Int32)))) else (pX12_findFirst_b85 F K26 n v1 v2 v4 (v5 + (1 : Int32)) (xu f 0 29 ((f 0 29) &&& (((1 : Int32) <<< (v5 &&& 31)) ^^^ (-1 : Int32)))))))))
set_option maxRecDepth 100000 in
set_option maxHeartbeats 4000000 in
theorem tX12_findFirst_b85 {F : Nat} {g : xN} {K26 : Int32 → Int64 → Int32 → xM → Option (xM)} (hK26 : ∀ {v1 : Int32} {v2 : Int64} {v4 : Int32} {f : xM} {r : xM}, K26 v1 v2 v4 f = some r → X mX12_findFirst 6 (none, r, g) 26 [some (.ref 0), some (.int v1), some (.long v2), none, some (.int v4), none] [] f g) : ∀ (n : Nat) {v1 : Int32} {v2 : Int64} {v4 : Int32} {v5 : Int32} {f : xM} {r : xM}, pX12_findFirst_b85 F K26 n v1 v2 v4 v5 f = some r → X mX12_findFirst 6 (none, r, g) 85 [some (.ref 0), some (.int v1), some (.long v2), none, some (.int v4), some (.int v5)] [] f g := by
  intro n
  induction n with
  | zero => intro v1 v2 v4 v5 f r h; cases h
  | succ n ih =>
    intro v1 v2 v4 v5 f r h
    rw [pX12_findFirst_b85] at h
    refine X.iload (i := 5) dX12_findFirst_85 rfl ?_
    refine X.aload_n (i := 0) dX12_findFirst_87 rfl rfl ?_
    refine X.getI (k0 := 4) kX12 sM_0 (Nat.le_of_ble_eq_true rfl) rfl lfX12_13 dX12_findFirst_88 ?_
    refine X.icmp_ge (tgt := 140) dX12_findFirst_91 (by decide) (fun c6 => ?_) (fun c6 => ?_)
    · rw [if_pos c6] at h
      refine X.iinc (i := 4) (v := (v4 + (1 : Int32))) (L' := [some (.ref 0), some (.int v1), some (.long v2), none, some (.int (v4 + (1 : Int32))), some (.int v5)]) dX12_findFirst_140 rfl rfl (Nat.le_of_ble_eq_true rfl) rfl ?_
      refine X.goto (tgt := 26) dX12_findFirst_143 (by decide) ?_
      exact X.weaken (xle_c (xle_c (xle_c (xle_n (xle_c (xle_n xle_e)))))) (hK26 h)
    · rw [if_neg c6] at h
      refine X.aload_n (i := 0) dX12_findFirst_94 rfl rfl ?_
      refine X.dup dX12_findFirst_95 rfl ?_
      refine X.getI (k0 := 29) kX12 sM_0 (Nat.le_of_ble_eq_true rfl) rfl lfX12_218 dX12_findFirst_96 ?_
      refine X.aload_n (i := 0) dX12_findFirst_99 rfl rfl ?_
      refine X.iload (i := 4) dX12_findFirst_100 rfl ?_
      refine X.iload (i := 5) dX12_findFirst_102 rfl ?_
      obtain ⟨q7, e7, h⟩ := xbind h
      try dsimp only at h
      refine X.callV (μ' := mX12_letterOf) (As := [.int v4, .int v5]) (st := [.int (f 0 29), .ref 0]) (st1 := [.int q7, .int (f 0 29), .ref 0]) (r := some (.int q7)) (f' := f) (g' := g) (tX12_letterOf e7) (Nat.le_of_ble_eq_true rfl) cwX12_letterOf rfl mlX12_124 sM_0 kX12 rfl rfl rfl (Nat.le_of_ble_eq_true rfl) dX12_findFirst_104 ?_
      refine X.aload_n (i := 0) dX12_findFirst_107 rfl rfl ?_
      refine X.aload_n (i := 0) dX12_findFirst_108 rfl rfl ?_
      refine X.getI (k0 := 28) kX12 sM_0 (Nat.le_of_ble_eq_true rfl) rfl lfX12_215 dX12_findFirst_109 ?_
      refine X.iload (i := 5) dX12_findFirst_112 rfl ?_
      obtain ⟨q8, e8, h⟩ := xbind h
      try dsimp only at h
      refine X.callV (μ' := mX12_letterOf) (As := [.int (f 0 28), .int v5]) (st := [.int q7, .int (f 0 29), .ref 0]) (st1 := [.int q8, .int q7, .int (f 0 29), .ref 0]) (r := some (.int q8)) (f' := f) (g' := g) (tX12_letterOf e8) (Nat.le_of_ble_eq_true rfl) cwX12_letterOf rfl mlX12_124 sM_0 kX12 rfl rfl rfl (Nat.le_of_ble_eq_true rfl) dX12_findFirst_114 ?_
      refine X.icmp_ne (tgt := 124) dX12_findFirst_117 (by decide) (fun c9 => ?_) (fun c9 => ?_)
      · rw [if_neg c9] at h
        refine X.iconst (v := (1 : Int32)) dX12_findFirst_124 (by decide) ?_
        refine X.iload (i := 5) dX12_findFirst_125 rfl ?_
        refine X.ishl dX12_findFirst_127 ?_
        refine X.iconst (v := (-1 : Int32)) dX12_findFirst_128 (by decide) ?_
        refine X.ixor dX12_findFirst_129 ?_
        refine X.iand dX12_findFirst_130 ?_
        refine X.putI (k0 := 29) kX12 sM_0 (Nat.le_of_ble_eq_true rfl) rfl lfX12_218 rfl rfl dX12_findFirst_131 ?_
        refine X.iinc (i := 5) (v := (v5 + (1 : Int32))) (L' := [some (.ref 0), some (.int v1), some (.long v2), none, some (.int v4), some (.int (v5 + (1 : Int32)))]) dX12_findFirst_134 rfl rfl (Nat.le_of_ble_eq_true rfl) rfl ?_
        refine X.goto (tgt := 85) dX12_findFirst_137 (by decide) ?_
        exact X.weaken (xle_c (xle_c (xle_c (xle_n (xle_c (xle_c xle_e)))))) (ih h)
      · rw [if_pos c9] at h
        refine X.iconst (v := (-1 : Int32)) dX12_findFirst_120 (by decide) ?_
        refine X.goto (tgt := 130) dX12_findFirst_121 (by decide) ?_
        refine X.iand dX12_findFirst_130 ?_
        refine X.putI (k0 := 29) kX12 sM_0 (Nat.le_of_ble_eq_true rfl) rfl lfX12_218 rfl rfl dX12_findFirst_131 ?_
        refine X.iinc (i := 5) (v := (v5 + (1 : Int32))) (L' := [some (.ref 0), some (.int v1), some (.long v2), none, some (.int v4), some (.int (v5 + (1 : Int32)))]) dX12_findFirst_134 rfl rfl (Nat.le_of_ble_eq_true rfl) rfl ?_
        refine X.goto (tgt := 85) dX12_findFirst_137 (by decide) ?_
        exact X.weaken (xle_c (xle_c (xle_c (xle_n (xle_c (xle_c xle_e)))))) (ih h)
def pX12_findFirst_b26 (F : Nat) : Nat → Int32 → Int64 → Int32 → xM → Option (xM)
  | 0, _, _, _, _ => none
  | n + 1, v1, v2, v4, f => (Option.bind (pX12_names F f) fun q1 => (if q1 ≤ v4 then some (f) else (Option.bind (pX12_afterRow F f v4 v1 v2) fun q3 => (if q3 = (f 7 0) then (if (f 0 27) = 0 then (pX12_findFirst_b85 F (pX12_findFirst_b26 F n) F v1 v2 v4 (0 : Int32) (xu (xu f 0 28 v4) 0 27 (((xu f 0 28 v4) 0 27) + (1 : Int32)))) else (pX12_findFirst_b85 F (pX12_findFirst_b26 F n) F v1 v2 v4 (0 : Int32) (xu (xu f 0 28 (f 0 28)) 0 27 (((xu f 0 28 (f 0 28)) 0 27) + (1 : Int32))))) else (pX12_findFirst_b26 F n v1 v2 (v4 + (1 : Int32)) f)))))
set_option maxRecDepth 100000 in
set_option maxHeartbeats 4000000 in
theorem tX12_findFirst_b26 {F : Nat} {g : xN} : ∀ (n : Nat) {v1 : Int32} {v2 : Int64} {v4 : Int32} {f : xM} {r : xM}, pX12_findFirst_b26 F n v1 v2 v4 f = some r → X mX12_findFirst 6 (none, r, g) 26 [some (.ref 0), some (.int v1), some (.long v2), none, some (.int v4), none] [] f g := by
  intro n
  induction n with
  | zero => intro v1 v2 v4 f r h; cases h
  | succ n ih =>
    intro v1 v2 v4 f r h
    rw [pX12_findFirst_b26] at h
    refine X.iload (i := 4) dX12_findFirst_26 rfl ?_
    refine X.aload_n (i := 0) dX12_findFirst_28 rfl rfl ?_
    obtain ⟨q1, e1, h⟩ := xbind h
    try dsimp only at h
    refine X.callV (μ' := mX12_names) (As := []) (st := [.int v4]) (st1 := [.int q1, .int v4]) (r := some (.int q1)) (f' := f) (g' := g) (tX12_names e1) (Nat.le_of_ble_eq_true rfl) cwX12_names rfl mlX12_221 sM_0 kX12 rfl rfl rfl (Nat.le_of_ble_eq_true rfl) dX12_findFirst_29 ?_
    refine X.icmp_ge (tgt := 146) dX12_findFirst_32 (by decide) (fun c2 => ?_) (fun c2 => ?_)
    · rw [if_pos c2] at h
      obtain rfl := Option.some.inj h
      exact X.vret dX12_findFirst_146 rfl rfl
    · rw [if_neg c2] at h
      refine X.aload_n (i := 0) dX12_findFirst_35 rfl rfl ?_
      refine X.iload (i := 4) dX12_findFirst_36 rfl ?_
      refine X.iload_n (i := 1) dX12_findFirst_38 rfl rfl ?_
      refine X.lload_n (i := 2) dX12_findFirst_39 rfl rfl ?_
      obtain ⟨q3, e3, h⟩ := xbind h
      try dsimp only at h
      refine X.callV (μ' := mX12_afterRow) (As := [.int v4, .int v1, .long v2]) (st := []) (st1 := [.int q3]) (r := some (.int q3)) (f' := f) (g' := g) (tX12_afterRow e3) (Nat.le_of_ble_eq_true rfl) cwX12_afterRow rfl mlX12_187 sM_0 kX12 rfl rfl rfl (Nat.le_of_ble_eq_true rfl) dX12_findFirst_40 ?_
      refine X.aload_n (i := 0) dX12_findFirst_43 rfl rfl ?_
      refine X.getR (k0 := 18) kX12 sM_0 (Nat.le_of_ble_eq_true rfl) rfl lfX12_32 dX12_findFirst_44 ?_
      refine X.iconst (v := (0 : Int32)) dX12_findFirst_47 (by decide) ?_
      refine X.ialdK (m := 0) sM_7 (by decide) (by decide) dX12_findFirst_48 ?_
      refine X.icmp_ne (tgt := 140) dX12_findFirst_49 (by decide) (fun c4 => ?_) (fun c4 => ?_)
      · rw [if_neg c4] at h
        refine X.iinc (i := 4) (v := (v4 + (1 : Int32))) (L' := [some (.ref 0), some (.int v1), some (.long v2), none, some (.int (v4 + (1 : Int32))), none]) dX12_findFirst_140 rfl rfl (Nat.le_of_ble_eq_true rfl) rfl ?_
        refine X.goto (tgt := 26) dX12_findFirst_143 (by decide) ?_
        exact X.weaken (xle_c (xle_c (xle_c (xle_n (xle_c (xle_n xle_e)))))) (ih h)
      · rw [if_pos c4] at h
        refine X.aload_n (i := 0) dX12_findFirst_52 rfl rfl ?_
        refine X.aload_n (i := 0) dX12_findFirst_53 rfl rfl ?_
        refine X.getI (k0 := 27) kX12 sM_0 (Nat.le_of_ble_eq_true rfl) rfl lfX12_212 dX12_findFirst_54 ?_
        refine X.if_ne (tgt := 65) dX12_findFirst_57 (by decide) (fun c5 => ?_) (fun c5 => ?_)
        · rw [if_neg c5] at h
          refine X.aload_n (i := 0) dX12_findFirst_65 rfl rfl ?_
          refine X.getI (k0 := 28) kX12 sM_0 (Nat.le_of_ble_eq_true rfl) rfl lfX12_215 dX12_findFirst_66 ?_
          refine X.putI (k0 := 28) kX12 sM_0 (Nat.le_of_ble_eq_true rfl) rfl lfX12_215 rfl rfl dX12_findFirst_69 ?_
          refine X.aload_n (i := 0) dX12_findFirst_72 rfl rfl ?_
          refine X.dup dX12_findFirst_73 rfl ?_
          refine X.getI (k0 := 27) kX12 sM_0 (Nat.le_of_ble_eq_true rfl) rfl lfX12_212 dX12_findFirst_74 ?_
          refine X.iconst (v := (1 : Int32)) dX12_findFirst_77 (by decide) ?_
          refine X.iadd dX12_findFirst_78 ?_
          refine X.putI (k0 := 27) kX12 sM_0 (Nat.le_of_ble_eq_true rfl) rfl lfX12_212 rfl rfl dX12_findFirst_79 ?_
          refine X.iconst (v := (0 : Int32)) dX12_findFirst_82 (by decide) ?_
          refine X.istore (i := 5) (L' := [some (.ref 0), some (.int v1), some (.long v2), none, some (.int v4), some (.int (0 : Int32))]) dX12_findFirst_83 (Nat.le_of_ble_eq_true rfl) rfl ?_
          exact X.weaken (xle_c (xle_c (xle_c (xle_n (xle_c (xle_c xle_e)))))) (tX12_findFirst_b85 ih F h)
        · rw [if_pos c5] at h
          refine X.iload (i := 4) dX12_findFirst_60 rfl ?_
          refine X.goto (tgt := 69) dX12_findFirst_62 (by decide) ?_
          refine X.putI (k0 := 28) kX12 sM_0 (Nat.le_of_ble_eq_true rfl) rfl lfX12_215 rfl rfl dX12_findFirst_69 ?_
          refine X.aload_n (i := 0) dX12_findFirst_72 rfl rfl ?_
          refine X.dup dX12_findFirst_73 rfl ?_
          refine X.getI (k0 := 27) kX12 sM_0 (Nat.le_of_ble_eq_true rfl) rfl lfX12_212 dX12_findFirst_74 ?_
          refine X.iconst (v := (1 : Int32)) dX12_findFirst_77 (by decide) ?_
          refine X.iadd dX12_findFirst_78 ?_
          refine X.putI (k0 := 27) kX12 sM_0 (Nat.le_of_ble_eq_true rfl) rfl lfX12_212 rfl rfl dX12_findFirst_79 ?_
          refine X.iconst (v := (0 : Int32)) dX12_findFirst_82 (by decide) ?_
          refine X.istore (i := 5) (L' := [some (.ref 0), some (.int v1), some (.long v2), none, some (.int v4), some (.int (0 : Int32))]) dX12_findFirst_83 (Nat.le_of_ble_eq_true rfl) rfl ?_
          exact X.weaken (xle_c (xle_c (xle_c (xle_n (xle_c (xle_c xle_e)))))) (tX12_findFirst_b85 ih F h)
def pX12_findFirst (F : Nat) (v1 : Int32) (v2 : Int64) (f : xM) : Option (xM) := (pX12_findFirst_b26 F F v1 v2 (0 : Int32) (xu (xu (xu f 0 27 (0 : Int32)) 0 28 (-9 : Int32)) 0 29 (((1 : Int32) <<< (((xu (xu f 0 27 (0 : Int32)) 0 28 (-9 : Int32)) 0 4) &&& 31)) - (1 : Int32))))
set_option maxRecDepth 100000 in
set_option maxHeartbeats 4000000 in
theorem tX12_findFirst {F : Nat} {g : xN} {v1 : Int32} {v2 : Int64} {f : xM} {r : xM} (h : pX12_findFirst F v1 v2 f = some r) : XT mX12_findFirst 6 [.ref 0, .int v1, .long v2] f g (none, r, g) := by
  unfold pX12_findFirst at h
  refine XT.of (L := [some (.ref 0), some (.int v1), some (.long v2), none, none, none]) [some (.ref 0), some (.int v1), some (.long v2), none] rfl (Nat.le_of_ble_eq_true rfl) rfl (xle_c (xle_c (xle_c (xle_n (xle_z (xle_z xle_e)))))) ?_
  refine X.aload_n (i := 0) dX12_findFirst_0 rfl rfl ?_
  refine X.iconst (v := (0 : Int32)) dX12_findFirst_1 (by decide) ?_
  refine X.putI (k0 := 27) kX12 sM_0 (Nat.le_of_ble_eq_true rfl) rfl lfX12_212 rfl rfl dX12_findFirst_2 ?_
  refine X.aload_n (i := 0) dX12_findFirst_5 rfl rfl ?_
  refine X.bipush (v := (-9 : Int32)) dX12_findFirst_6 (by decide) ?_
  refine X.putI (k0 := 28) kX12 sM_0 (Nat.le_of_ble_eq_true rfl) rfl lfX12_215 rfl rfl dX12_findFirst_8 ?_
  refine X.aload_n (i := 0) dX12_findFirst_11 rfl rfl ?_
  refine X.iconst (v := (1 : Int32)) dX12_findFirst_12 (by decide) ?_
  refine X.aload_n (i := 0) dX12_findFirst_13 rfl rfl ?_
  refine X.getI (k0 := 4) kX12 sM_0 (Nat.le_of_ble_eq_true rfl) rfl lfX12_13 dX12_findFirst_14 ?_
  refine X.ishl dX12_findFirst_17 ?_
  refine X.iconst (v := (1 : Int32)) dX12_findFirst_18 (by decide) ?_
  refine X.isub dX12_findFirst_19 ?_
  refine X.putI (k0 := 29) kX12 sM_0 (Nat.le_of_ble_eq_true rfl) rfl lfX12_218 rfl rfl dX12_findFirst_20 ?_
  refine X.iconst (v := (0 : Int32)) dX12_findFirst_23 (by decide) ?_
  refine X.istore (i := 4) (L' := [some (.ref 0), some (.int v1), some (.long v2), none, some (.int (0 : Int32)), none]) dX12_findFirst_24 (Nat.le_of_ble_eq_true rfl) rfl ?_
  exact X.weaken (xle_c (xle_c (xle_c (xle_n (xle_c (xle_n xle_e)))))) (tX12_findFirst_b26 F h)
def pX12_first (F : Nat) (v1 : Int32) (v2 : Int64) (v4 : Int32) (f : xM) : Option (Int32 × xM) := (Option.bind (pX12_noRow F (xu f 0 0 (0 : Int32)) v1 (3 : Int32) v2) fun q1 => (if q1 = 0 then (if (pX12_in v4.toInt64 (0 : Int64) (2 : Int64)) = 0 then some (((-2 : Int32), (xu f 0 0 (0 : Int32)))) else (Option.bind (pX12_findFirst F v1 v2 (xu f 0 0 (0 : Int32))) fun q4 => (if v4 = 0 then some (((q4 0 27), q4)) else (if (q4 0 27) = 0 then some (((-9 : Int32), q4)) else (if v4 = (1 : Int32) then (Option.bind (pX12_told F q4 (q4 0 28)) fun q8 => some ((q8, q4))) else some (((q4 0 29), q4))))))) else some (((-2 : Int32), (xu f 0 0 (0 : Int32))))))
set_option maxRecDepth 100000 in
set_option maxHeartbeats 4000000 in
theorem tX12_first {F : Nat} {g : xN} {v1 : Int32} {v2 : Int64} {v4 : Int32} {f : xM} {r : Int32 × xM} (h : pX12_first F v1 v2 v4 f = some r) : XT mX12_first 7 [.ref 0, .int v1, .long v2, .int v4] f g (some (.int r.1), r.2, g) := by
  unfold pX12_first at h
  refine XT.of (L := [some (.ref 0), some (.int v1), some (.long v2), none, some (.int v4)]) [some (.ref 0), some (.int v1), some (.long v2), none, some (.int v4)] rfl (Nat.le_of_ble_eq_true rfl) rfl (xle_c (xle_c (xle_c (xle_n (xle_c xle_e))))) ?_
  refine X.aload_n (i := 0) dX12_first_0 rfl rfl ?_
  refine X.iconst (v := (0 : Int32)) dX12_first_1 (by decide) ?_
  refine X.putI (k0 := 0) kX12 sM_0 (Nat.le_of_ble_eq_true rfl) rfl lfX12_57 rfl rfl dX12_first_2 ?_
  refine X.aload_n (i := 0) dX12_first_5 rfl rfl ?_
  refine X.iload_n (i := 1) dX12_first_6 rfl rfl ?_
  refine X.iconst (v := (3 : Int32)) dX12_first_7 (by decide) ?_
  refine X.lload_n (i := 2) dX12_first_8 rfl rfl ?_
  obtain ⟨q1, e1, h⟩ := xbind h
  try dsimp only at h
  refine X.callV (μ' := mX12_noRow) (As := [.int v1, .int (3 : Int32), .long v2]) (st := []) (st1 := [.int q1]) (r := some (.int q1)) (f' := (xu f 0 0 (0 : Int32))) (g' := g) (tX12_noRow e1) (Nat.le_of_ble_eq_true rfl) cwX12_noRow rfl mlX12_183 sM_0 kX12 rfl rfl rfl (Nat.le_of_ble_eq_true rfl) dX12_first_9 ?_
  refine X.if_ne (tgt := 28) dX12_first_12 (by decide) (fun c2 => ?_) (fun c2 => ?_)
  · rw [if_neg c2] at h
    refine X.bipush (v := (-2 : Int32)) dX12_first_28 (by decide) ?_
    obtain rfl := Option.some.inj h
    exact X.iret dX12_first_30 rfl rfl
  · rw [if_pos c2] at h
    refine X.iload (i := 4) dX12_first_15 rfl ?_
    refine X.i2l dX12_first_17 ?_
    refine X.lconst (v := (0 : Int64)) dX12_first_18 (by decide) ?_
    refine X.ldc2 dX12_first_19 lcX12_224 ?_
    refine X.callS (μ' := mX12_in) (As := [.long v4.toInt64, .long (0 : Int64), .long (2 : Int64)]) (st := []) (st1 := [.int (pX12_in v4.toInt64 (0 : Int64) (2 : Int64))]) (r := some (.int (pX12_in v4.toInt64 (0 : Int64) (2 : Int64)))) (f' := (xu f 0 0 (0 : Int32))) (g' := g) (tX12_in rfl) (Nat.le_of_ble_eq_true rfl) cwX12_in rfl mlX12_65 rfl rfl rfl (Nat.le_of_ble_eq_true rfl) dX12_first_22 ?_
    refine X.if_ne (tgt := 31) dX12_first_25 (by decide) (fun c3 => ?_) (fun c3 => ?_)
    · rw [if_neg c3] at h
      refine X.aload_n (i := 0) dX12_first_31 rfl rfl ?_
      refine X.iload_n (i := 1) dX12_first_32 rfl rfl ?_
      refine X.lload_n (i := 2) dX12_first_33 rfl rfl ?_
      obtain ⟨q4, e4, h⟩ := xbind h
      try dsimp only at h
      refine X.callV (μ' := mX12_findFirst) (As := [.int v1, .long v2]) (st := []) (st1 := []) (r := none) (f' := q4) (g' := g) (tX12_findFirst e4) (Nat.le_of_ble_eq_true rfl) cwX12_findFirst rfl mlX12_226 sM_0 kX12 rfl rfl rfl (Nat.le_of_ble_eq_true rfl) dX12_first_34 ?_
      refine X.iload (i := 4) dX12_first_37 rfl ?_
      refine X.if_ne (tgt := 47) dX12_first_39 (by decide) (fun c5 => ?_) (fun c5 => ?_)
      · rw [if_neg c5] at h
        refine X.aload_n (i := 0) dX12_first_47 rfl rfl ?_
        refine X.getI (k0 := 27) kX12 sM_0 (Nat.le_of_ble_eq_true rfl) rfl lfX12_212 dX12_first_48 ?_
        refine X.if_ne (tgt := 59) dX12_first_51 (by decide) (fun c6 => ?_) (fun c6 => ?_)
        · rw [if_neg c6] at h
          refine X.iload (i := 4) dX12_first_59 rfl ?_
          refine X.iconst (v := (1 : Int32)) dX12_first_61 (by decide) ?_
          refine X.icmp_ne (tgt := 76) dX12_first_62 (by decide) (fun c7 => ?_) (fun c7 => ?_)
          · rw [if_neg c7] at h
            refine X.aload_n (i := 0) dX12_first_76 rfl rfl ?_
            refine X.getI (k0 := 29) kX12 sM_0 (Nat.le_of_ble_eq_true rfl) rfl lfX12_218 dX12_first_77 ?_
            obtain rfl := Option.some.inj h
            exact X.iret dX12_first_80 rfl rfl
          · rw [if_pos c7] at h
            refine X.aload_n (i := 0) dX12_first_65 rfl rfl ?_
            refine X.aload_n (i := 0) dX12_first_66 rfl rfl ?_
            refine X.getI (k0 := 28) kX12 sM_0 (Nat.le_of_ble_eq_true rfl) rfl lfX12_215 dX12_first_67 ?_
            obtain ⟨q8, e8, h⟩ := xbind h
            try dsimp only at h
            refine X.callV (μ' := mX12_told) (As := [.int (q4 0 28)]) (st := []) (st1 := [.int q8]) (r := some (.int q8)) (f' := q4) (g' := g) (tX12_told e8) (Nat.le_of_ble_eq_true rfl) cwX12_told rfl mlX12_135 sM_0 kX12 rfl rfl rfl (Nat.le_of_ble_eq_true rfl) dX12_first_70 ?_
            refine X.goto (tgt := 80) dX12_first_73 (by decide) ?_
            obtain rfl := Option.some.inj h
            exact X.iret dX12_first_80 rfl rfl
        · rw [if_pos c6] at h
          refine X.bipush (v := (-9 : Int32)) dX12_first_54 (by decide) ?_
          refine X.goto (tgt := 80) dX12_first_56 (by decide) ?_
          obtain rfl := Option.some.inj h
          exact X.iret dX12_first_80 rfl rfl
      · rw [if_pos c5] at h
        refine X.aload_n (i := 0) dX12_first_42 rfl rfl ?_
        refine X.getI (k0 := 27) kX12 sM_0 (Nat.le_of_ble_eq_true rfl) rfl lfX12_212 dX12_first_43 ?_
        obtain rfl := Option.some.inj h
        exact X.iret dX12_first_46 rfl rfl
    · rw [if_pos c3] at h
      refine X.bipush (v := (-2 : Int32)) dX12_first_28 (by decide) ?_
      obtain rfl := Option.some.inj h
      exact X.iret dX12_first_30 rfl rfl
def pX12_who_b58 (F : Nat) : Nat → Int32 → Int32 → Int32 → Int32 → Int32 → Int32 → xM → Option (Int32 × xM)
  | 0, _, _, _, _, _, _, _ => none
  | n + 1, v3, v4, v5, v6, v7, v8, f => (if (f 0 6) ≤ v8 then some ((v7, f)) else (if xin ((2 : Int32) + v8) 9 then (Option.bind (pX12_notice F f v5 (f 7 ((2 : Int32) + v8).toNatClampNeg) v3 v4) fun q9 => (if q9 = v6 then (pX12_who_b58 F n v3 v4 v5 v6 (v7 ||| ((1 : Int32) <<< (v8 &&& 31))) (v8 + (1 : Int32)) f) else (pX12_who_b58 F n v3 v4 v5 v6 (v7 ||| (0 : Int32)) (v8 + (1 : Int32)) f))) else none))
set_option maxRecDepth 100000 in
set_option maxHeartbeats 4000000 in
theorem tX12_who_b58 {F : Nat} {g : xN} : ∀ (n : Nat) {v3 : Int32} {v4 : Int32} {v5 : Int32} {v6 : Int32} {v7 : Int32} {v8 : Int32} {f : xM} {r : Int32 × xM}, pX12_who_b58 F n v3 v4 v5 v6 v7 v8 f = some r → X mX12_who 4 (some (.int r.1), r.2, g) 58 [some (.ref 0), none, none, some (.int v3), some (.int v4), some (.int v5), some (.int v6), some (.int v7), some (.int v8)] [] f g := by
  intro n
  induction n with
  | zero => intro v3 v4 v5 v6 v7 v8 f r h; cases h
  | succ n ih =>
    intro v3 v4 v5 v6 v7 v8 f r h
    rw [pX12_who_b58] at h
    refine X.iload (i := 8) dX12_who_58 rfl ?_
    refine X.aload_n (i := 0) dX12_who_60 rfl rfl ?_
    refine X.getI (k0 := 6) kX12 sM_0 (Nat.le_of_ble_eq_true rfl) rfl lfX12_62 dX12_who_61 ?_
    refine X.icmp_ge (tgt := 109) dX12_who_64 (by decide) (fun c7 => ?_) (fun c7 => ?_)
    · rw [if_pos c7] at h
      refine X.iload (i := 7) dX12_who_109 rfl ?_
      obtain rfl := Option.some.inj h
      exact X.iret dX12_who_111 rfl rfl
    · rw [if_neg c7] at h
      refine X.iload (i := 7) dX12_who_67 rfl ?_
      refine X.aload_n (i := 0) dX12_who_69 rfl rfl ?_
      refine X.iload (i := 5) dX12_who_70 rfl ?_
      refine X.aload_n (i := 0) dX12_who_72 rfl rfl ?_
      refine X.getR (k0 := 18) kX12 sM_0 (Nat.le_of_ble_eq_true rfl) rfl lfX12_32 dX12_who_73 ?_
      refine X.iconst (v := (2 : Int32)) dX12_who_76 (by decide) ?_
      refine X.iload (i := 8) dX12_who_77 rfl ?_
      refine X.iadd dX12_who_79 ?_
      by_cases c8 : xin ((2 : Int32) + v8) 9
      rotate_left
      · rw [if_neg c8] at h; cases h
      rw [if_pos c8] at h
      refine X.iald sM_7 c8 dX12_who_80 ?_
      refine X.iload_n (i := 3) dX12_who_81 rfl rfl ?_
      refine X.iload (i := 4) dX12_who_82 rfl ?_
      obtain ⟨q9, e9, h⟩ := xbind h
      try dsimp only at h
      refine X.callV (μ' := mX12_notice) (As := [.int v5, .int (f 7 ((2 : Int32) + v8).toNatClampNeg), .int v3, .int v4]) (st := [.int v7]) (st1 := [.int q9, .int v7]) (r := some (.int q9)) (f' := f) (g' := g) (tX12_notice e9) (Nat.le_of_ble_eq_true rfl) cwX12_notice rfl mlX12_149 sM_0 kX12 rfl rfl rfl (Nat.le_of_ble_eq_true rfl) dX12_who_84 ?_
      refine X.iload (i := 6) dX12_who_87 rfl ?_
      refine X.icmp_ne (tgt := 99) dX12_who_89 (by decide) (fun c10 => ?_) (fun c10 => ?_)
      · rw [if_neg c10] at h
        refine X.iconst (v := (0 : Int32)) dX12_who_99 (by decide) ?_
        refine X.ior dX12_who_100 ?_
        refine X.istore (i := 7) (L' := [some (.ref 0), none, none, some (.int v3), some (.int v4), some (.int v5), some (.int v6), some (.int (v7 ||| (0 : Int32))), some (.int v8)]) dX12_who_101 (Nat.le_of_ble_eq_true rfl) rfl ?_
        refine X.iinc (i := 8) (v := (v8 + (1 : Int32))) (L' := [some (.ref 0), none, none, some (.int v3), some (.int v4), some (.int v5), some (.int v6), some (.int (v7 ||| (0 : Int32))), some (.int (v8 + (1 : Int32)))]) dX12_who_103 rfl rfl (Nat.le_of_ble_eq_true rfl) rfl ?_
        refine X.goto (tgt := 58) dX12_who_106 (by decide) ?_
        exact X.weaken (xle_c (xle_n (xle_n (xle_c (xle_c (xle_c (xle_c (xle_c (xle_c xle_e))))))))) (ih h)
      · rw [if_pos c10] at h
        refine X.iconst (v := (1 : Int32)) dX12_who_92 (by decide) ?_
        refine X.iload (i := 8) dX12_who_93 rfl ?_
        refine X.ishl dX12_who_95 ?_
        refine X.goto (tgt := 100) dX12_who_96 (by decide) ?_
        refine X.ior dX12_who_100 ?_
        refine X.istore (i := 7) (L' := [some (.ref 0), none, none, some (.int v3), some (.int v4), some (.int v5), some (.int v6), some (.int (v7 ||| ((1 : Int32) <<< (v8 &&& 31)))), some (.int v8)]) dX12_who_101 (Nat.le_of_ble_eq_true rfl) rfl ?_
        refine X.iinc (i := 8) (v := (v8 + (1 : Int32))) (L' := [some (.ref 0), none, none, some (.int v3), some (.int v4), some (.int v5), some (.int v6), some (.int (v7 ||| ((1 : Int32) <<< (v8 &&& 31)))), some (.int (v8 + (1 : Int32)))]) dX12_who_103 rfl rfl (Nat.le_of_ble_eq_true rfl) rfl ?_
        refine X.goto (tgt := 58) dX12_who_106 (by decide) ?_
        exact X.weaken (xle_c (xle_n (xle_n (xle_c (xle_c (xle_c (xle_c (xle_c (xle_c xle_e))))))))) (ih h)
def pX12_who (F : Nat) (v1 : Int32) (v2 : Int32) (v3 : Int32) (v4 : Int32) (f : xM) : Option (Int32 × xM) := (Option.bind (pX12_nameOf F (xu f 0 0 (0 : Int32)) v1) fun q1 => (Option.bind (pX12_nameOf F (xu f 0 0 (0 : Int32)) v2) fun q2 => (if q1 = (-9 : Int32) then some (((-2 : Int32), (xu f 0 0 (0 : Int32)))) else (if q2 = (-9 : Int32) then some (((-2 : Int32), (xu f 0 0 (0 : Int32)))) else (if (pX12_noPlace (xu f 0 0 (0 : Int32)) v3) = 0 then (if (pX12_noLetter v4) = 0 then (pX12_who_b58 F F v3 v4 q1 q2 (0 : Int32) (0 : Int32) (xu f 0 0 (0 : Int32))) else some (((-2 : Int32), (xu f 0 0 (0 : Int32))))) else some (((-2 : Int32), (xu f 0 0 (0 : Int32)))))))))
set_option maxRecDepth 100000 in
set_option maxHeartbeats 4000000 in
theorem tX12_who {F : Nat} {g : xN} {v1 : Int32} {v2 : Int32} {v3 : Int32} {v4 : Int32} {f : xM} {r : Int32 × xM} (h : pX12_who F v1 v2 v3 v4 f = some r) : XT mX12_who 4 [.ref 0, .int v1, .int v2, .int v3, .int v4] f g (some (.int r.1), r.2, g) := by
  unfold pX12_who at h
  refine XT.of (L := [some (.ref 0), some (.int v1), some (.int v2), some (.int v3), some (.int v4), none, none, none, none]) [some (.ref 0), some (.int v1), some (.int v2), some (.int v3), some (.int v4)] rfl (Nat.le_of_ble_eq_true rfl) rfl (xle_c (xle_c (xle_c (xle_c (xle_c (xle_z (xle_z (xle_z (xle_z xle_e))))))))) ?_
  refine X.aload_n (i := 0) dX12_who_0 rfl rfl ?_
  refine X.iconst (v := (0 : Int32)) dX12_who_1 (by decide) ?_
  refine X.putI (k0 := 0) kX12 sM_0 (Nat.le_of_ble_eq_true rfl) rfl lfX12_57 rfl rfl dX12_who_2 ?_
  refine X.aload_n (i := 0) dX12_who_5 rfl rfl ?_
  refine X.iload_n (i := 1) dX12_who_6 rfl rfl ?_
  obtain ⟨q1, e1, h⟩ := xbind h
  try dsimp only at h
  refine X.callV (μ' := mX12_nameOf) (As := [.int v1]) (st := []) (st1 := [.int q1]) (r := some (.int q1)) (f' := (xu f 0 0 (0 : Int32))) (g' := g) (tX12_nameOf e1) (Nat.le_of_ble_eq_true rfl) cwX12_nameOf rfl mlX12_180 sM_0 kX12 rfl rfl rfl (Nat.le_of_ble_eq_true rfl) dX12_who_7 ?_
  refine X.istore (i := 5) (L' := [some (.ref 0), some (.int v1), some (.int v2), some (.int v3), some (.int v4), some (.int q1), none, none, none]) dX12_who_10 (Nat.le_of_ble_eq_true rfl) rfl ?_
  refine X.aload_n (i := 0) dX12_who_12 rfl rfl ?_
  refine X.iload_n (i := 2) dX12_who_13 rfl rfl ?_
  obtain ⟨q2, e2, h⟩ := xbind h
  try dsimp only at h
  refine X.callV (μ' := mX12_nameOf) (As := [.int v2]) (st := []) (st1 := [.int q2]) (r := some (.int q2)) (f' := (xu f 0 0 (0 : Int32))) (g' := g) (tX12_nameOf e2) (Nat.le_of_ble_eq_true rfl) cwX12_nameOf rfl mlX12_180 sM_0 kX12 rfl rfl rfl (Nat.le_of_ble_eq_true rfl) dX12_who_14 ?_
  refine X.istore (i := 6) (L' := [some (.ref 0), some (.int v1), some (.int v2), some (.int v3), some (.int v4), some (.int q1), some (.int q2), none, none]) dX12_who_17 (Nat.le_of_ble_eq_true rfl) rfl ?_
  refine X.iload (i := 5) dX12_who_19 rfl ?_
  refine X.bipush (v := (-9 : Int32)) dX12_who_21 (by decide) ?_
  refine X.icmp_eq (tgt := 49) dX12_who_23 (by decide) (fun c3 => ?_) (fun c3 => ?_)
  · rw [if_pos c3] at h
    refine X.bipush (v := (-2 : Int32)) dX12_who_49 (by decide) ?_
    obtain rfl := Option.some.inj h
    exact X.iret dX12_who_51 rfl rfl
  · rw [if_neg c3] at h
    refine X.iload (i := 6) dX12_who_26 rfl ?_
    refine X.bipush (v := (-9 : Int32)) dX12_who_28 (by decide) ?_
    refine X.icmp_eq (tgt := 49) dX12_who_30 (by decide) (fun c4 => ?_) (fun c4 => ?_)
    · rw [if_pos c4] at h
      refine X.bipush (v := (-2 : Int32)) dX12_who_49 (by decide) ?_
      obtain rfl := Option.some.inj h
      exact X.iret dX12_who_51 rfl rfl
    · rw [if_neg c4] at h
      refine X.aload_n (i := 0) dX12_who_33 rfl rfl ?_
      refine X.iload_n (i := 3) dX12_who_34 rfl rfl ?_
      refine X.callV (μ' := mX12_noPlace) (As := [.int v3]) (st := []) (st1 := [.int (pX12_noPlace (xu f 0 0 (0 : Int32)) v3)]) (r := some (.int (pX12_noPlace (xu f 0 0 (0 : Int32)) v3))) (f' := (xu f 0 0 (0 : Int32))) (g' := g) (tX12_noPlace rfl) (Nat.le_of_ble_eq_true rfl) cwX12_noPlace rfl mlX12_153 sM_0 kX12 rfl rfl rfl (Nat.le_of_ble_eq_true rfl) dX12_who_35 ?_
      refine X.if_ne (tgt := 49) dX12_who_38 (by decide) (fun c5 => ?_) (fun c5 => ?_)
      · rw [if_neg c5] at h
        refine X.bipush (v := (-2 : Int32)) dX12_who_49 (by decide) ?_
        obtain rfl := Option.some.inj h
        exact X.iret dX12_who_51 rfl rfl
      · rw [if_pos c5] at h
        refine X.iload (i := 4) dX12_who_41 rfl ?_
        refine X.callS (μ' := mX12_noLetter) (As := [.int v4]) (st := []) (st1 := [.int (pX12_noLetter v4)]) (r := some (.int (pX12_noLetter v4))) (f' := (xu f 0 0 (0 : Int32))) (g' := g) (tX12_noLetter rfl) (Nat.le_of_ble_eq_true rfl) cwX12_noLetter rfl mlX12_156 rfl rfl rfl (Nat.le_of_ble_eq_true rfl) dX12_who_43 ?_
        refine X.if_eq (tgt := 52) dX12_who_46 (by decide) (fun c6 => ?_) (fun c6 => ?_)
        · rw [if_pos c6] at h
          refine X.iconst (v := (0 : Int32)) dX12_who_52 (by decide) ?_
          refine X.istore (i := 7) (L' := [some (.ref 0), some (.int v1), some (.int v2), some (.int v3), some (.int v4), some (.int q1), some (.int q2), some (.int (0 : Int32)), none]) dX12_who_53 (Nat.le_of_ble_eq_true rfl) rfl ?_
          refine X.iconst (v := (0 : Int32)) dX12_who_55 (by decide) ?_
          refine X.istore (i := 8) (L' := [some (.ref 0), some (.int v1), some (.int v2), some (.int v3), some (.int v4), some (.int q1), some (.int q2), some (.int (0 : Int32)), some (.int (0 : Int32))]) dX12_who_56 (Nat.le_of_ble_eq_true rfl) rfl ?_
          exact X.weaken (xle_c (xle_n (xle_n (xle_c (xle_c (xle_c (xle_c (xle_c (xle_c xle_e))))))))) (tX12_who_b58 F h)
        · rw [if_neg c6] at h
          refine X.bipush (v := (-2 : Int32)) dX12_who_49 (by decide) ?_
          obtain rfl := Option.some.inj h
          exact X.iret dX12_who_51 rfl rfl
def pX12_unlike_b5 (F : Nat) (f : xM) : Nat → Int32 → Int32 → Int32 → Int32 → Option (Int32)
  | 0, _, _, _, _ => none
  | n + 1, v1, v2, v3, v4 => (if (f 0 4) ≤ v4 then some (v3) else (Option.bind (pX12_letterOf F f v1 v4) fun q2 => (Option.bind (pX12_letterOf F f v2 v4) fun q3 => (if q2 = q3 then (pX12_unlike_b5 F f n v1 v2 (v3 + (0 : Int32)) (v4 + (1 : Int32))) else (pX12_unlike_b5 F f n v1 v2 (v3 + (1 : Int32)) (v4 + (1 : Int32)))))))
set_option maxRecDepth 100000 in
set_option maxHeartbeats 4000000 in
theorem tX12_unlike_b5 {F : Nat} {f : xM} {g : xN} : ∀ (n : Nat) {v1 : Int32} {v2 : Int32} {v3 : Int32} {v4 : Int32} {r : Int32}, pX12_unlike_b5 F f n v1 v2 v3 v4 = some r → X mX12_unlike 2 (some (.int r), f, g) 5 [some (.ref 0), some (.int v1), some (.int v2), some (.int v3), some (.int v4)] [] f g := by
  intro n
  induction n with
  | zero => intro v1 v2 v3 v4 r h; cases h
  | succ n ih =>
    intro v1 v2 v3 v4 r h
    rw [pX12_unlike_b5] at h
    refine X.iload (i := 4) dX12_unlike_5 rfl ?_
    refine X.aload_n (i := 0) dX12_unlike_7 rfl rfl ?_
    refine X.getI (k0 := 4) kX12 sM_0 (Nat.le_of_ble_eq_true rfl) rfl lfX12_13 dX12_unlike_8 ?_
    refine X.icmp_ge (tgt := 45) dX12_unlike_11 (by decide) (fun c1 => ?_) (fun c1 => ?_)
    · rw [if_pos c1] at h
      refine X.iload_n (i := 3) dX12_unlike_45 rfl rfl ?_
      obtain rfl := Option.some.inj h
      exact X.iret dX12_unlike_46 rfl rfl
    · rw [if_neg c1] at h
      refine X.iload_n (i := 3) dX12_unlike_14 rfl rfl ?_
      refine X.aload_n (i := 0) dX12_unlike_15 rfl rfl ?_
      refine X.iload_n (i := 1) dX12_unlike_16 rfl rfl ?_
      refine X.iload (i := 4) dX12_unlike_17 rfl ?_
      obtain ⟨q2, e2, h⟩ := xbind h
      try dsimp only at h
      refine X.callV (μ' := mX12_letterOf) (As := [.int v1, .int v4]) (st := [.int v3]) (st1 := [.int q2, .int v3]) (r := some (.int q2)) (f' := f) (g' := g) (tX12_letterOf e2) (Nat.le_of_ble_eq_true rfl) cwX12_letterOf rfl mlX12_124 sM_0 kX12 rfl rfl rfl (Nat.le_of_ble_eq_true rfl) dX12_unlike_19 ?_
      refine X.aload_n (i := 0) dX12_unlike_22 rfl rfl ?_
      refine X.iload_n (i := 2) dX12_unlike_23 rfl rfl ?_
      refine X.iload (i := 4) dX12_unlike_24 rfl ?_
      obtain ⟨q3, e3, h⟩ := xbind h
      try dsimp only at h
      refine X.callV (μ' := mX12_letterOf) (As := [.int v2, .int v4]) (st := [.int q2, .int v3]) (st1 := [.int q3, .int q2, .int v3]) (r := some (.int q3)) (f' := f) (g' := g) (tX12_letterOf e3) (Nat.le_of_ble_eq_true rfl) cwX12_letterOf rfl mlX12_124 sM_0 kX12 rfl rfl rfl (Nat.le_of_ble_eq_true rfl) dX12_unlike_26 ?_
      refine X.icmp_ne (tgt := 36) dX12_unlike_29 (by decide) (fun c4 => ?_) (fun c4 => ?_)
      · rw [if_neg c4] at h
        refine X.iconst (v := (1 : Int32)) dX12_unlike_36 (by decide) ?_
        refine X.iadd dX12_unlike_37 ?_
        refine X.istore_n (i := 3) (L' := [some (.ref 0), some (.int v1), some (.int v2), some (.int (v3 + (1 : Int32))), some (.int v4)]) dX12_unlike_38 rfl (Nat.le_of_ble_eq_true rfl) rfl ?_
        refine X.iinc (i := 4) (v := (v4 + (1 : Int32))) (L' := [some (.ref 0), some (.int v1), some (.int v2), some (.int (v3 + (1 : Int32))), some (.int (v4 + (1 : Int32)))]) dX12_unlike_39 rfl rfl (Nat.le_of_ble_eq_true rfl) rfl ?_
        refine X.goto (tgt := 5) dX12_unlike_42 (by decide) ?_
        exact X.weaken (xle_c (xle_c (xle_c (xle_c (xle_c xle_e))))) (ih h)
      · rw [if_pos c4] at h
        refine X.iconst (v := (0 : Int32)) dX12_unlike_32 (by decide) ?_
        refine X.goto (tgt := 37) dX12_unlike_33 (by decide) ?_
        refine X.iadd dX12_unlike_37 ?_
        refine X.istore_n (i := 3) (L' := [some (.ref 0), some (.int v1), some (.int v2), some (.int (v3 + (0 : Int32))), some (.int v4)]) dX12_unlike_38 rfl (Nat.le_of_ble_eq_true rfl) rfl ?_
        refine X.iinc (i := 4) (v := (v4 + (1 : Int32))) (L' := [some (.ref 0), some (.int v1), some (.int v2), some (.int (v3 + (0 : Int32))), some (.int (v4 + (1 : Int32)))]) dX12_unlike_39 rfl rfl (Nat.le_of_ble_eq_true rfl) rfl ?_
        refine X.goto (tgt := 5) dX12_unlike_42 (by decide) ?_
        exact X.weaken (xle_c (xle_c (xle_c (xle_c (xle_c xle_e))))) (ih h)
def pX12_unlike (F : Nat) (f : xM) (v1 : Int32) (v2 : Int32) : Option (Int32) := (pX12_unlike_b5 F f F v1 v2 (0 : Int32) (0 : Int32))
set_option maxRecDepth 100000 in
set_option maxHeartbeats 4000000 in
theorem tX12_unlike {F : Nat} {f : xM} {g : xN} {v1 : Int32} {v2 : Int32} {r : Int32} (h : pX12_unlike F f v1 v2 = some r) : XT mX12_unlike 2 [.ref 0, .int v1, .int v2] f g (some (.int r), f, g) := by
  unfold pX12_unlike at h
  refine XT.of (L := [some (.ref 0), some (.int v1), some (.int v2), none, none]) [some (.ref 0), some (.int v1), some (.int v2)] rfl (Nat.le_of_ble_eq_true rfl) rfl (xle_c (xle_c (xle_c (xle_z (xle_z xle_e))))) ?_
  refine X.iconst (v := (0 : Int32)) dX12_unlike_0 (by decide) ?_
  refine X.istore_n (i := 3) (L' := [some (.ref 0), some (.int v1), some (.int v2), some (.int (0 : Int32)), none]) dX12_unlike_1 rfl (Nat.le_of_ble_eq_true rfl) rfl ?_
  refine X.iconst (v := (0 : Int32)) dX12_unlike_2 (by decide) ?_
  refine X.istore (i := 4) (L' := [some (.ref 0), some (.int v1), some (.int v2), some (.int (0 : Int32)), some (.int (0 : Int32))]) dX12_unlike_3 (Nat.le_of_ble_eq_true rfl) rfl ?_
  exact X.weaken (xle_c (xle_c (xle_c (xle_c (xle_c xle_e))))) (tX12_unlike_b5 F h)
def pX12_layCode_b61 (F : Nat) (K7 : Int32 → Int32 → xM → Option (xM)) (K20 : Int32 → Int32 → Int32 → Int32 → xM → Option (xM)) (v1 : Int32) (v2 : Int32) (v3 : Int32) (f : xM) : Option (xM) := (if v3 = 0 then (K7 v1 (v2 + (1 : Int32)) f) else (if xin (f 0 31) 1024 then (K7 v1 (v2 + (1 : Int32)) (xu (xu f 12 (f 0 31).toNatClampNeg v2) 0 31 (((xu f 12 (f 0 31).toNatClampNeg v2) 0 31) + (1 : Int32)))) else none))
set_option maxRecDepth 100000 in
set_option maxHeartbeats 4000000 in
theorem tX12_layCode_b61 {F : Nat} {g : xN} {K7 : Int32 → Int32 → xM → Option (xM)} (hK7 : ∀ {v1 : Int32} {v2 : Int32} {f : xM} {r : xM}, K7 v1 v2 f = some r → X mX12_layCode 3 (none, r, g) 7 [some (.ref 0), some (.int v1), some (.int v2), none, none] [] f g) {K20 : Int32 → Int32 → Int32 → Int32 → xM → Option (xM)} (hK20 : ∀ {v1 : Int32} {v2 : Int32} {v3 : Int32} {v4 : Int32} {f : xM} {r : xM}, K20 v1 v2 v3 v4 f = some r → X mX12_layCode 3 (none, r, g) 20 [some (.ref 0), some (.int v1), some (.int v2), some (.int v3), some (.int v4)] [] f g) {v1 : Int32} {v2 : Int32} {v3 : Int32} {f : xM} {r : xM} (h : pX12_layCode_b61 F K7 K20 v1 v2 v3 f = some r) : X mX12_layCode 3 (none, r, g) 61 [some (.ref 0), some (.int v1), some (.int v2), some (.int v3), none] [] f g := by
  unfold pX12_layCode_b61 at h
  refine X.iload_n (i := 3) dX12_layCode_61 rfl rfl ?_
  refine X.if_eq (tgt := 85) dX12_layCode_62 (by decide) (fun c4 => ?_) (fun c4 => ?_)
  · rw [if_pos c4] at h
    refine X.iinc (i := 2) (v := (v2 + (1 : Int32))) (L' := [some (.ref 0), some (.int v1), some (.int (v2 + (1 : Int32))), some (.int v3), none]) dX12_layCode_85 rfl rfl (Nat.le_of_ble_eq_true rfl) rfl ?_
    refine X.goto (tgt := 7) dX12_layCode_88 (by decide) ?_
    exact X.weaken (xle_c (xle_c (xle_c (xle_n (xle_n xle_e))))) (hK7 h)
  · rw [if_neg c4] at h
    refine X.aload_n (i := 0) dX12_layCode_65 rfl rfl ?_
    refine X.getR (k0 := 30) kX12 sM_0 (Nat.le_of_ble_eq_true rfl) rfl lfX12_48 dX12_layCode_66 ?_
    refine X.aload_n (i := 0) dX12_layCode_69 rfl rfl ?_
    refine X.getI (k0 := 31) kX12 sM_0 (Nat.le_of_ble_eq_true rfl) rfl lfX12_230 dX12_layCode_70 ?_
    refine X.iload_n (i := 2) dX12_layCode_73 rfl rfl ?_
    by_cases c5 : xin (f 0 31) 1024
    rotate_left
    · rw [if_neg c5] at h; cases h
    rw [if_pos c5] at h
    refine X.iast sM_12 c5 dX12_layCode_74 ?_
    refine X.aload_n (i := 0) dX12_layCode_75 rfl rfl ?_
    refine X.dup dX12_layCode_76 rfl ?_
    refine X.getI (k0 := 31) kX12 sM_0 (Nat.le_of_ble_eq_true rfl) rfl lfX12_230 dX12_layCode_77 ?_
    refine X.iconst (v := (1 : Int32)) dX12_layCode_80 (by decide) ?_
    refine X.iadd dX12_layCode_81 ?_
    refine X.putI (k0 := 31) kX12 sM_0 (Nat.le_of_ble_eq_true rfl) rfl lfX12_230 rfl rfl dX12_layCode_82 ?_
    refine X.iinc (i := 2) (v := (v2 + (1 : Int32))) (L' := [some (.ref 0), some (.int v1), some (.int (v2 + (1 : Int32))), some (.int v3), none]) dX12_layCode_85 rfl rfl (Nat.le_of_ble_eq_true rfl) rfl ?_
    refine X.goto (tgt := 7) dX12_layCode_88 (by decide) ?_
    exact X.weaken (xle_c (xle_c (xle_c (xle_n (xle_n xle_e))))) (hK7 h)
def pX12_layCode_b20 (F : Nat) (K7 : Int32 → Int32 → xM → Option (xM)) : Nat → Int32 → Int32 → Int32 → Int32 → xM → Option (xM)
  | 0, _, _, _, _, _ => none
  | n + 1, v1, v2, v3, v4, f => (if (f 0 31) ≤ v4 then (pX12_layCode_b61 F K7 (pX12_layCode_b20 F K7 n) v1 v2 v3 f) else (if v3 = 0 then (pX12_layCode_b61 F K7 (pX12_layCode_b20 F K7 n) v1 v2 v3 f) else (if xin v4 1024 then (Option.bind (pX12_unlike F f v2 (f 12 v4.toNatClampNeg)) fun q8 => (if q8 < v1 then (pX12_layCode_b20 F K7 n v1 v2 (0 : Int32) (v4 + (1 : Int32)) f) else (pX12_layCode_b20 F K7 n v1 v2 (1 : Int32) (v4 + (1 : Int32)) f))) else none)))
set_option maxRecDepth 100000 in
set_option maxHeartbeats 4000000 in
theorem tX12_layCode_b20 {F : Nat} {g : xN} {K7 : Int32 → Int32 → xM → Option (xM)} (hK7 : ∀ {v1 : Int32} {v2 : Int32} {f : xM} {r : xM}, K7 v1 v2 f = some r → X mX12_layCode 3 (none, r, g) 7 [some (.ref 0), some (.int v1), some (.int v2), none, none] [] f g) : ∀ (n : Nat) {v1 : Int32} {v2 : Int32} {v3 : Int32} {v4 : Int32} {f : xM} {r : xM}, pX12_layCode_b20 F K7 n v1 v2 v3 v4 f = some r → X mX12_layCode 3 (none, r, g) 20 [some (.ref 0), some (.int v1), some (.int v2), some (.int v3), some (.int v4)] [] f g := by
  intro n
  induction n with
  | zero => intro v1 v2 v3 v4 f r h; cases h
  | succ n ih =>
    intro v1 v2 v3 v4 f r h
    rw [pX12_layCode_b20] at h
    refine X.iload (i := 4) dX12_layCode_20 rfl ?_
    refine X.aload_n (i := 0) dX12_layCode_22 rfl rfl ?_
    refine X.getI (k0 := 31) kX12 sM_0 (Nat.le_of_ble_eq_true rfl) rfl lfX12_230 dX12_layCode_23 ?_
    refine X.icmp_ge (tgt := 61) dX12_layCode_26 (by decide) (fun c3 => ?_) (fun c3 => ?_)
    · rw [if_pos c3] at h
      exact X.weaken (xle_c (xle_c (xle_c (xle_c (xle_n xle_e))))) (tX12_layCode_b61 hK7 ih h)
    · rw [if_neg c3] at h
      refine X.iload_n (i := 3) dX12_layCode_29 rfl rfl ?_
      refine X.if_eq (tgt := 61) dX12_layCode_30 (by decide) (fun c6 => ?_) (fun c6 => ?_)
      · rw [if_pos c6] at h
        exact X.weaken (xle_c (xle_c (xle_c (xle_c (xle_n xle_e))))) (tX12_layCode_b61 hK7 ih h)
      · rw [if_neg c6] at h
        refine X.aload_n (i := 0) dX12_layCode_33 rfl rfl ?_
        refine X.iload_n (i := 2) dX12_layCode_34 rfl rfl ?_
        refine X.aload_n (i := 0) dX12_layCode_35 rfl rfl ?_
        refine X.getR (k0 := 30) kX12 sM_0 (Nat.le_of_ble_eq_true rfl) rfl lfX12_48 dX12_layCode_36 ?_
        refine X.iload (i := 4) dX12_layCode_39 rfl ?_
        by_cases c7 : xin v4 1024
        rotate_left
        · rw [if_neg c7] at h; cases h
        rw [if_pos c7] at h
        refine X.iald sM_12 c7 dX12_layCode_41 ?_
        obtain ⟨q8, e8, h⟩ := xbind h
        try dsimp only at h
        refine X.callV (μ' := mX12_unlike) (As := [.int v2, .int (f 12 v4.toNatClampNeg)]) (st := []) (st1 := [.int q8]) (r := some (.int q8)) (f' := f) (g' := g) (tX12_unlike e8) (Nat.le_of_ble_eq_true rfl) cwX12_unlike rfl mlX12_233 sM_0 kX12 rfl rfl rfl (Nat.le_of_ble_eq_true rfl) dX12_layCode_42 ?_
        refine X.iload_n (i := 1) dX12_layCode_45 rfl rfl ?_
        refine X.icmp_lt (tgt := 53) dX12_layCode_46 (by decide) (fun c9 => ?_) (fun c9 => ?_)
        · rw [if_pos c9] at h
          refine X.iconst (v := (0 : Int32)) dX12_layCode_53 (by decide) ?_
          refine X.istore_n (i := 3) (L' := [some (.ref 0), some (.int v1), some (.int v2), some (.int (0 : Int32)), some (.int v4)]) dX12_layCode_54 rfl (Nat.le_of_ble_eq_true rfl) rfl ?_
          refine X.iinc (i := 4) (v := (v4 + (1 : Int32))) (L' := [some (.ref 0), some (.int v1), some (.int v2), some (.int (0 : Int32)), some (.int (v4 + (1 : Int32)))]) dX12_layCode_55 rfl rfl (Nat.le_of_ble_eq_true rfl) rfl ?_
          refine X.goto (tgt := 20) dX12_layCode_58 (by decide) ?_
          exact X.weaken (xle_c (xle_c (xle_c (xle_c (xle_c xle_e))))) (ih h)
        · rw [if_neg c9] at h
          refine X.iconst (v := (1 : Int32)) dX12_layCode_49 (by decide) ?_
          refine X.goto (tgt := 54) dX12_layCode_50 (by decide) ?_
          refine X.istore_n (i := 3) (L' := [some (.ref 0), some (.int v1), some (.int v2), some (.int (1 : Int32)), some (.int v4)]) dX12_layCode_54 rfl (Nat.le_of_ble_eq_true rfl) rfl ?_
          refine X.iinc (i := 4) (v := (v4 + (1 : Int32))) (L' := [some (.ref 0), some (.int v1), some (.int v2), some (.int (1 : Int32)), some (.int (v4 + (1 : Int32)))]) dX12_layCode_55 rfl rfl (Nat.le_of_ble_eq_true rfl) rfl ?_
          refine X.goto (tgt := 20) dX12_layCode_58 (by decide) ?_
          exact X.weaken (xle_c (xle_c (xle_c (xle_c (xle_c xle_e))))) (ih h)
def pX12_layCode_b7 (F : Nat) : Nat → Int32 → Int32 → xM → Option (xM)
  | 0, _, _, _ => none
  | n + 1, v1, v2, f => (Option.bind (pX12_names F f) fun q1 => (if q1 ≤ v2 then some (f) else (pX12_layCode_b20 F (pX12_layCode_b7 F n) F v1 v2 (1 : Int32) (0 : Int32) f)))
set_option maxRecDepth 100000 in
set_option maxHeartbeats 4000000 in
theorem tX12_layCode_b7 {F : Nat} {g : xN} : ∀ (n : Nat) {v1 : Int32} {v2 : Int32} {f : xM} {r : xM}, pX12_layCode_b7 F n v1 v2 f = some r → X mX12_layCode 3 (none, r, g) 7 [some (.ref 0), some (.int v1), some (.int v2), none, none] [] f g := by
  intro n
  induction n with
  | zero => intro v1 v2 f r h; cases h
  | succ n ih =>
    intro v1 v2 f r h
    rw [pX12_layCode_b7] at h
    refine X.iload_n (i := 2) dX12_layCode_7 rfl rfl ?_
    refine X.aload_n (i := 0) dX12_layCode_8 rfl rfl ?_
    obtain ⟨q1, e1, h⟩ := xbind h
    try dsimp only at h
    refine X.callV (μ' := mX12_names) (As := []) (st := [.int v2]) (st1 := [.int q1, .int v2]) (r := some (.int q1)) (f' := f) (g' := g) (tX12_names e1) (Nat.le_of_ble_eq_true rfl) cwX12_names rfl mlX12_221 sM_0 kX12 rfl rfl rfl (Nat.le_of_ble_eq_true rfl) dX12_layCode_9 ?_
    refine X.icmp_ge (tgt := 91) dX12_layCode_12 (by decide) (fun c2 => ?_) (fun c2 => ?_)
    · rw [if_pos c2] at h
      obtain rfl := Option.some.inj h
      exact X.vret dX12_layCode_91 rfl rfl
    · rw [if_neg c2] at h
      refine X.iconst (v := (1 : Int32)) dX12_layCode_15 (by decide) ?_
      refine X.istore_n (i := 3) (L' := [some (.ref 0), some (.int v1), some (.int v2), some (.int (1 : Int32)), none]) dX12_layCode_16 rfl (Nat.le_of_ble_eq_true rfl) rfl ?_
      refine X.iconst (v := (0 : Int32)) dX12_layCode_17 (by decide) ?_
      refine X.istore (i := 4) (L' := [some (.ref 0), some (.int v1), some (.int v2), some (.int (1 : Int32)), some (.int (0 : Int32))]) dX12_layCode_18 (Nat.le_of_ble_eq_true rfl) rfl ?_
      exact X.weaken (xle_c (xle_c (xle_c (xle_c (xle_c xle_e))))) (tX12_layCode_b20 ih F h)
def pX12_layCode (F : Nat) (v1 : Int32) (f : xM) : Option (xM) := (pX12_layCode_b7 F F v1 (0 : Int32) (xu f 0 31 (0 : Int32)))
set_option maxRecDepth 100000 in
set_option maxHeartbeats 4000000 in
theorem tX12_layCode {F : Nat} {g : xN} {v1 : Int32} {f : xM} {r : xM} (h : pX12_layCode F v1 f = some r) : XT mX12_layCode 3 [.ref 0, .int v1] f g (none, r, g) := by
  unfold pX12_layCode at h
  refine XT.of (L := [some (.ref 0), some (.int v1), none, none, none]) [some (.ref 0), some (.int v1)] rfl (Nat.le_of_ble_eq_true rfl) rfl (xle_c (xle_c (xle_z (xle_z (xle_z xle_e))))) ?_
  refine X.aload_n (i := 0) dX12_layCode_0 rfl rfl ?_
  refine X.iconst (v := (0 : Int32)) dX12_layCode_1 (by decide) ?_
  refine X.putI (k0 := 31) kX12 sM_0 (Nat.le_of_ble_eq_true rfl) rfl lfX12_230 rfl rfl dX12_layCode_2 ?_
  refine X.iconst (v := (0 : Int32)) dX12_layCode_5 (by decide) ?_
  refine X.istore_n (i := 2) (L' := [some (.ref 0), some (.int v1), some (.int (0 : Int32)), none, none]) dX12_layCode_6 rfl (Nat.le_of_ble_eq_true rfl) rfl ?_
  exact X.weaken (xle_c (xle_c (xle_c (xle_n (xle_n xle_e))))) (tX12_layCode_b7 F h)
def pX12_code (F : Nat) (v1 : Int32) (f : xM) : Option (Int32 × xM) := (if (pX12_in v1.toInt64 (1 : Int64) (5 : Int64)) = 0 then some (((-2 : Int32), (xu f 0 0 (0 : Int32)))) else (Option.bind (pX12_layCode F v1 (xu f 0 0 (0 : Int32))) fun q2 => some (((q2 0 31), q2))))
set_option maxRecDepth 100000 in
set_option maxHeartbeats 4000000 in
theorem tX12_code {F : Nat} {g : xN} {v1 : Int32} {f : xM} {r : Int32 × xM} (h : pX12_code F v1 f = some r) : XT mX12_code 4 [.ref 0, .int v1] f g (some (.int r.1), r.2, g) := by
  unfold pX12_code at h
  refine XT.of (L := [some (.ref 0), some (.int v1)]) [some (.ref 0), some (.int v1)] rfl (Nat.le_of_ble_eq_true rfl) rfl (xle_c (xle_c xle_e)) ?_
  refine X.aload_n (i := 0) dX12_code_0 rfl rfl ?_
  refine X.iconst (v := (0 : Int32)) dX12_code_1 (by decide) ?_
  refine X.putI (k0 := 0) kX12 sM_0 (Nat.le_of_ble_eq_true rfl) rfl lfX12_57 rfl rfl dX12_code_2 ?_
  refine X.iload_n (i := 1) dX12_code_5 rfl rfl ?_
  refine X.i2l dX12_code_6 ?_
  refine X.lconst (v := (1 : Int64)) dX12_code_7 (by decide) ?_
  refine X.ldc2 dX12_code_8 lcX12_236 ?_
  refine X.callS (μ' := mX12_in) (As := [.long v1.toInt64, .long (1 : Int64), .long (5 : Int64)]) (st := []) (st1 := [.int (pX12_in v1.toInt64 (1 : Int64) (5 : Int64))]) (r := some (.int (pX12_in v1.toInt64 (1 : Int64) (5 : Int64)))) (f' := (xu f 0 0 (0 : Int32))) (g' := g) (tX12_in rfl) (Nat.le_of_ble_eq_true rfl) cwX12_in rfl mlX12_65 rfl rfl rfl (Nat.le_of_ble_eq_true rfl) dX12_code_11 ?_
  refine X.if_ne (tgt := 20) dX12_code_14 (by decide) (fun c1 => ?_) (fun c1 => ?_)
  · rw [if_neg c1] at h
    refine X.aload_n (i := 0) dX12_code_20 rfl rfl ?_
    refine X.iload_n (i := 1) dX12_code_21 rfl rfl ?_
    obtain ⟨q2, e2, h⟩ := xbind h
    try dsimp only at h
    refine X.callV (μ' := mX12_layCode) (As := [.int v1]) (st := []) (st1 := []) (r := none) (f' := q2) (g' := g) (tX12_layCode e2) (Nat.le_of_ble_eq_true rfl) cwX12_layCode rfl mlX12_238 sM_0 kX12 rfl rfl rfl (Nat.le_of_ble_eq_true rfl) dX12_code_22 ?_
    refine X.aload_n (i := 0) dX12_code_25 rfl rfl ?_
    refine X.getI (k0 := 31) kX12 sM_0 (Nat.le_of_ble_eq_true rfl) rfl lfX12_230 dX12_code_26 ?_
    obtain rfl := Option.some.inj h
    exact X.iret dX12_code_29 rfl rfl
  · rw [if_pos c1] at h
    refine X.bipush (v := (-2 : Int32)) dX12_code_17 (by decide) ?_
    obtain rfl := Option.some.inj h
    exact X.iret dX12_code_19 rfl rfl
def pX12_codeName (F : Nat) (v1 : Int32) (v2 : Int32) (f : xM) : Option (Int32 × xM) := (if (pX12_in v1.toInt64 (1 : Int64) (5 : Int64)) = 0 then some (((-2 : Int32), (xu f 0 0 (0 : Int32)))) else (Option.bind (pX12_layCode F v1 (xu f 0 0 (0 : Int32))) fun q2 => (if (pX12_in v2.toInt64 (0 : Int64) ((q2 0 31) - (1 : Int32)).toInt64) = 0 then some (((-3 : Int32), q2)) else (if xin v2 1024 then (Option.bind (pX12_told F q2 (q2 12 v2.toNatClampNeg)) fun q5 => some ((q5, q2))) else none))))
set_option maxRecDepth 100000 in
set_option maxHeartbeats 4000000 in
theorem tX12_codeName {F : Nat} {g : xN} {v1 : Int32} {v2 : Int32} {f : xM} {r : Int32 × xM} (h : pX12_codeName F v1 v2 f = some r) : XT mX12_codeName 4 [.ref 0, .int v1, .int v2] f g (some (.int r.1), r.2, g) := by
  unfold pX12_codeName at h
  refine XT.of (L := [some (.ref 0), some (.int v1), some (.int v2)]) [some (.ref 0), some (.int v1), some (.int v2)] rfl (Nat.le_of_ble_eq_true rfl) rfl (xle_c (xle_c (xle_c xle_e))) ?_
  refine X.aload_n (i := 0) dX12_codeName_0 rfl rfl ?_
  refine X.iconst (v := (0 : Int32)) dX12_codeName_1 (by decide) ?_
  refine X.putI (k0 := 0) kX12 sM_0 (Nat.le_of_ble_eq_true rfl) rfl lfX12_57 rfl rfl dX12_codeName_2 ?_
  refine X.iload_n (i := 1) dX12_codeName_5 rfl rfl ?_
  refine X.i2l dX12_codeName_6 ?_
  refine X.lconst (v := (1 : Int64)) dX12_codeName_7 (by decide) ?_
  refine X.ldc2 dX12_codeName_8 lcX12_236 ?_
  refine X.callS (μ' := mX12_in) (As := [.long v1.toInt64, .long (1 : Int64), .long (5 : Int64)]) (st := []) (st1 := [.int (pX12_in v1.toInt64 (1 : Int64) (5 : Int64))]) (r := some (.int (pX12_in v1.toInt64 (1 : Int64) (5 : Int64)))) (f' := (xu f 0 0 (0 : Int32))) (g' := g) (tX12_in rfl) (Nat.le_of_ble_eq_true rfl) cwX12_in rfl mlX12_65 rfl rfl rfl (Nat.le_of_ble_eq_true rfl) dX12_codeName_11 ?_
  refine X.if_ne (tgt := 20) dX12_codeName_14 (by decide) (fun c1 => ?_) (fun c1 => ?_)
  · rw [if_neg c1] at h
    refine X.aload_n (i := 0) dX12_codeName_20 rfl rfl ?_
    refine X.iload_n (i := 1) dX12_codeName_21 rfl rfl ?_
    obtain ⟨q2, e2, h⟩ := xbind h
    try dsimp only at h
    refine X.callV (μ' := mX12_layCode) (As := [.int v1]) (st := []) (st1 := []) (r := none) (f' := q2) (g' := g) (tX12_layCode e2) (Nat.le_of_ble_eq_true rfl) cwX12_layCode rfl mlX12_238 sM_0 kX12 rfl rfl rfl (Nat.le_of_ble_eq_true rfl) dX12_codeName_22 ?_
    refine X.iload_n (i := 2) dX12_codeName_25 rfl rfl ?_
    refine X.i2l dX12_codeName_26 ?_
    refine X.lconst (v := (0 : Int64)) dX12_codeName_27 (by decide) ?_
    refine X.aload_n (i := 0) dX12_codeName_28 rfl rfl ?_
    refine X.getI (k0 := 31) kX12 sM_0 (Nat.le_of_ble_eq_true rfl) rfl lfX12_230 dX12_codeName_29 ?_
    refine X.iconst (v := (1 : Int32)) dX12_codeName_32 (by decide) ?_
    refine X.isub dX12_codeName_33 ?_
    refine X.i2l dX12_codeName_34 ?_
    refine X.callS (μ' := mX12_in) (As := [.long v2.toInt64, .long (0 : Int64), .long ((q2 0 31) - (1 : Int32)).toInt64]) (st := []) (st1 := [.int (pX12_in v2.toInt64 (0 : Int64) ((q2 0 31) - (1 : Int32)).toInt64)]) (r := some (.int (pX12_in v2.toInt64 (0 : Int64) ((q2 0 31) - (1 : Int32)).toInt64))) (f' := q2) (g' := g) (tX12_in rfl) (Nat.le_of_ble_eq_true rfl) cwX12_in rfl mlX12_65 rfl rfl rfl (Nat.le_of_ble_eq_true rfl) dX12_codeName_35 ?_
    refine X.if_eq (tgt := 54) dX12_codeName_38 (by decide) (fun c3 => ?_) (fun c3 => ?_)
    · rw [if_pos c3] at h
      refine X.bipush (v := (-3 : Int32)) dX12_codeName_54 (by decide) ?_
      obtain rfl := Option.some.inj h
      exact X.iret dX12_codeName_56 rfl rfl
    · rw [if_neg c3] at h
      refine X.aload_n (i := 0) dX12_codeName_41 rfl rfl ?_
      refine X.aload_n (i := 0) dX12_codeName_42 rfl rfl ?_
      refine X.getR (k0 := 30) kX12 sM_0 (Nat.le_of_ble_eq_true rfl) rfl lfX12_48 dX12_codeName_43 ?_
      refine X.iload_n (i := 2) dX12_codeName_46 rfl rfl ?_
      by_cases c4 : xin v2 1024
      rotate_left
      · rw [if_neg c4] at h; cases h
      rw [if_pos c4] at h
      refine X.iald sM_12 c4 dX12_codeName_47 ?_
      obtain ⟨q5, e5, h⟩ := xbind h
      try dsimp only at h
      refine X.callV (μ' := mX12_told) (As := [.int (q2 12 v2.toNatClampNeg)]) (st := []) (st1 := [.int q5]) (r := some (.int q5)) (f' := q2) (g' := g) (tX12_told e5) (Nat.le_of_ble_eq_true rfl) cwX12_told rfl mlX12_135 sM_0 kX12 rfl rfl rfl (Nat.le_of_ble_eq_true rfl) dX12_codeName_48 ?_
      refine X.goto (tgt := 56) dX12_codeName_51 (by decide) ?_
      obtain rfl := Option.some.inj h
      exact X.iret dX12_codeName_56 rfl rfl
  · rw [if_pos c1] at h
    refine X.bipush (v := (-2 : Int32)) dX12_codeName_17 (by decide) ?_
    obtain rfl := Option.some.inj h
    exact X.iret dX12_codeName_19 rfl rfl
