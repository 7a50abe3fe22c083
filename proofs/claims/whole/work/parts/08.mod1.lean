def pX12_in (v0 : Int64) (v2 : Int64) (v4 : Int64) : Int32 := (if (lg_cmp v0 v2) < 0 then (0 : Int32) else (if 0 < (lg_cmp v0 v4) then (0 : Int32) else (1 : Int32)))
set_option maxRecDepth 100000 in
set_option maxHeartbeats 4000000 in
theorem tX12_in {f : xM} {g : xN} {v0 : Int64} {v2 : Int64} {v4 : Int64} {r : Int32} (h : pX12_in v0 v2 v4 = r) : XT mX12_in 0 [.long v0, .long v2, .long v4] f g (some (.int r), f, g) := by
  unfold pX12_in at h
  refine XT.of (L := [some (.long v0), none, some (.long v2), none, some (.long v4), none]) [some (.long v0), none, some (.long v2), none, some (.long v4), none] rfl (Nat.le_of_ble_eq_true rfl) rfl (xle_c (xle_n (xle_c (xle_n (xle_c (xle_n xle_e)))))) ?_
  refine X.lload_n (i := 0) dX12_in_0 rfl rfl ?_
  refine X.lload_n (i := 2) dX12_in_1 rfl rfl ?_
  refine X.lcmp dX12_in_2 ?_
  refine X.if_lt (tgt := 17) dX12_in_3 (by decide) (fun c1 => ?_) (fun c1 => ?_)
  · rw [if_pos c1] at h
    refine X.iconst (v := (0 : Int32)) dX12_in_17 (by decide) ?_
    subst h
    exact X.zret dX12_in_18 rfl rfl rfl
  · rw [if_neg c1] at h
    refine X.lload_n (i := 0) dX12_in_6 rfl rfl ?_
    refine X.lload (i := 4) dX12_in_7 rfl ?_
    refine X.lcmp dX12_in_9 ?_
    refine X.if_gt (tgt := 17) dX12_in_10 (by decide) (fun c2 => ?_) (fun c2 => ?_)
    · rw [if_pos c2] at h
      refine X.iconst (v := (0 : Int32)) dX12_in_17 (by decide) ?_
      subst h
      exact X.zret dX12_in_18 rfl rfl rfl
    · rw [if_neg c2] at h
      refine X.iconst (v := (1 : Int32)) dX12_in_13 (by decide) ?_
      refine X.goto (tgt := 18) dX12_in_14 (by decide) ?_
      subst h
      exact X.zret dX12_in_18 rfl rfl rfl
def pX12_write (v1 : Int32) (f : xM) : Option (Int32 × xM) := (if (pX12_in v1.toInt64 (0 : Int64) (255 : Int64)) = 0 then some (((-2 : Int32), (xu f 0 0 (0 : Int32)))) else (if ((xu f 0 0 (0 : Int32)) 0 2) = (40 : Int32) then some (((-4 : Int32), (xu f 0 0 (0 : Int32)))) else (if xin ((xu f 0 0 (0 : Int32)) 0 2) 40 then some ((((xu (xu (xu f 0 0 (0 : Int32)) 1 ((xu f 0 0 (0 : Int32)) 0 2).toNatClampNeg v1) 0 2 (((xu (xu f 0 0 (0 : Int32)) 1 ((xu f 0 0 (0 : Int32)) 0 2).toNatClampNeg v1) 0 2) + (1 : Int32))) 0 2), (xu (xu (xu f 0 0 (0 : Int32)) 1 ((xu f 0 0 (0 : Int32)) 0 2).toNatClampNeg v1) 0 2 (((xu (xu f 0 0 (0 : Int32)) 1 ((xu f 0 0 (0 : Int32)) 0 2).toNatClampNeg v1) 0 2) + (1 : Int32))))) else none)))
set_option maxRecDepth 100000 in
set_option maxHeartbeats 4000000 in
theorem tX12_write {g : xN} {v1 : Int32} {f : xM} {r : Int32 × xM} (h : pX12_write v1 f = some r) : XT mX12_write 1 [.ref 0, .int v1] f g (some (.int r.1), r.2, g) := by
  unfold pX12_write at h
  refine XT.of (L := [some (.ref 0), some (.int v1)]) [some (.ref 0), some (.int v1)] rfl (Nat.le_of_ble_eq_true rfl) rfl (xle_c (xle_c xle_e)) ?_
  refine X.aload_n (i := 0) dX12_write_0 rfl rfl ?_
  refine X.iconst (v := (0 : Int32)) dX12_write_1 (by decide) ?_
  refine X.putI (k0 := 0) kX12 sM_0 (Nat.le_of_ble_eq_true rfl) rfl lfX12_57 rfl rfl dX12_write_2 ?_
  refine X.iload_n (i := 1) dX12_write_5 rfl rfl ?_
  refine X.i2l dX12_write_6 ?_
  refine X.lconst (v := (0 : Int64)) dX12_write_7 (by decide) ?_
  refine X.ldc2 dX12_write_8 lcX12_74 ?_
  refine X.callS (μ' := mX12_in) (As := [.long v1.toInt64, .long (0 : Int64), .long (255 : Int64)]) (st := []) (st1 := [.int (pX12_in v1.toInt64 (0 : Int64) (255 : Int64))]) (r := some (.int (pX12_in v1.toInt64 (0 : Int64) (255 : Int64)))) (f' := (xu f 0 0 (0 : Int32))) (g' := g) (tX12_in rfl) (Nat.le_of_ble_eq_true rfl) cwX12_in rfl mlX12_65 rfl rfl rfl (Nat.le_of_ble_eq_true rfl) dX12_write_11 ?_
  refine X.if_ne (tgt := 20) dX12_write_14 (by decide) (fun c1 => ?_) (fun c1 => ?_)
  · rw [if_neg c1] at h
    refine X.aload_n (i := 0) dX12_write_20 rfl rfl ?_
    refine X.getI (k0 := 2) kX12 sM_0 (Nat.le_of_ble_eq_true rfl) rfl lfX12_76 dX12_write_21 ?_
    refine X.bipush (v := (40 : Int32)) dX12_write_24 (by decide) ?_
    refine X.icmp_ne (tgt := 32) dX12_write_26 (by decide) (fun c2 => ?_) (fun c2 => ?_)
    · rw [if_neg c2] at h
      refine X.aload_n (i := 0) dX12_write_32 rfl rfl ?_
      refine X.getR (k0 := 1) kX12 sM_0 (Nat.le_of_ble_eq_true rfl) rfl lfX12_7 dX12_write_33 ?_
      refine X.aload_n (i := 0) dX12_write_36 rfl rfl ?_
      refine X.getI (k0 := 2) kX12 sM_0 (Nat.le_of_ble_eq_true rfl) rfl lfX12_76 dX12_write_37 ?_
      refine X.iload_n (i := 1) dX12_write_40 rfl rfl ?_
      by_cases c3 : xin ((xu f 0 0 (0 : Int32)) 0 2) 40
      rotate_left
      · rw [if_neg c3] at h; cases h
      rw [if_pos c3] at h
      refine X.iast sM_1 c3 dX12_write_41 ?_
      refine X.aload_n (i := 0) dX12_write_42 rfl rfl ?_
      refine X.dup dX12_write_43 rfl ?_
      refine X.getI (k0 := 2) kX12 sM_0 (Nat.le_of_ble_eq_true rfl) rfl lfX12_76 dX12_write_44 ?_
      refine X.iconst (v := (1 : Int32)) dX12_write_47 (by decide) ?_
      refine X.iadd dX12_write_48 ?_
      refine X.putI (k0 := 2) kX12 sM_0 (Nat.le_of_ble_eq_true rfl) rfl lfX12_76 rfl rfl dX12_write_49 ?_
      refine X.aload_n (i := 0) dX12_write_52 rfl rfl ?_
      refine X.getI (k0 := 2) kX12 sM_0 (Nat.le_of_ble_eq_true rfl) rfl lfX12_76 dX12_write_53 ?_
      obtain rfl := Option.some.inj h
      exact X.iret dX12_write_56 rfl rfl
    · rw [if_pos c2] at h
      refine X.bipush (v := (-4 : Int32)) dX12_write_29 (by decide) ?_
      obtain rfl := Option.some.inj h
      exact X.iret dX12_write_31 rfl rfl
  · rw [if_pos c1] at h
    refine X.bipush (v := (-2 : Int32)) dX12_write_17 (by decide) ?_
    obtain rfl := Option.some.inj h
    exact X.iret dX12_write_19 rfl rfl
def pX12_wipe (f : xM) : Int32 × xM := (((xu f 0 0 (0 : Int32)) 0 2), (xu (xu f 0 0 (0 : Int32)) 0 2 (0 : Int32)))
set_option maxRecDepth 100000 in
set_option maxHeartbeats 4000000 in
theorem tX12_wipe {g : xN} {f : xM} {r : Int32 × xM} (h : pX12_wipe f = r) : XT mX12_wipe 0 [.ref 0] f g (some (.int r.1), r.2, g) := by
  unfold pX12_wipe at h
  refine XT.of (L := [some (.ref 0), none]) [some (.ref 0)] rfl (Nat.le_of_ble_eq_true rfl) rfl (xle_c (xle_z xle_e)) ?_
  refine X.aload_n (i := 0) dX12_wipe_0 rfl rfl ?_
  refine X.iconst (v := (0 : Int32)) dX12_wipe_1 (by decide) ?_
  refine X.putI (k0 := 0) kX12 sM_0 (Nat.le_of_ble_eq_true rfl) rfl lfX12_57 rfl rfl dX12_wipe_2 ?_
  refine X.aload_n (i := 0) dX12_wipe_5 rfl rfl ?_
  refine X.getI (k0 := 2) kX12 sM_0 (Nat.le_of_ble_eq_true rfl) rfl lfX12_76 dX12_wipe_6 ?_
  refine X.istore_n (i := 1) (L' := [some (.ref 0), some (.int ((xu f 0 0 (0 : Int32)) 0 2))]) dX12_wipe_9 rfl (Nat.le_of_ble_eq_true rfl) rfl ?_
  refine X.aload_n (i := 0) dX12_wipe_10 rfl rfl ?_
  refine X.iconst (v := (0 : Int32)) dX12_wipe_11 (by decide) ?_
  refine X.putI (k0 := 2) kX12 sM_0 (Nat.le_of_ble_eq_true rfl) rfl lfX12_76 rfl rfl dX12_wipe_12 ?_
  refine X.iload_n (i := 1) dX12_wipe_15 rfl rfl ?_
  subst h
  exact X.iret dX12_wipe_16 rfl rfl
def pX12_isLetter (f : xM) : Option (Int32) := (if (f 0 2) ≤ (f 0 3) then some ((0 : Int32)) else (if xin (f 0 3) 40 then (if (pX12_in ((f 1 (f 0 3).toNatClampNeg) - (97 : Int32)).toInt64 (0 : Int64) (3 : Int64)) = 0 then some ((0 : Int32)) else some ((1 : Int32))) else none))
set_option maxRecDepth 100000 in
set_option maxHeartbeats 4000000 in
theorem tX12_isLetter {f : xM} {g : xN} {r : Int32} (h : pX12_isLetter f = some r) : XT mX12_isLetter 1 [.ref 0] f g (some (.int r), f, g) := by
  unfold pX12_isLetter at h
  refine XT.of (L := [some (.ref 0)]) [some (.ref 0)] rfl (Nat.le_of_ble_eq_true rfl) rfl (xle_c xle_e) ?_
  refine X.aload_n (i := 0) dX12_isLetter_0 rfl rfl ?_
  refine X.getI (k0 := 3) kX12 sM_0 (Nat.le_of_ble_eq_true rfl) rfl lfX12_79 dX12_isLetter_1 ?_
  refine X.aload_n (i := 0) dX12_isLetter_4 rfl rfl ?_
  refine X.getI (k0 := 2) kX12 sM_0 (Nat.le_of_ble_eq_true rfl) rfl lfX12_76 dX12_isLetter_5 ?_
  refine X.icmp_ge (tgt := 38) dX12_isLetter_8 (by decide) (fun c1 => ?_) (fun c1 => ?_)
  · rw [if_pos c1] at h
    refine X.iconst (v := (0 : Int32)) dX12_isLetter_38 (by decide) ?_
    obtain rfl := Option.some.inj h
    exact X.zret dX12_isLetter_39 rfl rfl rfl
  · rw [if_neg c1] at h
    refine X.aload_n (i := 0) dX12_isLetter_11 rfl rfl ?_
    refine X.getR (k0 := 1) kX12 sM_0 (Nat.le_of_ble_eq_true rfl) rfl lfX12_7 dX12_isLetter_12 ?_
    refine X.aload_n (i := 0) dX12_isLetter_15 rfl rfl ?_
    refine X.getI (k0 := 3) kX12 sM_0 (Nat.le_of_ble_eq_true rfl) rfl lfX12_79 dX12_isLetter_16 ?_
    by_cases c2 : xin (f 0 3) 40
    rotate_left
    · rw [if_neg c2] at h; cases h
    rw [if_pos c2] at h
    refine X.iald sM_1 c2 dX12_isLetter_19 ?_
    refine X.bipush (v := (97 : Int32)) dX12_isLetter_20 (by decide) ?_
    refine X.isub dX12_isLetter_22 ?_
    refine X.i2l dX12_isLetter_23 ?_
    refine X.lconst (v := (0 : Int64)) dX12_isLetter_24 (by decide) ?_
    refine X.ldc2 dX12_isLetter_25 lcX12_72 ?_
    refine X.callS (μ' := mX12_in) (As := [.long ((f 1 (f 0 3).toNatClampNeg) - (97 : Int32)).toInt64, .long (0 : Int64), .long (3 : Int64)]) (st := []) (st1 := [.int (pX12_in ((f 1 (f 0 3).toNatClampNeg) - (97 : Int32)).toInt64 (0 : Int64) (3 : Int64))]) (r := some (.int (pX12_in ((f 1 (f 0 3).toNatClampNeg) - (97 : Int32)).toInt64 (0 : Int64) (3 : Int64)))) (f' := f) (g' := g) (tX12_in rfl) (Nat.le_of_ble_eq_true rfl) cwX12_in rfl mlX12_65 rfl rfl rfl (Nat.le_of_ble_eq_true rfl) dX12_isLetter_28 ?_
    refine X.if_eq (tgt := 38) dX12_isLetter_31 (by decide) (fun c3 => ?_) (fun c3 => ?_)
    · rw [if_pos c3] at h
      refine X.iconst (v := (0 : Int32)) dX12_isLetter_38 (by decide) ?_
      obtain rfl := Option.some.inj h
      exact X.zret dX12_isLetter_39 rfl rfl rfl
    · rw [if_neg c3] at h
      refine X.iconst (v := (1 : Int32)) dX12_isLetter_34 (by decide) ?_
      refine X.goto (tgt := 39) dX12_isLetter_35 (by decide) ?_
      obtain rfl := Option.some.inj h
      exact X.zret dX12_isLetter_39 rfl rfl rfl
def pX12_readNames_b122 (F : Nat) : Nat → Int32 → xM → Option (Int32 × xM)
  | 0, _, _ => none
  | n + 1, v1, f => (if (f 0 10) ≤ v1 then some (((1 : Int32), f)) else (Option.bind (pX12_isLetter f) fun q7 => (if q7 = 0 then some (((0 : Int32), f)) else (if xin (f 0 3) 40 then (pX12_readNames_b122 F n (v1 + (1 : Int32)) (xu (xu f 0 12 ((((4 : Int32) * (f 0 12)) + (f 1 (f 0 3).toNatClampNeg)) - (97 : Int32))) 0 3 (((xu f 0 12 ((((4 : Int32) * (f 0 12)) + (f 1 (f 0 3).toNatClampNeg)) - (97 : Int32))) 0 3) + (1 : Int32)))) else none))))
set_option maxRecDepth 100000 in
set_option maxHeartbeats 4000000 in
theorem tX12_readNames_b122 {F : Nat} {g : xN} : ∀ (n : Nat) {v1 : Int32} {f : xM} {r : Int32 × xM}, pX12_readNames_b122 F n v1 f = some r → X mX12_readNames 2 (some (.int r.1), r.2, g) 122 [some (.ref 0), some (.int v1)] [] f g := by
  intro n
  induction n with
  | zero => intro v1 f r h; cases h
  | succ n ih =>
    intro v1 f r h
    rw [pX12_readNames_b122] at h
    refine X.iload_n (i := 1) dX12_readNames_122 rfl rfl ?_
    refine X.aload_n (i := 0) dX12_readNames_123 rfl rfl ?_
    refine X.getI (k0 := 10) kX12 sM_0 (Nat.le_of_ble_eq_true rfl) rfl lfX12_85 dX12_readNames_124 ?_
    refine X.icmp_ge (tgt := 178) dX12_readNames_127 (by decide) (fun c6 => ?_) (fun c6 => ?_)
    · rw [if_pos c6] at h
      refine X.iconst (v := (1 : Int32)) dX12_readNames_178 (by decide) ?_
      obtain rfl := Option.some.inj h
      exact X.zret dX12_readNames_179 rfl rfl rfl
    · rw [if_neg c6] at h
      refine X.aload_n (i := 0) dX12_readNames_130 rfl rfl ?_
      obtain ⟨q7, e7, h⟩ := xbind h
      try dsimp only at h
      refine X.callV (μ' := mX12_isLetter) (As := []) (st := []) (st1 := [.int q7]) (r := some (.int q7)) (f' := f) (g' := g) (tX12_isLetter e7) (Nat.le_of_ble_eq_true rfl) cwX12_isLetter rfl mlX12_88 sM_0 kX12 rfl rfl rfl (Nat.le_of_ble_eq_true rfl) dX12_readNames_131 ?_
      refine X.if_ne (tgt := 139) dX12_readNames_134 (by decide) (fun c8 => ?_) (fun c8 => ?_)
      · rw [if_neg c8] at h
        refine X.aload_n (i := 0) dX12_readNames_139 rfl rfl ?_
        refine X.iconst (v := (4 : Int32)) dX12_readNames_140 (by decide) ?_
        refine X.aload_n (i := 0) dX12_readNames_141 rfl rfl ?_
        refine X.getI (k0 := 12) kX12 sM_0 (Nat.le_of_ble_eq_true rfl) rfl lfX12_92 dX12_readNames_142 ?_
        refine X.imul dX12_readNames_145 ?_
        refine X.aload_n (i := 0) dX12_readNames_146 rfl rfl ?_
        refine X.getR (k0 := 1) kX12 sM_0 (Nat.le_of_ble_eq_true rfl) rfl lfX12_7 dX12_readNames_147 ?_
        refine X.aload_n (i := 0) dX12_readNames_150 rfl rfl ?_
        refine X.getI (k0 := 3) kX12 sM_0 (Nat.le_of_ble_eq_true rfl) rfl lfX12_79 dX12_readNames_151 ?_
        by_cases c9 : xin (f 0 3) 40
        rotate_left
        · rw [if_neg c9] at h; cases h
        rw [if_pos c9] at h
        refine X.iald sM_1 c9 dX12_readNames_154 ?_
        refine X.iadd dX12_readNames_155 ?_
        refine X.bipush (v := (97 : Int32)) dX12_readNames_156 (by decide) ?_
        refine X.isub dX12_readNames_158 ?_
        refine X.putI (k0 := 12) kX12 sM_0 (Nat.le_of_ble_eq_true rfl) rfl lfX12_92 rfl rfl dX12_readNames_159 ?_
        refine X.aload_n (i := 0) dX12_readNames_162 rfl rfl ?_
        refine X.dup dX12_readNames_163 rfl ?_
        refine X.getI (k0 := 3) kX12 sM_0 (Nat.le_of_ble_eq_true rfl) rfl lfX12_79 dX12_readNames_164 ?_
        refine X.iconst (v := (1 : Int32)) dX12_readNames_167 (by decide) ?_
        refine X.iadd dX12_readNames_168 ?_
        refine X.putI (k0 := 3) kX12 sM_0 (Nat.le_of_ble_eq_true rfl) rfl lfX12_79 rfl rfl dX12_readNames_169 ?_
        refine X.iinc (i := 1) (v := (v1 + (1 : Int32))) (L' := [some (.ref 0), some (.int (v1 + (1 : Int32)))]) dX12_readNames_172 rfl rfl (Nat.le_of_ble_eq_true rfl) rfl ?_
        refine X.goto (tgt := 122) dX12_readNames_175 (by decide) ?_
        exact X.weaken (xle_c (xle_c xle_e)) (ih h)
      · rw [if_pos c8] at h
        refine X.iconst (v := (0 : Int32)) dX12_readNames_137 (by decide) ?_
        obtain rfl := Option.some.inj h
        exact X.zret dX12_readNames_138 rfl rfl rfl
def pX12_readNames_b71 (F : Nat) (f : xM) : Option (Int32 × xM) := (if (f 0 10) = 0 then some (((0 : Int32), f)) else (if (f 0 3) = (f 0 2) then some (((0 : Int32), f)) else (if xin (f 0 3) 40 then (if (f 1 (f 0 3).toNatClampNeg) = (47 : Int32) then (pX12_readNames_b122 F F (0 : Int32) (xu (xu f 0 3 ((f 0 3) + (1 : Int32))) 0 12 (0 : Int32))) else some (((0 : Int32), f))) else none)))
set_option maxRecDepth 100000 in
set_option maxHeartbeats 4000000 in
theorem tX12_readNames_b71 {F : Nat} {g : xN} {f : xM} {r : Int32 × xM} (h : pX12_readNames_b71 F f = some r) : X mX12_readNames 2 (some (.int r.1), r.2, g) 71 [some (.ref 0), none] [] f g := by
  unfold pX12_readNames_b71 at h
  refine X.aload_n (i := 0) dX12_readNames_71 rfl rfl ?_
  refine X.getI (k0 := 10) kX12 sM_0 (Nat.le_of_ble_eq_true rfl) rfl lfX12_85 dX12_readNames_72 ?_
  refine X.if_eq (tgt := 103) dX12_readNames_75 (by decide) (fun c2 => ?_) (fun c2 => ?_)
  · rw [if_pos c2] at h
    refine X.iconst (v := (0 : Int32)) dX12_readNames_103 (by decide) ?_
    obtain rfl := Option.some.inj h
    exact X.zret dX12_readNames_104 rfl rfl rfl
  · rw [if_neg c2] at h
    refine X.aload_n (i := 0) dX12_readNames_78 rfl rfl ?_
    refine X.getI (k0 := 3) kX12 sM_0 (Nat.le_of_ble_eq_true rfl) rfl lfX12_79 dX12_readNames_79 ?_
    refine X.aload_n (i := 0) dX12_readNames_82 rfl rfl ?_
    refine X.getI (k0 := 2) kX12 sM_0 (Nat.le_of_ble_eq_true rfl) rfl lfX12_76 dX12_readNames_83 ?_
    refine X.icmp_eq (tgt := 103) dX12_readNames_86 (by decide) (fun c3 => ?_) (fun c3 => ?_)
    · rw [if_pos c3] at h
      refine X.iconst (v := (0 : Int32)) dX12_readNames_103 (by decide) ?_
      obtain rfl := Option.some.inj h
      exact X.zret dX12_readNames_104 rfl rfl rfl
    · rw [if_neg c3] at h
      refine X.aload_n (i := 0) dX12_readNames_89 rfl rfl ?_
      refine X.getR (k0 := 1) kX12 sM_0 (Nat.le_of_ble_eq_true rfl) rfl lfX12_7 dX12_readNames_90 ?_
      refine X.aload_n (i := 0) dX12_readNames_93 rfl rfl ?_
      refine X.getI (k0 := 3) kX12 sM_0 (Nat.le_of_ble_eq_true rfl) rfl lfX12_79 dX12_readNames_94 ?_
      by_cases c4 : xin (f 0 3) 40
      rotate_left
      · rw [if_neg c4] at h; cases h
      rw [if_pos c4] at h
      refine X.iald sM_1 c4 dX12_readNames_97 ?_
      refine X.bipush (v := (47 : Int32)) dX12_readNames_98 (by decide) ?_
      refine X.icmp_eq (tgt := 105) dX12_readNames_100 (by decide) (fun c5 => ?_) (fun c5 => ?_)
      · rw [if_pos c5] at h
        refine X.aload_n (i := 0) dX12_readNames_105 rfl rfl ?_
        refine X.dup dX12_readNames_106 rfl ?_
        refine X.getI (k0 := 3) kX12 sM_0 (Nat.le_of_ble_eq_true rfl) rfl lfX12_79 dX12_readNames_107 ?_
        refine X.iconst (v := (1 : Int32)) dX12_readNames_110 (by decide) ?_
        refine X.iadd dX12_readNames_111 ?_
        refine X.putI (k0 := 3) kX12 sM_0 (Nat.le_of_ble_eq_true rfl) rfl lfX12_79 rfl rfl dX12_readNames_112 ?_
        refine X.aload_n (i := 0) dX12_readNames_115 rfl rfl ?_
        refine X.iconst (v := (0 : Int32)) dX12_readNames_116 (by decide) ?_
        refine X.putI (k0 := 12) kX12 sM_0 (Nat.le_of_ble_eq_true rfl) rfl lfX12_92 rfl rfl dX12_readNames_117 ?_
        refine X.iconst (v := (0 : Int32)) dX12_readNames_120 (by decide) ?_
        refine X.istore_n (i := 1) (L' := [some (.ref 0), some (.int (0 : Int32))]) dX12_readNames_121 rfl (Nat.le_of_ble_eq_true rfl) rfl ?_
        exact X.weaken (xle_c (xle_c xle_e)) (tX12_readNames_b122 F h)
      · rw [if_neg c5] at h
        refine X.iconst (v := (0 : Int32)) dX12_readNames_103 (by decide) ?_
        obtain rfl := Option.some.inj h
        exact X.zret dX12_readNames_104 rfl rfl rfl
def pX12_readNames_b10 (F : Nat) : Nat → xM → Option (Int32 × xM)
  | 0, _ => none
  | n + 1, f => (if (5 : Int32) ≤ (f 0 10) then (pX12_readNames_b71 F f) else (Option.bind (pX12_isLetter f) fun q10 => (if q10 = 0 then (pX12_readNames_b71 F f) else (if xin (f 0 3) 40 then (pX12_readNames_b10 F n (xu (xu (xu f 0 11 ((((4 : Int32) * (f 0 11)) + (f 1 (f 0 3).toNatClampNeg)) - (97 : Int32))) 0 10 (((xu f 0 11 ((((4 : Int32) * (f 0 11)) + (f 1 (f 0 3).toNatClampNeg)) - (97 : Int32))) 0 10) + (1 : Int32))) 0 3 (((xu (xu f 0 11 ((((4 : Int32) * (f 0 11)) + (f 1 (f 0 3).toNatClampNeg)) - (97 : Int32))) 0 10 (((xu f 0 11 ((((4 : Int32) * (f 0 11)) + (f 1 (f 0 3).toNatClampNeg)) - (97 : Int32))) 0 10) + (1 : Int32))) 0 3) + (1 : Int32)))) else none))))
set_option maxRecDepth 100000 in
set_option maxHeartbeats 4000000 in
theorem tX12_readNames_b10 {F : Nat} {g : xN} : ∀ (n : Nat) {f : xM} {r : Int32 × xM}, pX12_readNames_b10 F n f = some r → X mX12_readNames 2 (some (.int r.1), r.2, g) 10 [some (.ref 0), none] [] f g := by
  intro n
  induction n with
  | zero => intro f r h; cases h
  | succ n ih =>
    intro f r h
    rw [pX12_readNames_b10] at h
    refine X.aload_n (i := 0) dX12_readNames_10 rfl rfl ?_
    refine X.getI (k0 := 10) kX12 sM_0 (Nat.le_of_ble_eq_true rfl) rfl lfX12_85 dX12_readNames_11 ?_
    refine X.iconst (v := (5 : Int32)) dX12_readNames_14 (by decide) ?_
    refine X.icmp_ge (tgt := 71) dX12_readNames_15 (by decide) (fun c1 => ?_) (fun c1 => ?_)
    · rw [if_pos c1] at h
      exact X.weaken (xle_c (xle_n xle_e)) (tX12_readNames_b71 h)
    · rw [if_neg c1] at h
      refine X.aload_n (i := 0) dX12_readNames_18 rfl rfl ?_
      obtain ⟨q10, e10, h⟩ := xbind h
      try dsimp only at h
      refine X.callV (μ' := mX12_isLetter) (As := []) (st := []) (st1 := [.int q10]) (r := some (.int q10)) (f' := f) (g' := g) (tX12_isLetter e10) (Nat.le_of_ble_eq_true rfl) cwX12_isLetter rfl mlX12_88 sM_0 kX12 rfl rfl rfl (Nat.le_of_ble_eq_true rfl) dX12_readNames_19 ?_
      refine X.if_eq (tgt := 71) dX12_readNames_22 (by decide) (fun c11 => ?_) (fun c11 => ?_)
      · rw [if_pos c11] at h
        exact X.weaken (xle_c (xle_n xle_e)) (tX12_readNames_b71 h)
      · rw [if_neg c11] at h
        refine X.aload_n (i := 0) dX12_readNames_25 rfl rfl ?_
        refine X.iconst (v := (4 : Int32)) dX12_readNames_26 (by decide) ?_
        refine X.aload_n (i := 0) dX12_readNames_27 rfl rfl ?_
        refine X.getI (k0 := 11) kX12 sM_0 (Nat.le_of_ble_eq_true rfl) rfl lfX12_82 dX12_readNames_28 ?_
        refine X.imul dX12_readNames_31 ?_
        refine X.aload_n (i := 0) dX12_readNames_32 rfl rfl ?_
        refine X.getR (k0 := 1) kX12 sM_0 (Nat.le_of_ble_eq_true rfl) rfl lfX12_7 dX12_readNames_33 ?_
        refine X.aload_n (i := 0) dX12_readNames_36 rfl rfl ?_
        refine X.getI (k0 := 3) kX12 sM_0 (Nat.le_of_ble_eq_true rfl) rfl lfX12_79 dX12_readNames_37 ?_
        by_cases c12 : xin (f 0 3) 40
        rotate_left
        · rw [if_neg c12] at h; cases h
        rw [if_pos c12] at h
        refine X.iald sM_1 c12 dX12_readNames_40 ?_
        refine X.iadd dX12_readNames_41 ?_
        refine X.bipush (v := (97 : Int32)) dX12_readNames_42 (by decide) ?_
        refine X.isub dX12_readNames_44 ?_
        refine X.putI (k0 := 11) kX12 sM_0 (Nat.le_of_ble_eq_true rfl) rfl lfX12_82 rfl rfl dX12_readNames_45 ?_
        refine X.aload_n (i := 0) dX12_readNames_48 rfl rfl ?_
        refine X.dup dX12_readNames_49 rfl ?_
        refine X.getI (k0 := 10) kX12 sM_0 (Nat.le_of_ble_eq_true rfl) rfl lfX12_85 dX12_readNames_50 ?_
        refine X.iconst (v := (1 : Int32)) dX12_readNames_53 (by decide) ?_
        refine X.iadd dX12_readNames_54 ?_
        refine X.putI (k0 := 10) kX12 sM_0 (Nat.le_of_ble_eq_true rfl) rfl lfX12_85 rfl rfl dX12_readNames_55 ?_
        refine X.aload_n (i := 0) dX12_readNames_58 rfl rfl ?_
        refine X.dup dX12_readNames_59 rfl ?_
        refine X.getI (k0 := 3) kX12 sM_0 (Nat.le_of_ble_eq_true rfl) rfl lfX12_79 dX12_readNames_60 ?_
        refine X.iconst (v := (1 : Int32)) dX12_readNames_63 (by decide) ?_
        refine X.iadd dX12_readNames_64 ?_
        refine X.putI (k0 := 3) kX12 sM_0 (Nat.le_of_ble_eq_true rfl) rfl lfX12_79 rfl rfl dX12_readNames_65 ?_
        refine X.goto (tgt := 10) dX12_readNames_68 (by decide) ?_
        exact X.weaken (xle_c (xle_n xle_e)) (ih h)
def pX12_readNames (F : Nat) (f : xM) : Option (Int32 × xM) := (pX12_readNames_b10 F F (xu (xu f 0 11 (0 : Int32)) 0 10 (0 : Int32)))
set_option maxRecDepth 100000 in
set_option maxHeartbeats 4000000 in
theorem tX12_readNames {F : Nat} {g : xN} {f : xM} {r : Int32 × xM} (h : pX12_readNames F f = some r) : XT mX12_readNames 2 [.ref 0] f g (some (.int r.1), r.2, g) := by
  unfold pX12_readNames at h
  refine XT.of (L := [some (.ref 0), none]) [some (.ref 0)] rfl (Nat.le_of_ble_eq_true rfl) rfl (xle_c (xle_z xle_e)) ?_
  refine X.aload_n (i := 0) dX12_readNames_0 rfl rfl ?_
  refine X.iconst (v := (0 : Int32)) dX12_readNames_1 (by decide) ?_
  refine X.putI (k0 := 11) kX12 sM_0 (Nat.le_of_ble_eq_true rfl) rfl lfX12_82 rfl rfl dX12_readNames_2 ?_
  refine X.aload_n (i := 0) dX12_readNames_5 rfl rfl ?_
  refine X.iconst (v := (0 : Int32)) dX12_readNames_6 (by decide) ?_
  refine X.putI (k0 := 10) kX12 sM_0 (Nat.le_of_ble_eq_true rfl) rfl lfX12_85 rfl rfl dX12_readNames_7 ?_
  exact X.weaken (xle_c (xle_n xle_e)) (tX12_readNames_b10 F h)
def pX12_figure (v1 : Int32) (v2 : Int32) (f : xM) : Option (Int32 × xM) := (if (f 0 3) = (f 0 2) then some (((-9 : Int32), f)) else (if xin (f 0 3) 40 then (if (pX12_in ((f 1 (f 0 3).toNatClampNeg) - (48 : Int32)).toInt64 v1.toInt64 v2.toInt64) = 0 then some (((-9 : Int32), f)) else (if xin (((xu f 0 3 ((f 0 3) + (1 : Int32))) 0 3) - (1 : Int32)) 40 then some (((((xu f 0 3 ((f 0 3) + (1 : Int32))) 1 (((xu f 0 3 ((f 0 3) + (1 : Int32))) 0 3) - (1 : Int32)).toNatClampNeg) - (48 : Int32)), (xu f 0 3 ((f 0 3) + (1 : Int32))))) else none)) else none))
set_option maxRecDepth 100000 in
set_option maxHeartbeats 4000000 in
theorem tX12_figure {g : xN} {v1 : Int32} {v2 : Int32} {f : xM} {r : Int32 × xM} (h : pX12_figure v1 v2 f = some r) : XT mX12_figure 1 [.ref 0, .int v1, .int v2] f g (some (.int r.1), r.2, g) := by
  unfold pX12_figure at h
  refine XT.of (L := [some (.ref 0), some (.int v1), some (.int v2)]) [some (.ref 0), some (.int v1), some (.int v2)] rfl (Nat.le_of_ble_eq_true rfl) rfl (xle_c (xle_c (xle_c xle_e))) ?_
  refine X.aload_n (i := 0) dX12_figure_0 rfl rfl ?_
  refine X.getI (k0 := 3) kX12 sM_0 (Nat.le_of_ble_eq_true rfl) rfl lfX12_79 dX12_figure_1 ?_
  refine X.aload_n (i := 0) dX12_figure_4 rfl rfl ?_
  refine X.getI (k0 := 2) kX12 sM_0 (Nat.le_of_ble_eq_true rfl) rfl lfX12_76 dX12_figure_5 ?_
  refine X.icmp_eq (tgt := 34) dX12_figure_8 (by decide) (fun c1 => ?_) (fun c1 => ?_)
  · rw [if_pos c1] at h
    refine X.bipush (v := (-9 : Int32)) dX12_figure_34 (by decide) ?_
    obtain rfl := Option.some.inj h
    exact X.iret dX12_figure_36 rfl rfl
  · rw [if_neg c1] at h
    refine X.aload_n (i := 0) dX12_figure_11 rfl rfl ?_
    refine X.getR (k0 := 1) kX12 sM_0 (Nat.le_of_ble_eq_true rfl) rfl lfX12_7 dX12_figure_12 ?_
    refine X.aload_n (i := 0) dX12_figure_15 rfl rfl ?_
    refine X.getI (k0 := 3) kX12 sM_0 (Nat.le_of_ble_eq_true rfl) rfl lfX12_79 dX12_figure_16 ?_
    by_cases c2 : xin (f 0 3) 40
    rotate_left
    · rw [if_neg c2] at h; cases h
    rw [if_pos c2] at h
    refine X.iald sM_1 c2 dX12_figure_19 ?_
    refine X.bipush (v := (48 : Int32)) dX12_figure_20 (by decide) ?_
    refine X.isub dX12_figure_22 ?_
    refine X.i2l dX12_figure_23 ?_
    refine X.iload_n (i := 1) dX12_figure_24 rfl rfl ?_
    refine X.i2l dX12_figure_25 ?_
    refine X.iload_n (i := 2) dX12_figure_26 rfl rfl ?_
    refine X.i2l dX12_figure_27 ?_
    refine X.callS (μ' := mX12_in) (As := [.long ((f 1 (f 0 3).toNatClampNeg) - (48 : Int32)).toInt64, .long v1.toInt64, .long v2.toInt64]) (st := []) (st1 := [.int (pX12_in ((f 1 (f 0 3).toNatClampNeg) - (48 : Int32)).toInt64 v1.toInt64 v2.toInt64)]) (r := some (.int (pX12_in ((f 1 (f 0 3).toNatClampNeg) - (48 : Int32)).toInt64 v1.toInt64 v2.toInt64))) (f' := f) (g' := g) (tX12_in rfl) (Nat.le_of_ble_eq_true rfl) cwX12_in rfl mlX12_65 rfl rfl rfl (Nat.le_of_ble_eq_true rfl) dX12_figure_28 ?_
    refine X.if_ne (tgt := 37) dX12_figure_31 (by decide) (fun c3 => ?_) (fun c3 => ?_)
    · rw [if_neg c3] at h
      refine X.aload_n (i := 0) dX12_figure_37 rfl rfl ?_
      refine X.dup dX12_figure_38 rfl ?_
      refine X.getI (k0 := 3) kX12 sM_0 (Nat.le_of_ble_eq_true rfl) rfl lfX12_79 dX12_figure_39 ?_
      refine X.iconst (v := (1 : Int32)) dX12_figure_42 (by decide) ?_
      refine X.iadd dX12_figure_43 ?_
      refine X.putI (k0 := 3) kX12 sM_0 (Nat.le_of_ble_eq_true rfl) rfl lfX12_79 rfl rfl dX12_figure_44 ?_
      refine X.aload_n (i := 0) dX12_figure_47 rfl rfl ?_
      refine X.getR (k0 := 1) kX12 sM_0 (Nat.le_of_ble_eq_true rfl) rfl lfX12_7 dX12_figure_48 ?_
      refine X.aload_n (i := 0) dX12_figure_51 rfl rfl ?_
      refine X.getI (k0 := 3) kX12 sM_0 (Nat.le_of_ble_eq_true rfl) rfl lfX12_79 dX12_figure_52 ?_
      refine X.iconst (v := (1 : Int32)) dX12_figure_55 (by decide) ?_
      refine X.isub dX12_figure_56 ?_
      by_cases c4 : xin (((xu f 0 3 ((f 0 3) + (1 : Int32))) 0 3) - (1 : Int32)) 40
      rotate_left
      · rw [if_neg c4] at h; cases h
      rw [if_pos c4] at h
      refine X.iald sM_1 c4 dX12_figure_57 ?_
      refine X.bipush (v := (48 : Int32)) dX12_figure_58 (by decide) ?_
      refine X.isub dX12_figure_60 ?_
      obtain rfl := Option.some.inj h
      exact X.iret dX12_figure_61 rfl rfl
    · rw [if_pos c3] at h
      refine X.bipush (v := (-9 : Int32)) dX12_figure_34 (by decide) ?_
      obtain rfl := Option.some.inj h
      exact X.iret dX12_figure_36 rfl rfl
def pX12_readPart_b111 (v2 : Int32) (s0 : Int32) (f : xM) : Option (Int32 × xM) := (if s0 = (-9 : Int32) then some (((0 : Int32), f)) else (if xin (f 0 14) 4 then (if xin ((xu f 5 (f 0 14).toNatClampNeg v2) 0 14) 4 then some (((1 : Int32), (xu (xu (xu f 5 (f 0 14).toNatClampNeg v2) 6 ((xu f 5 (f 0 14).toNatClampNeg v2) 0 14).toNatClampNeg s0) 0 14 (((xu (xu f 5 (f 0 14).toNatClampNeg v2) 6 ((xu f 5 (f 0 14).toNatClampNeg v2) 0 14).toNatClampNeg s0) 0 14) + (1 : Int32))))) else none) else none))
set_option maxRecDepth 100000 in
set_option maxHeartbeats 4000000 in
theorem tX12_readPart_b111 {g : xN} {v2 : Int32} {s0 : Int32} {f : xM} {r : Int32 × xM} (h : pX12_readPart_b111 v2 s0 f = some r) : X mX12_readPart 2 (some (.int r.1), r.2, g) 111 [some (.ref 0), none, some (.int v2), none] [.int s0] f g := by
  unfold pX12_readPart_b111 at h
  refine X.istore_n (i := 3) (L' := [some (.ref 0), none, some (.int v2), some (.int s0)]) dX12_readPart_111 rfl (Nat.le_of_ble_eq_true rfl) rfl ?_
  refine X.iload_n (i := 3) dX12_readPart_112 rfl rfl ?_
  refine X.bipush (v := (-9 : Int32)) dX12_readPart_113 (by decide) ?_
  refine X.icmp_ne (tgt := 120) dX12_readPart_115 (by decide) (fun c8 => ?_) (fun c8 => ?_)
  · rw [if_neg c8] at h
    refine X.aload_n (i := 0) dX12_readPart_120 rfl rfl ?_
    refine X.getR (k0 := 16) kX12 sM_0 (Nat.le_of_ble_eq_true rfl) rfl lfX12_26 dX12_readPart_121 ?_
    refine X.aload_n (i := 0) dX12_readPart_124 rfl rfl ?_
    refine X.getI (k0 := 14) kX12 sM_0 (Nat.le_of_ble_eq_true rfl) rfl lfX12_102 dX12_readPart_125 ?_
    refine X.iload_n (i := 2) dX12_readPart_128 rfl rfl ?_
    by_cases c9 : xin (f 0 14) 4
    rotate_left
    · rw [if_neg c9] at h; cases h
    rw [if_pos c9] at h
    refine X.iast sM_5 c9 dX12_readPart_129 ?_
    refine X.aload_n (i := 0) dX12_readPart_130 rfl rfl ?_
    refine X.getR (k0 := 17) kX12 sM_0 (Nat.le_of_ble_eq_true rfl) rfl lfX12_29 dX12_readPart_131 ?_
    refine X.aload_n (i := 0) dX12_readPart_134 rfl rfl ?_
    refine X.getI (k0 := 14) kX12 sM_0 (Nat.le_of_ble_eq_true rfl) rfl lfX12_102 dX12_readPart_135 ?_
    refine X.iload_n (i := 3) dX12_readPart_138 rfl rfl ?_
    by_cases c10 : xin ((xu f 5 (f 0 14).toNatClampNeg v2) 0 14) 4
    rotate_left
    · rw [if_neg c10] at h; cases h
    rw [if_pos c10] at h
    refine X.iast sM_6 c10 dX12_readPart_139 ?_
    refine X.aload_n (i := 0) dX12_readPart_140 rfl rfl ?_
    refine X.dup dX12_readPart_141 rfl ?_
    refine X.getI (k0 := 14) kX12 sM_0 (Nat.le_of_ble_eq_true rfl) rfl lfX12_102 dX12_readPart_142 ?_
    refine X.iconst (v := (1 : Int32)) dX12_readPart_145 (by decide) ?_
    refine X.iadd dX12_readPart_146 ?_
    refine X.putI (k0 := 14) kX12 sM_0 (Nat.le_of_ble_eq_true rfl) rfl lfX12_102 rfl rfl dX12_readPart_147 ?_
    refine X.iconst (v := (1 : Int32)) dX12_readPart_150 (by decide) ?_
    obtain rfl := Option.some.inj h
    exact X.zret dX12_readPart_151 rfl rfl rfl
  · rw [if_pos c8] at h
    refine X.iconst (v := (0 : Int32)) dX12_readPart_118 (by decide) ?_
    obtain rfl := Option.some.inj h
    exact X.zret dX12_readPart_119 rfl rfl rfl
def pX12_readPart_b71 (v1 : Int32) (f : xM) : Option (Int32 × xM) := (if v1 = (82 : Int32) then (if (4 : Int32) ≤ (f 0 14) then some (((0 : Int32), (xu f 0 3 ((f 0 3) - (1 : Int32))))) else (Option.bind (pX12_figure (1 : Int32) (4 : Int32) f) fun q5 => (if q5.1 = (-9 : Int32) then (pX12_readPart_b111 q5.1 (-9 : Int32) q5.2) else (Option.bind (pX12_figure (0 : Int32) (q5.1 - (1 : Int32)) q5.2) fun q7 => (pX12_readPart_b111 q5.1 q7.1 q7.2))))) else some (((0 : Int32), (xu f 0 3 ((f 0 3) - (1 : Int32))))))
set_option maxRecDepth 100000 in
set_option maxHeartbeats 4000000 in
theorem tX12_readPart_b71 {g : xN} {v1 : Int32} {f : xM} {r : Int32 × xM} (h : pX12_readPart_b71 v1 f = some r) : X mX12_readPart 2 (some (.int r.1), r.2, g) 71 [some (.ref 0), some (.int v1), none, none] [] f g := by
  unfold pX12_readPart_b71 at h
  refine X.iload_n (i := 1) dX12_readPart_71 rfl rfl ?_
  refine X.bipush (v := (82 : Int32)) dX12_readPart_72 (by decide) ?_
  refine X.icmp_ne (tgt := 152) dX12_readPart_74 (by decide) (fun c3 => ?_) (fun c3 => ?_)
  · rw [if_neg c3] at h
    refine X.aload_n (i := 0) dX12_readPart_152 rfl rfl ?_
    refine X.dup dX12_readPart_153 rfl ?_
    refine X.getI (k0 := 3) kX12 sM_0 (Nat.le_of_ble_eq_true rfl) rfl lfX12_79 dX12_readPart_154 ?_
    refine X.iconst (v := (1 : Int32)) dX12_readPart_157 (by decide) ?_
    refine X.isub dX12_readPart_158 ?_
    refine X.putI (k0 := 3) kX12 sM_0 (Nat.le_of_ble_eq_true rfl) rfl lfX12_79 rfl rfl dX12_readPart_159 ?_
    refine X.iconst (v := (0 : Int32)) dX12_readPart_162 (by decide) ?_
    obtain rfl := Option.some.inj h
    exact X.zret dX12_readPart_163 rfl rfl rfl
  · rw [if_pos c3] at h
    refine X.aload_n (i := 0) dX12_readPart_77 rfl rfl ?_
    refine X.getI (k0 := 14) kX12 sM_0 (Nat.le_of_ble_eq_true rfl) rfl lfX12_102 dX12_readPart_78 ?_
    refine X.iconst (v := (4 : Int32)) dX12_readPart_81 (by decide) ?_
    refine X.icmp_ge (tgt := 152) dX12_readPart_82 (by decide) (fun c4 => ?_) (fun c4 => ?_)
    · rw [if_pos c4] at h
      refine X.aload_n (i := 0) dX12_readPart_152 rfl rfl ?_
      refine X.dup dX12_readPart_153 rfl ?_
      refine X.getI (k0 := 3) kX12 sM_0 (Nat.le_of_ble_eq_true rfl) rfl lfX12_79 dX12_readPart_154 ?_
      refine X.iconst (v := (1 : Int32)) dX12_readPart_157 (by decide) ?_
      refine X.isub dX12_readPart_158 ?_
      refine X.putI (k0 := 3) kX12 sM_0 (Nat.le_of_ble_eq_true rfl) rfl lfX12_79 rfl rfl dX12_readPart_159 ?_
      refine X.iconst (v := (0 : Int32)) dX12_readPart_162 (by decide) ?_
      obtain rfl := Option.some.inj h
      exact X.zret dX12_readPart_163 rfl rfl rfl
    · rw [if_neg c4] at h
      refine X.aload_n (i := 0) dX12_readPart_85 rfl rfl ?_
      refine X.iconst (v := (1 : Int32)) dX12_readPart_86 (by decide) ?_
      refine X.iconst (v := (4 : Int32)) dX12_readPart_87 (by decide) ?_
      obtain ⟨q5, e5, h⟩ := xbind h
      try dsimp only at h
      refine X.callV (μ' := mX12_figure) (As := [.int (1 : Int32), .int (4 : Int32)]) (st := []) (st1 := [.int q5.1]) (r := some (.int q5.1)) (f' := q5.2) (g' := g) (tX12_figure e5) (Nat.le_of_ble_eq_true rfl) cwX12_figure rfl mlX12_98 sM_0 kX12 rfl rfl rfl (Nat.le_of_ble_eq_true rfl) dX12_readPart_88 ?_
      refine X.istore_n (i := 2) (L' := [some (.ref 0), some (.int v1), some (.int q5.1), none]) dX12_readPart_91 rfl (Nat.le_of_ble_eq_true rfl) rfl ?_
      refine X.iload_n (i := 2) dX12_readPart_92 rfl rfl ?_
      refine X.bipush (v := (-9 : Int32)) dX12_readPart_93 (by decide) ?_
      refine X.icmp_ne (tgt := 103) dX12_readPart_95 (by decide) (fun c6 => ?_) (fun c6 => ?_)
      · rw [if_neg c6] at h
        refine X.aload_n (i := 0) dX12_readPart_103 rfl rfl ?_
        refine X.iconst (v := (0 : Int32)) dX12_readPart_104 (by decide) ?_
        refine X.iload_n (i := 2) dX12_readPart_105 rfl rfl ?_
        refine X.iconst (v := (1 : Int32)) dX12_readPart_106 (by decide) ?_
        refine X.isub dX12_readPart_107 ?_
        obtain ⟨q7, e7, h⟩ := xbind h
        try dsimp only at h
        refine X.callV (μ' := mX12_figure) (As := [.int (0 : Int32), .int (q5.1 - (1 : Int32))]) (st := []) (st1 := [.int q7.1]) (r := some (.int q7.1)) (f' := q7.2) (g' := g) (tX12_figure e7) (Nat.le_of_ble_eq_true rfl) cwX12_figure rfl mlX12_98 sM_0 kX12 rfl rfl rfl (Nat.le_of_ble_eq_true rfl) dX12_readPart_108 ?_
        exact X.weaken (xle_c (xle_n (xle_c (xle_n xle_e)))) (tX12_readPart_b111 h)
      · rw [if_pos c6] at h
        refine X.bipush (v := (-9 : Int32)) dX12_readPart_98 (by decide) ?_
        refine X.goto (tgt := 111) dX12_readPart_100 (by decide) ?_
        exact X.weaken (xle_c (xle_n (xle_c (xle_n xle_e)))) (tX12_readPart_b111 h)
def pX12_readPart (f : xM) : Option (Int32 × xM) := (if xin (f 0 3) 40 then (if (f 1 (f 0 3).toNatClampNeg) = (67 : Int32) then (if (3 : Int32) ≤ ((xu f 0 3 ((f 0 3) + (1 : Int32))) 0 13) then (pX12_readPart_b71 (f 1 (f 0 3).toNatClampNeg) (xu f 0 3 ((f 0 3) + (1 : Int32)))) else (Option.bind (pX12_figure (0 : Int32) (3 : Int32) (xu f 0 3 ((f 0 3) + (1 : Int32)))) fun q12 => (if q12.1 = (-9 : Int32) then some (((0 : Int32), q12.2)) else (if xin (q12.2 0 13) 3 then some (((1 : Int32), (xu (xu q12.2 4 (q12.2 0 13).toNatClampNeg q12.1) 0 13 (((xu q12.2 4 (q12.2 0 13).toNatClampNeg q12.1) 0 13) + (1 : Int32))))) else none)))) else (pX12_readPart_b71 (f 1 (f 0 3).toNatClampNeg) (xu f 0 3 ((f 0 3) + (1 : Int32))))) else none)
set_option maxRecDepth 100000 in
set_option maxHeartbeats 4000000 in
theorem tX12_readPart {g : xN} {f : xM} {r : Int32 × xM} (h : pX12_readPart f = some r) : XT mX12_readPart 2 [.ref 0] f g (some (.int r.1), r.2, g) := by
  unfold pX12_readPart at h
  refine XT.of (L := [some (.ref 0), none, none, none]) [some (.ref 0)] rfl (Nat.le_of_ble_eq_true rfl) rfl (xle_c (xle_z (xle_z (xle_z xle_e)))) ?_
  refine X.aload_n (i := 0) dX12_readPart_0 rfl rfl ?_
  refine X.getR (k0 := 1) kX12 sM_0 (Nat.le_of_ble_eq_true rfl) rfl lfX12_7 dX12_readPart_1 ?_
  refine X.aload_n (i := 0) dX12_readPart_4 rfl rfl ?_
  refine X.getI (k0 := 3) kX12 sM_0 (Nat.le_of_ble_eq_true rfl) rfl lfX12_79 dX12_readPart_5 ?_
  by_cases c1 : xin (f 0 3) 40
  rotate_left
  · rw [if_neg c1] at h; cases h
  rw [if_pos c1] at h
  refine X.iald sM_1 c1 dX12_readPart_8 ?_
  refine X.istore_n (i := 1) (L' := [some (.ref 0), some (.int (f 1 (f 0 3).toNatClampNeg)), none, none]) dX12_readPart_9 rfl (Nat.le_of_ble_eq_true rfl) rfl ?_
  refine X.aload_n (i := 0) dX12_readPart_10 rfl rfl ?_
  refine X.dup dX12_readPart_11 rfl ?_
  refine X.getI (k0 := 3) kX12 sM_0 (Nat.le_of_ble_eq_true rfl) rfl lfX12_79 dX12_readPart_12 ?_
  refine X.iconst (v := (1 : Int32)) dX12_readPart_15 (by decide) ?_
  refine X.iadd dX12_readPart_16 ?_
  refine X.putI (k0 := 3) kX12 sM_0 (Nat.le_of_ble_eq_true rfl) rfl lfX12_79 rfl rfl dX12_readPart_17 ?_
  refine X.iload_n (i := 1) dX12_readPart_20 rfl rfl ?_
  refine X.bipush (v := (67 : Int32)) dX12_readPart_21 (by decide) ?_
  refine X.icmp_ne (tgt := 71) dX12_readPart_23 (by decide) (fun c2 => ?_) (fun c2 => ?_)
  · rw [if_neg c2] at h
    exact X.weaken (xle_c (xle_c (xle_n (xle_n xle_e)))) (tX12_readPart_b71 h)
  · rw [if_pos c2] at h
    refine X.aload_n (i := 0) dX12_readPart_26 rfl rfl ?_
    refine X.getI (k0 := 13) kX12 sM_0 (Nat.le_of_ble_eq_true rfl) rfl lfX12_95 dX12_readPart_27 ?_
    refine X.iconst (v := (3 : Int32)) dX12_readPart_30 (by decide) ?_
    refine X.icmp_ge (tgt := 71) dX12_readPart_31 (by decide) (fun c11 => ?_) (fun c11 => ?_)
    · rw [if_pos c11] at h
      exact X.weaken (xle_c (xle_c (xle_n (xle_n xle_e)))) (tX12_readPart_b71 h)
    · rw [if_neg c11] at h
      refine X.aload_n (i := 0) dX12_readPart_34 rfl rfl ?_
      refine X.iconst (v := (0 : Int32)) dX12_readPart_35 (by decide) ?_
      refine X.iconst (v := (3 : Int32)) dX12_readPart_36 (by decide) ?_
      obtain ⟨q12, e12, h⟩ := xbind h
      try dsimp only at h
      refine X.callV (μ' := mX12_figure) (As := [.int (0 : Int32), .int (3 : Int32)]) (st := []) (st1 := [.int q12.1]) (r := some (.int q12.1)) (f' := q12.2) (g' := g) (tX12_figure e12) (Nat.le_of_ble_eq_true rfl) cwX12_figure rfl mlX12_98 sM_0 kX12 rfl rfl rfl (Nat.le_of_ble_eq_true rfl) dX12_readPart_37 ?_
      refine X.istore_n (i := 2) (L' := [some (.ref 0), some (.int (f 1 (f 0 3).toNatClampNeg)), some (.int q12.1), none]) dX12_readPart_40 rfl (Nat.le_of_ble_eq_true rfl) rfl ?_
      refine X.iload_n (i := 2) dX12_readPart_41 rfl rfl ?_
      refine X.bipush (v := (-9 : Int32)) dX12_readPart_42 (by decide) ?_
      refine X.icmp_ne (tgt := 49) dX12_readPart_44 (by decide) (fun c13 => ?_) (fun c13 => ?_)
      · rw [if_neg c13] at h
        refine X.aload_n (i := 0) dX12_readPart_49 rfl rfl ?_
        refine X.getR (k0 := 15) kX12 sM_0 (Nat.le_of_ble_eq_true rfl) rfl lfX12_23 dX12_readPart_50 ?_
        refine X.aload_n (i := 0) dX12_readPart_53 rfl rfl ?_
        refine X.getI (k0 := 13) kX12 sM_0 (Nat.le_of_ble_eq_true rfl) rfl lfX12_95 dX12_readPart_54 ?_
        refine X.iload_n (i := 2) dX12_readPart_57 rfl rfl ?_
        by_cases c14 : xin (q12.2 0 13) 3
        rotate_left
        · rw [if_neg c14] at h; cases h
        rw [if_pos c14] at h
        refine X.iast sM_4 c14 dX12_readPart_58 ?_
        refine X.aload_n (i := 0) dX12_readPart_59 rfl rfl ?_
        refine X.dup dX12_readPart_60 rfl ?_
        refine X.getI (k0 := 13) kX12 sM_0 (Nat.le_of_ble_eq_true rfl) rfl lfX12_95 dX12_readPart_61 ?_
        refine X.iconst (v := (1 : Int32)) dX12_readPart_64 (by decide) ?_
        refine X.iadd dX12_readPart_65 ?_
        refine X.putI (k0 := 13) kX12 sM_0 (Nat.le_of_ble_eq_true rfl) rfl lfX12_95 rfl rfl dX12_readPart_66 ?_
        refine X.iconst (v := (1 : Int32)) dX12_readPart_69 (by decide) ?_
        obtain rfl := Option.some.inj h
        exact X.zret dX12_readPart_70 rfl rfl rfl
      · rw [if_pos c13] at h
        refine X.iconst (v := (0 : Int32)) dX12_readPart_47 (by decide) ?_
        obtain rfl := Option.some.inj h
        exact X.zret dX12_readPart_48 rfl rfl rfl
def pX12_readPaper_b52 (F : Nat) : Nat → xM → Option (Int32 × xM)
  | 0, _ => none
  | n + 1, f => (if (f 0 2) ≤ (f 0 3) then some (((-9 : Int32), f)) else (Option.bind (pX12_readPart f) fun q6 => (if q6.1 = 0 then some (((q6.2 0 3), q6.2)) else (pX12_readPaper_b52 F n q6.2))))
set_option maxRecDepth 100000 in
set_option maxHeartbeats 4000000 in
theorem tX12_readPaper_b52 {F : Nat} {g : xN} : ∀ (n : Nat) {f : xM} {r : Int32 × xM}, pX12_readPaper_b52 F n f = some r → X mX12_readPaper 3 (some (.int r.1), r.2, g) 52 [some (.ref 0)] [] f g := by
  intro n
  induction n with
  | zero => intro f r h; cases h
  | succ n ih =>
    intro f r h
    rw [pX12_readPaper_b52] at h
    refine X.aload_n (i := 0) dX12_readPaper_52 rfl rfl ?_
    refine X.getI (k0 := 3) kX12 sM_0 (Nat.le_of_ble_eq_true rfl) rfl lfX12_79 dX12_readPaper_53 ?_
    refine X.aload_n (i := 0) dX12_readPaper_56 rfl rfl ?_
    refine X.getI (k0 := 2) kX12 sM_0 (Nat.le_of_ble_eq_true rfl) rfl lfX12_76 dX12_readPaper_57 ?_
    refine X.icmp_ge (tgt := 75) dX12_readPaper_60 (by decide) (fun c5 => ?_) (fun c5 => ?_)
    · rw [if_pos c5] at h
      refine X.bipush (v := (-9 : Int32)) dX12_readPaper_75 (by decide) ?_
      obtain rfl := Option.some.inj h
      exact X.iret dX12_readPaper_77 rfl rfl
    · rw [if_neg c5] at h
      refine X.aload_n (i := 0) dX12_readPaper_63 rfl rfl ?_
      obtain ⟨q6, e6, h⟩ := xbind h
      try dsimp only at h
      refine X.callV (μ' := mX12_readPart) (As := []) (st := []) (st1 := [.int q6.1]) (r := some (.int q6.1)) (f' := q6.2) (g' := g) (tX12_readPart e6) (Nat.le_of_ble_eq_true rfl) cwX12_readPart rfl mlX12_108 sM_0 kX12 rfl rfl rfl (Nat.le_of_ble_eq_true rfl) dX12_readPaper_64 ?_
      refine X.if_ne (tgt := 52) dX12_readPaper_67 (by decide) (fun c7 => ?_) (fun c7 => ?_)
      · rw [if_neg c7] at h
        exact X.weaken (xle_c xle_e) (ih h)
      · rw [if_pos c7] at h
        refine X.aload_n (i := 0) dX12_readPaper_70 rfl rfl ?_
        refine X.getI (k0 := 3) kX12 sM_0 (Nat.le_of_ble_eq_true rfl) rfl lfX12_79 dX12_readPaper_71 ?_
        obtain rfl := Option.some.inj h
        exact X.iret dX12_readPaper_74 rfl rfl
def pX12_readPaper (F : Nat) (f : xM) : Option (Int32 × xM) := (if ((xu (xu (xu f 0 3 (0 : Int32)) 0 13 (0 : Int32)) 0 14 (0 : Int32)) 0 2) = 0 then some (((0 : Int32), (xu (xu (xu f 0 3 (0 : Int32)) 0 13 (0 : Int32)) 0 14 (0 : Int32)))) else (if ((xu (xu (xu f 0 3 (0 : Int32)) 0 13 (0 : Int32)) 0 14 (0 : Int32)) 1 0) = (69 : Int32) then (Option.bind (pX12_readNames F (xu (xu (xu (xu f 0 3 (0 : Int32)) 0 13 (0 : Int32)) 0 14 (0 : Int32)) 0 3 (1 : Int32))) fun q3 => (if q3.1 = 0 then some (((q3.2 0 3), q3.2)) else (pX12_readPaper_b52 F F q3.2))) else some (((0 : Int32), (xu (xu (xu f 0 3 (0 : Int32)) 0 13 (0 : Int32)) 0 14 (0 : Int32))))))
set_option maxRecDepth 100000 in
set_option maxHeartbeats 4000000 in
theorem tX12_readPaper {F : Nat} {g : xN} {f : xM} {r : Int32 × xM} (h : pX12_readPaper F f = some r) : XT mX12_readPaper 3 [.ref 0] f g (some (.int r.1), r.2, g) := by
  unfold pX12_readPaper at h
  refine XT.of (L := [some (.ref 0)]) [some (.ref 0)] rfl (Nat.le_of_ble_eq_true rfl) rfl (xle_c xle_e) ?_
  refine X.aload_n (i := 0) dX12_readPaper_0 rfl rfl ?_
  refine X.iconst (v := (0 : Int32)) dX12_readPaper_1 (by decide) ?_
  refine X.putI (k0 := 3) kX12 sM_0 (Nat.le_of_ble_eq_true rfl) rfl lfX12_79 rfl rfl dX12_readPaper_2 ?_
  refine X.aload_n (i := 0) dX12_readPaper_5 rfl rfl ?_
  refine X.iconst (v := (0 : Int32)) dX12_readPaper_6 (by decide) ?_
  refine X.putI (k0 := 13) kX12 sM_0 (Nat.le_of_ble_eq_true rfl) rfl lfX12_95 rfl rfl dX12_readPaper_7 ?_
  refine X.aload_n (i := 0) dX12_readPaper_10 rfl rfl ?_
  refine X.iconst (v := (0 : Int32)) dX12_readPaper_11 (by decide) ?_
  refine X.putI (k0 := 14) kX12 sM_0 (Nat.le_of_ble_eq_true rfl) rfl lfX12_102 rfl rfl dX12_readPaper_12 ?_
  refine X.aload_n (i := 0) dX12_readPaper_15 rfl rfl ?_
  refine X.getI (k0 := 2) kX12 sM_0 (Nat.le_of_ble_eq_true rfl) rfl lfX12_76 dX12_readPaper_16 ?_
  refine X.if_eq (tgt := 33) dX12_readPaper_19 (by decide) (fun c1 => ?_) (fun c1 => ?_)
  · rw [if_pos c1] at h
    refine X.iconst (v := (0 : Int32)) dX12_readPaper_33 (by decide) ?_
    obtain rfl := Option.some.inj h
    exact X.iret dX12_readPaper_34 rfl rfl
  · rw [if_neg c1] at h
    refine X.aload_n (i := 0) dX12_readPaper_22 rfl rfl ?_
    refine X.getR (k0 := 1) kX12 sM_0 (Nat.le_of_ble_eq_true rfl) rfl lfX12_7 dX12_readPaper_23 ?_
    refine X.iconst (v := (0 : Int32)) dX12_readPaper_26 (by decide) ?_
    refine X.ialdK (m := 0) sM_1 (by decide) (by decide) dX12_readPaper_27 ?_
    refine X.bipush (v := (69 : Int32)) dX12_readPaper_28 (by decide) ?_
    refine X.icmp_eq (tgt := 35) dX12_readPaper_30 (by decide) (fun c2 => ?_) (fun c2 => ?_)
    · rw [if_pos c2] at h
      refine X.aload_n (i := 0) dX12_readPaper_35 rfl rfl ?_
      refine X.iconst (v := (1 : Int32)) dX12_readPaper_36 (by decide) ?_
      refine X.putI (k0 := 3) kX12 sM_0 (Nat.le_of_ble_eq_true rfl) rfl lfX12_79 rfl rfl dX12_readPaper_37 ?_
      refine X.aload_n (i := 0) dX12_readPaper_40 rfl rfl ?_
      obtain ⟨q3, e3, h⟩ := xbind h
      try dsimp only at h
      refine X.callV (μ' := mX12_readNames) (As := []) (st := []) (st1 := [.int q3.1]) (r := some (.int q3.1)) (f' := q3.2) (g' := g) (tX12_readNames e3) (Nat.le_of_ble_eq_true rfl) cwX12_readNames rfl mlX12_105 sM_0 kX12 rfl rfl rfl (Nat.le_of_ble_eq_true rfl) dX12_readPaper_41 ?_
      refine X.if_ne (tgt := 52) dX12_readPaper_44 (by decide) (fun c4 => ?_) (fun c4 => ?_)
      · rw [if_neg c4] at h
        exact X.weaken (xle_c xle_e) (tX12_readPaper_b52 F h)
      · rw [if_pos c4] at h
        refine X.aload_n (i := 0) dX12_readPaper_47 rfl rfl ?_
        refine X.getI (k0 := 3) kX12 sM_0 (Nat.le_of_ble_eq_true rfl) rfl lfX12_79 dX12_readPaper_48 ?_
        obtain rfl := Option.some.inj h
        exact X.iret dX12_readPaper_51 rfl rfl
    · rw [if_neg c2] at h
      refine X.iconst (v := (0 : Int32)) dX12_readPaper_33 (by decide) ?_
      obtain rfl := Option.some.inj h
      exact X.iret dX12_readPaper_34 rfl rfl
def pX12_fault (F : Nat) (f : xM) : Option (Int32 × xM) := (Option.bind (pX12_readPaper F (xu f 0 0 (0 : Int32))) fun q1 => some ((q1.1, q1.2)))
set_option maxRecDepth 100000 in
set_option maxHeartbeats 4000000 in
theorem tX12_fault {F : Nat} {g : xN} {f : xM} {r : Int32 × xM} (h : pX12_fault F f = some r) : XT mX12_fault 4 [.ref 0] f g (some (.int r.1), r.2, g) := by
  unfold pX12_fault at h
  refine XT.of (L := [some (.ref 0)]) [some (.ref 0)] rfl (Nat.le_of_ble_eq_true rfl) rfl (xle_c xle_e) ?_
  refine X.aload_n (i := 0) dX12_fault_0 rfl rfl ?_
  refine X.iconst (v := (0 : Int32)) dX12_fault_1 (by decide) ?_
  refine X.putI (k0 := 0) kX12 sM_0 (Nat.le_of_ble_eq_true rfl) rfl lfX12_57 rfl rfl dX12_fault_2 ?_
  refine X.aload_n (i := 0) dX12_fault_5 rfl rfl ?_
  obtain ⟨q1, e1, h⟩ := xbind h
  try dsimp only at h
  refine X.callV (μ' := mX12_readPaper) (As := []) (st := []) (st1 := [.int q1.1]) (r := some (.int q1.1)) (f' := q1.2) (g' := g) (tX12_readPaper e1) (Nat.le_of_ble_eq_true rfl) cwX12_readPaper rfl mlX12_111 sM_0 kX12 rfl rfl rfl (Nat.le_of_ble_eq_true rfl) dX12_fault_6 ?_
  obtain rfl := Option.some.inj h
  exact X.iret dX12_fault_9 rfl rfl
def pX12_paper_b112 (F : Nat) : Nat → Int32 → xM → Option (Int32 × xM)
  | 0, _, _ => none
  | n + 1, v1, f => (if (f 0 7) ≤ v1 then some (((((10 : Int32) * ((xu (xu (xu f 0 21 (0 : Int32)) 11 0 (0 : Int32)) 11 1 (0 : Int32)) 0 6)) + ((xu (xu (xu f 0 21 (0 : Int32)) 11 0 (0 : Int32)) 11 1 (0 : Int32)) 0 7)), (xu (xu (xu f 0 21 (0 : Int32)) 11 0 (0 : Int32)) 11 1 (0 : Int32)))) else (if xin v1 4 then (if xin v1 4 then (if xin v1 4 then (if xin v1 4 then (if xin ((5 : Int32) + v1) 9 then (pX12_paper_b112 F n (v1 + (1 : Int32)) (xu (xu (xu f 2 v1.toNatClampNeg (f 5 v1.toNatClampNeg)) 3 v1.toNatClampNeg ((xu f 2 v1.toNatClampNeg (f 5 v1.toNatClampNeg)) 6 v1.toNatClampNeg)) 7 ((5 : Int32) + v1).toNatClampNeg ((xu (xu f 2 v1.toNatClampNeg (f 5 v1.toNatClampNeg)) 3 v1.toNatClampNeg ((xu f 2 v1.toNatClampNeg (f 5 v1.toNatClampNeg)) 6 v1.toNatClampNeg)) 0 12))) else none) else none) else none) else none) else none))
set_option maxRecDepth 100000 in
set_option maxHeartbeats 4000000 in
theorem tX12_paper_b112 {F : Nat} {g : xN} : ∀ (n : Nat) {v1 : Int32} {f : xM} {r : Int32 × xM}, pX12_paper_b112 F n v1 f = some r → X mX12_paper 4 (some (.int r.1), r.2, g) 112 [some (.ref 0), some (.int v1)] [] f g := by
  intro n
  induction n with
  | zero => intro v1 f r h; cases h
  | succ n ih =>
    intro v1 f r h
    rw [pX12_paper_b112] at h
    refine X.iload_n (i := 1) dX12_paper_112 rfl rfl ?_
    refine X.aload_n (i := 0) dX12_paper_113 rfl rfl ?_
    refine X.getI (k0 := 7) kX12 sM_0 (Nat.le_of_ble_eq_true rfl) rfl lfX12_69 dX12_paper_114 ?_
    refine X.icmp_ge (tgt := 162) dX12_paper_117 (by decide) (fun c5 => ?_) (fun c5 => ?_)
    · rw [if_pos c5] at h
      refine X.aload_n (i := 0) dX12_paper_162 rfl rfl ?_
      refine X.iconst (v := (0 : Int32)) dX12_paper_163 (by decide) ?_
      refine X.putI (k0 := 21) kX12 sM_0 (Nat.le_of_ble_eq_true rfl) rfl lfX12_118 rfl rfl dX12_paper_164 ?_
      refine X.aload_n (i := 0) dX12_paper_167 rfl rfl ?_
      refine X.getR (k0 := 23) kX12 sM_0 (Nat.le_of_ble_eq_true rfl) rfl lfX12_44 dX12_paper_168 ?_
      refine X.iconst (v := (0 : Int32)) dX12_paper_171 (by decide) ?_
      refine X.iconst (v := (0 : Int32)) dX12_paper_172 (by decide) ?_
      refine X.zastK (m := 0) sM_11 (by decide) (by decide) rfl dX12_paper_173 ?_
      refine X.aload_n (i := 0) dX12_paper_174 rfl rfl ?_
      refine X.getR (k0 := 23) kX12 sM_0 (Nat.le_of_ble_eq_true rfl) rfl lfX12_44 dX12_paper_175 ?_
      refine X.iconst (v := (1 : Int32)) dX12_paper_178 (by decide) ?_
      refine X.iconst (v := (0 : Int32)) dX12_paper_179 (by decide) ?_
      refine X.zastK (m := 1) sM_11 (by decide) (by decide) rfl dX12_paper_180 ?_
      refine X.bipush (v := (10 : Int32)) dX12_paper_181 (by decide) ?_
      refine X.aload_n (i := 0) dX12_paper_183 rfl rfl ?_
      refine X.getI (k0 := 6) kX12 sM_0 (Nat.le_of_ble_eq_true rfl) rfl lfX12_62 dX12_paper_184 ?_
      refine X.imul dX12_paper_187 ?_
      refine X.aload_n (i := 0) dX12_paper_188 rfl rfl ?_
      refine X.getI (k0 := 7) kX12 sM_0 (Nat.le_of_ble_eq_true rfl) rfl lfX12_69 dX12_paper_189 ?_
      refine X.iadd dX12_paper_192 ?_
      obtain rfl := Option.some.inj h
      exact X.iret dX12_paper_193 rfl rfl
    · rw [if_neg c5] at h
      refine X.aload_n (i := 0) dX12_paper_120 rfl rfl ?_
      refine X.getR (k0 := 8) kX12 sM_0 (Nat.le_of_ble_eq_true rfl) rfl lfX12_17 dX12_paper_121 ?_
      refine X.iload_n (i := 1) dX12_paper_124 rfl rfl ?_
      refine X.aload_n (i := 0) dX12_paper_125 rfl rfl ?_
      refine X.getR (k0 := 16) kX12 sM_0 (Nat.le_of_ble_eq_true rfl) rfl lfX12_26 dX12_paper_126 ?_
      refine X.iload_n (i := 1) dX12_paper_129 rfl rfl ?_
      by_cases c6 : xin v1 4
      rotate_left
      · rw [if_neg c6] at h; cases h
      rw [if_pos c6] at h
      refine X.iald sM_5 c6 dX12_paper_130 ?_
      by_cases c7 : xin v1 4
      rotate_left
      · rw [if_neg c7] at h; cases h
      rw [if_pos c7] at h
      refine X.iast sM_2 c7 dX12_paper_131 ?_
      refine X.aload_n (i := 0) dX12_paper_132 rfl rfl ?_
      refine X.getR (k0 := 9) kX12 sM_0 (Nat.le_of_ble_eq_true rfl) rfl lfX12_20 dX12_paper_133 ?_
      refine X.iload_n (i := 1) dX12_paper_136 rfl rfl ?_
      refine X.aload_n (i := 0) dX12_paper_137 rfl rfl ?_
      refine X.getR (k0 := 17) kX12 sM_0 (Nat.le_of_ble_eq_true rfl) rfl lfX12_29 dX12_paper_138 ?_
      refine X.iload_n (i := 1) dX12_paper_141 rfl rfl ?_
      by_cases c8 : xin v1 4
      rotate_left
      · rw [if_neg c8] at h; cases h
      rw [if_pos c8] at h
      refine X.iald sM_6 c8 dX12_paper_142 ?_
      by_cases c9 : xin v1 4
      rotate_left
      · rw [if_neg c9] at h; cases h
      rw [if_pos c9] at h
      refine X.iast sM_3 c9 dX12_paper_143 ?_
      refine X.aload_n (i := 0) dX12_paper_144 rfl rfl ?_
      refine X.getR (k0 := 18) kX12 sM_0 (Nat.le_of_ble_eq_true rfl) rfl lfX12_32 dX12_paper_145 ?_
      refine X.iconst (v := (5 : Int32)) dX12_paper_148 (by decide) ?_
      refine X.iload_n (i := 1) dX12_paper_149 rfl rfl ?_
      refine X.iadd dX12_paper_150 ?_
      refine X.aload_n (i := 0) dX12_paper_151 rfl rfl ?_
      refine X.getI (k0 := 12) kX12 sM_0 (Nat.le_of_ble_eq_true rfl) rfl lfX12_92 dX12_paper_152 ?_
      by_cases c10 : xin ((5 : Int32) + v1) 9
      rotate_left
      · rw [if_neg c10] at h; cases h
      rw [if_pos c10] at h
      refine X.iast sM_7 c10 dX12_paper_155 ?_
      refine X.iinc (i := 1) (v := (v1 + (1 : Int32))) (L' := [some (.ref 0), some (.int (v1 + (1 : Int32)))]) dX12_paper_156 rfl rfl (Nat.le_of_ble_eq_true rfl) rfl ?_
      refine X.goto (tgt := 112) dX12_paper_159 (by decide) ?_
      exact X.weaken (xle_c (xle_c xle_e)) (ih h)
def pX12_paper_b82 (F : Nat) : Nat → Int32 → xM → Option (Int32 × xM)
  | 0, _, _ => none
  | n + 1, v1, f => (if (f 0 6) ≤ v1 then (pX12_paper_b112 F F (0 : Int32) f) else (if xin v1 3 then (if xin ((2 : Int32) + v1) 9 then (pX12_paper_b82 F n (v1 + (1 : Int32)) (xu f 7 ((2 : Int32) + v1).toNatClampNeg (f 4 v1.toNatClampNeg))) else none) else none))
set_option maxRecDepth 100000 in
set_option maxHeartbeats 4000000 in
theorem tX12_paper_b82 {F : Nat} {g : xN} : ∀ (n : Nat) {v1 : Int32} {f : xM} {r : Int32 × xM}, pX12_paper_b82 F n v1 f = some r → X mX12_paper 4 (some (.int r.1), r.2, g) 82 [some (.ref 0), some (.int v1)] [] f g := by
  intro n
  induction n with
  | zero => intro v1 f r h; cases h
  | succ n ih =>
    intro v1 f r h
    rw [pX12_paper_b82] at h
    refine X.iload_n (i := 1) dX12_paper_82 rfl rfl ?_
    refine X.aload_n (i := 0) dX12_paper_83 rfl rfl ?_
    refine X.getI (k0 := 6) kX12 sM_0 (Nat.le_of_ble_eq_true rfl) rfl lfX12_62 dX12_paper_84 ?_
    refine X.icmp_ge (tgt := 110) dX12_paper_87 (by decide) (fun c4 => ?_) (fun c4 => ?_)
    · rw [if_pos c4] at h
      refine X.iconst (v := (0 : Int32)) dX12_paper_110 (by decide) ?_
      refine X.istore_n (i := 1) (L' := [some (.ref 0), some (.int (0 : Int32))]) dX12_paper_111 rfl (Nat.le_of_ble_eq_true rfl) rfl ?_
      exact X.weaken (xle_c (xle_c xle_e)) (tX12_paper_b112 F h)
    · rw [if_neg c4] at h
      refine X.aload_n (i := 0) dX12_paper_90 rfl rfl ?_
      refine X.getR (k0 := 18) kX12 sM_0 (Nat.le_of_ble_eq_true rfl) rfl lfX12_32 dX12_paper_91 ?_
      refine X.iconst (v := (2 : Int32)) dX12_paper_94 (by decide) ?_
      refine X.iload_n (i := 1) dX12_paper_95 rfl rfl ?_
      refine X.iadd dX12_paper_96 ?_
      refine X.aload_n (i := 0) dX12_paper_97 rfl rfl ?_
      refine X.getR (k0 := 15) kX12 sM_0 (Nat.le_of_ble_eq_true rfl) rfl lfX12_23 dX12_paper_98 ?_
      refine X.iload_n (i := 1) dX12_paper_101 rfl rfl ?_
      by_cases c11 : xin v1 3
      rotate_left
      · rw [if_neg c11] at h; cases h
      rw [if_pos c11] at h
      refine X.iald sM_4 c11 dX12_paper_102 ?_
      by_cases c12 : xin ((2 : Int32) + v1) 9
      rotate_left
      · rw [if_neg c12] at h; cases h
      rw [if_pos c12] at h
      refine X.iast sM_7 c12 dX12_paper_103 ?_
      refine X.iinc (i := 1) (v := (v1 + (1 : Int32))) (L' := [some (.ref 0), some (.int (v1 + (1 : Int32)))]) dX12_paper_104 rfl rfl (Nat.le_of_ble_eq_true rfl) rfl ?_
      refine X.goto (tgt := 82) dX12_paper_107 (by decide) ?_
      exact X.weaken (xle_c (xle_c xle_e)) (ih h)
def pX12_paper_b51 (F : Nat) : Nat → Int32 → xM → Option (Int32 × xM)
  | 0, _, _ => none
  | n + 1, v1, f => (if (9 : Int32) ≤ v1 then (pX12_paper_b82 F F (0 : Int32) (xu f 7 0 (f 0 12))) else (if xin v1 9 then (pX12_paper_b51 F n (v1 + (1 : Int32)) (xu f 7 v1.toNatClampNeg (0 : Int32))) else none))
set_option maxRecDepth 100000 in
set_option maxHeartbeats 4000000 in
theorem tX12_paper_b51 {F : Nat} {g : xN} : ∀ (n : Nat) {v1 : Int32} {f : xM} {r : Int32 × xM}, pX12_paper_b51 F n v1 f = some r → X mX12_paper 4 (some (.int r.1), r.2, g) 51 [some (.ref 0), some (.int v1)] [] f g := by
  intro n
  induction n with
  | zero => intro v1 f r h; cases h
  | succ n ih =>
    intro v1 f r h
    rw [pX12_paper_b51] at h
    refine X.iload_n (i := 1) dX12_paper_51 rfl rfl ?_
    refine X.bipush (v := (9 : Int32)) dX12_paper_52 (by decide) ?_
    refine X.icmp_ge (tgt := 70) dX12_paper_54 (by decide) (fun c3 => ?_) (fun c3 => ?_)
    · rw [if_pos c3] at h
      refine X.aload_n (i := 0) dX12_paper_70 rfl rfl ?_
      refine X.getR (k0 := 18) kX12 sM_0 (Nat.le_of_ble_eq_true rfl) rfl lfX12_32 dX12_paper_71 ?_
      refine X.iconst (v := (0 : Int32)) dX12_paper_74 (by decide) ?_
      refine X.aload_n (i := 0) dX12_paper_75 rfl rfl ?_
      refine X.getI (k0 := 12) kX12 sM_0 (Nat.le_of_ble_eq_true rfl) rfl lfX12_92 dX12_paper_76 ?_
      refine X.iastK (m := 0) sM_7 (by decide) (by decide) dX12_paper_79 ?_
      refine X.iconst (v := (0 : Int32)) dX12_paper_80 (by decide) ?_
      refine X.istore_n (i := 1) (L' := [some (.ref 0), some (.int (0 : Int32))]) dX12_paper_81 rfl (Nat.le_of_ble_eq_true rfl) rfl ?_
      exact X.weaken (xle_c (xle_c xle_e)) (tX12_paper_b82 F h)
    · rw [if_neg c3] at h
      refine X.aload_n (i := 0) dX12_paper_57 rfl rfl ?_
      refine X.getR (k0 := 18) kX12 sM_0 (Nat.le_of_ble_eq_true rfl) rfl lfX12_32 dX12_paper_58 ?_
      refine X.iload_n (i := 1) dX12_paper_61 rfl rfl ?_
      refine X.iconst (v := (0 : Int32)) dX12_paper_62 (by decide) ?_
      by_cases c13 : xin v1 9
      rotate_left
      · rw [if_neg c13] at h; cases h
      rw [if_pos c13] at h
      refine X.iast sM_7 c13 dX12_paper_63 ?_
      refine X.iinc (i := 1) (v := (v1 + (1 : Int32))) (L' := [some (.ref 0), some (.int (v1 + (1 : Int32)))]) dX12_paper_64 rfl rfl (Nat.le_of_ble_eq_true rfl) rfl ?_
      refine X.goto (tgt := 51) dX12_paper_67 (by decide) ?_
      exact X.weaken (xle_c (xle_c xle_e)) (ih h)
def pX12_paper (F : Nat) (f : xM) : Option (Int32 × xM) := (Option.bind (pX12_readPaper F (xu f 0 0 (0 : Int32))) fun q1 => (if q1.1 = (-9 : Int32) then (pX12_paper_b51 F F (0 : Int32) (xu (xu (xu (xu q1.2 0 4 (q1.2 0 10)) 0 5 ((xu q1.2 0 4 (q1.2 0 10)) 0 11)) 0 6 ((xu (xu q1.2 0 4 (q1.2 0 10)) 0 5 ((xu q1.2 0 4 (q1.2 0 10)) 0 11)) 0 13)) 0 7 ((xu (xu (xu q1.2 0 4 (q1.2 0 10)) 0 5 ((xu q1.2 0 4 (q1.2 0 10)) 0 11)) 0 6 ((xu (xu q1.2 0 4 (q1.2 0 10)) 0 5 ((xu q1.2 0 4 (q1.2 0 10)) 0 11)) 0 13)) 0 14))) else some (((-3 : Int32), q1.2))))
set_option maxRecDepth 100000 in
set_option maxHeartbeats 4000000 in
theorem tX12_paper {F : Nat} {g : xN} {f : xM} {r : Int32 × xM} (h : pX12_paper F f = some r) : XT mX12_paper 4 [.ref 0] f g (some (.int r.1), r.2, g) := by
  unfold pX12_paper at h
  refine XT.of (L := [some (.ref 0), none]) [some (.ref 0)] rfl (Nat.le_of_ble_eq_true rfl) rfl (xle_c (xle_z xle_e)) ?_
  refine X.aload_n (i := 0) dX12_paper_0 rfl rfl ?_
  refine X.iconst (v := (0 : Int32)) dX12_paper_1 (by decide) ?_
  refine X.putI (k0 := 0) kX12 sM_0 (Nat.le_of_ble_eq_true rfl) rfl lfX12_57 rfl rfl dX12_paper_2 ?_
  refine X.aload_n (i := 0) dX12_paper_5 rfl rfl ?_
  obtain ⟨q1, e1, h⟩ := xbind h
  try dsimp only at h
  refine X.callV (μ' := mX12_readPaper) (As := []) (st := []) (st1 := [.int q1.1]) (r := some (.int q1.1)) (f' := q1.2) (g' := g) (tX12_readPaper e1) (Nat.le_of_ble_eq_true rfl) cwX12_readPaper rfl mlX12_111 sM_0 kX12 rfl rfl rfl (Nat.le_of_ble_eq_true rfl) dX12_paper_6 ?_
  refine X.bipush (v := (-9 : Int32)) dX12_paper_9 (by decide) ?_
  refine X.icmp_eq (tgt := 17) dX12_paper_11 (by decide) (fun c2 => ?_) (fun c2 => ?_)
  · rw [if_pos c2] at h
    refine X.aload_n (i := 0) dX12_paper_17 rfl rfl ?_
    refine X.aload_n (i := 0) dX12_paper_18 rfl rfl ?_
    refine X.getI (k0 := 10) kX12 sM_0 (Nat.le_of_ble_eq_true rfl) rfl lfX12_85 dX12_paper_19 ?_
    refine X.putI (k0 := 4) kX12 sM_0 (Nat.le_of_ble_eq_true rfl) rfl lfX12_13 rfl rfl dX12_paper_22 ?_
    refine X.aload_n (i := 0) dX12_paper_25 rfl rfl ?_
    refine X.aload_n (i := 0) dX12_paper_26 rfl rfl ?_
    refine X.getI (k0 := 11) kX12 sM_0 (Nat.le_of_ble_eq_true rfl) rfl lfX12_82 dX12_paper_27 ?_
    refine X.putI (k0 := 5) kX12 sM_0 (Nat.le_of_ble_eq_true rfl) rfl lfX12_115 rfl rfl dX12_paper_30 ?_
    refine X.aload_n (i := 0) dX12_paper_33 rfl rfl ?_
    refine X.aload_n (i := 0) dX12_paper_34 rfl rfl ?_
    refine X.getI (k0 := 13) kX12 sM_0 (Nat.le_of_ble_eq_true rfl) rfl lfX12_95 dX12_paper_35 ?_
    refine X.putI (k0 := 6) kX12 sM_0 (Nat.le_of_ble_eq_true rfl) rfl lfX12_62 rfl rfl dX12_paper_38 ?_
    refine X.aload_n (i := 0) dX12_paper_41 rfl rfl ?_
    refine X.aload_n (i := 0) dX12_paper_42 rfl rfl ?_
    refine X.getI (k0 := 14) kX12 sM_0 (Nat.le_of_ble_eq_true rfl) rfl lfX12_102 dX12_paper_43 ?_
    refine X.putI (k0 := 7) kX12 sM_0 (Nat.le_of_ble_eq_true rfl) rfl lfX12_69 rfl rfl dX12_paper_46 ?_
    refine X.iconst (v := (0 : Int32)) dX12_paper_49 (by decide) ?_
    refine X.istore_n (i := 1) (L' := [some (.ref 0), some (.int (0 : Int32))]) dX12_paper_50 rfl (Nat.le_of_ble_eq_true rfl) rfl ?_
    exact X.weaken (xle_c (xle_c xle_e)) (tX12_paper_b51 F h)
  · rw [if_neg c2] at h
    refine X.bipush (v := (-3 : Int32)) dX12_paper_14 (by decide) ?_
    obtain rfl := Option.some.inj h
    exact X.iret dX12_paper_16 rfl rfl
def pX12_doesRead_7 (f : xM) (v2 : Int32) : Option (Int32) := (if xin v2 4 then (if (f 2 v2.toNatClampNeg) = 0 then none else (if xin v2 4 then (if ((f 7 1) - (f 7 1) / (f 2 v2.toNatClampNeg) * (f 2 v2.toNatClampNeg)) = (f 3 v2.toNatClampNeg) then some ((1 : Int32)) else some ((0 : Int32))) else none)) else none)
set_option maxRecDepth 100000 in
set_option maxHeartbeats 4000000 in
theorem tX12_doesRead_7 {f : xM} {g : xN} {v2 : Int32} {r : Int32} (h : pX12_doesRead_7 f v2 = some r) : XT mX12_doesRead 0 [.ref 0, .ref 7, .int v2] f g (some (.int r), f, g) := by
  unfold pX12_doesRead_7 at h
  refine XT.of (L := [some (.ref 0), some (.ref 7), some (.int v2)]) [some (.ref 0), some (.ref 7), some (.int v2)] rfl (Nat.le_of_ble_eq_true rfl) rfl (xle_c (xle_c (xle_c xle_e))) ?_
  refine X.aload_n (i := 1) dX12_doesRead_0 rfl rfl ?_
  refine X.iconst (v := (1 : Int32)) dX12_doesRead_1 (by decide) ?_
  refine X.ialdK (m := 1) sM_7 (by decide) (by decide) dX12_doesRead_2 ?_
  refine X.aload_n (i := 0) dX12_doesRead_3 rfl rfl ?_
  refine X.getR (k0 := 8) kX12 sM_0 (Nat.le_of_ble_eq_true rfl) rfl lfX12_17 dX12_doesRead_4 ?_
  refine X.iload_n (i := 2) dX12_doesRead_7 rfl rfl ?_
  by_cases c1 : xin v2 4
  rotate_left
  · rw [if_neg c1] at h; cases h
  rw [if_pos c1] at h
  refine X.iald sM_2 c1 dX12_doesRead_8 ?_
  by_cases c2 : (f 2 v2.toNatClampNeg) = 0
  · rw [if_pos c2] at h; cases h
  rw [if_neg c2] at h
  refine X.irem dX12_doesRead_9 c2 ?_
  refine X.aload_n (i := 0) dX12_doesRead_10 rfl rfl ?_
  refine X.getR (k0 := 9) kX12 sM_0 (Nat.le_of_ble_eq_true rfl) rfl lfX12_20 dX12_doesRead_11 ?_
  refine X.iload_n (i := 2) dX12_doesRead_14 rfl rfl ?_
  by_cases c3 : xin v2 4
  rotate_left
  · rw [if_neg c3] at h; cases h
  rw [if_pos c3] at h
  refine X.iald sM_3 c3 dX12_doesRead_15 ?_
  refine X.icmp_ne (tgt := 23) dX12_doesRead_16 (by decide) (fun c4 => ?_) (fun c4 => ?_)
  · rw [if_neg c4] at h
    refine X.iconst (v := (0 : Int32)) dX12_doesRead_23 (by decide) ?_
    obtain rfl := Option.some.inj h
    exact X.zret dX12_doesRead_24 rfl rfl rfl
  · rw [if_pos c4] at h
    refine X.iconst (v := (1 : Int32)) dX12_doesRead_19 (by decide) ?_
    refine X.goto (tgt := 24) dX12_doesRead_20 (by decide) ?_
    obtain rfl := Option.some.inj h
    exact X.zret dX12_doesRead_24 rfl rfl rfl
def pX12_power_b4 (F : Nat) : Nat → Int32 → Int32 → Int32 → Int32 → Option (Int32)
  | 0, _, _, _, _ => none
  | n + 1, v0, v1, v2, v3 => (if v1 ≤ v3 then some (v2) else (pX12_power_b4 F n v0 v1 (v2 * v0) (v3 + (1 : Int32))))
set_option maxRecDepth 100000 in
set_option maxHeartbeats 4000000 in
theorem tX12_power_b4 {F : Nat} {f : xM} {g : xN} : ∀ (n : Nat) {v0 : Int32} {v1 : Int32} {v2 : Int32} {v3 : Int32} {r : Int32}, pX12_power_b4 F n v0 v1 v2 v3 = some r → X mX12_power 0 (some (.int r), f, g) 4 [some (.int v0), some (.int v1), some (.int v2), some (.int v3)] [] f g := by
  intro n
  induction n with
  | zero => intro v0 v1 v2 v3 r h; cases h
  | succ n ih =>
    intro v0 v1 v2 v3 r h
    rw [pX12_power_b4] at h
    refine X.iload_n (i := 3) dX12_power_4 rfl rfl ?_
    refine X.iload_n (i := 1) dX12_power_5 rfl rfl ?_
    refine X.icmp_ge (tgt := 19) dX12_power_6 (by decide) (fun c1 => ?_) (fun c1 => ?_)
    · rw [if_pos c1] at h
      refine X.iload_n (i := 2) dX12_power_19 rfl rfl ?_
      obtain rfl := Option.some.inj h
      exact X.iret dX12_power_20 rfl rfl
    · rw [if_neg c1] at h
      refine X.iload_n (i := 2) dX12_power_9 rfl rfl ?_
      refine X.iload_n (i := 0) dX12_power_10 rfl rfl ?_
      refine X.imul dX12_power_11 ?_
      refine X.istore_n (i := 2) (L' := [some (.int v0), some (.int v1), some (.int (v2 * v0)), some (.int v3)]) dX12_power_12 rfl (Nat.le_of_ble_eq_true rfl) rfl ?_
      refine X.iinc (i := 3) (v := (v3 + (1 : Int32))) (L' := [some (.int v0), some (.int v1), some (.int (v2 * v0)), some (.int (v3 + (1 : Int32)))]) dX12_power_13 rfl rfl (Nat.le_of_ble_eq_true rfl) rfl ?_
      refine X.goto (tgt := 4) dX12_power_16 (by decide) ?_
      exact X.weaken (xle_c (xle_c (xle_c (xle_c xle_e)))) (ih h)
def pX12_power (F : Nat) (v0 : Int32) (v1 : Int32) : Option (Int32) := (pX12_power_b4 F F v0 v1 (1 : Int32) (0 : Int32))
set_option maxRecDepth 100000 in
set_option maxHeartbeats 4000000 in
theorem tX12_power {F : Nat} {f : xM} {g : xN} {v0 : Int32} {v1 : Int32} {r : Int32} (h : pX12_power F v0 v1 = some r) : XT mX12_power 0 [.int v0, .int v1] f g (some (.int r), f, g) := by
  unfold pX12_power at h
  refine XT.of (L := [some (.int v0), some (.int v1), none, none]) [some (.int v0), some (.int v1)] rfl (Nat.le_of_ble_eq_true rfl) rfl (xle_c (xle_c (xle_z (xle_z xle_e)))) ?_
  refine X.iconst (v := (1 : Int32)) dX12_power_0 (by decide) ?_
  refine X.istore_n (i := 2) (L' := [some (.int v0), some (.int v1), some (.int (1 : Int32)), none]) dX12_power_1 rfl (Nat.le_of_ble_eq_true rfl) rfl ?_
  refine X.iconst (v := (0 : Int32)) dX12_power_2 (by decide) ?_
  refine X.istore_n (i := 3) (L' := [some (.int v0), some (.int v1), some (.int (1 : Int32)), some (.int (0 : Int32))]) dX12_power_3 rfl (Nat.le_of_ble_eq_true rfl) rfl ?_
  exact X.weaken (xle_c (xle_c (xle_c (xle_c xle_e)))) (tX12_power_b4 F h)
def pX12_letterOf (F : Nat) (f : xM) (v1 : Int32) (v2 : Int32) : Option (Int32) := (Option.bind (pX12_power F (4 : Int32) (((f 0 4) - (1 : Int32)) - v2)) fun q1 => (if q1 = 0 then none else some (((v1 / q1) - (v1 / q1) / (4 : Int32) * (4 : Int32)))))
set_option maxRecDepth 100000 in
set_option maxHeartbeats 4000000 in
theorem tX12_letterOf {F : Nat} {f : xM} {g : xN} {v1 : Int32} {v2 : Int32} {r : Int32} (h : pX12_letterOf F f v1 v2 = some r) : XT mX12_letterOf 1 [.ref 0, .int v1, .int v2] f g (some (.int r), f, g) := by
  unfold pX12_letterOf at h
  refine XT.of (L := [some (.ref 0), some (.int v1), some (.int v2)]) [some (.ref 0), some (.int v1), some (.int v2)] rfl (Nat.le_of_ble_eq_true rfl) rfl (xle_c (xle_c (xle_c xle_e))) ?_
  refine X.iload_n (i := 1) dX12_letterOf_0 rfl rfl ?_
  refine X.iconst (v := (4 : Int32)) dX12_letterOf_1 (by decide) ?_
  refine X.aload_n (i := 0) dX12_letterOf_2 rfl rfl ?_
  refine X.getI (k0 := 4) kX12 sM_0 (Nat.le_of_ble_eq_true rfl) rfl lfX12_13 dX12_letterOf_3 ?_
  refine X.iconst (v := (1 : Int32)) dX12_letterOf_6 (by decide) ?_
  refine X.isub dX12_letterOf_7 ?_
  refine X.iload_n (i := 2) dX12_letterOf_8 rfl rfl ?_
  refine X.isub dX12_letterOf_9 ?_
  obtain ⟨q1, e1, h⟩ := xbind h
  try dsimp only at h
  refine X.callS (μ' := mX12_power) (As := [.int (4 : Int32), .int (((f 0 4) - (1 : Int32)) - v2)]) (st := [.int v1]) (st1 := [.int q1, .int v1]) (r := some (.int q1)) (f' := f) (g' := g) (tX12_power e1) (Nat.le_of_ble_eq_true rfl) cwX12_power rfl mlX12_121 rfl rfl rfl (Nat.le_of_ble_eq_true rfl) dX12_letterOf_10 ?_
  by_cases c2 : q1 = 0
  · rw [if_pos c2] at h; cases h
  rw [if_neg c2] at h
  refine X.idiv dX12_letterOf_13 c2 ?_
  refine X.iconst (v := (4 : Int32)) dX12_letterOf_14 (by decide) ?_
  refine X.irem dX12_letterOf_15 (by decide) ?_
  obtain rfl := Option.some.inj h
  exact X.iret dX12_letterOf_16 rfl rfl
def pX12_rightOf_b4 (F : Nat) (f : xM) : Nat → Int32 → Int32 → Int32 → Option (Int32)
  | 0, _, _, _ => none
  | n + 1, v1, v2, v3 => (if (f 0 4) ≤ v3 then some (v2) else (Option.bind (pX12_letterOf F f v1 v3) fun q2 => (Option.bind (pX12_letterOf F f (f 0 5) v3) fun q3 => (if q2 = q3 then (pX12_rightOf_b4 F f n v1 (v2 + (1 : Int32)) (v3 + (1 : Int32))) else (pX12_rightOf_b4 F f n v1 (v2 + (0 : Int32)) (v3 + (1 : Int32)))))))
set_option maxRecDepth 100000 in
set_option maxHeartbeats 4000000 in
theorem tX12_rightOf_b4 {F : Nat} {f : xM} {g : xN} : ∀ (n : Nat) {v1 : Int32} {v2 : Int32} {v3 : Int32} {r : Int32}, pX12_rightOf_b4 F f n v1 v2 v3 = some r → X mX12_rightOf 2 (some (.int r), f, g) 4 [some (.ref 0), some (.int v1), some (.int v2), some (.int v3)] [] f g := by
  intro n
  induction n with
  | zero => intro v1 v2 v3 r h; cases h
  | succ n ih =>
    intro v1 v2 v3 r h
    rw [pX12_rightOf_b4] at h
    refine X.iload_n (i := 3) dX12_rightOf_4 rfl rfl ?_
    refine X.aload_n (i := 0) dX12_rightOf_5 rfl rfl ?_
    refine X.getI (k0 := 4) kX12 sM_0 (Nat.le_of_ble_eq_true rfl) rfl lfX12_13 dX12_rightOf_6 ?_
    refine X.icmp_ge (tgt := 44) dX12_rightOf_9 (by decide) (fun c1 => ?_) (fun c1 => ?_)
    · rw [if_pos c1] at h
      refine X.iload_n (i := 2) dX12_rightOf_44 rfl rfl ?_
      obtain rfl := Option.some.inj h
      exact X.iret dX12_rightOf_45 rfl rfl
    · rw [if_neg c1] at h
      refine X.iload_n (i := 2) dX12_rightOf_12 rfl rfl ?_
      refine X.aload_n (i := 0) dX12_rightOf_13 rfl rfl ?_
      refine X.iload_n (i := 1) dX12_rightOf_14 rfl rfl ?_
      refine X.iload_n (i := 3) dX12_rightOf_15 rfl rfl ?_
      obtain ⟨q2, e2, h⟩ := xbind h
      try dsimp only at h
      refine X.callV (μ' := mX12_letterOf) (As := [.int v1, .int v3]) (st := [.int v2]) (st1 := [.int q2, .int v2]) (r := some (.int q2)) (f' := f) (g' := g) (tX12_letterOf e2) (Nat.le_of_ble_eq_true rfl) cwX12_letterOf rfl mlX12_124 sM_0 kX12 rfl rfl rfl (Nat.le_of_ble_eq_true rfl) dX12_rightOf_16 ?_
      refine X.aload_n (i := 0) dX12_rightOf_19 rfl rfl ?_
      refine X.aload_n (i := 0) dX12_rightOf_20 rfl rfl ?_
      refine X.getI (k0 := 5) kX12 sM_0 (Nat.le_of_ble_eq_true rfl) rfl lfX12_115 dX12_rightOf_21 ?_
      refine X.iload_n (i := 3) dX12_rightOf_24 rfl rfl ?_
      obtain ⟨q3, e3, h⟩ := xbind h
      try dsimp only at h
      refine X.callV (μ' := mX12_letterOf) (As := [.int (f 0 5), .int v3]) (st := [.int q2, .int v2]) (st1 := [.int q3, .int q2, .int v2]) (r := some (.int q3)) (f' := f) (g' := g) (tX12_letterOf e3) (Nat.le_of_ble_eq_true rfl) cwX12_letterOf rfl mlX12_124 sM_0 kX12 rfl rfl rfl (Nat.le_of_ble_eq_true rfl) dX12_rightOf_25 ?_
      refine X.icmp_ne (tgt := 35) dX12_rightOf_28 (by decide) (fun c4 => ?_) (fun c4 => ?_)
      · rw [if_neg c4] at h
        refine X.iconst (v := (0 : Int32)) dX12_rightOf_35 (by decide) ?_
        refine X.iadd dX12_rightOf_36 ?_
        refine X.istore_n (i := 2) (L' := [some (.ref 0), some (.int v1), some (.int (v2 + (0 : Int32))), some (.int v3)]) dX12_rightOf_37 rfl (Nat.le_of_ble_eq_true rfl) rfl ?_
        refine X.iinc (i := 3) (v := (v3 + (1 : Int32))) (L' := [some (.ref 0), some (.int v1), some (.int (v2 + (0 : Int32))), some (.int (v3 + (1 : Int32)))]) dX12_rightOf_38 rfl rfl (Nat.le_of_ble_eq_true rfl) rfl ?_
        refine X.goto (tgt := 4) dX12_rightOf_41 (by decide) ?_
        exact X.weaken (xle_c (xle_c (xle_c (xle_c xle_e)))) (ih h)
      · rw [if_pos c4] at h
        refine X.iconst (v := (1 : Int32)) dX12_rightOf_31 (by decide) ?_
        refine X.goto (tgt := 36) dX12_rightOf_32 (by decide) ?_
        refine X.iadd dX12_rightOf_36 ?_
        refine X.istore_n (i := 2) (L' := [some (.ref 0), some (.int v1), some (.int (v2 + (1 : Int32))), some (.int v3)]) dX12_rightOf_37 rfl (Nat.le_of_ble_eq_true rfl) rfl ?_
        refine X.iinc (i := 3) (v := (v3 + (1 : Int32))) (L' := [some (.ref 0), some (.int v1), some (.int (v2 + (1 : Int32))), some (.int (v3 + (1 : Int32)))]) dX12_rightOf_38 rfl rfl (Nat.le_of_ble_eq_true rfl) rfl ?_
        refine X.goto (tgt := 4) dX12_rightOf_41 (by decide) ?_
        exact X.weaken (xle_c (xle_c (xle_c (xle_c xle_e)))) (ih h)
def pX12_rightOf (F : Nat) (f : xM) (v1 : Int32) : Option (Int32) := (pX12_rightOf_b4 F f F v1 (0 : Int32) (0 : Int32))
set_option maxRecDepth 100000 in
set_option maxHeartbeats 4000000 in
theorem tX12_rightOf {F : Nat} {f : xM} {g : xN} {v1 : Int32} {r : Int32} (h : pX12_rightOf F f v1 = some r) : XT mX12_rightOf 2 [.ref 0, .int v1] f g (some (.int r), f, g) := by
  unfold pX12_rightOf at h
  refine XT.of (L := [some (.ref 0), some (.int v1), none, none]) [some (.ref 0), some (.int v1)] rfl (Nat.le_of_ble_eq_true rfl) rfl (xle_c (xle_c (xle_z (xle_z xle_e)))) ?_
  refine X.iconst (v := (0 : Int32)) dX12_rightOf_0 (by decide) ?_
  refine X.istore_n (i := 2) (L' := [some (.ref 0), some (.int v1), some (.int (0 : Int32)), none]) dX12_rightOf_1 rfl (Nat.le_of_ble_eq_true rfl) rfl ?_
  refine X.iconst (v := (0 : Int32)) dX12_rightOf_2 (by decide) ?_
  refine X.istore_n (i := 3) (L' := [some (.ref 0), some (.int v1), some (.int (0 : Int32)), some (.int (0 : Int32))]) dX12_rightOf_3 rfl (Nat.le_of_ble_eq_true rfl) rfl ?_
  exact X.weaken (xle_c (xle_c (xle_c (xle_c xle_e)))) (tX12_rightOf_b4 F h)
def pX12_told_b4 (F : Nat) (f : xM) : Nat → Int32 → Int32 → Int32 → Option (Int32)
  | 0, _, _, _ => none
  | n + 1, v1, v2, v3 => (if (f 0 4) ≤ v3 then some (v2) else (Option.bind (pX12_letterOf F f v1 v3) fun q2 => (pX12_told_b4 F f n v1 (((10 : Int32) * v2) + q2) (v3 + (1 : Int32)))))
set_option maxRecDepth 100000 in
set_option maxHeartbeats 4000000 in
theorem tX12_told_b4 {F : Nat} {f : xM} {g : xN} : ∀ (n : Nat) {v1 : Int32} {v2 : Int32} {v3 : Int32} {r : Int32}, pX12_told_b4 F f n v1 v2 v3 = some r → X mX12_told 2 (some (.int r), f, g) 4 [some (.ref 0), some (.int v1), some (.int v2), some (.int v3)] [] f g := by
  intro n
  induction n with
  | zero => intro v1 v2 v3 r h; cases h
  | succ n ih =>
    intro v1 v2 v3 r h
    rw [pX12_told_b4] at h
    refine X.iload_n (i := 3) dX12_told_4 rfl rfl ?_
    refine X.aload_n (i := 0) dX12_told_5 rfl rfl ?_
    refine X.getI (k0 := 4) kX12 sM_0 (Nat.le_of_ble_eq_true rfl) rfl lfX12_13 dX12_told_6 ?_
    refine X.icmp_ge (tgt := 30) dX12_told_9 (by decide) (fun c1 => ?_) (fun c1 => ?_)
    · rw [if_pos c1] at h
      refine X.iload_n (i := 2) dX12_told_30 rfl rfl ?_
      obtain rfl := Option.some.inj h
      exact X.iret dX12_told_31 rfl rfl
    · rw [if_neg c1] at h
      refine X.bipush (v := (10 : Int32)) dX12_told_12 (by decide) ?_
      refine X.iload_n (i := 2) dX12_told_14 rfl rfl ?_
      refine X.imul dX12_told_15 ?_
      refine X.aload_n (i := 0) dX12_told_16 rfl rfl ?_
      refine X.iload_n (i := 1) dX12_told_17 rfl rfl ?_
      refine X.iload_n (i := 3) dX12_told_18 rfl rfl ?_
      obtain ⟨q2, e2, h⟩ := xbind h
      try dsimp only at h
      refine X.callV (μ' := mX12_letterOf) (As := [.int v1, .int v3]) (st := [.int ((10 : Int32) * v2)]) (st1 := [.int q2, .int ((10 : Int32) * v2)]) (r := some (.int q2)) (f' := f) (g' := g) (tX12_letterOf e2) (Nat.le_of_ble_eq_true rfl) cwX12_letterOf rfl mlX12_124 sM_0 kX12 rfl rfl rfl (Nat.le_of_ble_eq_true rfl) dX12_told_19 ?_
      refine X.iadd dX12_told_22 ?_
      refine X.istore_n (i := 2) (L' := [some (.ref 0), some (.int v1), some (.int (((10 : Int32) * v2) + q2)), some (.int v3)]) dX12_told_23 rfl (Nat.le_of_ble_eq_true rfl) rfl ?_
      refine X.iinc (i := 3) (v := (v3 + (1 : Int32))) (L' := [some (.ref 0), some (.int v1), some (.int (((10 : Int32) * v2) + q2)), some (.int (v3 + (1 : Int32)))]) dX12_told_24 rfl rfl (Nat.le_of_ble_eq_true rfl) rfl ?_
      refine X.goto (tgt := 4) dX12_told_27 (by decide) ?_
      exact X.weaken (xle_c (xle_c (xle_c (xle_c xle_e)))) (ih h)
def pX12_told (F : Nat) (f : xM) (v1 : Int32) : Option (Int32) := (pX12_told_b4 F f F v1 (0 : Int32) (0 : Int32))
set_option maxRecDepth 100000 in
set_option maxHeartbeats 4000000 in
theorem tX12_told {F : Nat} {f : xM} {g : xN} {v1 : Int32} {r : Int32} (h : pX12_told F f v1 = some r) : XT mX12_told 2 [.ref 0, .int v1] f g (some (.int r), f, g) := by
  unfold pX12_told at h
  refine XT.of (L := [some (.ref 0), some (.int v1), none, none]) [some (.ref 0), some (.int v1)] rfl (Nat.le_of_ble_eq_true rfl) rfl (xle_c (xle_c (xle_z (xle_z xle_e)))) ?_
  refine X.iconst (v := (0 : Int32)) dX12_told_0 (by decide) ?_
  refine X.istore_n (i := 2) (L' := [some (.ref 0), some (.int v1), some (.int (0 : Int32)), none]) dX12_told_1 rfl (Nat.le_of_ble_eq_true rfl) rfl ?_
  refine X.iconst (v := (0 : Int32)) dX12_told_2 (by decide) ?_
  refine X.istore_n (i := 3) (L' := [some (.ref 0), some (.int v1), some (.int (0 : Int32)), some (.int (0 : Int32))]) dX12_told_3 rfl (Nat.le_of_ble_eq_true rfl) rfl ?_
  exact X.weaken (xle_c (xle_c (xle_c (xle_c xle_e)))) (tX12_told_b4 F h)
def pX12_about_b43 (F : Nat) (K12 : Int32 → Int32 → Int32 → Int32 → xM → Option (Int32 × xM)) (v1 : Int32) (v3 : Int32) (v4 : Int32) (s0 : Int32) (s1 : Int32) (f : xM) : Option (Int32 × xM) := (if xin ((5 : Int32) + v4) 9 then (if (f 7 ((5 : Int32) + v4).toNatClampNeg) = (f 0 5) then (K12 v1 (s0 ||| s1) (v3 ||| ((1 : Int32) <<< (v4 &&& 31))) (v4 + (1 : Int32)) f) else (K12 v1 (s0 ||| s1) (v3 ||| (0 : Int32)) (v4 + (1 : Int32)) f)) else none)
set_option maxRecDepth 100000 in
set_option maxHeartbeats 4000000 in
theorem tX12_about_b43 {F : Nat} {g : xN} {K12 : Int32 → Int32 → Int32 → Int32 → xM → Option (Int32 × xM)} (hK12 : ∀ {v1 : Int32} {v2 : Int32} {v3 : Int32} {v4 : Int32} {f : xM} {r : Int32 × xM}, K12 v1 v2 v3 v4 f = some r → X mX12_about 3 (some (.int r.1), r.2, g) 12 [some (.ref 0), some (.int v1), some (.int v2), some (.int v3), some (.int v4)] [] f g) {v1 : Int32} {v3 : Int32} {v4 : Int32} {s0 : Int32} {s1 : Int32} {f : xM} {r : Int32 × xM} (h : pX12_about_b43 F K12 v1 v3 v4 s0 s1 f = some r) : X mX12_about 3 (some (.int r.1), r.2, g) 43 [some (.ref 0), some (.int v1), none, some (.int v3), some (.int v4)] [.int s1, .int s0] f g := by
  unfold pX12_about_b43 at h
  refine X.ior dX12_about_43 ?_
  refine X.istore_n (i := 2) (L' := [some (.ref 0), some (.int v1), some (.int (s0 ||| s1)), some (.int v3), some (.int v4)]) dX12_about_44 rfl (Nat.le_of_ble_eq_true rfl) rfl ?_
  refine X.iload_n (i := 3) dX12_about_45 rfl rfl ?_
  refine X.aload_n (i := 0) dX12_about_46 rfl rfl ?_
  refine X.getR (k0 := 18) kX12 sM_0 (Nat.le_of_ble_eq_true rfl) rfl lfX12_32 dX12_about_47 ?_
  refine X.iconst (v := (5 : Int32)) dX12_about_50 (by decide) ?_
  refine X.iload (i := 4) dX12_about_51 rfl ?_
  refine X.iadd dX12_about_53 ?_
  by_cases c18 : xin ((5 : Int32) + v4) 9
  rotate_left
  · rw [if_neg c18] at h; cases h
  rw [if_pos c18] at h
  refine X.iald sM_7 c18 dX12_about_54 ?_
  refine X.aload_n (i := 0) dX12_about_55 rfl rfl ?_
  refine X.getI (k0 := 5) kX12 sM_0 (Nat.le_of_ble_eq_true rfl) rfl lfX12_115 dX12_about_56 ?_
  refine X.icmp_ne (tgt := 69) dX12_about_59 (by decide) (fun c19 => ?_) (fun c19 => ?_)
  · rw [if_neg c19] at h
    refine X.iconst (v := (0 : Int32)) dX12_about_69 (by decide) ?_
    refine X.ior dX12_about_70 ?_
    refine X.istore_n (i := 3) (L' := [some (.ref 0), some (.int v1), some (.int (s0 ||| s1)), some (.int (v3 ||| (0 : Int32))), some (.int v4)]) dX12_about_71 rfl (Nat.le_of_ble_eq_true rfl) rfl ?_
    refine X.iinc (i := 4) (v := (v4 + (1 : Int32))) (L' := [some (.ref 0), some (.int v1), some (.int (s0 ||| s1)), some (.int (v3 ||| (0 : Int32))), some (.int (v4 + (1 : Int32)))]) dX12_about_72 rfl rfl (Nat.le_of_ble_eq_true rfl) rfl ?_
    refine X.goto (tgt := 12) dX12_about_75 (by decide) ?_
    exact X.weaken (xle_c (xle_c (xle_c (xle_c (xle_c xle_e))))) (hK12 h)
  · rw [if_pos c19] at h
    refine X.iconst (v := (1 : Int32)) dX12_about_62 (by decide) ?_
    refine X.iload (i := 4) dX12_about_63 rfl ?_
    refine X.ishl dX12_about_65 ?_
    refine X.goto (tgt := 70) dX12_about_66 (by decide) ?_
    refine X.ior dX12_about_70 ?_
    refine X.istore_n (i := 3) (L' := [some (.ref 0), some (.int v1), some (.int (s0 ||| s1)), some (.int (v3 ||| ((1 : Int32) <<< (v4 &&& 31)))), some (.int v4)]) dX12_about_71 rfl (Nat.le_of_ble_eq_true rfl) rfl ?_
    refine X.iinc (i := 4) (v := (v4 + (1 : Int32))) (L' := [some (.ref 0), some (.int v1), some (.int (s0 ||| s1)), some (.int (v3 ||| ((1 : Int32) <<< (v4 &&& 31)))), some (.int (v4 + (1 : Int32)))]) dX12_about_72 rfl rfl (Nat.le_of_ble_eq_true rfl) rfl ?_
    refine X.goto (tgt := 12) dX12_about_75 (by decide) ?_
    exact X.weaken (xle_c (xle_c (xle_c (xle_c (xle_c xle_e))))) (hK12 h)
def pX12_about_b12 (F : Nat) : Nat → Int32 → Int32 → Int32 → Int32 → xM → Option (Int32 × xM)
  | 0, _, _, _, _, _ => none
  | n + 1, v1, v2, v3, v4, f => (if (f 0 7) ≤ v4 then (if v1 = (0 : Int32) then some (((f 0 6), f)) else (if v1 = (1 : Int32) then some (((f 0 7), f)) else (if v1 = (2 : Int32) then some (((f 0 4), f)) else (if v1 = (3 : Int32) then (Option.bind (pX12_told F f (f 0 5)) fun q6 => some ((q6, f))) else (if v1 = (4 : Int32) then (Option.bind (pX12_told F f (f 7 0)) fun q8 => some ((q8, f))) else (if v1 = (5 : Int32) then (Option.bind (pX12_rightOf F f (f 7 0)) fun q10 => some ((q10, f))) else (if v1 = (6 : Int32) then some (((f 7 1), f)) else (if v1 = (7 : Int32) then some ((v2, f)) else (if v1 = (8 : Int32) then some ((v3, f)) else (if v1 = (9 : Int32) then some (((f 0 21), f)) else (if v1 = (10 : Int32) then some (((f 0 2), f)) else some (((-2 : Int32), f))))))))))))) else (Option.bind (pX12_doesRead_7 f v4) fun q16 => (if q16 = 0 then (pX12_about_b43 F (pX12_about_b12 F n) v1 v3 v4 v2 (0 : Int32) f) else (pX12_about_b43 F (pX12_about_b12 F n) v1 v3 v4 v2 ((1 : Int32) <<< (v4 &&& 31)) f))))
set_option maxRecDepth 100000 in
set_option maxHeartbeats 4000000 in
theorem tX12_about_b12 {F : Nat} {g : xN} : ∀ (n : Nat) {v1 : Int32} {v2 : Int32} {v3 : Int32} {v4 : Int32} {f : xM} {r : Int32 × xM}, pX12_about_b12 F n v1 v2 v3 v4 f = some r → X mX12_about 3 (some (.int r.1), r.2, g) 12 [some (.ref 0), some (.int v1), some (.int v2), some (.int v3), some (.int v4)] [] f g := by
  intro n
  induction n with
  | zero => intro v1 v2 v3 v4 f r h; cases h
  | succ n ih =>
    intro v1 v2 v3 v4 f r h
    rw [pX12_about_b12] at h
    refine X.iload (i := 4) dX12_about_12 rfl ?_
    refine X.aload_n (i := 0) dX12_about_14 rfl rfl ?_
    refine X.getI (k0 := 7) kX12 sM_0 (Nat.le_of_ble_eq_true rfl) rfl lfX12_69 dX12_about_15 ?_
    refine X.icmp_ge (tgt := 78) dX12_about_18 (by decide) (fun c1 => ?_) (fun c1 => ?_)
    · rw [if_pos c1] at h
      refine X.iload_n (i := 1) dX12_about_78 rfl rfl ?_
      by_cases c2 : v1 = (0 : Int32)
      · rw [if_pos c2] at h
        refine X.swIn (off := 57) (tgt := 136) dX12_about_79 c2 (by decide) (by decide) rfl (by decide) ?_
        refine X.aload_n (i := 0) dX12_about_136 rfl rfl ?_
        refine X.getI (k0 := 6) kX12 sM_0 (Nat.le_of_ble_eq_true rfl) rfl lfX12_62 dX12_about_137 ?_
        obtain rfl := Option.some.inj h
        exact X.iret dX12_about_140 rfl rfl
      rw [if_neg c2] at h
      by_cases c3 : v1 = (1 : Int32)
      · rw [if_pos c3] at h
        refine X.swIn (off := 62) (tgt := 141) dX12_about_79 c3 (by decide) (by decide) rfl (by decide) ?_
        refine X.aload_n (i := 0) dX12_about_141 rfl rfl ?_
        refine X.getI (k0 := 7) kX12 sM_0 (Nat.le_of_ble_eq_true rfl) rfl lfX12_69 dX12_about_142 ?_
        obtain rfl := Option.some.inj h
        exact X.iret dX12_about_145 rfl rfl
      rw [if_neg c3] at h
      by_cases c4 : v1 = (2 : Int32)
      · rw [if_pos c4] at h
        refine X.swIn (off := 67) (tgt := 146) dX12_about_79 c4 (by decide) (by decide) rfl (by decide) ?_
        refine X.aload_n (i := 0) dX12_about_146 rfl rfl ?_
        refine X.getI (k0 := 4) kX12 sM_0 (Nat.le_of_ble_eq_true rfl) rfl lfX12_13 dX12_about_147 ?_
        obtain rfl := Option.some.inj h
        exact X.iret dX12_about_150 rfl rfl
      rw [if_neg c4] at h
      by_cases c5 : v1 = (3 : Int32)
      · rw [if_pos c5] at h
        refine X.swIn (off := 72) (tgt := 151) dX12_about_79 c5 (by decide) (by decide) rfl (by decide) ?_
        refine X.aload_n (i := 0) dX12_about_151 rfl rfl ?_
        refine X.aload_n (i := 0) dX12_about_152 rfl rfl ?_
        refine X.getI (k0 := 5) kX12 sM_0 (Nat.le_of_ble_eq_true rfl) rfl lfX12_115 dX12_about_153 ?_
        obtain ⟨q6, e6, h⟩ := xbind h
        try dsimp only at h
        refine X.callV (μ' := mX12_told) (As := [.int (f 0 5)]) (st := []) (st1 := [.int q6]) (r := some (.int q6)) (f' := f) (g' := g) (tX12_told e6) (Nat.le_of_ble_eq_true rfl) cwX12_told rfl mlX12_135 sM_0 kX12 rfl rfl rfl (Nat.le_of_ble_eq_true rfl) dX12_about_156 ?_
        obtain rfl := Option.some.inj h
        exact X.iret dX12_about_159 rfl rfl
      rw [if_neg c5] at h
      by_cases c7 : v1 = (4 : Int32)
      · rw [if_pos c7] at h
        refine X.swIn (off := 81) (tgt := 160) dX12_about_79 c7 (by decide) (by decide) rfl (by decide) ?_
        refine X.aload_n (i := 0) dX12_about_160 rfl rfl ?_
        refine X.aload_n (i := 0) dX12_about_161 rfl rfl ?_
        refine X.getR (k0 := 18) kX12 sM_0 (Nat.le_of_ble_eq_true rfl) rfl lfX12_32 dX12_about_162 ?_
        refine X.iconst (v := (0 : Int32)) dX12_about_165 (by decide) ?_
        refine X.ialdK (m := 0) sM_7 (by decide) (by decide) dX12_about_166 ?_
        obtain ⟨q8, e8, h⟩ := xbind h
        try dsimp only at h
        refine X.callV (μ' := mX12_told) (As := [.int (f 7 0)]) (st := []) (st1 := [.int q8]) (r := some (.int q8)) (f' := f) (g' := g) (tX12_told e8) (Nat.le_of_ble_eq_true rfl) cwX12_told rfl mlX12_135 sM_0 kX12 rfl rfl rfl (Nat.le_of_ble_eq_true rfl) dX12_about_167 ?_
        obtain rfl := Option.some.inj h
        exact X.iret dX12_about_170 rfl rfl
      rw [if_neg c7] at h
      by_cases c9 : v1 = (5 : Int32)
      · rw [if_pos c9] at h
        refine X.swIn (off := 92) (tgt := 171) dX12_about_79 c9 (by decide) (by decide) rfl (by decide) ?_
        refine X.aload_n (i := 0) dX12_about_171 rfl rfl ?_
        refine X.aload_n (i := 0) dX12_about_172 rfl rfl ?_
        refine X.getR (k0 := 18) kX12 sM_0 (Nat.le_of_ble_eq_true rfl) rfl lfX12_32 dX12_about_173 ?_
        refine X.iconst (v := (0 : Int32)) dX12_about_176 (by decide) ?_
        refine X.ialdK (m := 0) sM_7 (by decide) (by decide) dX12_about_177 ?_
        obtain ⟨q10, e10, h⟩ := xbind h
        try dsimp only at h
        refine X.callV (μ' := mX12_rightOf) (As := [.int (f 7 0)]) (st := []) (st1 := [.int q10]) (r := some (.int q10)) (f' := f) (g' := g) (tX12_rightOf e10) (Nat.le_of_ble_eq_true rfl) cwX12_rightOf rfl mlX12_139 sM_0 kX12 rfl rfl rfl (Nat.le_of_ble_eq_true rfl) dX12_about_178 ?_
        obtain rfl := Option.some.inj h
        exact X.iret dX12_about_181 rfl rfl
      rw [if_neg c9] at h
      by_cases c11 : v1 = (6 : Int32)
      · rw [if_pos c11] at h
        refine X.swIn (off := 103) (tgt := 182) dX12_about_79 c11 (by decide) (by decide) rfl (by decide) ?_
        refine X.aload_n (i := 0) dX12_about_182 rfl rfl ?_
        refine X.getR (k0 := 18) kX12 sM_0 (Nat.le_of_ble_eq_true rfl) rfl lfX12_32 dX12_about_183 ?_
        refine X.iconst (v := (1 : Int32)) dX12_about_186 (by decide) ?_
        refine X.ialdK (m := 1) sM_7 (by decide) (by decide) dX12_about_187 ?_
        obtain rfl := Option.some.inj h
        exact X.iret dX12_about_188 rfl rfl
      rw [if_neg c11] at h
      by_cases c12 : v1 = (7 : Int32)
      · rw [if_pos c12] at h
        refine X.swIn (off := 110) (tgt := 189) dX12_about_79 c12 (by decide) (by decide) rfl (by decide) ?_
        refine X.iload_n (i := 2) dX12_about_189 rfl rfl ?_
        obtain rfl := Option.some.inj h
        exact X.iret dX12_about_190 rfl rfl
      rw [if_neg c12] at h
      by_cases c13 : v1 = (8 : Int32)
      · rw [if_pos c13] at h
        refine X.swIn (off := 112) (tgt := 191) dX12_about_79 c13 (by decide) (by decide) rfl (by decide) ?_
        refine X.iload_n (i := 3) dX12_about_191 rfl rfl ?_
        obtain rfl := Option.some.inj h
        exact X.iret dX12_about_192 rfl rfl
      rw [if_neg c13] at h
      by_cases c14 : v1 = (9 : Int32)
      · rw [if_pos c14] at h
        refine X.swIn (off := 114) (tgt := 193) dX12_about_79 c14 (by decide) (by decide) rfl (by decide) ?_
        refine X.aload_n (i := 0) dX12_about_193 rfl rfl ?_
        refine X.getI (k0 := 21) kX12 sM_0 (Nat.le_of_ble_eq_true rfl) rfl lfX12_118 dX12_about_194 ?_
        obtain rfl := Option.some.inj h
        exact X.iret dX12_about_197 rfl rfl
      rw [if_neg c14] at h
      by_cases c15 : v1 = (10 : Int32)
      · rw [if_pos c15] at h
        refine X.swIn (off := 119) (tgt := 198) dX12_about_79 c15 (by decide) (by decide) rfl (by decide) ?_
        refine X.aload_n (i := 0) dX12_about_198 rfl rfl ?_
        refine X.getI (k0 := 2) kX12 sM_0 (Nat.le_of_ble_eq_true rfl) rfl lfX12_76 dX12_about_199 ?_
        obtain rfl := Option.some.inj h
        exact X.iret dX12_about_202 rfl rfl
      rw [if_neg c15] at h
      refine X.swOut (tgt := 203) dX12_about_79 (xsw_out (fun j j1 j2 => ?_)) (by decide) ?_
      · rcases (show j = 0 ∨ j = 1 ∨ j = 2 ∨ j = 3 ∨ j = 4 ∨ j = 5 ∨ j = 6 ∨ j = 7 ∨ j = 8 ∨ j = 9 ∨ j = 10 by omega) with rfl | rfl | rfl | rfl | rfl | rfl | rfl | rfl | rfl | rfl | rfl <;> assumption
      refine X.bipush (v := (-2 : Int32)) dX12_about_203 (by decide) ?_
      obtain rfl := Option.some.inj h
      exact X.iret dX12_about_205 rfl rfl
    · rw [if_neg c1] at h
      refine X.iload_n (i := 2) dX12_about_21 rfl rfl ?_
      refine X.aload_n (i := 0) dX12_about_22 rfl rfl ?_
      refine X.aload_n (i := 0) dX12_about_23 rfl rfl ?_
      refine X.getR (k0 := 18) kX12 sM_0 (Nat.le_of_ble_eq_true rfl) rfl lfX12_32 dX12_about_24 ?_
      refine X.iload (i := 4) dX12_about_27 rfl ?_
      obtain ⟨q16, e16, h⟩ := xbind h
      try dsimp only at h
      refine X.callV (μ' := mX12_doesRead) (As := [.ref 7, .int v4]) (st := [.int v2]) (st1 := [.int q16, .int v2]) (r := some (.int q16)) (f' := f) (g' := g) (tX12_doesRead_7 e16) (Nat.le_of_ble_eq_true rfl) cwX12_doesRead rfl mlX12_131 sM_0 kX12 rfl rfl rfl (Nat.le_of_ble_eq_true rfl) dX12_about_29 ?_
      refine X.if_eq (tgt := 42) dX12_about_32 (by decide) (fun c17 => ?_) (fun c17 => ?_)
      · rw [if_pos c17] at h
        refine X.iconst (v := (0 : Int32)) dX12_about_42 (by decide) ?_
        exact X.weaken (xle_c (xle_c (xle_n (xle_c (xle_c xle_e))))) (tX12_about_b43 ih h)
      · rw [if_neg c17] at h
        refine X.iconst (v := (1 : Int32)) dX12_about_35 (by decide) ?_
        refine X.iload (i := 4) dX12_about_36 rfl ?_
        refine X.ishl dX12_about_38 ?_
        refine X.goto (tgt := 43) dX12_about_39 (by decide) ?_
        exact X.weaken (xle_c (xle_c (xle_n (xle_c (xle_c xle_e))))) (tX12_about_b43 ih h)
def pX12_about (F : Nat) (v1 : Int32) (f : xM) : Option (Int32 × xM) := (pX12_about_b12 F F v1 (0 : Int32) (0 : Int32) (0 : Int32) (xu f 0 0 (0 : Int32)))
set_option maxRecDepth 100000 in
set_option maxHeartbeats 4000000 in
theorem tX12_about {F : Nat} {g : xN} {v1 : Int32} {f : xM} {r : Int32 × xM} (h : pX12_about F v1 f = some r) : XT mX12_about 3 [.ref 0, .int v1] f g (some (.int r.1), r.2, g) := by
  unfold pX12_about at h
  refine XT.of (L := [some (.ref 0), some (.int v1), none, none, none]) [some (.ref 0), some (.int v1)] rfl (Nat.le_of_ble_eq_true rfl) rfl (xle_c (xle_c (xle_z (xle_z (xle_z xle_e))))) ?_
  refine X.aload_n (i := 0) dX12_about_0 rfl rfl ?_
  refine X.iconst (v := (0 : Int32)) dX12_about_1 (by decide) ?_
  refine X.putI (k0 := 0) kX12 sM_0 (Nat.le_of_ble_eq_true rfl) rfl lfX12_57 rfl rfl dX12_about_2 ?_
  refine X.iconst (v := (0 : Int32)) dX12_about_5 (by decide) ?_
  refine X.istore_n (i := 2) (L' := [some (.ref 0), some (.int v1), some (.int (0 : Int32)), none, none]) dX12_about_6 rfl (Nat.le_of_ble_eq_true rfl) rfl ?_
  refine X.iconst (v := (0 : Int32)) dX12_about_7 (by decide) ?_
  refine X.istore_n (i := 3) (L' := [some (.ref 0), some (.int v1), some (.int (0 : Int32)), some (.int (0 : Int32)), none]) dX12_about_8 rfl (Nat.le_of_ble_eq_true rfl) rfl ?_
  refine X.iconst (v := (0 : Int32)) dX12_about_9 (by decide) ?_
  refine X.istore (i := 4) (L' := [some (.ref 0), some (.int v1), some (.int (0 : Int32)), some (.int (0 : Int32)), some (.int (0 : Int32))]) dX12_about_10 (Nat.le_of_ble_eq_true rfl) rfl ?_
  exact X.weaken (xle_c (xle_c (xle_c (xle_c (xle_c xle_e))))) (tX12_about_b12 F h)
def pX12_noCompositor (f : xM) (v1 : Int32) : Int32 := (if (pX12_in v1.toInt64 (0 : Int64) ((f 0 6) - (1 : Int32)).toInt64) = 0 then (1 : Int32) else (0 : Int32))
set_option maxRecDepth 100000 in
set_option maxHeartbeats 4000000 in
theorem tX12_noCompositor {f : xM} {g : xN} {v1 : Int32} {r : Int32} (h : pX12_noCompositor f v1 = r) : XT mX12_noCompositor 1 [.ref 0, .int v1] f g (some (.int r), f, g) := by
  unfold pX12_noCompositor at h
  refine XT.of (L := [some (.ref 0), some (.int v1)]) [some (.ref 0), some (.int v1)] rfl (Nat.le_of_ble_eq_true rfl) rfl (xle_c (xle_c xle_e)) ?_
  refine X.iload_n (i := 1) dX12_noCompositor_0 rfl rfl ?_
  refine X.i2l dX12_noCompositor_1 ?_
  refine X.lconst (v := (0 : Int64)) dX12_noCompositor_2 (by decide) ?_
  refine X.aload_n (i := 0) dX12_noCompositor_3 rfl rfl ?_
  refine X.getI (k0 := 6) kX12 sM_0 (Nat.le_of_ble_eq_true rfl) rfl lfX12_62 dX12_noCompositor_4 ?_
  refine X.iconst (v := (1 : Int32)) dX12_noCompositor_7 (by decide) ?_
  refine X.isub dX12_noCompositor_8 ?_
  refine X.i2l dX12_noCompositor_9 ?_
  refine X.callS (μ' := mX12_in) (As := [.long v1.toInt64, .long (0 : Int64), .long ((f 0 6) - (1 : Int32)).toInt64]) (st := []) (st1 := [.int (pX12_in v1.toInt64 (0 : Int64) ((f 0 6) - (1 : Int32)).toInt64)]) (r := some (.int (pX12_in v1.toInt64 (0 : Int64) ((f 0 6) - (1 : Int32)).toInt64))) (f' := f) (g' := g) (tX12_in rfl) (Nat.le_of_ble_eq_true rfl) cwX12_in rfl mlX12_65 rfl rfl rfl (Nat.le_of_ble_eq_true rfl) dX12_noCompositor_10 ?_
  refine X.if_ne (tgt := 20) dX12_noCompositor_13 (by decide) (fun c1 => ?_) (fun c1 => ?_)
  · rw [if_neg c1] at h
    refine X.iconst (v := (0 : Int32)) dX12_noCompositor_20 (by decide) ?_
    subst h
    exact X.zret dX12_noCompositor_21 rfl rfl rfl
  · rw [if_pos c1] at h
    refine X.iconst (v := (1 : Int32)) dX12_noCompositor_16 (by decide) ?_
    refine X.goto (tgt := 21) dX12_noCompositor_17 (by decide) ?_
    subst h
    exact X.zret dX12_noCompositor_21 rfl rfl rfl
def pX12_kind (v1 : Int32) (f : xM) : Option (Int32 × xM) := (if (pX12_noCompositor (xu f 0 0 (0 : Int32)) v1) = 0 then (if xin ((2 : Int32) + v1) 9 then some ((((xu f 0 0 (0 : Int32)) 7 ((2 : Int32) + v1).toNatClampNeg), (xu f 0 0 (0 : Int32)))) else none) else some (((-1 : Int32), (xu f 0 0 (0 : Int32)))))
set_option maxRecDepth 100000 in
set_option maxHeartbeats 4000000 in
theorem tX12_kind {g : xN} {v1 : Int32} {f : xM} {r : Int32 × xM} (h : pX12_kind v1 f = some r) : XT mX12_kind 2 [.ref 0, .int v1] f g (some (.int r.1), r.2, g) := by
  unfold pX12_kind at h
  refine XT.of (L := [some (.ref 0), some (.int v1)]) [some (.ref 0), some (.int v1)] rfl (Nat.le_of_ble_eq_true rfl) rfl (xle_c (xle_c xle_e)) ?_
  refine X.aload_n (i := 0) dX12_kind_0 rfl rfl ?_
  refine X.iconst (v := (0 : Int32)) dX12_kind_1 (by decide) ?_
  refine X.putI (k0 := 0) kX12 sM_0 (Nat.le_of_ble_eq_true rfl) rfl lfX12_57 rfl rfl dX12_kind_2 ?_
  refine X.aload_n (i := 0) dX12_kind_5 rfl rfl ?_
  refine X.iload_n (i := 1) dX12_kind_6 rfl rfl ?_
  refine X.callV (μ' := mX12_noCompositor) (As := [.int v1]) (st := []) (st1 := [.int (pX12_noCompositor (xu f 0 0 (0 : Int32)) v1)]) (r := some (.int (pX12_noCompositor (xu f 0 0 (0 : Int32)) v1))) (f' := (xu f 0 0 (0 : Int32))) (g' := g) (tX12_noCompositor rfl) (Nat.le_of_ble_eq_true rfl) cwX12_noCompositor rfl mlX12_142 sM_0 kX12 rfl rfl rfl (Nat.le_of_ble_eq_true rfl) dX12_kind_7 ?_
  refine X.if_eq (tgt := 17) dX12_kind_10 (by decide) (fun c1 => ?_) (fun c1 => ?_)
  · rw [if_pos c1] at h
    refine X.aload_n (i := 0) dX12_kind_17 rfl rfl ?_
    refine X.getR (k0 := 18) kX12 sM_0 (Nat.le_of_ble_eq_true rfl) rfl lfX12_32 dX12_kind_18 ?_
    refine X.iconst (v := (2 : Int32)) dX12_kind_21 (by decide) ?_
    refine X.iload_n (i := 1) dX12_kind_22 rfl rfl ?_
    refine X.iadd dX12_kind_23 ?_
    by_cases c2 : xin ((2 : Int32) + v1) 9
    rotate_left
    · rw [if_neg c2] at h; cases h
    rw [if_pos c2] at h
    refine X.iald sM_7 c2 dX12_kind_24 ?_
    obtain rfl := Option.some.inj h
    exact X.iret dX12_kind_25 rfl rfl
  · rw [if_neg c1] at h
    refine X.iconst (v := (-1 : Int32)) dX12_kind_13 (by decide) ?_
    refine X.goto (tgt := 25) dX12_kind_14 (by decide) ?_
    obtain rfl := Option.some.inj h
    exact X.iret dX12_kind_25 rfl rfl
def pX12_noReader (f : xM) (v1 : Int32) : Int32 := (if (pX12_in v1.toInt64 (0 : Int64) ((f 0 7) - (1 : Int32)).toInt64) = 0 then (1 : Int32) else (0 : Int32))
set_option maxRecDepth 100000 in
set_option maxHeartbeats 4000000 in
theorem tX12_noReader {f : xM} {g : xN} {v1 : Int32} {r : Int32} (h : pX12_noReader f v1 = r) : XT mX12_noReader 1 [.ref 0, .int v1] f g (some (.int r), f, g) := by
  unfold pX12_noReader at h
  refine XT.of (L := [some (.ref 0), some (.int v1)]) [some (.ref 0), some (.int v1)] rfl (Nat.le_of_ble_eq_true rfl) rfl (xle_c (xle_c xle_e)) ?_
  refine X.iload_n (i := 1) dX12_noReader_0 rfl rfl ?_
  refine X.i2l dX12_noReader_1 ?_
  refine X.lconst (v := (0 : Int64)) dX12_noReader_2 (by decide) ?_
  refine X.aload_n (i := 0) dX12_noReader_3 rfl rfl ?_
  refine X.getI (k0 := 7) kX12 sM_0 (Nat.le_of_ble_eq_true rfl) rfl lfX12_69 dX12_noReader_4 ?_
  refine X.iconst (v := (1 : Int32)) dX12_noReader_7 (by decide) ?_
  refine X.isub dX12_noReader_8 ?_
  refine X.i2l dX12_noReader_9 ?_
  refine X.callS (μ' := mX12_in) (As := [.long v1.toInt64, .long (0 : Int64), .long ((f 0 7) - (1 : Int32)).toInt64]) (st := []) (st1 := [.int (pX12_in v1.toInt64 (0 : Int64) ((f 0 7) - (1 : Int32)).toInt64)]) (r := some (.int (pX12_in v1.toInt64 (0 : Int64) ((f 0 7) - (1 : Int32)).toInt64))) (f' := f) (g' := g) (tX12_in rfl) (Nat.le_of_ble_eq_true rfl) cwX12_in rfl mlX12_65 rfl rfl rfl (Nat.le_of_ble_eq_true rfl) dX12_noReader_10 ?_
  refine X.if_ne (tgt := 20) dX12_noReader_13 (by decide) (fun c1 => ?_) (fun c1 => ?_)
  · rw [if_neg c1] at h
    refine X.iconst (v := (0 : Int32)) dX12_noReader_20 (by decide) ?_
    subst h
    exact X.zret dX12_noReader_21 rfl rfl rfl
  · rw [if_pos c1] at h
    refine X.iconst (v := (1 : Int32)) dX12_noReader_16 (by decide) ?_
    refine X.goto (tgt := 21) dX12_noReader_17 (by decide) ?_
    subst h
    exact X.zret dX12_noReader_21 rfl rfl rfl
def pX12_reader (F : Nat) (v1 : Int32) (v2 : Int32) (f : xM) : Option (Int32 × xM) := (if (pX12_noReader (xu f 0 0 (0 : Int32)) v1) = 0 then (if v2 = (0 : Int32) then (if xin v1 4 then some ((((xu f 0 0 (0 : Int32)) 2 v1.toNatClampNeg), (xu f 0 0 (0 : Int32)))) else none) else (if v2 = (1 : Int32) then (if xin v1 4 then some ((((xu f 0 0 (0 : Int32)) 3 v1.toNatClampNeg), (xu f 0 0 (0 : Int32)))) else none) else (if v2 = (2 : Int32) then (if xin ((5 : Int32) + v1) 9 then (Option.bind (pX12_told F (xu f 0 0 (0 : Int32)) ((xu f 0 0 (0 : Int32)) 7 ((5 : Int32) + v1).toNatClampNeg)) fun q8 => some ((q8, (xu f 0 0 (0 : Int32))))) else none) else (if v2 = (3 : Int32) then (if xin ((5 : Int32) + v1) 9 then (Option.bind (pX12_rightOf F (xu f 0 0 (0 : Int32)) ((xu f 0 0 (0 : Int32)) 7 ((5 : Int32) + v1).toNatClampNeg)) fun q11 => some ((q11, (xu f 0 0 (0 : Int32))))) else none) else some (((-2 : Int32), (xu f 0 0 (0 : Int32)))))))) else some (((-1 : Int32), (xu f 0 0 (0 : Int32)))))
set_option maxRecDepth 100000 in
set_option maxHeartbeats 4000000 in
theorem tX12_reader {F : Nat} {g : xN} {v1 : Int32} {v2 : Int32} {f : xM} {r : Int32 × xM} (h : pX12_reader F v1 v2 f = some r) : XT mX12_reader 3 [.ref 0, .int v1, .int v2] f g (some (.int r.1), r.2, g) := by
  unfold pX12_reader at h
  refine XT.of (L := [some (.ref 0), some (.int v1), some (.int v2)]) [some (.ref 0), some (.int v1), some (.int v2)] rfl (Nat.le_of_ble_eq_true rfl) rfl (xle_c (xle_c (xle_c xle_e))) ?_
  refine X.aload_n (i := 0) dX12_reader_0 rfl rfl ?_
  refine X.iconst (v := (0 : Int32)) dX12_reader_1 (by decide) ?_
  refine X.putI (k0 := 0) kX12 sM_0 (Nat.le_of_ble_eq_true rfl) rfl lfX12_57 rfl rfl dX12_reader_2 ?_
  refine X.aload_n (i := 0) dX12_reader_5 rfl rfl ?_
  refine X.iload_n (i := 1) dX12_reader_6 rfl rfl ?_
  refine X.callV (μ' := mX12_noReader) (As := [.int v1]) (st := []) (st1 := [.int (pX12_noReader (xu f 0 0 (0 : Int32)) v1)]) (r := some (.int (pX12_noReader (xu f 0 0 (0 : Int32)) v1))) (f' := (xu f 0 0 (0 : Int32))) (g' := g) (tX12_noReader rfl) (Nat.le_of_ble_eq_true rfl) cwX12_noReader rfl mlX12_146 sM_0 kX12 rfl rfl rfl (Nat.le_of_ble_eq_true rfl) dX12_reader_7 ?_
  refine X.if_eq (tgt := 15) dX12_reader_10 (by decide) (fun c1 => ?_) (fun c1 => ?_)
  · rw [if_pos c1] at h
    refine X.iload_n (i := 2) dX12_reader_15 rfl rfl ?_
    by_cases c2 : v2 = (0 : Int32)
    · rw [if_pos c2] at h
      refine X.swIn (off := 32) (tgt := 48) dX12_reader_16 c2 (by decide) (by decide) rfl (by decide) ?_
      refine X.aload_n (i := 0) dX12_reader_48 rfl rfl ?_
      refine X.getR (k0 := 8) kX12 sM_0 (Nat.le_of_ble_eq_true rfl) rfl lfX12_17 dX12_reader_49 ?_
      refine X.iload_n (i := 1) dX12_reader_52 rfl rfl ?_
      by_cases c3 : xin v1 4
      rotate_left
      · rw [if_neg c3] at h; cases h
      rw [if_pos c3] at h
      refine X.iald sM_2 c3 dX12_reader_53 ?_
      obtain rfl := Option.some.inj h
      exact X.iret dX12_reader_54 rfl rfl
    rw [if_neg c2] at h
    by_cases c4 : v2 = (1 : Int32)
    · rw [if_pos c4] at h
      refine X.swIn (off := 39) (tgt := 55) dX12_reader_16 c4 (by decide) (by decide) rfl (by decide) ?_
      refine X.aload_n (i := 0) dX12_reader_55 rfl rfl ?_
      refine X.getR (k0 := 9) kX12 sM_0 (Nat.le_of_ble_eq_true rfl) rfl lfX12_20 dX12_reader_56 ?_
      refine X.iload_n (i := 1) dX12_reader_59 rfl rfl ?_
      by_cases c5 : xin v1 4
      rotate_left
      · rw [if_neg c5] at h; cases h
      rw [if_pos c5] at h
      refine X.iald sM_3 c5 dX12_reader_60 ?_
      obtain rfl := Option.some.inj h
      exact X.iret dX12_reader_61 rfl rfl
    rw [if_neg c4] at h
    by_cases c6 : v2 = (2 : Int32)
    · rw [if_pos c6] at h
      refine X.swIn (off := 46) (tgt := 62) dX12_reader_16 c6 (by decide) (by decide) rfl (by decide) ?_
      refine X.aload_n (i := 0) dX12_reader_62 rfl rfl ?_
      refine X.aload_n (i := 0) dX12_reader_63 rfl rfl ?_
      refine X.getR (k0 := 18) kX12 sM_0 (Nat.le_of_ble_eq_true rfl) rfl lfX12_32 dX12_reader_64 ?_
      refine X.iconst (v := (5 : Int32)) dX12_reader_67 (by decide) ?_
      refine X.iload_n (i := 1) dX12_reader_68 rfl rfl ?_
      refine X.iadd dX12_reader_69 ?_
      by_cases c7 : xin ((5 : Int32) + v1) 9
      rotate_left
      · rw [if_neg c7] at h; cases h
      rw [if_pos c7] at h
      refine X.iald sM_7 c7 dX12_reader_70 ?_
      obtain ⟨q8, e8, h⟩ := xbind h
      try dsimp only at h
      refine X.callV (μ' := mX12_told) (As := [.int ((xu f 0 0 (0 : Int32)) 7 ((5 : Int32) + v1).toNatClampNeg)]) (st := []) (st1 := [.int q8]) (r := some (.int q8)) (f' := (xu f 0 0 (0 : Int32))) (g' := g) (tX12_told e8) (Nat.le_of_ble_eq_true rfl) cwX12_told rfl mlX12_135 sM_0 kX12 rfl rfl rfl (Nat.le_of_ble_eq_true rfl) dX12_reader_71 ?_
      obtain rfl := Option.some.inj h
      exact X.iret dX12_reader_74 rfl rfl
    rw [if_neg c6] at h
    by_cases c9 : v2 = (3 : Int32)
    · rw [if_pos c9] at h
      refine X.swIn (off := 59) (tgt := 75) dX12_reader_16 c9 (by decide) (by decide) rfl (by decide) ?_
      refine X.aload_n (i := 0) dX12_reader_75 rfl rfl ?_
      refine X.aload_n (i := 0) dX12_reader_76 rfl rfl ?_
      refine X.getR (k0 := 18) kX12 sM_0 (Nat.le_of_ble_eq_true rfl) rfl lfX12_32 dX12_reader_77 ?_
      refine X.iconst (v := (5 : Int32)) dX12_reader_80 (by decide) ?_
      refine X.iload_n (i := 1) dX12_reader_81 rfl rfl ?_
      refine X.iadd dX12_reader_82 ?_
      by_cases c10 : xin ((5 : Int32) + v1) 9
      rotate_left
      · rw [if_neg c10] at h; cases h
      rw [if_pos c10] at h
      refine X.iald sM_7 c10 dX12_reader_83 ?_
      obtain ⟨q11, e11, h⟩ := xbind h
      try dsimp only at h
      refine X.callV (μ' := mX12_rightOf) (As := [.int ((xu f 0 0 (0 : Int32)) 7 ((5 : Int32) + v1).toNatClampNeg)]) (st := []) (st1 := [.int q11]) (r := some (.int q11)) (f' := (xu f 0 0 (0 : Int32))) (g' := g) (tX12_rightOf e11) (Nat.le_of_ble_eq_true rfl) cwX12_rightOf rfl mlX12_139 sM_0 kX12 rfl rfl rfl (Nat.le_of_ble_eq_true rfl) dX12_reader_84 ?_
      obtain rfl := Option.some.inj h
      exact X.iret dX12_reader_87 rfl rfl
    rw [if_neg c9] at h
    refine X.swOut (tgt := 88) dX12_reader_16 (xsw_out (fun j j1 j2 => ?_)) (by decide) ?_
    · rcases (show j = 0 ∨ j = 1 ∨ j = 2 ∨ j = 3 by omega) with rfl | rfl | rfl | rfl <;> assumption
    refine X.bipush (v := (-2 : Int32)) dX12_reader_88 (by decide) ?_
    obtain rfl := Option.some.inj h
    exact X.iret dX12_reader_90 rfl rfl
  · rw [if_neg c1] at h
    refine X.iconst (v := (-1 : Int32)) dX12_reader_13 (by decide) ?_
    obtain rfl := Option.some.inj h
    exact X.iret dX12_reader_14 rfl rfl
def pX12_noPlace (f : xM) (v1 : Int32) : Int32 := (if (pX12_in v1.toInt64 (0 : Int64) ((f 0 4) - (1 : Int32)).toInt64) = 0 then (1 : Int32) else (0 : Int32))
set_option maxRecDepth 100000 in
set_option maxHeartbeats 4000000 in
theorem tX12_noPlace {f : xM} {g : xN} {v1 : Int32} {r : Int32} (h : pX12_noPlace f v1 = r) : XT mX12_noPlace 1 [.ref 0, .int v1] f g (some (.int r), f, g) := by
  unfold pX12_noPlace at h
  refine XT.of (L := [some (.ref 0), some (.int v1)]) [some (.ref 0), some (.int v1)] rfl (Nat.le_of_ble_eq_true rfl) rfl (xle_c (xle_c xle_e)) ?_
  refine X.iload_n (i := 1) dX12_noPlace_0 rfl rfl ?_
  refine X.i2l dX12_noPlace_1 ?_
  refine X.lconst (v := (0 : Int64)) dX12_noPlace_2 (by decide) ?_
  refine X.aload_n (i := 0) dX12_noPlace_3 rfl rfl ?_
  refine X.getI (k0 := 4) kX12 sM_0 (Nat.le_of_ble_eq_true rfl) rfl lfX12_13 dX12_noPlace_4 ?_
  refine X.iconst (v := (1 : Int32)) dX12_noPlace_7 (by decide) ?_
  refine X.isub dX12_noPlace_8 ?_
  refine X.i2l dX12_noPlace_9 ?_
  refine X.callS (μ' := mX12_in) (As := [.long v1.toInt64, .long (0 : Int64), .long ((f 0 4) - (1 : Int32)).toInt64]) (st := []) (st1 := [.int (pX12_in v1.toInt64 (0 : Int64) ((f 0 4) - (1 : Int32)).toInt64)]) (r := some (.int (pX12_in v1.toInt64 (0 : Int64) ((f 0 4) - (1 : Int32)).toInt64))) (f' := f) (g' := g) (tX12_in rfl) (Nat.le_of_ble_eq_true rfl) cwX12_in rfl mlX12_65 rfl rfl rfl (Nat.le_of_ble_eq_true rfl) dX12_noPlace_10 ?_
  refine X.if_ne (tgt := 20) dX12_noPlace_13 (by decide) (fun c1 => ?_) (fun c1 => ?_)
  · rw [if_neg c1] at h
    refine X.iconst (v := (0 : Int32)) dX12_noPlace_20 (by decide) ?_
    subst h
    exact X.zret dX12_noPlace_21 rfl rfl rfl
  · rw [if_pos c1] at h
    refine X.iconst (v := (1 : Int32)) dX12_noPlace_16 (by decide) ?_
    refine X.goto (tgt := 21) dX12_noPlace_17 (by decide) ?_
    subst h
    exact X.zret dX12_noPlace_21 rfl rfl rfl
def pX12_noLetter (v0 : Int32) : Int32 := (if (pX12_in v0.toInt64 (0 : Int64) (3 : Int64)) = 0 then (1 : Int32) else (0 : Int32))
set_option maxRecDepth 100000 in
set_option maxHeartbeats 4000000 in
theorem tX12_noLetter {f : xM} {g : xN} {v0 : Int32} {r : Int32} (h : pX12_noLetter v0 = r) : XT mX12_noLetter 1 [.int v0] f g (some (.int r), f, g) := by
  unfold pX12_noLetter at h
  refine XT.of (L := [some (.int v0)]) [some (.int v0)] rfl (Nat.le_of_ble_eq_true rfl) rfl (xle_c xle_e) ?_
  refine X.iload_n (i := 0) dX12_noLetter_0 rfl rfl ?_
  refine X.i2l dX12_noLetter_1 ?_
  refine X.lconst (v := (0 : Int64)) dX12_noLetter_2 (by decide) ?_
  refine X.ldc2 dX12_noLetter_3 lcX12_72 ?_
  refine X.callS (μ' := mX12_in) (As := [.long v0.toInt64, .long (0 : Int64), .long (3 : Int64)]) (st := []) (st1 := [.int (pX12_in v0.toInt64 (0 : Int64) (3 : Int64))]) (r := some (.int (pX12_in v0.toInt64 (0 : Int64) (3 : Int64)))) (f' := f) (g' := g) (tX12_in rfl) (Nat.le_of_ble_eq_true rfl) cwX12_in rfl mlX12_65 rfl rfl rfl (Nat.le_of_ble_eq_true rfl) dX12_noLetter_6 ?_
  refine X.if_ne (tgt := 16) dX12_noLetter_9 (by decide) (fun c1 => ?_) (fun c1 => ?_)
  · rw [if_neg c1] at h
    refine X.iconst (v := (0 : Int32)) dX12_noLetter_16 (by decide) ?_
    subst h
    exact X.zret dX12_noLetter_17 rfl rfl rfl
  · rw [if_pos c1] at h
    refine X.iconst (v := (1 : Int32)) dX12_noLetter_12 (by decide) ?_
    refine X.goto (tgt := 17) dX12_noLetter_13 (by decide) ?_
    subst h
    exact X.zret dX12_noLetter_17 rfl rfl rfl
def pX12_note_b50 (F : Nat) : Nat → Int32 → xM → Option (xM)
  | 0, _, _ => none
  | n + 1, v1, f => (if (9 : Int32) ≤ v1 then some ((xu f 0 21 ((f 0 21) + (1 : Int32)))) else (if xin v1 9 then (if xin (((9 : Int32) * (f 0 21)) + v1) 126 then (pX12_note_b50 F n (v1 + (1 : Int32)) (xu f 9 (((9 : Int32) * (f 0 21)) + v1).toNatClampNeg (f 7 v1.toNatClampNeg))) else none) else none))
set_option maxRecDepth 100000 in
set_option maxHeartbeats 4000000 in
theorem tX12_note_b50 {F : Nat} {g : xN} : ∀ (n : Nat) {v1 : Int32} {f : xM} {r : xM}, pX12_note_b50 F n v1 f = some r → X mX12_note 0 (none, r, g) 50 [some (.ref 0), some (.int v1)] [] f g := by
  intro n
  induction n with
  | zero => intro v1 f r h; cases h
  | succ n ih =>
    intro v1 f r h
    rw [pX12_note_b50] at h
    refine X.iload_n (i := 1) dX12_note_50 rfl rfl ?_
    refine X.bipush (v := (9 : Int32)) dX12_note_51 (by decide) ?_
    refine X.icmp_ge (tgt := 82) dX12_note_53 (by decide) (fun c2 => ?_) (fun c2 => ?_)
    · rw [if_pos c2] at h
      refine X.aload_n (i := 0) dX12_note_82 rfl rfl ?_
      refine X.dup dX12_note_83 rfl ?_
      refine X.getI (k0 := 21) kX12 sM_0 (Nat.le_of_ble_eq_true rfl) rfl lfX12_118 dX12_note_84 ?_
      refine X.iconst (v := (1 : Int32)) dX12_note_87 (by decide) ?_
      refine X.iadd dX12_note_88 ?_
      refine X.putI (k0 := 21) kX12 sM_0 (Nat.le_of_ble_eq_true rfl) rfl lfX12_118 rfl rfl dX12_note_89 ?_
      obtain rfl := Option.some.inj h
      exact X.vret dX12_note_92 rfl rfl
    · rw [if_neg c2] at h
      refine X.aload_n (i := 0) dX12_note_56 rfl rfl ?_
      refine X.getR (k0 := 20) kX12 sM_0 (Nat.le_of_ble_eq_true rfl) rfl lfX12_38 dX12_note_57 ?_
      refine X.bipush (v := (9 : Int32)) dX12_note_60 (by decide) ?_
      refine X.aload_n (i := 0) dX12_note_62 rfl rfl ?_
      refine X.getI (k0 := 21) kX12 sM_0 (Nat.le_of_ble_eq_true rfl) rfl lfX12_118 dX12_note_63 ?_
      refine X.imul dX12_note_66 ?_
      refine X.iload_n (i := 1) dX12_note_67 rfl rfl ?_
      refine X.iadd dX12_note_68 ?_
      refine X.aload_n (i := 0) dX12_note_69 rfl rfl ?_
      refine X.getR (k0 := 18) kX12 sM_0 (Nat.le_of_ble_eq_true rfl) rfl lfX12_32 dX12_note_70 ?_
      refine X.iload_n (i := 1) dX12_note_73 rfl rfl ?_
      by_cases c3 : xin v1 9
      rotate_left
      · rw [if_neg c3] at h; cases h
      rw [if_pos c3] at h
      refine X.iald sM_7 c3 dX12_note_74 ?_
      by_cases c4 : xin (((9 : Int32) * (f 0 21)) + v1) 126
      rotate_left
      · rw [if_neg c4] at h; cases h
      rw [if_pos c4] at h
      refine X.iast sM_9 c4 dX12_note_75 ?_
      refine X.iinc (i := 1) (v := (v1 + (1 : Int32))) (L' := [some (.ref 0), some (.int (v1 + (1 : Int32)))]) dX12_note_76 rfl rfl (Nat.le_of_ble_eq_true rfl) rfl ?_
      refine X.goto (tgt := 50) dX12_note_79 (by decide) ?_
      exact X.weaken (xle_c (xle_c xle_e)) (ih h)
def pX12_note_b11 (F : Nat) : Nat → Int32 → xM → Option (xM)
  | 0, _, _ => none
  | n + 1, v1, f => (if (117 : Int32) ≤ v1 then (pX12_note_b50 F F (0 : Int32) (xu f 0 21 ((f 0 21) - (1 : Int32)))) else (if xin (v1 + (9 : Int32)) 126 then (if xin v1 126 then (pX12_note_b11 F n (v1 + (1 : Int32)) (xu f 9 v1.toNatClampNeg (f 9 (v1 + (9 : Int32)).toNatClampNeg))) else none) else none))
set_option maxRecDepth 100000 in
set_option maxHeartbeats 4000000 in
theorem tX12_note_b11 {F : Nat} {g : xN} : ∀ (n : Nat) {v1 : Int32} {f : xM} {r : xM}, pX12_note_b11 F n v1 f = some r → X mX12_note 0 (none, r, g) 11 [some (.ref 0), some (.int v1)] [] f g := by
  intro n
  induction n with
  | zero => intro v1 f r h; cases h
  | succ n ih =>
    intro v1 f r h
    rw [pX12_note_b11] at h
    refine X.iload_n (i := 1) dX12_note_11 rfl rfl ?_
    refine X.bipush (v := (117 : Int32)) dX12_note_12 (by decide) ?_
    refine X.icmp_ge (tgt := 38) dX12_note_14 (by decide) (fun c5 => ?_) (fun c5 => ?_)
    · rw [if_pos c5] at h
      refine X.aload_n (i := 0) dX12_note_38 rfl rfl ?_
      refine X.dup dX12_note_39 rfl ?_
      refine X.getI (k0 := 21) kX12 sM_0 (Nat.le_of_ble_eq_true rfl) rfl lfX12_118 dX12_note_40 ?_
      refine X.iconst (v := (1 : Int32)) dX12_note_43 (by decide) ?_
      refine X.isub dX12_note_44 ?_
      refine X.putI (k0 := 21) kX12 sM_0 (Nat.le_of_ble_eq_true rfl) rfl lfX12_118 rfl rfl dX12_note_45 ?_
      refine X.iconst (v := (0 : Int32)) dX12_note_48 (by decide) ?_
      refine X.istore_n (i := 1) (L' := [some (.ref 0), some (.int (0 : Int32))]) dX12_note_49 rfl (Nat.le_of_ble_eq_true rfl) rfl ?_
      exact X.weaken (xle_c (xle_c xle_e)) (tX12_note_b50 F h)
    · rw [if_neg c5] at h
      refine X.aload_n (i := 0) dX12_note_17 rfl rfl ?_
      refine X.getR (k0 := 20) kX12 sM_0 (Nat.le_of_ble_eq_true rfl) rfl lfX12_38 dX12_note_18 ?_
      refine X.iload_n (i := 1) dX12_note_21 rfl rfl ?_
      refine X.aload_n (i := 0) dX12_note_22 rfl rfl ?_
      refine X.getR (k0 := 20) kX12 sM_0 (Nat.le_of_ble_eq_true rfl) rfl lfX12_38 dX12_note_23 ?_
      refine X.iload_n (i := 1) dX12_note_26 rfl rfl ?_
      refine X.bipush (v := (9 : Int32)) dX12_note_27 (by decide) ?_
      refine X.iadd dX12_note_29 ?_
      by_cases c6 : xin (v1 + (9 : Int32)) 126
      rotate_left
      · rw [if_neg c6] at h; cases h
      rw [if_pos c6] at h
      refine X.iald sM_9 c6 dX12_note_30 ?_
      by_cases c7 : xin v1 126
      rotate_left
      · rw [if_neg c7] at h; cases h
      rw [if_pos c7] at h
      refine X.iast sM_9 c7 dX12_note_31 ?_
      refine X.iinc (i := 1) (v := (v1 + (1 : Int32))) (L' := [some (.ref 0), some (.int (v1 + (1 : Int32)))]) dX12_note_32 rfl rfl (Nat.le_of_ble_eq_true rfl) rfl ?_
      refine X.goto (tgt := 11) dX12_note_35 (by decide) ?_
      exact X.weaken (xle_c (xle_c xle_e)) (ih h)
def pX12_note (F : Nat) (f : xM) : Option (xM) := (if (f 0 21) = (14 : Int32) then (pX12_note_b11 F F (0 : Int32) f) else (pX12_note_b50 F F (0 : Int32) f))
set_option maxRecDepth 100000 in
set_option maxHeartbeats 4000000 in
theorem tX12_note {F : Nat} {g : xN} {f : xM} {r : xM} (h : pX12_note F f = some r) : XT mX12_note 0 [.ref 0] f g (none, r, g) := by
  unfold pX12_note at h
  refine XT.of (L := [some (.ref 0), none]) [some (.ref 0)] rfl (Nat.le_of_ble_eq_true rfl) rfl (xle_c (xle_z xle_e)) ?_
  refine X.aload_n (i := 0) dX12_note_0 rfl rfl ?_
  refine X.getI (k0 := 21) kX12 sM_0 (Nat.le_of_ble_eq_true rfl) rfl lfX12_118 dX12_note_1 ?_
  refine X.bipush (v := (14 : Int32)) dX12_note_4 (by decide) ?_
  refine X.icmp_ne (tgt := 48) dX12_note_6 (by decide) (fun c1 => ?_) (fun c1 => ?_)
  · rw [if_neg c1] at h
    refine X.iconst (v := (0 : Int32)) dX12_note_48 (by decide) ?_
    refine X.istore_n (i := 1) (L' := [some (.ref 0), some (.int (0 : Int32))]) dX12_note_49 rfl (Nat.le_of_ble_eq_true rfl) rfl ?_
    exact X.weaken (xle_c (xle_c xle_e)) (tX12_note_b50 F h)
  · rw [if_pos c1] at h
    refine X.iconst (v := (0 : Int32)) dX12_note_9 (by decide) ?_
    refine X.istore_n (i := 1) (L' := [some (.ref 0), some (.int (0 : Int32))]) dX12_note_10 rfl (Nat.le_of_ble_eq_true rfl) rfl ?_
    exact X.weaken (xle_c (xle_c xle_e)) (tX12_note_b11 F h)
def pX12_put (F : Nat) (f : xM) (v1 : Int32) (v2 : Int32) (v3 : Int32) : Option (Int32) := (Option.bind (pX12_letterOf F f v1 v2) fun q1 => (Option.bind (pX12_power F (4 : Int32) (((f 0 4) - (1 : Int32)) - v2)) fun q2 => some ((v1 + ((v3 - q1) * q2)))))
set_option maxRecDepth 100000 in
set_option maxHeartbeats 4000000 in
theorem tX12_put {F : Nat} {f : xM} {g : xN} {v1 : Int32} {v2 : Int32} {v3 : Int32} {r : Int32} (h : pX12_put F f v1 v2 v3 = some r) : XT mX12_put 2 [.ref 0, .int v1, .int v2, .int v3] f g (some (.int r), f, g) := by
  unfold pX12_put at h
  refine XT.of (L := [some (.ref 0), some (.int v1), some (.int v2), some (.int v3)]) [some (.ref 0), some (.int v1), some (.int v2), some (.int v3)] rfl (Nat.le_of_ble_eq_true rfl) rfl (xle_c (xle_c (xle_c (xle_c xle_e)))) ?_
  refine X.iload_n (i := 1) dX12_put_0 rfl rfl ?_
  refine X.iload_n (i := 3) dX12_put_1 rfl rfl ?_
  refine X.aload_n (i := 0) dX12_put_2 rfl rfl ?_
  refine X.iload_n (i := 1) dX12_put_3 rfl rfl ?_
  refine X.iload_n (i := 2) dX12_put_4 rfl rfl ?_
  obtain ⟨q1, e1, h⟩ := xbind h
  try dsimp only at h
  refine X.callV (μ' := mX12_letterOf) (As := [.int v1, .int v2]) (st := [.int v3, .int v1]) (st1 := [.int q1, .int v3, .int v1]) (r := some (.int q1)) (f' := f) (g' := g) (tX12_letterOf e1) (Nat.le_of_ble_eq_true rfl) cwX12_letterOf rfl mlX12_124 sM_0 kX12 rfl rfl rfl (Nat.le_of_ble_eq_true rfl) dX12_put_5 ?_
  refine X.isub dX12_put_8 ?_
  refine X.iconst (v := (4 : Int32)) dX12_put_9 (by decide) ?_
  refine X.aload_n (i := 0) dX12_put_10 rfl rfl ?_
  refine X.getI (k0 := 4) kX12 sM_0 (Nat.le_of_ble_eq_true rfl) rfl lfX12_13 dX12_put_11 ?_
  refine X.iconst (v := (1 : Int32)) dX12_put_14 (by decide) ?_
  refine X.isub dX12_put_15 ?_
  refine X.iload_n (i := 2) dX12_put_16 rfl rfl ?_
  refine X.isub dX12_put_17 ?_
  obtain ⟨q2, e2, h⟩ := xbind h
  try dsimp only at h
  refine X.callS (μ' := mX12_power) (As := [.int (4 : Int32), .int (((f 0 4) - (1 : Int32)) - v2)]) (st := [.int (v3 - q1), .int v1]) (st1 := [.int q2, .int (v3 - q1), .int v1]) (r := some (.int q2)) (f' := f) (g' := g) (tX12_power e2) (Nat.le_of_ble_eq_true rfl) cwX12_power rfl mlX12_121 rfl rfl rfl (Nat.le_of_ble_eq_true rfl) dX12_put_18 ?_
  refine X.imul dX12_put_21 ?_
  refine X.iadd dX12_put_22 ?_
  obtain rfl := Option.some.inj h
  exact X.iret dX12_put_23 rfl rfl
def pX12_notice (F : Nat) (f : xM) (v1 : Int32) (v2 : Int32) (v3 : Int32) (v4 : Int32) : Option (Int32) := (if (f 0 4) = 0 then none else (Option.bind (pX12_put F f v1 v3 v4) fun q2 => (if v2 = (1 : Int32) then (Option.bind (pX12_letterOf F f q2 ((v3 + (1 : Int32)) - (v3 + (1 : Int32)) / (f 0 4) * (f 0 4))) fun q4 => (Option.bind (pX12_put F f q2 ((v3 + (1 : Int32)) - (v3 + (1 : Int32)) / (f 0 4) * (f 0 4)) ((q4 + (1 : Int32)) - (q4 + (1 : Int32)) / (4 : Int32) * (4 : Int32))) fun q5 => some (q5))) else (if v2 = (2 : Int32) then (Option.bind (pX12_put F f q2 v3 ((v4 + (1 : Int32)) - (v4 + (1 : Int32)) / (4 : Int32) * (4 : Int32))) fun q7 => some (q7)) else (if v2 = (3 : Int32) then (Option.bind (pX12_letterOf F f q2 ((v3 + (1 : Int32)) - (v3 + (1 : Int32)) / (f 0 4) * (f 0 4))) fun q9 => (Option.bind (pX12_put F f q2 v3 q9) fun q10 => (Option.bind (pX12_put F f q10 ((v3 + (1 : Int32)) - (v3 + (1 : Int32)) / (f 0 4) * (f 0 4)) v4) fun q11 => some (q11)))) else some (q2))))))
set_option maxRecDepth 100000 in
set_option maxHeartbeats 4000000 in
theorem tX12_notice {F : Nat} {f : xM} {g : xN} {v1 : Int32} {v2 : Int32} {v3 : Int32} {v4 : Int32} {r : Int32} (h : pX12_notice F f v1 v2 v3 v4 = some r) : XT mX12_notice 3 [.ref 0, .int v1, .int v2, .int v3, .int v4] f g (some (.int r), f, g) := by
  unfold pX12_notice at h
  refine XT.of (L := [some (.ref 0), some (.int v1), some (.int v2), some (.int v3), some (.int v4), none, none]) [some (.ref 0), some (.int v1), some (.int v2), some (.int v3), some (.int v4)] rfl (Nat.le_of_ble_eq_true rfl) rfl (xle_c (xle_c (xle_c (xle_c (xle_c (xle_z (xle_z xle_e))))))) ?_
  refine X.iload_n (i := 3) dX12_notice_0 rfl rfl ?_
  refine X.iconst (v := (1 : Int32)) dX12_notice_1 (by decide) ?_
  refine X.iadd dX12_notice_2 ?_
  refine X.aload_n (i := 0) dX12_notice_3 rfl rfl ?_
  refine X.getI (k0 := 4) kX12 sM_0 (Nat.le_of_ble_eq_true rfl) rfl lfX12_13 dX12_notice_4 ?_
  by_cases c1 : (f 0 4) = 0
  · rw [if_pos c1] at h; cases h
  rw [if_neg c1] at h
  refine X.irem dX12_notice_7 c1 ?_
  refine X.istore (i := 5) (L' := [some (.ref 0), some (.int v1), some (.int v2), some (.int v3), some (.int v4), some (.int ((v3 + (1 : Int32)) - (v3 + (1 : Int32)) / (f 0 4) * (f 0 4))), none]) dX12_notice_8 (Nat.le_of_ble_eq_true rfl) rfl ?_
  refine X.aload_n (i := 0) dX12_notice_10 rfl rfl ?_
  refine X.iload_n (i := 1) dX12_notice_11 rfl rfl ?_
  refine X.iload_n (i := 3) dX12_notice_12 rfl rfl ?_
  refine X.iload (i := 4) dX12_notice_13 rfl ?_
  obtain ⟨q2, e2, h⟩ := xbind h
  try dsimp only at h
  refine X.callV (μ' := mX12_put) (As := [.int v1, .int v3, .int v4]) (st := []) (st1 := [.int q2]) (r := some (.int q2)) (f' := f) (g' := g) (tX12_put e2) (Nat.le_of_ble_eq_true rfl) cwX12_put rfl mlX12_127 sM_0 kX12 rfl rfl rfl (Nat.le_of_ble_eq_true rfl) dX12_notice_15 ?_
  refine X.istore (i := 6) (L' := [some (.ref 0), some (.int v1), some (.int v2), some (.int v3), some (.int v4), some (.int ((v3 + (1 : Int32)) - (v3 + (1 : Int32)) / (f 0 4) * (f 0 4))), some (.int q2)]) dX12_notice_18 (Nat.le_of_ble_eq_true rfl) rfl ?_
  refine X.iload_n (i := 2) dX12_notice_20 rfl rfl ?_
  by_cases c3 : v2 = (1 : Int32)
  · rw [if_pos c3] at h
    refine X.swIn (off := 27) (tgt := 48) dX12_notice_21 c3 (by decide) (by decide) rfl (by decide) ?_
    refine X.aload_n (i := 0) dX12_notice_48 rfl rfl ?_
    refine X.iload (i := 6) dX12_notice_49 rfl ?_
    refine X.iload (i := 5) dX12_notice_51 rfl ?_
    refine X.aload_n (i := 0) dX12_notice_53 rfl rfl ?_
    refine X.iload (i := 6) dX12_notice_54 rfl ?_
    refine X.iload (i := 5) dX12_notice_56 rfl ?_
    obtain ⟨q4, e4, h⟩ := xbind h
    try dsimp only at h
    refine X.callV (μ' := mX12_letterOf) (As := [.int q2, .int ((v3 + (1 : Int32)) - (v3 + (1 : Int32)) / (f 0 4) * (f 0 4))]) (st := [.int ((v3 + (1 : Int32)) - (v3 + (1 : Int32)) / (f 0 4) * (f 0 4)), .int q2, .ref 0]) (st1 := [.int q4, .int ((v3 + (1 : Int32)) - (v3 + (1 : Int32)) / (f 0 4) * (f 0 4)), .int q2, .ref 0]) (r := some (.int q4)) (f' := f) (g' := g) (tX12_letterOf e4) (Nat.le_of_ble_eq_true rfl) cwX12_letterOf rfl mlX12_124 sM_0 kX12 rfl rfl rfl (Nat.le_of_ble_eq_true rfl) dX12_notice_58 ?_
    refine X.iconst (v := (1 : Int32)) dX12_notice_61 (by decide) ?_
    refine X.iadd dX12_notice_62 ?_
    refine X.iconst (v := (4 : Int32)) dX12_notice_63 (by decide) ?_
    refine X.irem dX12_notice_64 (by decide) ?_
    obtain ⟨q5, e5, h⟩ := xbind h
    try dsimp only at h
    refine X.callV (μ' := mX12_put) (As := [.int q2, .int ((v3 + (1 : Int32)) - (v3 + (1 : Int32)) / (f 0 4) * (f 0 4)), .int ((q4 + (1 : Int32)) - (q4 + (1 : Int32)) / (4 : Int32) * (4 : Int32))]) (st := []) (st1 := [.int q5]) (r := some (.int q5)) (f' := f) (g' := g) (tX12_put e5) (Nat.le_of_ble_eq_true rfl) cwX12_put rfl mlX12_127 sM_0 kX12 rfl rfl rfl (Nat.le_of_ble_eq_true rfl) dX12_notice_65 ?_
    obtain rfl := Option.some.inj h
    exact X.iret dX12_notice_68 rfl rfl
  rw [if_neg c3] at h
  by_cases c6 : v2 = (2 : Int32)
  · rw [if_pos c6] at h
    refine X.swIn (off := 48) (tgt := 69) dX12_notice_21 c6 (by decide) (by decide) rfl (by decide) ?_
    refine X.aload_n (i := 0) dX12_notice_69 rfl rfl ?_
    refine X.iload (i := 6) dX12_notice_70 rfl ?_
    refine X.iload_n (i := 3) dX12_notice_72 rfl rfl ?_
    refine X.iload (i := 4) dX12_notice_73 rfl ?_
    refine X.iconst (v := (1 : Int32)) dX12_notice_75 (by decide) ?_
    refine X.iadd dX12_notice_76 ?_
    refine X.iconst (v := (4 : Int32)) dX12_notice_77 (by decide) ?_
    refine X.irem dX12_notice_78 (by decide) ?_
    obtain ⟨q7, e7, h⟩ := xbind h
    try dsimp only at h
    refine X.callV (μ' := mX12_put) (As := [.int q2, .int v3, .int ((v4 + (1 : Int32)) - (v4 + (1 : Int32)) / (4 : Int32) * (4 : Int32))]) (st := []) (st1 := [.int q7]) (r := some (.int q7)) (f' := f) (g' := g) (tX12_put e7) (Nat.le_of_ble_eq_true rfl) cwX12_put rfl mlX12_127 sM_0 kX12 rfl rfl rfl (Nat.le_of_ble_eq_true rfl) dX12_notice_79 ?_
    obtain rfl := Option.some.inj h
    exact X.iret dX12_notice_82 rfl rfl
  rw [if_neg c6] at h
  by_cases c8 : v2 = (3 : Int32)
  · rw [if_pos c8] at h
    refine X.swIn (off := 62) (tgt := 83) dX12_notice_21 c8 (by decide) (by decide) rfl (by decide) ?_
    refine X.aload_n (i := 0) dX12_notice_83 rfl rfl ?_
    refine X.aload_n (i := 0) dX12_notice_84 rfl rfl ?_
    refine X.iload (i := 6) dX12_notice_85 rfl ?_
    refine X.iload_n (i := 3) dX12_notice_87 rfl rfl ?_
    refine X.aload_n (i := 0) dX12_notice_88 rfl rfl ?_
    refine X.iload (i := 6) dX12_notice_89 rfl ?_
    refine X.iload (i := 5) dX12_notice_91 rfl ?_
    obtain ⟨q9, e9, h⟩ := xbind h
    try dsimp only at h
    refine X.callV (μ' := mX12_letterOf) (As := [.int q2, .int ((v3 + (1 : Int32)) - (v3 + (1 : Int32)) / (f 0 4) * (f 0 4))]) (st := [.int v3, .int q2, .ref 0, .ref 0]) (st1 := [.int q9, .int v3, .int q2, .ref 0, .ref 0]) (r := some (.int q9)) (f' := f) (g' := g) (tX12_letterOf e9) (Nat.le_of_ble_eq_true rfl) cwX12_letterOf rfl mlX12_124 sM_0 kX12 rfl rfl rfl (Nat.le_of_ble_eq_true rfl) dX12_notice_93 ?_
    obtain ⟨q10, e10, h⟩ := xbind h
    try dsimp only at h
    refine X.callV (μ' := mX12_put) (As := [.int q2, .int v3, .int q9]) (st := [.ref 0]) (st1 := [.int q10, .ref 0]) (r := some (.int q10)) (f' := f) (g' := g) (tX12_put e10) (Nat.le_of_ble_eq_true rfl) cwX12_put rfl mlX12_127 sM_0 kX12 rfl rfl rfl (Nat.le_of_ble_eq_true rfl) dX12_notice_96 ?_
    refine X.iload (i := 5) dX12_notice_99 rfl ?_
    refine X.iload (i := 4) dX12_notice_101 rfl ?_
    obtain ⟨q11, e11, h⟩ := xbind h
    try dsimp only at h
    refine X.callV (μ' := mX12_put) (As := [.int q10, .int ((v3 + (1 : Int32)) - (v3 + (1 : Int32)) / (f 0 4) * (f 0 4)), .int v4]) (st := []) (st1 := [.int q11]) (r := some (.int q11)) (f' := f) (g' := g) (tX12_put e11) (Nat.le_of_ble_eq_true rfl) cwX12_put rfl mlX12_127 sM_0 kX12 rfl rfl rfl (Nat.le_of_ble_eq_true rfl) dX12_notice_103 ?_
    obtain rfl := Option.some.inj h
    exact X.iret dX12_notice_106 rfl rfl
  rw [if_neg c8] at h
  refine X.swOut (tgt := 107) dX12_notice_21 (xsw_out (fun j j1 j2 => ?_)) (by decide) ?_
  · rcases (show j = 1 ∨ j = 2 ∨ j = 3 by omega) with rfl | rfl | rfl <;> assumption
  refine X.iload (i := 6) dX12_notice_107 rfl ?_
  obtain rfl := Option.some.inj h
  exact X.iret dX12_notice_109 rfl rfl
def pX12_goPrint_7_b21 (F : Nat) : Nat → Int32 → Int32 → Int32 → Int32 → xM → Option (xM)
  | 0, _, _, _, _, _ => none
  | n + 1, v2, v3, v4, v5, f => (if (f 0 7) ≤ v5 then some ((xu f 7 1 ((f 7 1) + (1 : Int32)))) else (Option.bind (pX12_doesRead_7 f v5) fun q4 => (if q4 = 0 then (pX12_goPrint_7_b21 F n v2 v3 v4 (v5 + (1 : Int32)) f) else (if xin ((5 : Int32) + v5) 9 then (if xin ((2 : Int32) + v2) 9 then (Option.bind (pX12_notice F f (f 7 ((5 : Int32) + v5).toNatClampNeg) (f 7 ((2 : Int32) + v2).toNatClampNeg) v3 v4) fun q8 => (if xin ((5 : Int32) + v5) 9 then (pX12_goPrint_7_b21 F n v2 v3 v4 (v5 + (1 : Int32)) (xu f 7 ((5 : Int32) + v5).toNatClampNeg q8)) else none)) else none) else none))))
set_option maxRecDepth 100000 in
set_option maxHeartbeats 4000000 in
theorem tX12_goPrint_7_b21 {F : Nat} {g : xN} : ∀ (n : Nat) {v2 : Int32} {v3 : Int32} {v4 : Int32} {v5 : Int32} {f : xM} {r : xM}, pX12_goPrint_7_b21 F n v2 v3 v4 v5 f = some r → X mX12_goPrint 4 (none, r, g) 21 [some (.ref 0), some (.ref 7), some (.int v2), some (.int v3), some (.int v4), some (.int v5)] [] f g := by
  intro n
  induction n with
  | zero => intro v2 v3 v4 v5 f r h; cases h
  | succ n ih =>
    intro v2 v3 v4 v5 f r h
    rw [pX12_goPrint_7_b21] at h
    refine X.iload (i := 5) dX12_goPrint_21 rfl ?_
    refine X.aload_n (i := 0) dX12_goPrint_23 rfl rfl ?_
    refine X.getI (k0 := 7) kX12 sM_0 (Nat.le_of_ble_eq_true rfl) rfl lfX12_69 dX12_goPrint_24 ?_
    refine X.icmp_ge (tgt := 70) dX12_goPrint_27 (by decide) (fun c3 => ?_) (fun c3 => ?_)
    · rw [if_pos c3] at h
      refine X.aload_n (i := 1) dX12_goPrint_70 rfl rfl ?_
      refine X.iconst (v := (1 : Int32)) dX12_goPrint_71 (by decide) ?_
      refine X.dup2 dX12_goPrint_72 rfl rfl ?_
      refine X.ialdK (m := 1) sM_7 (by decide) (by decide) dX12_goPrint_73 ?_
      refine X.iconst (v := (1 : Int32)) dX12_goPrint_74 (by decide) ?_
      refine X.iadd dX12_goPrint_75 ?_
      refine X.iastK (m := 1) sM_7 (by decide) (by decide) dX12_goPrint_76 ?_
      obtain rfl := Option.some.inj h
      exact X.vret dX12_goPrint_77 rfl rfl
    · rw [if_neg c3] at h
      refine X.aload_n (i := 0) dX12_goPrint_30 rfl rfl ?_
      refine X.aload_n (i := 1) dX12_goPrint_31 rfl rfl ?_
      refine X.iload (i := 5) dX12_goPrint_32 rfl ?_
      obtain ⟨q4, e4, h⟩ := xbind h
      try dsimp only at h
      refine X.callV (μ' := mX12_doesRead) (As := [.ref 7, .int v5]) (st := []) (st1 := [.int q4]) (r := some (.int q4)) (f' := f) (g' := g) (tX12_doesRead_7 e4) (Nat.le_of_ble_eq_true rfl) cwX12_doesRead rfl mlX12_131 sM_0 kX12 rfl rfl rfl (Nat.le_of_ble_eq_true rfl) dX12_goPrint_34 ?_
      refine X.if_eq (tgt := 64) dX12_goPrint_37 (by decide) (fun c5 => ?_) (fun c5 => ?_)
      · rw [if_pos c5] at h
        refine X.iinc (i := 5) (v := (v5 + (1 : Int32))) (L' := [some (.ref 0), some (.ref 7), some (.int v2), some (.int v3), some (.int v4), some (.int (v5 + (1 : Int32)))]) dX12_goPrint_64 rfl rfl (Nat.le_of_ble_eq_true rfl) rfl ?_
        refine X.goto (tgt := 21) dX12_goPrint_67 (by decide) ?_
        exact X.weaken (xle_c (xle_c (xle_c (xle_c (xle_c (xle_c xle_e)))))) (ih h)
      · rw [if_neg c5] at h
        refine X.aload_n (i := 1) dX12_goPrint_40 rfl rfl ?_
        refine X.iconst (v := (5 : Int32)) dX12_goPrint_41 (by decide) ?_
        refine X.iload (i := 5) dX12_goPrint_42 rfl ?_
        refine X.iadd dX12_goPrint_44 ?_
        refine X.aload_n (i := 0) dX12_goPrint_45 rfl rfl ?_
        refine X.aload_n (i := 1) dX12_goPrint_46 rfl rfl ?_
        refine X.iconst (v := (5 : Int32)) dX12_goPrint_47 (by decide) ?_
        refine X.iload (i := 5) dX12_goPrint_48 rfl ?_
        refine X.iadd dX12_goPrint_50 ?_
        by_cases c6 : xin ((5 : Int32) + v5) 9
        rotate_left
        · rw [if_neg c6] at h; cases h
        rw [if_pos c6] at h
        refine X.iald sM_7 c6 dX12_goPrint_51 ?_
        refine X.aload_n (i := 1) dX12_goPrint_52 rfl rfl ?_
        refine X.iconst (v := (2 : Int32)) dX12_goPrint_53 (by decide) ?_
        refine X.iload_n (i := 2) dX12_goPrint_54 rfl rfl ?_
        refine X.iadd dX12_goPrint_55 ?_
        by_cases c7 : xin ((2 : Int32) + v2) 9
        rotate_left
        · rw [if_neg c7] at h; cases h
        rw [if_pos c7] at h
        refine X.iald sM_7 c7 dX12_goPrint_56 ?_
        refine X.iload_n (i := 3) dX12_goPrint_57 rfl rfl ?_
        refine X.iload (i := 4) dX12_goPrint_58 rfl ?_
        obtain ⟨q8, e8, h⟩ := xbind h
        try dsimp only at h
        refine X.callV (μ' := mX12_notice) (As := [.int (f 7 ((5 : Int32) + v5).toNatClampNeg), .int (f 7 ((2 : Int32) + v2).toNatClampNeg), .int v3, .int v4]) (st := [.int ((5 : Int32) + v5), .ref 7]) (st1 := [.int q8, .int ((5 : Int32) + v5), .ref 7]) (r := some (.int q8)) (f' := f) (g' := g) (tX12_notice e8) (Nat.le_of_ble_eq_true rfl) cwX12_notice rfl mlX12_149 sM_0 kX12 rfl rfl rfl (Nat.le_of_ble_eq_true rfl) dX12_goPrint_60 ?_
        by_cases c9 : xin ((5 : Int32) + v5) 9
        rotate_left
        · rw [if_neg c9] at h; cases h
        rw [if_pos c9] at h
        refine X.iast sM_7 c9 dX12_goPrint_63 ?_
        refine X.iinc (i := 5) (v := (v5 + (1 : Int32))) (L' := [some (.ref 0), some (.ref 7), some (.int v2), some (.int v3), some (.int v4), some (.int (v5 + (1 : Int32)))]) dX12_goPrint_64 rfl rfl (Nat.le_of_ble_eq_true rfl) rfl ?_
        refine X.goto (tgt := 21) dX12_goPrint_67 (by decide) ?_
        exact X.weaken (xle_c (xle_c (xle_c (xle_c (xle_c (xle_c xle_e)))))) (ih h)
def pX12_goPrint_7 (F : Nat) (v2 : Int32) (v3 : Int32) (v4 : Int32) (f : xM) : Option (xM) := (if xin ((2 : Int32) + v2) 9 then (Option.bind (pX12_notice F f (f 7 0) (f 7 ((2 : Int32) + v2).toNatClampNeg) v3 v4) fun q2 => (pX12_goPrint_7_b21 F F v2 v3 v4 (0 : Int32) (xu f 7 0 q2))) else none)
set_option maxRecDepth 100000 in
set_option maxHeartbeats 4000000 in
theorem tX12_goPrint_7 {F : Nat} {g : xN} {v2 : Int32} {v3 : Int32} {v4 : Int32} {f : xM} {r : xM} (h : pX12_goPrint_7 F v2 v3 v4 f = some r) : XT mX12_goPrint 4 [.ref 0, .ref 7, .int v2, .int v3, .int v4] f g (none, r, g) := by
  unfold pX12_goPrint_7 at h
  refine XT.of (L := [some (.ref 0), some (.ref 7), some (.int v2), some (.int v3), some (.int v4), none]) [some (.ref 0), some (.ref 7), some (.int v2), some (.int v3), some (.int v4)] rfl (Nat.le_of_ble_eq_true rfl) rfl (xle_c (xle_c (xle_c (xle_c (xle_c (xle_z xle_e)))))) ?_
  refine X.aload_n (i := 1) dX12_goPrint_0 rfl rfl ?_
  refine X.iconst (v := (0 : Int32)) dX12_goPrint_1 (by decide) ?_
  refine X.aload_n (i := 0) dX12_goPrint_2 rfl rfl ?_
  refine X.aload_n (i := 1) dX12_goPrint_3 rfl rfl ?_
  refine X.iconst (v := (0 : Int32)) dX12_goPrint_4 (by decide) ?_
  refine X.ialdK (m := 0) sM_7 (by decide) (by decide) dX12_goPrint_5 ?_
  refine X.aload_n (i := 1) dX12_goPrint_6 rfl rfl ?_
  refine X.iconst (v := (2 : Int32)) dX12_goPrint_7 (by decide) ?_
  refine X.iload_n (i := 2) dX12_goPrint_8 rfl rfl ?_
  refine X.iadd dX12_goPrint_9 ?_
  by_cases c1 : xin ((2 : Int32) + v2) 9
  rotate_left
  · rw [if_neg c1] at h; cases h
  rw [if_pos c1] at h
  refine X.iald sM_7 c1 dX12_goPrint_10 ?_
  refine X.iload_n (i := 3) dX12_goPrint_11 rfl rfl ?_
  refine X.iload (i := 4) dX12_goPrint_12 rfl ?_
  obtain ⟨q2, e2, h⟩ := xbind h
  try dsimp only at h
  refine X.callV (μ' := mX12_notice) (As := [.int (f 7 0), .int (f 7 ((2 : Int32) + v2).toNatClampNeg), .int v3, .int v4]) (st := [.int (0 : Int32), .ref 7]) (st1 := [.int q2, .int (0 : Int32), .ref 7]) (r := some (.int q2)) (f' := f) (g' := g) (tX12_notice e2) (Nat.le_of_ble_eq_true rfl) cwX12_notice rfl mlX12_149 sM_0 kX12 rfl rfl rfl (Nat.le_of_ble_eq_true rfl) dX12_goPrint_14 ?_
  refine X.iastK (m := 0) sM_7 (by decide) (by decide) dX12_goPrint_17 ?_
  refine X.iconst (v := (0 : Int32)) dX12_goPrint_18 (by decide) ?_
  refine X.istore (i := 5) (L' := [some (.ref 0), some (.ref 7), some (.int v2), some (.int v3), some (.int v4), some (.int (0 : Int32))]) dX12_goPrint_19 (Nat.le_of_ble_eq_true rfl) rfl ?_
  exact X.weaken (xle_c (xle_c (xle_c (xle_c (xle_c (xle_c xle_e)))))) (tX12_goPrint_7_b21 F h)
def pX12_print (F : Nat) (v1 : Int32) (v2 : Int32) (v3 : Int32) (f : xM) : Option (Int32 × xM) := (if (pX12_noCompositor (xu f 0 0 (0 : Int32)) v1) = 0 then (if (pX12_noPlace (xu f 0 0 (0 : Int32)) v2) = 0 then (if (pX12_noLetter v3) = 0 then (Option.bind (pX12_note F (xu f 0 0 (0 : Int32))) fun q4 => (Option.bind (pX12_goPrint_7 F v1 v2 v3 q4) fun q5 => (Option.bind (pX12_told F q5 (q5 7 0)) fun q6 => some ((q6, q5))))) else some (((-2 : Int32), (xu f 0 0 (0 : Int32))))) else some (((-2 : Int32), (xu f 0 0 (0 : Int32))))) else some (((-1 : Int32), (xu f 0 0 (0 : Int32)))))
set_option maxRecDepth 100000 in
set_option maxHeartbeats 4000000 in
theorem tX12_print {F : Nat} {g : xN} {v1 : Int32} {v2 : Int32} {v3 : Int32} {f : xM} {r : Int32 × xM} (h : pX12_print F v1 v2 v3 f = some r) : XT mX12_print 5 [.ref 0, .int v1, .int v2, .int v3] f g (some (.int r.1), r.2, g) := by
  unfold pX12_print at h
  refine XT.of (L := [some (.ref 0), some (.int v1), some (.int v2), some (.int v3)]) [some (.ref 0), some (.int v1), some (.int v2), some (.int v3)] rfl (Nat.le_of_ble_eq_true rfl) rfl (xle_c (xle_c (xle_c (xle_c xle_e)))) ?_
  refine X.aload_n (i := 0) dX12_print_0 rfl rfl ?_
  refine X.iconst (v := (0 : Int32)) dX12_print_1 (by decide) ?_
  refine X.putI (k0 := 0) kX12 sM_0 (Nat.le_of_ble_eq_true rfl) rfl lfX12_57 rfl rfl dX12_print_2 ?_
  refine X.aload_n (i := 0) dX12_print_5 rfl rfl ?_
  refine X.iload_n (i := 1) dX12_print_6 rfl rfl ?_
  refine X.callV (μ' := mX12_noCompositor) (As := [.int v1]) (st := []) (st1 := [.int (pX12_noCompositor (xu f 0 0 (0 : Int32)) v1)]) (r := some (.int (pX12_noCompositor (xu f 0 0 (0 : Int32)) v1))) (f' := (xu f 0 0 (0 : Int32))) (g' := g) (tX12_noCompositor rfl) (Nat.le_of_ble_eq_true rfl) cwX12_noCompositor rfl mlX12_142 sM_0 kX12 rfl rfl rfl (Nat.le_of_ble_eq_true rfl) dX12_print_7 ?_
  refine X.if_eq (tgt := 15) dX12_print_10 (by decide) (fun c1 => ?_) (fun c1 => ?_)
  · rw [if_pos c1] at h
    refine X.aload_n (i := 0) dX12_print_15 rfl rfl ?_
    refine X.iload_n (i := 2) dX12_print_16 rfl rfl ?_
    refine X.callV (μ' := mX12_noPlace) (As := [.int v2]) (st := []) (st1 := [.int (pX12_noPlace (xu f 0 0 (0 : Int32)) v2)]) (r := some (.int (pX12_noPlace (xu f 0 0 (0 : Int32)) v2))) (f' := (xu f 0 0 (0 : Int32))) (g' := g) (tX12_noPlace rfl) (Nat.le_of_ble_eq_true rfl) cwX12_noPlace rfl mlX12_153 sM_0 kX12 rfl rfl rfl (Nat.le_of_ble_eq_true rfl) dX12_print_17 ?_
    refine X.if_ne (tgt := 30) dX12_print_20 (by decide) (fun c2 => ?_) (fun c2 => ?_)
    · rw [if_neg c2] at h
      refine X.bipush (v := (-2 : Int32)) dX12_print_30 (by decide) ?_
      obtain rfl := Option.some.inj h
      exact X.iret dX12_print_32 rfl rfl
    · rw [if_pos c2] at h
      refine X.iload_n (i := 3) dX12_print_23 rfl rfl ?_
      refine X.callS (μ' := mX12_noLetter) (As := [.int v3]) (st := []) (st1 := [.int (pX12_noLetter v3)]) (r := some (.int (pX12_noLetter v3))) (f' := (xu f 0 0 (0 : Int32))) (g' := g) (tX12_noLetter rfl) (Nat.le_of_ble_eq_true rfl) cwX12_noLetter rfl mlX12_156 rfl rfl rfl (Nat.le_of_ble_eq_true rfl) dX12_print_24 ?_
      refine X.if_eq (tgt := 33) dX12_print_27 (by decide) (fun c3 => ?_) (fun c3 => ?_)
      · rw [if_pos c3] at h
        refine X.aload_n (i := 0) dX12_print_33 rfl rfl ?_
        obtain ⟨q4, e4, h⟩ := xbind h
        try dsimp only at h
        refine X.callV (μ' := mX12_note) (As := []) (st := []) (st1 := []) (r := none) (f' := q4) (g' := g) (tX12_note e4) (Nat.le_of_ble_eq_true rfl) cwX12_note rfl mlX12_159 sM_0 kX12 rfl rfl rfl (Nat.le_of_ble_eq_true rfl) dX12_print_34 ?_
        refine X.aload_n (i := 0) dX12_print_37 rfl rfl ?_
        refine X.aload_n (i := 0) dX12_print_38 rfl rfl ?_
        refine X.getR (k0 := 18) kX12 sM_0 (Nat.le_of_ble_eq_true rfl) rfl lfX12_32 dX12_print_39 ?_
        refine X.iload_n (i := 1) dX12_print_42 rfl rfl ?_
        refine X.iload_n (i := 2) dX12_print_43 rfl rfl ?_
        refine X.iload_n (i := 3) dX12_print_44 rfl rfl ?_
        obtain ⟨q5, e5, h⟩ := xbind h
        try dsimp only at h
        refine X.callV (μ' := mX12_goPrint) (As := [.ref 7, .int v1, .int v2, .int v3]) (st := []) (st1 := []) (r := none) (f' := q5) (g' := g) (tX12_goPrint_7 e5) (Nat.le_of_ble_eq_true rfl) cwX12_goPrint rfl mlX12_162 sM_0 kX12 rfl rfl rfl (Nat.le_of_ble_eq_true rfl) dX12_print_45 ?_
        refine X.aload_n (i := 0) dX12_print_48 rfl rfl ?_
        refine X.aload_n (i := 0) dX12_print_49 rfl rfl ?_
        refine X.getR (k0 := 18) kX12 sM_0 (Nat.le_of_ble_eq_true rfl) rfl lfX12_32 dX12_print_50 ?_
        refine X.iconst (v := (0 : Int32)) dX12_print_53 (by decide) ?_
        refine X.ialdK (m := 0) sM_7 (by decide) (by decide) dX12_print_54 ?_
        obtain ⟨q6, e6, h⟩ := xbind h
        try dsimp only at h
        refine X.callV (μ' := mX12_told) (As := [.int (q5 7 0)]) (st := []) (st1 := [.int q6]) (r := some (.int q6)) (f' := q5) (g' := g) (tX12_told e6) (Nat.le_of_ble_eq_true rfl) cwX12_told rfl mlX12_135 sM_0 kX12 rfl rfl rfl (Nat.le_of_ble_eq_true rfl) dX12_print_55 ?_
        obtain rfl := Option.some.inj h
        exact X.iret dX12_print_58 rfl rfl
      · rw [if_neg c3] at h
        refine X.bipush (v := (-2 : Int32)) dX12_print_30 (by decide) ?_
        obtain rfl := Option.some.inj h
        exact X.iret dX12_print_32 rfl rfl
  · rw [if_neg c1] at h
    refine X.iconst (v := (-1 : Int32)) dX12_print_13 (by decide) ?_
    obtain rfl := Option.some.inj h
    exact X.iret dX12_print_14 rfl rfl
def pX12_quiet (F : Nat) (f : xM) : Option (Int32 × xM) := (Option.bind (pX12_note F (xu f 0 0 (0 : Int32))) fun q1 => some ((((xu q1 7 1 ((q1 7 1) + (1 : Int32))) 7 1), (xu q1 7 1 ((q1 7 1) + (1 : Int32))))))
set_option maxRecDepth 100000 in
set_option maxHeartbeats 4000000 in
theorem tX12_quiet {F : Nat} {g : xN} {f : xM} {r : Int32 × xM} (h : pX12_quiet F f = some r) : XT mX12_quiet 1 [.ref 0] f g (some (.int r.1), r.2, g) := by
  unfold pX12_quiet at h
  refine XT.of (L := [some (.ref 0)]) [some (.ref 0)] rfl (Nat.le_of_ble_eq_true rfl) rfl (xle_c xle_e) ?_
  refine X.aload_n (i := 0) dX12_quiet_0 rfl rfl ?_
  refine X.iconst (v := (0 : Int32)) dX12_quiet_1 (by decide) ?_
  refine X.putI (k0 := 0) kX12 sM_0 (Nat.le_of_ble_eq_true rfl) rfl lfX12_57 rfl rfl dX12_quiet_2 ?_
  refine X.aload_n (i := 0) dX12_quiet_5 rfl rfl ?_
  obtain ⟨q1, e1, h⟩ := xbind h
  try dsimp only at h
  refine X.callV (μ' := mX12_note) (As := []) (st := []) (st1 := []) (r := none) (f' := q1) (g' := g) (tX12_note e1) (Nat.le_of_ble_eq_true rfl) cwX12_note rfl mlX12_159 sM_0 kX12 rfl rfl rfl (Nat.le_of_ble_eq_true rfl) dX12_quiet_6 ?_
  refine X.aload_n (i := 0) dX12_quiet_9 rfl rfl ?_
  refine X.getR (k0 := 18) kX12 sM_0 (Nat.le_of_ble_eq_true rfl) rfl lfX12_32 dX12_quiet_10 ?_
  refine X.iconst (v := (1 : Int32)) dX12_quiet_13 (by decide) ?_
  refine X.dup2 dX12_quiet_14 rfl rfl ?_
  refine X.ialdK (m := 1) sM_7 (by decide) (by decide) dX12_quiet_15 ?_
  refine X.iconst (v := (1 : Int32)) dX12_quiet_16 (by decide) ?_
  refine X.iadd dX12_quiet_17 ?_
  refine X.iastK (m := 1) sM_7 (by decide) (by decide) dX12_quiet_18 ?_
  refine X.aload_n (i := 0) dX12_quiet_19 rfl rfl ?_
  refine X.getR (k0 := 18) kX12 sM_0 (Nat.le_of_ble_eq_true rfl) rfl lfX12_32 dX12_quiet_20 ?_
  refine X.iconst (v := (1 : Int32)) dX12_quiet_23 (by decide) ?_
  refine X.ialdK (m := 1) sM_7 (by decide) (by decide) dX12_quiet_24 ?_
  obtain rfl := Option.some.inj h
  exact X.iret dX12_quiet_25 rfl rfl
def pX12_tell (F : Nat) (v1 : Int32) (v2 : Int32) (f : xM) : Option (Int32 × xM) := (if (pX12_noReader (xu f 0 0 (0 : Int32)) v1) = 0 then (if (pX12_noReader (xu f 0 0 (0 : Int32)) v2) = 0 then (if v1 = v2 then some (((-2 : Int32), (xu f 0 0 (0 : Int32)))) else (if xin ((5 : Int32) + v1) 9 then (if xin ((5 : Int32) + v2) 9 then (if ((xu f 0 0 (0 : Int32)) 7 ((5 : Int32) + v1).toNatClampNeg) = ((xu f 0 0 (0 : Int32)) 7 ((5 : Int32) + v2).toNatClampNeg) then some (((-3 : Int32), (xu f 0 0 (0 : Int32)))) else (Option.bind (pX12_note F (xu f 0 0 (0 : Int32))) fun q7 => (if xin ((5 : Int32) + v2) 9 then (if xin ((5 : Int32) + v1) 9 then (if xin ((5 : Int32) + v1) 9 then (Option.bind (pX12_told F (xu q7 7 ((5 : Int32) + v1).toNatClampNeg (q7 7 ((5 : Int32) + v2).toNatClampNeg)) ((xu q7 7 ((5 : Int32) + v1).toNatClampNeg (q7 7 ((5 : Int32) + v2).toNatClampNeg)) 7 ((5 : Int32) + v1).toNatClampNeg)) fun q11 => some ((q11, (xu q7 7 ((5 : Int32) + v1).toNatClampNeg (q7 7 ((5 : Int32) + v2).toNatClampNeg))))) else none) else none) else none))) else none) else none)) else some (((-1 : Int32), (xu f 0 0 (0 : Int32))))) else some (((-1 : Int32), (xu f 0 0 (0 : Int32)))))
set_option maxRecDepth 100000 in
set_option maxHeartbeats 4000000 in
theorem tX12_tell {F : Nat} {g : xN} {v1 : Int32} {v2 : Int32} {f : xM} {r : Int32 × xM} (h : pX12_tell F v1 v2 f = some r) : XT mX12_tell 3 [.ref 0, .int v1, .int v2] f g (some (.int r.1), r.2, g) := by
  unfold pX12_tell at h
  refine XT.of (L := [some (.ref 0), some (.int v1), some (.int v2)]) [some (.ref 0), some (.int v1), some (.int v2)] rfl (Nat.le_of_ble_eq_true rfl) rfl (xle_c (xle_c (xle_c xle_e))) ?_
  refine X.aload_n (i := 0) dX12_tell_0 rfl rfl ?_
  refine X.iconst (v := (0 : Int32)) dX12_tell_1 (by decide) ?_
  refine X.putI (k0 := 0) kX12 sM_0 (Nat.le_of_ble_eq_true rfl) rfl lfX12_57 rfl rfl dX12_tell_2 ?_
  refine X.aload_n (i := 0) dX12_tell_5 rfl rfl ?_
  refine X.iload_n (i := 1) dX12_tell_6 rfl rfl ?_
  refine X.callV (μ' := mX12_noReader) (As := [.int v1]) (st := []) (st1 := [.int (pX12_noReader (xu f 0 0 (0 : Int32)) v1)]) (r := some (.int (pX12_noReader (xu f 0 0 (0 : Int32)) v1))) (f' := (xu f 0 0 (0 : Int32))) (g' := g) (tX12_noReader rfl) (Nat.le_of_ble_eq_true rfl) cwX12_noReader rfl mlX12_146 sM_0 kX12 rfl rfl rfl (Nat.le_of_ble_eq_true rfl) dX12_tell_7 ?_
  refine X.if_ne (tgt := 21) dX12_tell_10 (by decide) (fun c1 => ?_) (fun c1 => ?_)
  · rw [if_neg c1] at h
    refine X.iconst (v := (-1 : Int32)) dX12_tell_21 (by decide) ?_
    obtain rfl := Option.some.inj h
    exact X.iret dX12_tell_22 rfl rfl
  · rw [if_pos c1] at h
    refine X.aload_n (i := 0) dX12_tell_13 rfl rfl ?_
    refine X.iload_n (i := 2) dX12_tell_14 rfl rfl ?_
    refine X.callV (μ' := mX12_noReader) (As := [.int v2]) (st := []) (st1 := [.int (pX12_noReader (xu f 0 0 (0 : Int32)) v2)]) (r := some (.int (pX12_noReader (xu f 0 0 (0 : Int32)) v2))) (f' := (xu f 0 0 (0 : Int32))) (g' := g) (tX12_noReader rfl) (Nat.le_of_ble_eq_true rfl) cwX12_noReader rfl mlX12_146 sM_0 kX12 rfl rfl rfl (Nat.le_of_ble_eq_true rfl) dX12_tell_15 ?_
    refine X.if_eq (tgt := 23) dX12_tell_18 (by decide) (fun c2 => ?_) (fun c2 => ?_)
    · rw [if_pos c2] at h
      refine X.iload_n (i := 1) dX12_tell_23 rfl rfl ?_
      refine X.iload_n (i := 2) dX12_tell_24 rfl rfl ?_
      refine X.icmp_ne (tgt := 31) dX12_tell_25 (by decide) (fun c3 => ?_) (fun c3 => ?_)
      · rw [if_neg c3] at h
        refine X.aload_n (i := 0) dX12_tell_31 rfl rfl ?_
        refine X.getR (k0 := 18) kX12 sM_0 (Nat.le_of_ble_eq_true rfl) rfl lfX12_32 dX12_tell_32 ?_
        refine X.iconst (v := (5 : Int32)) dX12_tell_35 (by decide) ?_
        refine X.iload_n (i := 1) dX12_tell_36 rfl rfl ?_
        refine X.iadd dX12_tell_37 ?_
        by_cases c4 : xin ((5 : Int32) + v1) 9
        rotate_left
        · rw [if_neg c4] at h; cases h
        rw [if_pos c4] at h
        refine X.iald sM_7 c4 dX12_tell_38 ?_
        refine X.aload_n (i := 0) dX12_tell_39 rfl rfl ?_
        refine X.getR (k0 := 18) kX12 sM_0 (Nat.le_of_ble_eq_true rfl) rfl lfX12_32 dX12_tell_40 ?_
        refine X.iconst (v := (5 : Int32)) dX12_tell_43 (by decide) ?_
        refine X.iload_n (i := 2) dX12_tell_44 rfl rfl ?_
        refine X.iadd dX12_tell_45 ?_
        by_cases c5 : xin ((5 : Int32) + v2) 9
        rotate_left
        · rw [if_neg c5] at h; cases h
        rw [if_pos c5] at h
        refine X.iald sM_7 c5 dX12_tell_46 ?_
        refine X.icmp_ne (tgt := 53) dX12_tell_47 (by decide) (fun c6 => ?_) (fun c6 => ?_)
        · rw [if_neg c6] at h
          refine X.aload_n (i := 0) dX12_tell_53 rfl rfl ?_
          obtain ⟨q7, e7, h⟩ := xbind h
          try dsimp only at h
          refine X.callV (μ' := mX12_note) (As := []) (st := []) (st1 := []) (r := none) (f' := q7) (g' := g) (tX12_note e7) (Nat.le_of_ble_eq_true rfl) cwX12_note rfl mlX12_159 sM_0 kX12 rfl rfl rfl (Nat.le_of_ble_eq_true rfl) dX12_tell_54 ?_
          refine X.aload_n (i := 0) dX12_tell_57 rfl rfl ?_
          refine X.getR (k0 := 18) kX12 sM_0 (Nat.le_of_ble_eq_true rfl) rfl lfX12_32 dX12_tell_58 ?_
          refine X.iconst (v := (5 : Int32)) dX12_tell_61 (by decide) ?_
          refine X.iload_n (i := 1) dX12_tell_62 rfl rfl ?_
          refine X.iadd dX12_tell_63 ?_
          refine X.aload_n (i := 0) dX12_tell_64 rfl rfl ?_
          refine X.getR (k0 := 18) kX12 sM_0 (Nat.le_of_ble_eq_true rfl) rfl lfX12_32 dX12_tell_65 ?_
          refine X.iconst (v := (5 : Int32)) dX12_tell_68 (by decide) ?_
          refine X.iload_n (i := 2) dX12_tell_69 rfl rfl ?_
          refine X.iadd dX12_tell_70 ?_
          by_cases c8 : xin ((5 : Int32) + v2) 9
          rotate_left
          · rw [if_neg c8] at h; cases h
          rw [if_pos c8] at h
          refine X.iald sM_7 c8 dX12_tell_71 ?_
          by_cases c9 : xin ((5 : Int32) + v1) 9
          rotate_left
          · rw [if_neg c9] at h; cases h
          rw [if_pos c9] at h
          refine X.iast sM_7 c9 dX12_tell_72 ?_
          refine X.aload_n (i := 0) dX12_tell_73 rfl rfl ?_
          refine X.aload_n (i := 0) dX12_tell_74 rfl rfl ?_
          refine X.getR (k0 := 18) kX12 sM_0 (Nat.le_of_ble_eq_true rfl) rfl lfX12_32 dX12_tell_75 ?_
          refine X.iconst (v := (5 : Int32)) dX12_tell_78 (by decide) ?_
          refine X.iload_n (i := 1) dX12_tell_79 rfl rfl ?_
          refine X.iadd dX12_tell_80 ?_
          by_cases c10 : xin ((5 : Int32) + v1) 9
          rotate_left
          · rw [if_neg c10] at h; cases h
          rw [if_pos c10] at h
          refine X.iald sM_7 c10 dX12_tell_81 ?_
          obtain ⟨q11, e11, h⟩ := xbind h
          try dsimp only at h
          refine X.callV (μ' := mX12_told) (As := [.int ((xu q7 7 ((5 : Int32) + v1).toNatClampNeg (q7 7 ((5 : Int32) + v2).toNatClampNeg)) 7 ((5 : Int32) + v1).toNatClampNeg)]) (st := []) (st1 := [.int q11]) (r := some (.int q11)) (f' := (xu q7 7 ((5 : Int32) + v1).toNatClampNeg (q7 7 ((5 : Int32) + v2).toNatClampNeg))) (g' := g) (tX12_told e11) (Nat.le_of_ble_eq_true rfl) cwX12_told rfl mlX12_135 sM_0 kX12 rfl rfl rfl (Nat.le_of_ble_eq_true rfl) dX12_tell_82 ?_
          obtain rfl := Option.some.inj h
          exact X.iret dX12_tell_85 rfl rfl
        · rw [if_pos c6] at h
          refine X.bipush (v := (-3 : Int32)) dX12_tell_50 (by decide) ?_
          obtain rfl := Option.some.inj h
          exact X.iret dX12_tell_52 rfl rfl
      · rw [if_pos c3] at h
        refine X.bipush (v := (-2 : Int32)) dX12_tell_28 (by decide) ?_
        obtain rfl := Option.some.inj h
        exact X.iret dX12_tell_30 rfl rfl
    · rw [if_neg c2] at h
      refine X.iconst (v := (-1 : Int32)) dX12_tell_21 (by decide) ?_
      obtain rfl := Option.some.inj h
      exact X.iret dX12_tell_22 rfl rfl
def pX12_learn (F : Nat) (v1 : Int32) (v2 : Int32) (f : xM) : Option (Int32 × xM) := (if (pX12_noCompositor (xu f 0 0 (0 : Int32)) v1) = 0 then (if (pX12_in v2.toInt64 (0 : Int64) (3 : Int64)) = 0 then some (((-2 : Int32), (xu f 0 0 (0 : Int32)))) else (if xin ((2 : Int32) + v1) 9 then (if ((xu f 0 0 (0 : Int32)) 7 ((2 : Int32) + v1).toNatClampNeg) = v2 then some (((-3 : Int32), (xu f 0 0 (0 : Int32)))) else (Option.bind (pX12_note F (xu f 0 0 (0 : Int32))) fun q5 => (if xin ((2 : Int32) + v1) 9 then some ((((xu f 0 0 (0 : Int32)) 7 ((2 : Int32) + v1).toNatClampNeg), (xu q5 7 ((2 : Int32) + v1).toNatClampNeg v2))) else none))) else none)) else some (((-1 : Int32), (xu f 0 0 (0 : Int32)))))
set_option maxRecDepth 100000 in
set_option maxHeartbeats 4000000 in
theorem tX12_learn {F : Nat} {g : xN} {v1 : Int32} {v2 : Int32} {f : xM} {r : Int32 × xM} (h : pX12_learn F v1 v2 f = some r) : XT mX12_learn 2 [.ref 0, .int v1, .int v2] f g (some (.int r.1), r.2, g) := by
  unfold pX12_learn at h
  refine XT.of (L := [some (.ref 0), some (.int v1), some (.int v2), none]) [some (.ref 0), some (.int v1), some (.int v2)] rfl (Nat.le_of_ble_eq_true rfl) rfl (xle_c (xle_c (xle_c (xle_z xle_e)))) ?_
  refine X.aload_n (i := 0) dX12_learn_0 rfl rfl ?_
  refine X.iconst (v := (0 : Int32)) dX12_learn_1 (by decide) ?_
  refine X.putI (k0 := 0) kX12 sM_0 (Nat.le_of_ble_eq_true rfl) rfl lfX12_57 rfl rfl dX12_learn_2 ?_
  refine X.aload_n (i := 0) dX12_learn_5 rfl rfl ?_
  refine X.iload_n (i := 1) dX12_learn_6 rfl rfl ?_
  refine X.callV (μ' := mX12_noCompositor) (As := [.int v1]) (st := []) (st1 := [.int (pX12_noCompositor (xu f 0 0 (0 : Int32)) v1)]) (r := some (.int (pX12_noCompositor (xu f 0 0 (0 : Int32)) v1))) (f' := (xu f 0 0 (0 : Int32))) (g' := g) (tX12_noCompositor rfl) (Nat.le_of_ble_eq_true rfl) cwX12_noCompositor rfl mlX12_142 sM_0 kX12 rfl rfl rfl (Nat.le_of_ble_eq_true rfl) dX12_learn_7 ?_
  refine X.if_eq (tgt := 15) dX12_learn_10 (by decide) (fun c1 => ?_) (fun c1 => ?_)
  · rw [if_pos c1] at h
    refine X.iload_n (i := 2) dX12_learn_15 rfl rfl ?_
    refine X.i2l dX12_learn_16 ?_
    refine X.lconst (v := (0 : Int64)) dX12_learn_17 (by decide) ?_
    refine X.ldc2 dX12_learn_18 lcX12_72 ?_
    refine X.callS (μ' := mX12_in) (As := [.long v2.toInt64, .long (0 : Int64), .long (3 : Int64)]) (st := []) (st1 := [.int (pX12_in v2.toInt64 (0 : Int64) (3 : Int64))]) (r := some (.int (pX12_in v2.toInt64 (0 : Int64) (3 : Int64)))) (f' := (xu f 0 0 (0 : Int32))) (g' := g) (tX12_in rfl) (Nat.le_of_ble_eq_true rfl) cwX12_in rfl mlX12_65 rfl rfl rfl (Nat.le_of_ble_eq_true rfl) dX12_learn_21 ?_
    refine X.if_ne (tgt := 30) dX12_learn_24 (by decide) (fun c2 => ?_) (fun c2 => ?_)
    · rw [if_neg c2] at h
      refine X.aload_n (i := 0) dX12_learn_30 rfl rfl ?_
      refine X.getR (k0 := 18) kX12 sM_0 (Nat.le_of_ble_eq_true rfl) rfl lfX12_32 dX12_learn_31 ?_
      refine X.iconst (v := (2 : Int32)) dX12_learn_34 (by decide) ?_
      refine X.iload_n (i := 1) dX12_learn_35 rfl rfl ?_
      refine X.iadd dX12_learn_36 ?_
      by_cases c3 : xin ((2 : Int32) + v1) 9
      rotate_left
      · rw [if_neg c3] at h; cases h
      rw [if_pos c3] at h
      refine X.iald sM_7 c3 dX12_learn_37 ?_
      refine X.istore_n (i := 3) (L' := [some (.ref 0), some (.int v1), some (.int v2), some (.int ((xu f 0 0 (0 : Int32)) 7 ((2 : Int32) + v1).toNatClampNeg))]) dX12_learn_38 rfl (Nat.le_of_ble_eq_true rfl) rfl ?_
      refine X.iload_n (i := 3) dX12_learn_39 rfl rfl ?_
      refine X.iload_n (i := 2) dX12_learn_40 rfl rfl ?_
      refine X.icmp_ne (tgt := 47) dX12_learn_41 (by decide) (fun c4 => ?_) (fun c4 => ?_)
      · rw [if_neg c4] at h
        refine X.aload_n (i := 0) dX12_learn_47 rfl rfl ?_
        obtain ⟨q5, e5, h⟩ := xbind h
        try dsimp only at h
        refine X.callV (μ' := mX12_note) (As := []) (st := []) (st1 := []) (r := none) (f' := q5) (g' := g) (tX12_note e5) (Nat.le_of_ble_eq_true rfl) cwX12_note rfl mlX12_159 sM_0 kX12 rfl rfl rfl (Nat.le_of_ble_eq_true rfl) dX12_learn_48 ?_
        refine X.aload_n (i := 0) dX12_learn_51 rfl rfl ?_
        refine X.getR (k0 := 18) kX12 sM_0 (Nat.le_of_ble_eq_true rfl) rfl lfX12_32 dX12_learn_52 ?_
        refine X.iconst (v := (2 : Int32)) dX12_learn_55 (by decide) ?_
        refine X.iload_n (i := 1) dX12_learn_56 rfl rfl ?_
        refine X.iadd dX12_learn_57 ?_
        refine X.iload_n (i := 2) dX12_learn_58 rfl rfl ?_
        by_cases c6 : xin ((2 : Int32) + v1) 9
        rotate_left
        · rw [if_neg c6] at h; cases h
        rw [if_pos c6] at h
        refine X.iast sM_7 c6 dX12_learn_59 ?_
        refine X.iload_n (i := 3) dX12_learn_60 rfl rfl ?_
        obtain rfl := Option.some.inj h
        exact X.iret dX12_learn_61 rfl rfl
      · rw [if_pos c4] at h
        refine X.bipush (v := (-3 : Int32)) dX12_learn_44 (by decide) ?_
        obtain rfl := Option.some.inj h
        exact X.iret dX12_learn_46 rfl rfl
    · rw [if_pos c2] at h
      refine X.bipush (v := (-2 : Int32)) dX12_learn_27 (by decide) ?_
      obtain rfl := Option.some.inj h
      exact X.iret dX12_learn_29 rfl rfl
  · rw [if_neg c1] at h
    refine X.iconst (v := (-1 : Int32)) dX12_learn_13 (by decide) ?_
    obtain rfl := Option.some.inj h
    exact X.iret dX12_learn_14 rfl rfl
def pX12_undo_b27 (F : Nat) : Nat → Int32 → xM → Option (Int32 × xM)
  | 0, _, _ => none
  | n + 1, v1, f => (if (9 : Int32) ≤ v1 then some (((f 0 21), f)) else (if xin (((9 : Int32) * (f 0 21)) + v1) 126 then (if xin v1 9 then (pX12_undo_b27 F n (v1 + (1 : Int32)) (xu f 7 v1.toNatClampNeg (f 9 (((9 : Int32) * (f 0 21)) + v1).toNatClampNeg))) else none) else none))
set_option maxRecDepth 100000 in
set_option maxHeartbeats 4000000 in
theorem tX12_undo_b27 {F : Nat} {g : xN} : ∀ (n : Nat) {v1 : Int32} {f : xM} {r : Int32 × xM}, pX12_undo_b27 F n v1 f = some r → X mX12_undo 0 (some (.int r.1), r.2, g) 27 [some (.ref 0), some (.int v1)] [] f g := by
  intro n
  induction n with
  | zero => intro v1 f r h; cases h
  | succ n ih =>
    intro v1 f r h
    rw [pX12_undo_b27] at h
    refine X.iload_n (i := 1) dX12_undo_27 rfl rfl ?_
    refine X.bipush (v := (9 : Int32)) dX12_undo_28 (by decide) ?_
    refine X.icmp_ge (tgt := 59) dX12_undo_30 (by decide) (fun c2 => ?_) (fun c2 => ?_)
    · rw [if_pos c2] at h
      refine X.aload_n (i := 0) dX12_undo_59 rfl rfl ?_
      refine X.getI (k0 := 21) kX12 sM_0 (Nat.le_of_ble_eq_true rfl) rfl lfX12_118 dX12_undo_60 ?_
      obtain rfl := Option.some.inj h
      exact X.iret dX12_undo_63 rfl rfl
    · rw [if_neg c2] at h
      refine X.aload_n (i := 0) dX12_undo_33 rfl rfl ?_
      refine X.getR (k0 := 18) kX12 sM_0 (Nat.le_of_ble_eq_true rfl) rfl lfX12_32 dX12_undo_34 ?_
      refine X.iload_n (i := 1) dX12_undo_37 rfl rfl ?_
      refine X.aload_n (i := 0) dX12_undo_38 rfl rfl ?_
      refine X.getR (k0 := 20) kX12 sM_0 (Nat.le_of_ble_eq_true rfl) rfl lfX12_38 dX12_undo_39 ?_
      refine X.bipush (v := (9 : Int32)) dX12_undo_42 (by decide) ?_
      refine X.aload_n (i := 0) dX12_undo_44 rfl rfl ?_
      refine X.getI (k0 := 21) kX12 sM_0 (Nat.le_of_ble_eq_true rfl) rfl lfX12_118 dX12_undo_45 ?_
      refine X.imul dX12_undo_48 ?_
      refine X.iload_n (i := 1) dX12_undo_49 rfl rfl ?_
      refine X.iadd dX12_undo_50 ?_
      by_cases c3 : xin (((9 : Int32) * (f 0 21)) + v1) 126
      rotate_left
      · rw [if_neg c3] at h; cases h
      rw [if_pos c3] at h
      refine X.iald sM_9 c3 dX12_undo_51 ?_
      by_cases c4 : xin v1 9
      rotate_left
      · rw [if_neg c4] at h; cases h
      rw [if_pos c4] at h
      refine X.iast sM_7 c4 dX12_undo_52 ?_
      refine X.iinc (i := 1) (v := (v1 + (1 : Int32))) (L' := [some (.ref 0), some (.int (v1 + (1 : Int32)))]) dX12_undo_53 rfl rfl (Nat.le_of_ble_eq_true rfl) rfl ?_
      refine X.goto (tgt := 27) dX12_undo_56 (by decide) ?_
      exact X.weaken (xle_c (xle_c xle_e)) (ih h)
def pX12_undo (F : Nat) (f : xM) : Option (Int32 × xM) := (if ((xu f 0 0 (0 : Int32)) 0 21) = 0 then some (((-3 : Int32), (xu f 0 0 (0 : Int32)))) else (pX12_undo_b27 F F (0 : Int32) (xu (xu f 0 0 (0 : Int32)) 0 21 (((xu f 0 0 (0 : Int32)) 0 21) - (1 : Int32)))))
set_option maxRecDepth 100000 in
set_option maxHeartbeats 4000000 in
theorem tX12_undo {F : Nat} {g : xN} {f : xM} {r : Int32 × xM} (h : pX12_undo F f = some r) : XT mX12_undo 0 [.ref 0] f g (some (.int r.1), r.2, g) := by
  unfold pX12_undo at h
  refine XT.of (L := [some (.ref 0), none]) [some (.ref 0)] rfl (Nat.le_of_ble_eq_true rfl) rfl (xle_c (xle_z xle_e)) ?_
  refine X.aload_n (i := 0) dX12_undo_0 rfl rfl ?_
  refine X.iconst (v := (0 : Int32)) dX12_undo_1 (by decide) ?_
  refine X.putI (k0 := 0) kX12 sM_0 (Nat.le_of_ble_eq_true rfl) rfl lfX12_57 rfl rfl dX12_undo_2 ?_
  refine X.aload_n (i := 0) dX12_undo_5 rfl rfl ?_
  refine X.getI (k0 := 21) kX12 sM_0 (Nat.le_of_ble_eq_true rfl) rfl lfX12_118 dX12_undo_6 ?_
  refine X.if_ne (tgt := 15) dX12_undo_9 (by decide) (fun c1 => ?_) (fun c1 => ?_)
  · rw [if_neg c1] at h
    refine X.aload_n (i := 0) dX12_undo_15 rfl rfl ?_
    refine X.dup dX12_undo_16 rfl ?_
    refine X.getI (k0 := 21) kX12 sM_0 (Nat.le_of_ble_eq_true rfl) rfl lfX12_118 dX12_undo_17 ?_
    refine X.iconst (v := (1 : Int32)) dX12_undo_20 (by decide) ?_
    refine X.isub dX12_undo_21 ?_
    refine X.putI (k0 := 21) kX12 sM_0 (Nat.le_of_ble_eq_true rfl) rfl lfX12_118 rfl rfl dX12_undo_22 ?_
    refine X.iconst (v := (0 : Int32)) dX12_undo_25 (by decide) ?_
    refine X.istore_n (i := 1) (L' := [some (.ref 0), some (.int (0 : Int32))]) dX12_undo_26 rfl (Nat.le_of_ble_eq_true rfl) rfl ?_
    exact X.weaken (xle_c (xle_c xle_e)) (tX12_undo_b27 F h)
  · rw [if_pos c1] at h
    refine X.bipush (v := (-3 : Int32)) dX12_undo_12 (by decide) ?_
    obtain rfl := Option.some.inj h
    exact X.iret dX12_undo_14 rfl rfl
