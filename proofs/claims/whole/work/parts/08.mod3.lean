def pX12_rightBy (F : Nat) (f : xM) (v1 : Int32) (v2 : Int32) (v3 : Int32) (v4 : Int32) (v5 : Int32) (v6 : Int32) : Option (Int32) := (if xin ((2 : Int32) + v1) 9 then (Option.bind (pX12_notice F f (f 7 0) (f 7 ((2 : Int32) + v1).toNatClampNeg) v3 v4) fun q2 => (if xin ((2 : Int32) + v2) 9 then (Option.bind (pX12_notice F f q2 (f 7 ((2 : Int32) + v2).toNatClampNeg) v5 v6) fun q4 => (Option.bind (pX12_rightOf F f q4) fun q5 => some (q5))) else none)) else none)
set_option maxRecDepth 100000 in
set_option maxHeartbeats 4000000 in
theorem tX12_rightBy {F : Nat} {f : xM} {g : xN} {v1 : Int32} {v2 : Int32} {v3 : Int32} {v4 : Int32} {v5 : Int32} {v6 : Int32} {r : Int32} (h : pX12_rightBy F f v1 v2 v3 v4 v5 v6 = some r) : XT mX12_rightBy 4 [.ref 0, .int v1, .int v2, .int v3, .int v4, .int v5, .int v6] f g (some (.int r), f, g) := by
  unfold pX12_rightBy at h
  refine XT.of (L := [some (.ref 0), some (.int v1), some (.int v2), some (.int v3), some (.int v4), some (.int v5), some (.int v6), none]) [some (.ref 0), some (.int v1), some (.int v2), some (.int v3), some (.int v4), some (.int v5), some (.int v6)] rfl (Nat.le_of_ble_eq_true rfl) rfl (xle_c (xle_c (xle_c (xle_c (xle_c (xle_c (xle_c (xle_z xle_e)))))))) ?_
  refine X.aload_n (i := 0) dX12_rightBy_0 rfl rfl ?_
  refine X.aload_n (i := 0) dX12_rightBy_1 rfl rfl ?_
  refine X.getR (k0 := 18) kX12 sM_0 (Nat.le_of_ble_eq_true rfl) rfl lfX12_32 dX12_rightBy_2 ?_
  refine X.iconst (v := (0 : Int32)) dX12_rightBy_5 (by decide) ?_
  refine X.ialdK (m := 0) sM_7 (by decide) (by decide) dX12_rightBy_6 ?_
  refine X.aload_n (i := 0) dX12_rightBy_7 rfl rfl ?_
  refine X.getR (k0 := 18) kX12 sM_0 (Nat.le_of_ble_eq_true rfl) rfl lfX12_32 dX12_rightBy_8 ?_
  refine X.iconst (v := (2 : Int32)) dX12_rightBy_11 (by decide) ?_
  refine X.iload_n (i := 1) dX12_rightBy_12 rfl rfl ?_
  refine X.iadd dX12_rightBy_13 ?_
  by_cases c1 : xin ((2 : Int32) + v1) 9
  rotate_left
  · rw [if_neg c1] at h; cases h
  rw [if_pos c1] at h
  refine X.iald sM_7 c1 dX12_rightBy_14 ?_
  refine X.iload_n (i := 3) dX12_rightBy_15 rfl rfl ?_
  refine X.iload (i := 4) dX12_rightBy_16 rfl ?_
  obtain ⟨q2, e2, h⟩ := xbind h
  try dsimp only at h
  refine X.callV (μ' := mX12_notice) (As := [.int (f 7 0), .int (f 7 ((2 : Int32) + v1).toNatClampNeg), .int v3, .int v4]) (st := []) (st1 := [.int q2]) (r := some (.int q2)) (f' := f) (g' := g) (tX12_notice e2) (Nat.le_of_ble_eq_true rfl) cwX12_notice rfl mlX12_149 sM_0 kX12 rfl rfl rfl (Nat.le_of_ble_eq_true rfl) dX12_rightBy_18 ?_
  refine X.istore (i := 7) (L' := [some (.ref 0), some (.int v1), some (.int v2), some (.int v3), some (.int v4), some (.int v5), some (.int v6), some (.int q2)]) dX12_rightBy_21 (Nat.le_of_ble_eq_true rfl) rfl ?_
  refine X.aload_n (i := 0) dX12_rightBy_23 rfl rfl ?_
  refine X.aload_n (i := 0) dX12_rightBy_24 rfl rfl ?_
  refine X.iload (i := 7) dX12_rightBy_25 rfl ?_
  refine X.aload_n (i := 0) dX12_rightBy_27 rfl rfl ?_
  refine X.getR (k0 := 18) kX12 sM_0 (Nat.le_of_ble_eq_true rfl) rfl lfX12_32 dX12_rightBy_28 ?_
  refine X.iconst (v := (2 : Int32)) dX12_rightBy_31 (by decide) ?_
  refine X.iload_n (i := 2) dX12_rightBy_32 rfl rfl ?_
  refine X.iadd dX12_rightBy_33 ?_
  by_cases c3 : xin ((2 : Int32) + v2) 9
  rotate_left
  · rw [if_neg c3] at h; cases h
  rw [if_pos c3] at h
  refine X.iald sM_7 c3 dX12_rightBy_34 ?_
  refine X.iload (i := 5) dX12_rightBy_35 rfl ?_
  refine X.iload (i := 6) dX12_rightBy_37 rfl ?_
  obtain ⟨q4, e4, h⟩ := xbind h
  try dsimp only at h
  refine X.callV (μ' := mX12_notice) (As := [.int q2, .int (f 7 ((2 : Int32) + v2).toNatClampNeg), .int v5, .int v6]) (st := [.ref 0]) (st1 := [.int q4, .ref 0]) (r := some (.int q4)) (f' := f) (g' := g) (tX12_notice e4) (Nat.le_of_ble_eq_true rfl) cwX12_notice rfl mlX12_149 sM_0 kX12 rfl rfl rfl (Nat.le_of_ble_eq_true rfl) dX12_rightBy_39 ?_
  obtain ⟨q5, e5, h⟩ := xbind h
  try dsimp only at h
  refine X.callV (μ' := mX12_rightOf) (As := [.int q4]) (st := []) (st1 := [.int q5]) (r := some (.int q5)) (f' := f) (g' := g) (tX12_rightOf e5) (Nat.le_of_ble_eq_true rfl) cwX12_rightOf rfl mlX12_139 sM_0 kX12 rfl rfl rfl (Nat.le_of_ble_eq_true rfl) dX12_rightBy_42 ?_
  obtain rfl := Option.some.inj h
  exact X.iret dX12_rightBy_45 rfl rfl
def pX12_rests_b188 (F : Nat) (K60 : Int32 → Int32 → Int32 → Int32 → Int32 → Int32 → Int32 → Int32 → xM → Option (Int32 × xM)) (K72 : Int32 → Int32 → Int32 → Int32 → Int32 → Int32 → Int32 → Int32 → Int32 → xM → Option (Int32 × xM)) (K102 : Int32 → Int32 → Int32 → Int32 → Int32 → Int32 → Int32 → Int32 → Int32 → Int32 → Int32 → Int32 → xM → Option (Int32 × xM)) (v1 : Int32) (v2 : Int32) (v3 : Int32) (v4 : Int32) (v5 : Int32) (v6 : Int32) (v8 : Int32) (v9 : Int32) (v11 : Int32) (s0 : Int32) (f : xM) : Option (Int32 × xM) := (if v11 = 0 then (K72 v1 v2 v3 v4 v5 (v6 + (0 : Int32)) s0 v8 (v9 + (1 : Int32)) f) else (K72 v1 v2 v3 v4 v5 (v6 + (1 : Int32)) s0 v8 (v9 + (1 : Int32)) f))
set_option maxRecDepth 100000 in
set_option maxHeartbeats 4000000 in
theorem tX12_rests_b188 {F : Nat} {g : xN} {K60 : Int32 → Int32 → Int32 → Int32 → Int32 → Int32 → Int32 → Int32 → xM → Option (Int32 × xM)} (hK60 : ∀ {v1 : Int32} {v2 : Int32} {v3 : Int32} {v4 : Int32} {v5 : Int32} {v6 : Int32} {v7 : Int32} {v8 : Int32} {f : xM} {r : Int32 × xM}, K60 v1 v2 v3 v4 v5 v6 v7 v8 f = some r → X mX12_rests 5 (some (.int r.1), r.2, g) 60 [some (.ref 0), some (.int v1), some (.int v2), some (.int v3), some (.int v4), some (.int v5), some (.int v6), some (.int v7), some (.int v8), none, none, none, none] [] f g) {K72 : Int32 → Int32 → Int32 → Int32 → Int32 → Int32 → Int32 → Int32 → Int32 → xM → Option (Int32 × xM)} (hK72 : ∀ {v1 : Int32} {v2 : Int32} {v3 : Int32} {v4 : Int32} {v5 : Int32} {v6 : Int32} {v7 : Int32} {v8 : Int32} {v9 : Int32} {f : xM} {r : Int32 × xM}, K72 v1 v2 v3 v4 v5 v6 v7 v8 v9 f = some r → X mX12_rests 5 (some (.int r.1), r.2, g) 72 [some (.ref 0), some (.int v1), some (.int v2), some (.int v3), some (.int v4), some (.int v5), some (.int v6), some (.int v7), some (.int v8), some (.int v9), none, none, none] [] f g) {K102 : Int32 → Int32 → Int32 → Int32 → Int32 → Int32 → Int32 → Int32 → Int32 → Int32 → Int32 → Int32 → xM → Option (Int32 × xM)} (hK102 : ∀ {v1 : Int32} {v2 : Int32} {v3 : Int32} {v4 : Int32} {v5 : Int32} {v6 : Int32} {v7 : Int32} {v8 : Int32} {v9 : Int32} {v10 : Int32} {v11 : Int32} {v12 : Int32} {f : xM} {r : Int32 × xM}, K102 v1 v2 v3 v4 v5 v6 v7 v8 v9 v10 v11 v12 f = some r → X mX12_rests 5 (some (.int r.1), r.2, g) 102 [some (.ref 0), some (.int v1), some (.int v2), some (.int v3), some (.int v4), some (.int v5), some (.int v6), some (.int v7), some (.int v8), some (.int v9), some (.int v10), some (.int v11), some (.int v12)] [] f g) {v1 : Int32} {v2 : Int32} {v3 : Int32} {v4 : Int32} {v5 : Int32} {v6 : Int32} {v8 : Int32} {v9 : Int32} {v11 : Int32} {s0 : Int32} {f : xM} {r : Int32 × xM} (h : pX12_rests_b188 F K60 K72 K102 v1 v2 v3 v4 v5 v6 v8 v9 v11 s0 f = some r) : X mX12_rests 5 (some (.int r.1), r.2, g) 188 [some (.ref 0), some (.int v1), some (.int v2), some (.int v3), some (.int v4), some (.int v5), some (.int v6), none, some (.int v8), some (.int v9), none, some (.int v11), none] [.int s0] f g := by
  unfold pX12_rests_b188 at h
  refine X.istore (i := 7) (L' := [some (.ref 0), some (.int v1), some (.int v2), some (.int v3), some (.int v4), some (.int v5), some (.int v6), some (.int s0), some (.int v8), some (.int v9), none, some (.int v11), none]) dX12_rests_188 (Nat.le_of_ble_eq_true rfl) rfl ?_
  refine X.iload (i := 6) dX12_rests_190 rfl ?_
  refine X.iload (i := 11) dX12_rests_192 rfl ?_
  refine X.if_eq (tgt := 201) dX12_rests_194 (by decide) (fun c12 => ?_) (fun c12 => ?_)
  · rw [if_pos c12] at h
    refine X.iconst (v := (0 : Int32)) dX12_rests_201 (by decide) ?_
    refine X.iadd dX12_rests_202 ?_
    refine X.istore (i := 6) (L' := [some (.ref 0), some (.int v1), some (.int v2), some (.int v3), some (.int v4), some (.int v5), some (.int (v6 + (0 : Int32))), some (.int s0), some (.int v8), some (.int v9), none, some (.int v11), none]) dX12_rests_203 (Nat.le_of_ble_eq_true rfl) rfl ?_
    refine X.iinc (i := 9) (v := (v9 + (1 : Int32))) (L' := [some (.ref 0), some (.int v1), some (.int v2), some (.int v3), some (.int v4), some (.int v5), some (.int (v6 + (0 : Int32))), some (.int s0), some (.int v8), some (.int (v9 + (1 : Int32))), none, some (.int v11), none]) dX12_rests_205 rfl rfl (Nat.le_of_ble_eq_true rfl) rfl ?_
    refine X.goto (tgt := 72) dX12_rests_208 (by decide) ?_
    exact X.weaken (xle_c (xle_c (xle_c (xle_c (xle_c (xle_c (xle_c (xle_c (xle_c (xle_c (xle_n (xle_n (xle_n xle_e))))))))))))) (hK72 h)
  · rw [if_neg c12] at h
    refine X.iconst (v := (1 : Int32)) dX12_rests_197 (by decide) ?_
    refine X.goto (tgt := 202) dX12_rests_198 (by decide) ?_
    refine X.iadd dX12_rests_202 ?_
    refine X.istore (i := 6) (L' := [some (.ref 0), some (.int v1), some (.int v2), some (.int v3), some (.int v4), some (.int v5), some (.int (v6 + (1 : Int32))), some (.int s0), some (.int v8), some (.int v9), none, some (.int v11), none]) dX12_rests_203 (Nat.le_of_ble_eq_true rfl) rfl ?_
    refine X.iinc (i := 9) (v := (v9 + (1 : Int32))) (L' := [some (.ref 0), some (.int v1), some (.int v2), some (.int v3), some (.int v4), some (.int v5), some (.int (v6 + (1 : Int32))), some (.int s0), some (.int v8), some (.int (v9 + (1 : Int32))), none, some (.int v11), none]) dX12_rests_205 rfl rfl (Nat.le_of_ble_eq_true rfl) rfl ?_
    refine X.goto (tgt := 72) dX12_rests_208 (by decide) ?_
    exact X.weaken (xle_c (xle_c (xle_c (xle_c (xle_c (xle_c (xle_c (xle_c (xle_c (xle_c (xle_n (xle_n (xle_n xle_e))))))))))))) (hK72 h)
def pX12_rests_b186 (F : Nat) (K60 : Int32 → Int32 → Int32 → Int32 → Int32 → Int32 → Int32 → Int32 → xM → Option (Int32 × xM)) (K72 : Int32 → Int32 → Int32 → Int32 → Int32 → Int32 → Int32 → Int32 → Int32 → xM → Option (Int32 × xM)) (K102 : Int32 → Int32 → Int32 → Int32 → Int32 → Int32 → Int32 → Int32 → Int32 → Int32 → Int32 → Int32 → xM → Option (Int32 × xM)) (v1 : Int32) (v2 : Int32) (v3 : Int32) (v4 : Int32) (v5 : Int32) (v6 : Int32) (v7 : Int32) (v8 : Int32) (v9 : Int32) (v11 : Int32) (f : xM) : Option (Int32 × xM) := (pX12_rests_b188 F K60 K72 K102 v1 v2 v3 v4 v5 v6 v8 v9 v11 v7 f)
set_option maxRecDepth 100000 in
set_option maxHeartbeats 4000000 in
theorem tX12_rests_b186 {F : Nat} {g : xN} {K60 : Int32 → Int32 → Int32 → Int32 → Int32 → Int32 → Int32 → Int32 → xM → Option (Int32 × xM)} (hK60 : ∀ {v1 : Int32} {v2 : Int32} {v3 : Int32} {v4 : Int32} {v5 : Int32} {v6 : Int32} {v7 : Int32} {v8 : Int32} {f : xM} {r : Int32 × xM}, K60 v1 v2 v3 v4 v5 v6 v7 v8 f = some r → X mX12_rests 5 (some (.int r.1), r.2, g) 60 [some (.ref 0), some (.int v1), some (.int v2), some (.int v3), some (.int v4), some (.int v5), some (.int v6), some (.int v7), some (.int v8), none, none, none, none] [] f g) {K72 : Int32 → Int32 → Int32 → Int32 → Int32 → Int32 → Int32 → Int32 → Int32 → xM → Option (Int32 × xM)} (hK72 : ∀ {v1 : Int32} {v2 : Int32} {v3 : Int32} {v4 : Int32} {v5 : Int32} {v6 : Int32} {v7 : Int32} {v8 : Int32} {v9 : Int32} {f : xM} {r : Int32 × xM}, K72 v1 v2 v3 v4 v5 v6 v7 v8 v9 f = some r → X mX12_rests 5 (some (.int r.1), r.2, g) 72 [some (.ref 0), some (.int v1), some (.int v2), some (.int v3), some (.int v4), some (.int v5), some (.int v6), some (.int v7), some (.int v8), some (.int v9), none, none, none] [] f g) {K102 : Int32 → Int32 → Int32 → Int32 → Int32 → Int32 → Int32 → Int32 → Int32 → Int32 → Int32 → Int32 → xM → Option (Int32 × xM)} (hK102 : ∀ {v1 : Int32} {v2 : Int32} {v3 : Int32} {v4 : Int32} {v5 : Int32} {v6 : Int32} {v7 : Int32} {v8 : Int32} {v9 : Int32} {v10 : Int32} {v11 : Int32} {v12 : Int32} {f : xM} {r : Int32 × xM}, K102 v1 v2 v3 v4 v5 v6 v7 v8 v9 v10 v11 v12 f = some r → X mX12_rests 5 (some (.int r.1), r.2, g) 102 [some (.ref 0), some (.int v1), some (.int v2), some (.int v3), some (.int v4), some (.int v5), some (.int v6), some (.int v7), some (.int v8), some (.int v9), some (.int v10), some (.int v11), some (.int v12)] [] f g) {v1 : Int32} {v2 : Int32} {v3 : Int32} {v4 : Int32} {v5 : Int32} {v6 : Int32} {v7 : Int32} {v8 : Int32} {v9 : Int32} {v11 : Int32} {f : xM} {r : Int32 × xM} (h : pX12_rests_b186 F K60 K72 K102 v1 v2 v3 v4 v5 v6 v7 v8 v9 v11 f = some r) : X mX12_rests 5 (some (.int r.1), r.2, g) 186 [some (.ref 0), some (.int v1), some (.int v2), some (.int v3), some (.int v4), some (.int v5), some (.int v6), some (.int v7), some (.int v8), some (.int v9), none, some (.int v11), none] [] f g := by
  unfold pX12_rests_b186 at h
  refine X.iload (i := 7) dX12_rests_186 rfl ?_
  exact X.weaken (xle_c (xle_c (xle_c (xle_c (xle_c (xle_c (xle_c (xle_n (xle_c (xle_c (xle_n (xle_c (xle_n xle_e))))))))))))) (tX12_rests_b188 hK60 hK72 hK102 h)
def pX12_rests_b102 (F : Nat) (K60 : Int32 → Int32 → Int32 → Int32 → Int32 → Int32 → Int32 → Int32 → xM → Option (Int32 × xM)) (K72 : Int32 → Int32 → Int32 → Int32 → Int32 → Int32 → Int32 → Int32 → Int32 → xM → Option (Int32 × xM)) : Nat → Int32 → Int32 → Int32 → Int32 → Int32 → Int32 → Int32 → Int32 → Int32 → Int32 → Int32 → Int32 → xM → Option (Int32 × xM)
  | 0, _, _, _, _, _, _, _, _, _, _, _, _, _ => none
  | n + 1, v1, v2, v3, v4, v5, v6, v7, v8, v9, v10, v11, v12, f => (if (f 0 6) ≤ v12 then (if v11 = 0 then (pX12_rests_b186 F K60 K72 (pX12_rests_b102 F K60 K72 n) v1 v2 v3 v4 v5 v6 v7 v8 v9 v11 f) else (if v6 = 0 then (pX12_rests_b188 F K60 K72 (pX12_rests_b102 F K60 K72 n) v1 v2 v3 v4 v5 v6 v8 v9 v11 (((10 : Int32) * v8) + v9) f) else (pX12_rests_b186 F K60 K72 (pX12_rests_b102 F K60 K72 n) v1 v2 v3 v4 v5 v6 v7 v8 v9 v11 f))) else (if v11 = 0 then (pX12_rests_b102 F K60 K72 n v1 v2 v3 v4 v5 v6 v7 v8 v9 v10 (0 : Int32) (v12 + (1 : Int32)) f) else (Option.bind (pX12_rightBy F f v12 v9 v1 v2 v3 v4) fun q15 => (if v10 < q15 then (pX12_rests_b102 F K60 K72 n v1 v2 v3 v4 v5 v6 v7 v8 v9 v10 (0 : Int32) (v12 + (1 : Int32)) f) else (Option.bind (pX12_rightBy F f v8 v12 v1 v2 v3 v4) fun q17 => (if q17 < v10 then (pX12_rests_b102 F K60 K72 n v1 v2 v3 v4 v5 v6 v7 v8 v9 v10 (0 : Int32) (v12 + (1 : Int32)) f) else (pX12_rests_b102 F K60 K72 n v1 v2 v3 v4 v5 v6 v7 v8 v9 v10 (1 : Int32) (v12 + (1 : Int32)) f)))))))
set_option maxRecDepth 100000 in
set_option maxHeartbeats 4000000 in
theorem tX12_rests_b102 {F : Nat} {g : xN} {K60 : Int32 → Int32 → Int32 → Int32 → Int32 → Int32 → Int32 → Int32 → xM → Option (Int32 × xM)} (hK60 : ∀ {v1 : Int32} {v2 : Int32} {v3 : Int32} {v4 : Int32} {v5 : Int32} {v6 : Int32} {v7 : Int32} {v8 : Int32} {f : xM} {r : Int32 × xM}, K60 v1 v2 v3 v4 v5 v6 v7 v8 f = some r → X mX12_rests 5 (some (.int r.1), r.2, g) 60 [some (.ref 0), some (.int v1), some (.int v2), some (.int v3), some (.int v4), some (.int v5), some (.int v6), some (.int v7), some (.int v8), none, none, none, none] [] f g) {K72 : Int32 → Int32 → Int32 → Int32 → Int32 → Int32 → Int32 → Int32 → Int32 → xM → Option (Int32 × xM)} (hK72 : ∀ {v1 : Int32} {v2 : Int32} {v3 : Int32} {v4 : Int32} {v5 : Int32} {v6 : Int32} {v7 : Int32} {v8 : Int32} {v9 : Int32} {f : xM} {r : Int32 × xM}, K72 v1 v2 v3 v4 v5 v6 v7 v8 v9 f = some r → X mX12_rests 5 (some (.int r.1), r.2, g) 72 [some (.ref 0), some (.int v1), some (.int v2), some (.int v3), some (.int v4), some (.int v5), some (.int v6), some (.int v7), some (.int v8), some (.int v9), none, none, none] [] f g) : ∀ (n : Nat) {v1 : Int32} {v2 : Int32} {v3 : Int32} {v4 : Int32} {v5 : Int32} {v6 : Int32} {v7 : Int32} {v8 : Int32} {v9 : Int32} {v10 : Int32} {v11 : Int32} {v12 : Int32} {f : xM} {r : Int32 × xM}, pX12_rests_b102 F K60 K72 n v1 v2 v3 v4 v5 v6 v7 v8 v9 v10 v11 v12 f = some r → X mX12_rests 5 (some (.int r.1), r.2, g) 102 [some (.ref 0), some (.int v1), some (.int v2), some (.int v3), some (.int v4), some (.int v5), some (.int v6), some (.int v7), some (.int v8), some (.int v9), some (.int v10), some (.int v11), some (.int v12)] [] f g := by
  intro n
  induction n with
  | zero => intro v1 v2 v3 v4 v5 v6 v7 v8 v9 v10 v11 v12 f r h; cases h
  | succ n ih =>
    intro v1 v2 v3 v4 v5 v6 v7 v8 v9 v10 v11 v12 f r h
    rw [pX12_rests_b102] at h
    refine X.iload (i := 12) dX12_rests_102 rfl ?_
    refine X.aload_n (i := 0) dX12_rests_104 rfl rfl ?_
    refine X.getI (k0 := 6) kX12 sM_0 (Nat.le_of_ble_eq_true rfl) rfl lfX12_62 dX12_rests_105 ?_
    refine X.icmp_ge (tgt := 165) dX12_rests_108 (by decide) (fun c10 => ?_) (fun c10 => ?_)
    · rw [if_pos c10] at h
      refine X.iload (i := 11) dX12_rests_165 rfl ?_
      refine X.if_eq (tgt := 186) dX12_rests_167 (by decide) (fun c11 => ?_) (fun c11 => ?_)
      · rw [if_pos c11] at h
        exact X.weaken (xle_c (xle_c (xle_c (xle_c (xle_c (xle_c (xle_c (xle_c (xle_c (xle_c (xle_n (xle_c (xle_n xle_e))))))))))))) (tX12_rests_b186 hK60 hK72 ih h)
      · rw [if_neg c11] at h
        refine X.iload (i := 6) dX12_rests_170 rfl ?_
        refine X.if_ne (tgt := 186) dX12_rests_172 (by decide) (fun c13 => ?_) (fun c13 => ?_)
        · rw [if_neg c13] at h
          exact X.weaken (xle_c (xle_c (xle_c (xle_c (xle_c (xle_c (xle_c (xle_c (xle_c (xle_c (xle_n (xle_c (xle_n xle_e))))))))))))) (tX12_rests_b186 hK60 hK72 ih h)
        · rw [if_pos c13] at h
          refine X.bipush (v := (10 : Int32)) dX12_rests_175 (by decide) ?_
          refine X.iload (i := 8) dX12_rests_177 rfl ?_
          refine X.imul dX12_rests_179 ?_
          refine X.iload (i := 9) dX12_rests_180 rfl ?_
          refine X.iadd dX12_rests_182 ?_
          refine X.goto (tgt := 188) dX12_rests_183 (by decide) ?_
          exact X.weaken (xle_c (xle_c (xle_c (xle_c (xle_c (xle_c (xle_c (xle_n (xle_c (xle_c (xle_n (xle_c (xle_n xle_e))))))))))))) (tX12_rests_b188 hK60 hK72 ih h)
    · rw [if_neg c10] at h
      refine X.iload (i := 11) dX12_rests_111 rfl ?_
      refine X.if_eq (tgt := 156) dX12_rests_113 (by decide) (fun c14 => ?_) (fun c14 => ?_)
      · rw [if_pos c14] at h
        refine X.iconst (v := (0 : Int32)) dX12_rests_156 (by decide) ?_
        refine X.istore (i := 11) (L' := [some (.ref 0), some (.int v1), some (.int v2), some (.int v3), some (.int v4), some (.int v5), some (.int v6), some (.int v7), some (.int v8), some (.int v9), some (.int v10), some (.int (0 : Int32)), some (.int v12)]) dX12_rests_157 (Nat.le_of_ble_eq_true rfl) rfl ?_
        refine X.iinc (i := 12) (v := (v12 + (1 : Int32))) (L' := [some (.ref 0), some (.int v1), some (.int v2), some (.int v3), some (.int v4), some (.int v5), some (.int v6), some (.int v7), some (.int v8), some (.int v9), some (.int v10), some (.int (0 : Int32)), some (.int (v12 + (1 : Int32)))]) dX12_rests_159 rfl rfl (Nat.le_of_ble_eq_true rfl) rfl ?_
        refine X.goto (tgt := 102) dX12_rests_162 (by decide) ?_
        exact X.weaken (xle_c (xle_c (xle_c (xle_c (xle_c (xle_c (xle_c (xle_c (xle_c (xle_c (xle_c (xle_c (xle_c xle_e))))))))))))) (ih h)
      · rw [if_neg c14] at h
        refine X.aload_n (i := 0) dX12_rests_116 rfl rfl ?_
        refine X.iload (i := 12) dX12_rests_117 rfl ?_
        refine X.iload (i := 9) dX12_rests_119 rfl ?_
        refine X.iload_n (i := 1) dX12_rests_121 rfl rfl ?_
        refine X.iload_n (i := 2) dX12_rests_122 rfl rfl ?_
        refine X.iload_n (i := 3) dX12_rests_123 rfl rfl ?_
        refine X.iload (i := 4) dX12_rests_124 rfl ?_
        obtain ⟨q15, e15, h⟩ := xbind h
        try dsimp only at h
        refine X.callV (μ' := mX12_rightBy) (As := [.int v12, .int v9, .int v1, .int v2, .int v3, .int v4]) (st := []) (st1 := [.int q15]) (r := some (.int q15)) (f' := f) (g' := g) (tX12_rightBy e15) (Nat.le_of_ble_eq_true rfl) cwX12_rightBy rfl mlX12_242 sM_0 kX12 rfl rfl rfl (Nat.le_of_ble_eq_true rfl) dX12_rests_126 ?_
        refine X.iload (i := 10) dX12_rests_129 rfl ?_
        refine X.icmp_gt (tgt := 156) dX12_rests_131 (by decide) (fun c16 => ?_) (fun c16 => ?_)
        · rw [if_pos c16] at h
          refine X.iconst (v := (0 : Int32)) dX12_rests_156 (by decide) ?_
          refine X.istore (i := 11) (L' := [some (.ref 0), some (.int v1), some (.int v2), some (.int v3), some (.int v4), some (.int v5), some (.int v6), some (.int v7), some (.int v8), some (.int v9), some (.int v10), some (.int (0 : Int32)), some (.int v12)]) dX12_rests_157 (Nat.le_of_ble_eq_true rfl) rfl ?_
          refine X.iinc (i := 12) (v := (v12 + (1 : Int32))) (L' := [some (.ref 0), some (.int v1), some (.int v2), some (.int v3), some (.int v4), some (.int v5), some (.int v6), some (.int v7), some (.int v8), some (.int v9), some (.int v10), some (.int (0 : Int32)), some (.int (v12 + (1 : Int32)))]) dX12_rests_159 rfl rfl (Nat.le_of_ble_eq_true rfl) rfl ?_
          refine X.goto (tgt := 102) dX12_rests_162 (by decide) ?_
          exact X.weaken (xle_c (xle_c (xle_c (xle_c (xle_c (xle_c (xle_c (xle_c (xle_c (xle_c (xle_c (xle_c (xle_c xle_e))))))))))))) (ih h)
        · rw [if_neg c16] at h
          refine X.aload_n (i := 0) dX12_rests_134 rfl rfl ?_
          refine X.iload (i := 8) dX12_rests_135 rfl ?_
          refine X.iload (i := 12) dX12_rests_137 rfl ?_
          refine X.iload_n (i := 1) dX12_rests_139 rfl rfl ?_
          refine X.iload_n (i := 2) dX12_rests_140 rfl rfl ?_
          refine X.iload_n (i := 3) dX12_rests_141 rfl rfl ?_
          refine X.iload (i := 4) dX12_rests_142 rfl ?_
          obtain ⟨q17, e17, h⟩ := xbind h
          try dsimp only at h
          refine X.callV (μ' := mX12_rightBy) (As := [.int v8, .int v12, .int v1, .int v2, .int v3, .int v4]) (st := []) (st1 := [.int q17]) (r := some (.int q17)) (f' := f) (g' := g) (tX12_rightBy e17) (Nat.le_of_ble_eq_true rfl) cwX12_rightBy rfl mlX12_242 sM_0 kX12 rfl rfl rfl (Nat.le_of_ble_eq_true rfl) dX12_rests_144 ?_
          refine X.iload (i := 10) dX12_rests_147 rfl ?_
          refine X.icmp_lt (tgt := 156) dX12_rests_149 (by decide) (fun c18 => ?_) (fun c18 => ?_)
          · rw [if_pos c18] at h
            refine X.iconst (v := (0 : Int32)) dX12_rests_156 (by decide) ?_
            refine X.istore (i := 11) (L' := [some (.ref 0), some (.int v1), some (.int v2), some (.int v3), some (.int v4), some (.int v5), some (.int v6), some (.int v7), some (.int v8), some (.int v9), some (.int v10), some (.int (0 : Int32)), some (.int v12)]) dX12_rests_157 (Nat.le_of_ble_eq_true rfl) rfl ?_
            refine X.iinc (i := 12) (v := (v12 + (1 : Int32))) (L' := [some (.ref 0), some (.int v1), some (.int v2), some (.int v3), some (.int v4), some (.int v5), some (.int v6), some (.int v7), some (.int v8), some (.int v9), some (.int v10), some (.int (0 : Int32)), some (.int (v12 + (1 : Int32)))]) dX12_rests_159 rfl rfl (Nat.le_of_ble_eq_true rfl) rfl ?_
            refine X.goto (tgt := 102) dX12_rests_162 (by decide) ?_
            exact X.weaken (xle_c (xle_c (xle_c (xle_c (xle_c (xle_c (xle_c (xle_c (xle_c (xle_c (xle_c (xle_c (xle_c xle_e))))))))))))) (ih h)
          · rw [if_neg c18] at h
            refine X.iconst (v := (1 : Int32)) dX12_rests_152 (by decide) ?_
            refine X.goto (tgt := 157) dX12_rests_153 (by decide) ?_
            refine X.istore (i := 11) (L' := [some (.ref 0), some (.int v1), some (.int v2), some (.int v3), some (.int v4), some (.int v5), some (.int v6), some (.int v7), some (.int v8), some (.int v9), some (.int v10), some (.int (1 : Int32)), some (.int v12)]) dX12_rests_157 (Nat.le_of_ble_eq_true rfl) rfl ?_
            refine X.iinc (i := 12) (v := (v12 + (1 : Int32))) (L' := [some (.ref 0), some (.int v1), some (.int v2), some (.int v3), some (.int v4), some (.int v5), some (.int v6), some (.int v7), some (.int v8), some (.int v9), some (.int v10), some (.int (1 : Int32)), some (.int (v12 + (1 : Int32)))]) dX12_rests_159 rfl rfl (Nat.le_of_ble_eq_true rfl) rfl ?_
            refine X.goto (tgt := 102) dX12_rests_162 (by decide) ?_
            exact X.weaken (xle_c (xle_c (xle_c (xle_c (xle_c (xle_c (xle_c (xle_c (xle_c (xle_c (xle_c (xle_c (xle_c xle_e))))))))))))) (ih h)
def pX12_rests_b72 (F : Nat) (K60 : Int32 → Int32 → Int32 → Int32 → Int32 → Int32 → Int32 → Int32 → xM → Option (Int32 × xM)) : Nat → Int32 → Int32 → Int32 → Int32 → Int32 → Int32 → Int32 → Int32 → Int32 → xM → Option (Int32 × xM)
  | 0, _, _, _, _, _, _, _, _, _, _ => none
  | n + 1, v1, v2, v3, v4, v5, v6, v7, v8, v9, f => (if (f 0 6) ≤ v9 then (K60 v1 v2 v3 v4 v5 v6 v7 (v8 + (1 : Int32)) f) else (Option.bind (pX12_rightBy F f v8 v9 v1 v2 v3 v4) fun q9 => (pX12_rests_b102 F K60 (pX12_rests_b72 F K60 n) F v1 v2 v3 v4 v5 v6 v7 v8 v9 q9 (1 : Int32) (0 : Int32) f)))
set_option maxRecDepth 100000 in
set_option maxHeartbeats 4000000 in
theorem tX12_rests_b72 {F : Nat} {g : xN} {K60 : Int32 → Int32 → Int32 → Int32 → Int32 → Int32 → Int32 → Int32 → xM → Option (Int32 × xM)} (hK60 : ∀ {v1 : Int32} {v2 : Int32} {v3 : Int32} {v4 : Int32} {v5 : Int32} {v6 : Int32} {v7 : Int32} {v8 : Int32} {f : xM} {r : Int32 × xM}, K60 v1 v2 v3 v4 v5 v6 v7 v8 f = some r → X mX12_rests 5 (some (.int r.1), r.2, g) 60 [some (.ref 0), some (.int v1), some (.int v2), some (.int v3), some (.int v4), some (.int v5), some (.int v6), some (.int v7), some (.int v8), none, none, none, none] [] f g) : ∀ (n : Nat) {v1 : Int32} {v2 : Int32} {v3 : Int32} {v4 : Int32} {v5 : Int32} {v6 : Int32} {v7 : Int32} {v8 : Int32} {v9 : Int32} {f : xM} {r : Int32 × xM}, pX12_rests_b72 F K60 n v1 v2 v3 v4 v5 v6 v7 v8 v9 f = some r → X mX12_rests 5 (some (.int r.1), r.2, g) 72 [some (.ref 0), some (.int v1), some (.int v2), some (.int v3), some (.int v4), some (.int v5), some (.int v6), some (.int v7), some (.int v8), some (.int v9), none, none, none] [] f g := by
  intro n
  induction n with
  | zero => intro v1 v2 v3 v4 v5 v6 v7 v8 v9 f r h; cases h
  | succ n ih =>
    intro v1 v2 v3 v4 v5 v6 v7 v8 v9 f r h
    rw [pX12_rests_b72] at h
    refine X.iload (i := 9) dX12_rests_72 rfl ?_
    refine X.aload_n (i := 0) dX12_rests_74 rfl rfl ?_
    refine X.getI (k0 := 6) kX12 sM_0 (Nat.le_of_ble_eq_true rfl) rfl lfX12_62 dX12_rests_75 ?_
    refine X.icmp_ge (tgt := 211) dX12_rests_78 (by decide) (fun c8 => ?_) (fun c8 => ?_)
    · rw [if_pos c8] at h
      refine X.iinc (i := 8) (v := (v8 + (1 : Int32))) (L' := [some (.ref 0), some (.int v1), some (.int v2), some (.int v3), some (.int v4), some (.int v5), some (.int v6), some (.int v7), some (.int (v8 + (1 : Int32))), some (.int v9), none, none, none]) dX12_rests_211 rfl rfl (Nat.le_of_ble_eq_true rfl) rfl ?_
      refine X.goto (tgt := 60) dX12_rests_214 (by decide) ?_
      exact X.weaken (xle_c (xle_c (xle_c (xle_c (xle_c (xle_c (xle_c (xle_c (xle_c (xle_n (xle_n (xle_n (xle_n xle_e))))))))))))) (hK60 h)
    · rw [if_neg c8] at h
      refine X.aload_n (i := 0) dX12_rests_81 rfl rfl ?_
      refine X.iload (i := 8) dX12_rests_82 rfl ?_
      refine X.iload (i := 9) dX12_rests_84 rfl ?_
      refine X.iload_n (i := 1) dX12_rests_86 rfl rfl ?_
      refine X.iload_n (i := 2) dX12_rests_87 rfl rfl ?_
      refine X.iload_n (i := 3) dX12_rests_88 rfl rfl ?_
      refine X.iload (i := 4) dX12_rests_89 rfl ?_
      obtain ⟨q9, e9, h⟩ := xbind h
      try dsimp only at h
      refine X.callV (μ' := mX12_rightBy) (As := [.int v8, .int v9, .int v1, .int v2, .int v3, .int v4]) (st := []) (st1 := [.int q9]) (r := some (.int q9)) (f' := f) (g' := g) (tX12_rightBy e9) (Nat.le_of_ble_eq_true rfl) cwX12_rightBy rfl mlX12_242 sM_0 kX12 rfl rfl rfl (Nat.le_of_ble_eq_true rfl) dX12_rests_91 ?_
      refine X.istore (i := 10) (L' := [some (.ref 0), some (.int v1), some (.int v2), some (.int v3), some (.int v4), some (.int v5), some (.int v6), some (.int v7), some (.int v8), some (.int v9), some (.int q9), none, none]) dX12_rests_94 (Nat.le_of_ble_eq_true rfl) rfl ?_
      refine X.iconst (v := (1 : Int32)) dX12_rests_96 (by decide) ?_
      refine X.istore (i := 11) (L' := [some (.ref 0), some (.int v1), some (.int v2), some (.int v3), some (.int v4), some (.int v5), some (.int v6), some (.int v7), some (.int v8), some (.int v9), some (.int q9), some (.int (1 : Int32)), none]) dX12_rests_97 (Nat.le_of_ble_eq_true rfl) rfl ?_
      refine X.iconst (v := (0 : Int32)) dX12_rests_99 (by decide) ?_
      refine X.istore (i := 12) (L' := [some (.ref 0), some (.int v1), some (.int v2), some (.int v3), some (.int v4), some (.int v5), some (.int v6), some (.int v7), some (.int v8), some (.int v9), some (.int q9), some (.int (1 : Int32)), some (.int (0 : Int32))]) dX12_rests_100 (Nat.le_of_ble_eq_true rfl) rfl ?_
      exact X.weaken (xle_c (xle_c (xle_c (xle_c (xle_c (xle_c (xle_c (xle_c (xle_c (xle_c (xle_c (xle_c (xle_c xle_e))))))))))))) (tX12_rests_b102 hK60 ih F h)
def pX12_rests_b60 (F : Nat) : Nat → Int32 → Int32 → Int32 → Int32 → Int32 → Int32 → Int32 → Int32 → xM → Option (Int32 × xM)
  | 0, _, _, _, _, _, _, _, _, _ => none
  | n + 1, v1, v2, v3, v4, v5, v6, v7, v8, f => (if (f 0 6) ≤ v8 then (if v5 = 0 then some ((v6, f)) else some ((v7, f))) else (pX12_rests_b72 F (pX12_rests_b60 F n) F v1 v2 v3 v4 v5 v6 v7 v8 (0 : Int32) f))
set_option maxRecDepth 100000 in
set_option maxHeartbeats 4000000 in
theorem tX12_rests_b60 {F : Nat} {g : xN} : ∀ (n : Nat) {v1 : Int32} {v2 : Int32} {v3 : Int32} {v4 : Int32} {v5 : Int32} {v6 : Int32} {v7 : Int32} {v8 : Int32} {f : xM} {r : Int32 × xM}, pX12_rests_b60 F n v1 v2 v3 v4 v5 v6 v7 v8 f = some r → X mX12_rests 5 (some (.int r.1), r.2, g) 60 [some (.ref 0), some (.int v1), some (.int v2), some (.int v3), some (.int v4), some (.int v5), some (.int v6), some (.int v7), some (.int v8), none, none, none, none] [] f g := by
  intro n
  induction n with
  | zero => intro v1 v2 v3 v4 v5 v6 v7 v8 f r h; cases h
  | succ n ih =>
    intro v1 v2 v3 v4 v5 v6 v7 v8 f r h
    rw [pX12_rests_b60] at h
    refine X.iload (i := 8) dX12_rests_60 rfl ?_
    refine X.aload_n (i := 0) dX12_rests_62 rfl rfl ?_
    refine X.getI (k0 := 6) kX12 sM_0 (Nat.le_of_ble_eq_true rfl) rfl lfX12_62 dX12_rests_63 ?_
    refine X.icmp_ge (tgt := 217) dX12_rests_66 (by decide) (fun c6 => ?_) (fun c6 => ?_)
    · rw [if_pos c6] at h
      refine X.iload (i := 5) dX12_rests_217 rfl ?_
      refine X.if_ne (tgt := 227) dX12_rests_219 (by decide) (fun c7 => ?_) (fun c7 => ?_)
      · rw [if_neg c7] at h
        refine X.iload (i := 7) dX12_rests_227 rfl ?_
        obtain rfl := Option.some.inj h
        exact X.iret dX12_rests_229 rfl rfl
      · rw [if_pos c7] at h
        refine X.iload (i := 6) dX12_rests_222 rfl ?_
        refine X.goto (tgt := 229) dX12_rests_224 (by decide) ?_
        obtain rfl := Option.some.inj h
        exact X.iret dX12_rests_229 rfl rfl
    · rw [if_neg c6] at h
      refine X.iconst (v := (0 : Int32)) dX12_rests_69 (by decide) ?_
      refine X.istore (i := 9) (L' := [some (.ref 0), some (.int v1), some (.int v2), some (.int v3), some (.int v4), some (.int v5), some (.int v6), some (.int v7), some (.int v8), some (.int (0 : Int32)), none, none, none]) dX12_rests_70 (Nat.le_of_ble_eq_true rfl) rfl ?_
      exact X.weaken (xle_c (xle_c (xle_c (xle_c (xle_c (xle_c (xle_c (xle_c (xle_c (xle_c (xle_n (xle_n (xle_n xle_e))))))))))))) (tX12_rests_b72 ih F h)
def pX12_rests (F : Nat) (v1 : Int32) (v2 : Int32) (v3 : Int32) (v4 : Int32) (v5 : Int32) (f : xM) : Option (Int32 × xM) := (if (pX12_noPlace (xu f 0 0 (0 : Int32)) v1) = 0 then (if (pX12_noPlace (xu f 0 0 (0 : Int32)) v3) = 0 then (if (pX12_noLetter v2) = 0 then (if (pX12_noLetter v4) = 0 then (if (pX12_in v5.toInt64 (0 : Int64) (1 : Int64)) = 0 then some (((-2 : Int32), (xu f 0 0 (0 : Int32)))) else (pX12_rests_b60 F F v1 v2 v3 v4 v5 (0 : Int32) (-9 : Int32) (0 : Int32) (xu f 0 0 (0 : Int32)))) else some (((-2 : Int32), (xu f 0 0 (0 : Int32))))) else some (((-2 : Int32), (xu f 0 0 (0 : Int32))))) else some (((-2 : Int32), (xu f 0 0 (0 : Int32))))) else some (((-2 : Int32), (xu f 0 0 (0 : Int32)))))
set_option maxRecDepth 100000 in
set_option maxHeartbeats 4000000 in
theorem tX12_rests {F : Nat} {g : xN} {v1 : Int32} {v2 : Int32} {v3 : Int32} {v4 : Int32} {v5 : Int32} {f : xM} {r : Int32 × xM} (h : pX12_rests F v1 v2 v3 v4 v5 f = some r) : XT mX12_rests 5 [.ref 0, .int v1, .int v2, .int v3, .int v4, .int v5] f g (some (.int r.1), r.2, g) := by
  unfold pX12_rests at h
  refine XT.of (L := [some (.ref 0), some (.int v1), some (.int v2), some (.int v3), some (.int v4), some (.int v5), none, none, none, none, none, none, none]) [some (.ref 0), some (.int v1), some (.int v2), some (.int v3), some (.int v4), some (.int v5)] rfl (Nat.le_of_ble_eq_true rfl) rfl (xle_c (xle_c (xle_c (xle_c (xle_c (xle_c (xle_z (xle_z (xle_z (xle_z (xle_z (xle_z (xle_z xle_e))))))))))))) ?_
  refine X.aload_n (i := 0) dX12_rests_0 rfl rfl ?_
  refine X.iconst (v := (0 : Int32)) dX12_rests_1 (by decide) ?_
  refine X.putI (k0 := 0) kX12 sM_0 (Nat.le_of_ble_eq_true rfl) rfl lfX12_57 rfl rfl dX12_rests_2 ?_
  refine X.aload_n (i := 0) dX12_rests_5 rfl rfl ?_
  refine X.iload_n (i := 1) dX12_rests_6 rfl rfl ?_
  refine X.callV (μ' := mX12_noPlace) (As := [.int v1]) (st := []) (st1 := [.int (pX12_noPlace (xu f 0 0 (0 : Int32)) v1)]) (r := some (.int (pX12_noPlace (xu f 0 0 (0 : Int32)) v1))) (f' := (xu f 0 0 (0 : Int32))) (g' := g) (tX12_noPlace rfl) (Nat.le_of_ble_eq_true rfl) cwX12_noPlace rfl mlX12_153 sM_0 kX12 rfl rfl rfl (Nat.le_of_ble_eq_true rfl) dX12_rests_7 ?_
  refine X.if_ne (tgt := 47) dX12_rests_10 (by decide) (fun c1 => ?_) (fun c1 => ?_)
  · rw [if_neg c1] at h
    refine X.bipush (v := (-2 : Int32)) dX12_rests_47 (by decide) ?_
    obtain rfl := Option.some.inj h
    exact X.iret dX12_rests_49 rfl rfl
  · rw [if_pos c1] at h
    refine X.aload_n (i := 0) dX12_rests_13 rfl rfl ?_
    refine X.iload_n (i := 3) dX12_rests_14 rfl rfl ?_
    refine X.callV (μ' := mX12_noPlace) (As := [.int v3]) (st := []) (st1 := [.int (pX12_noPlace (xu f 0 0 (0 : Int32)) v3)]) (r := some (.int (pX12_noPlace (xu f 0 0 (0 : Int32)) v3))) (f' := (xu f 0 0 (0 : Int32))) (g' := g) (tX12_noPlace rfl) (Nat.le_of_ble_eq_true rfl) cwX12_noPlace rfl mlX12_153 sM_0 kX12 rfl rfl rfl (Nat.le_of_ble_eq_true rfl) dX12_rests_15 ?_
    refine X.if_ne (tgt := 47) dX12_rests_18 (by decide) (fun c2 => ?_) (fun c2 => ?_)
    · rw [if_neg c2] at h
      refine X.bipush (v := (-2 : Int32)) dX12_rests_47 (by decide) ?_
      obtain rfl := Option.some.inj h
      exact X.iret dX12_rests_49 rfl rfl
    · rw [if_pos c2] at h
      refine X.iload_n (i := 2) dX12_rests_21 rfl rfl ?_
      refine X.callS (μ' := mX12_noLetter) (As := [.int v2]) (st := []) (st1 := [.int (pX12_noLetter v2)]) (r := some (.int (pX12_noLetter v2))) (f' := (xu f 0 0 (0 : Int32))) (g' := g) (tX12_noLetter rfl) (Nat.le_of_ble_eq_true rfl) cwX12_noLetter rfl mlX12_156 rfl rfl rfl (Nat.le_of_ble_eq_true rfl) dX12_rests_22 ?_
      refine X.if_ne (tgt := 47) dX12_rests_25 (by decide) (fun c3 => ?_) (fun c3 => ?_)
      · rw [if_neg c3] at h
        refine X.bipush (v := (-2 : Int32)) dX12_rests_47 (by decide) ?_
        obtain rfl := Option.some.inj h
        exact X.iret dX12_rests_49 rfl rfl
      · rw [if_pos c3] at h
        refine X.iload (i := 4) dX12_rests_28 rfl ?_
        refine X.callS (μ' := mX12_noLetter) (As := [.int v4]) (st := []) (st1 := [.int (pX12_noLetter v4)]) (r := some (.int (pX12_noLetter v4))) (f' := (xu f 0 0 (0 : Int32))) (g' := g) (tX12_noLetter rfl) (Nat.le_of_ble_eq_true rfl) cwX12_noLetter rfl mlX12_156 rfl rfl rfl (Nat.le_of_ble_eq_true rfl) dX12_rests_30 ?_
        refine X.if_ne (tgt := 47) dX12_rests_33 (by decide) (fun c4 => ?_) (fun c4 => ?_)
        · rw [if_neg c4] at h
          refine X.bipush (v := (-2 : Int32)) dX12_rests_47 (by decide) ?_
          obtain rfl := Option.some.inj h
          exact X.iret dX12_rests_49 rfl rfl
        · rw [if_pos c4] at h
          refine X.iload (i := 5) dX12_rests_36 rfl ?_
          refine X.i2l dX12_rests_38 ?_
          refine X.lconst (v := (0 : Int64)) dX12_rests_39 (by decide) ?_
          refine X.lconst (v := (1 : Int64)) dX12_rests_40 (by decide) ?_
          refine X.callS (μ' := mX12_in) (As := [.long v5.toInt64, .long (0 : Int64), .long (1 : Int64)]) (st := []) (st1 := [.int (pX12_in v5.toInt64 (0 : Int64) (1 : Int64))]) (r := some (.int (pX12_in v5.toInt64 (0 : Int64) (1 : Int64)))) (f' := (xu f 0 0 (0 : Int32))) (g' := g) (tX12_in rfl) (Nat.le_of_ble_eq_true rfl) cwX12_in rfl mlX12_65 rfl rfl rfl (Nat.le_of_ble_eq_true rfl) dX12_rests_41 ?_
          refine X.if_ne (tgt := 50) dX12_rests_44 (by decide) (fun c5 => ?_) (fun c5 => ?_)
          · rw [if_neg c5] at h
            refine X.iconst (v := (0 : Int32)) dX12_rests_50 (by decide) ?_
            refine X.istore (i := 6) (L' := [some (.ref 0), some (.int v1), some (.int v2), some (.int v3), some (.int v4), some (.int v5), some (.int (0 : Int32)), none, none, none, none, none, none]) dX12_rests_51 (Nat.le_of_ble_eq_true rfl) rfl ?_
            refine X.bipush (v := (-9 : Int32)) dX12_rests_53 (by decide) ?_
            refine X.istore (i := 7) (L' := [some (.ref 0), some (.int v1), some (.int v2), some (.int v3), some (.int v4), some (.int v5), some (.int (0 : Int32)), some (.int (-9 : Int32)), none, none, none, none, none]) dX12_rests_55 (Nat.le_of_ble_eq_true rfl) rfl ?_
            refine X.iconst (v := (0 : Int32)) dX12_rests_57 (by decide) ?_
            refine X.istore (i := 8) (L' := [some (.ref 0), some (.int v1), some (.int v2), some (.int v3), some (.int v4), some (.int v5), some (.int (0 : Int32)), some (.int (-9 : Int32)), some (.int (0 : Int32)), none, none, none, none]) dX12_rests_58 (Nat.le_of_ble_eq_true rfl) rfl ?_
            exact X.weaken (xle_c (xle_c (xle_c (xle_c (xle_c (xle_c (xle_c (xle_c (xle_c (xle_n (xle_n (xle_n (xle_n xle_e))))))))))))) (tX12_rests_b60 F h)
          · rw [if_pos c5] at h
            refine X.bipush (v := (-2 : Int32)) dX12_rests_47 (by decide) ?_
            obtain rfl := Option.some.inj h
            exact X.iret dX12_rests_49 rfl rfl
def pX12_has (v0 : Int32) (v1 : Int32) : Int32 := (if ((v0 >>> (v1 &&& 31)) &&& (1 : Int32)) = (1 : Int32) then (1 : Int32) else (0 : Int32))
set_option maxRecDepth 100000 in
set_option maxHeartbeats 4000000 in
theorem tX12_has {f : xM} {g : xN} {v0 : Int32} {v1 : Int32} {r : Int32} (h : pX12_has v0 v1 = r) : XT mX12_has 0 [.int v0, .int v1] f g (some (.int r), f, g) := by
  unfold pX12_has at h
  refine XT.of (L := [some (.int v0), some (.int v1)]) [some (.int v0), some (.int v1)] rfl (Nat.le_of_ble_eq_true rfl) rfl (xle_c (xle_c xle_e)) ?_
  refine X.iload_n (i := 0) dX12_has_0 rfl rfl ?_
  refine X.iload_n (i := 1) dX12_has_1 rfl rfl ?_
  refine X.ishr dX12_has_2 ?_
  refine X.iconst (v := (1 : Int32)) dX12_has_3 (by decide) ?_
  refine X.iand dX12_has_4 ?_
  refine X.iconst (v := (1 : Int32)) dX12_has_5 (by decide) ?_
  refine X.icmp_ne (tgt := 13) dX12_has_6 (by decide) (fun c1 => ?_) (fun c1 => ?_)
  · rw [if_neg c1] at h
    refine X.iconst (v := (0 : Int32)) dX12_has_13 (by decide) ?_
    subst h
    exact X.zret dX12_has_14 rfl rfl rfl
  · rw [if_pos c1] at h
    refine X.iconst (v := (1 : Int32)) dX12_has_9 (by decide) ?_
    refine X.goto (tgt := 14) dX12_has_10 (by decide) ?_
    subst h
    exact X.zret dX12_has_14 rfl rfl rfl
def pX12_wrongOf_b2 (F : Nat) (f : xM) : Nat → Int32 → Int32 → Option (Int32)
  | 0, _, _ => none
  | n + 1, v1, v2 => (if (f 0 4) ≤ v2 then some ((-9 : Int32)) else (Option.bind (pX12_letterOf F f v1 v2) fun q2 => (Option.bind (pX12_letterOf F f (f 0 5) v2) fun q3 => (if q2 = q3 then (pX12_wrongOf_b2 F f n v1 (v2 + (1 : Int32))) else some (v2)))))
set_option maxRecDepth 100000 in
set_option maxHeartbeats 4000000 in
theorem tX12_wrongOf_b2 {F : Nat} {f : xM} {g : xN} : ∀ (n : Nat) {v1 : Int32} {v2 : Int32} {r : Int32}, pX12_wrongOf_b2 F f n v1 v2 = some r → X mX12_wrongOf 2 (some (.int r), f, g) 2 [some (.ref 0), some (.int v1), some (.int v2)] [] f g := by
  intro n
  induction n with
  | zero => intro v1 v2 r h; cases h
  | succ n ih =>
    intro v1 v2 r h
    rw [pX12_wrongOf_b2] at h
    refine X.iload_n (i := 2) dX12_wrongOf_2 rfl rfl ?_
    refine X.aload_n (i := 0) dX12_wrongOf_3 rfl rfl ?_
    refine X.getI (k0 := 4) kX12 sM_0 (Nat.le_of_ble_eq_true rfl) rfl lfX12_13 dX12_wrongOf_4 ?_
    refine X.icmp_ge (tgt := 36) dX12_wrongOf_7 (by decide) (fun c1 => ?_) (fun c1 => ?_)
    · rw [if_pos c1] at h
      refine X.bipush (v := (-9 : Int32)) dX12_wrongOf_36 (by decide) ?_
      obtain rfl := Option.some.inj h
      exact X.iret dX12_wrongOf_38 rfl rfl
    · rw [if_neg c1] at h
      refine X.aload_n (i := 0) dX12_wrongOf_10 rfl rfl ?_
      refine X.iload_n (i := 1) dX12_wrongOf_11 rfl rfl ?_
      refine X.iload_n (i := 2) dX12_wrongOf_12 rfl rfl ?_
      obtain ⟨q2, e2, h⟩ := xbind h
      try dsimp only at h
      refine X.callV (μ' := mX12_letterOf) (As := [.int v1, .int v2]) (st := []) (st1 := [.int q2]) (r := some (.int q2)) (f' := f) (g' := g) (tX12_letterOf e2) (Nat.le_of_ble_eq_true rfl) cwX12_letterOf rfl mlX12_124 sM_0 kX12 rfl rfl rfl (Nat.le_of_ble_eq_true rfl) dX12_wrongOf_13 ?_
      refine X.aload_n (i := 0) dX12_wrongOf_16 rfl rfl ?_
      refine X.aload_n (i := 0) dX12_wrongOf_17 rfl rfl ?_
      refine X.getI (k0 := 5) kX12 sM_0 (Nat.le_of_ble_eq_true rfl) rfl lfX12_115 dX12_wrongOf_18 ?_
      refine X.iload_n (i := 2) dX12_wrongOf_21 rfl rfl ?_
      obtain ⟨q3, e3, h⟩ := xbind h
      try dsimp only at h
      refine X.callV (μ' := mX12_letterOf) (As := [.int (f 0 5), .int v2]) (st := [.int q2]) (st1 := [.int q3, .int q2]) (r := some (.int q3)) (f' := f) (g' := g) (tX12_letterOf e3) (Nat.le_of_ble_eq_true rfl) cwX12_letterOf rfl mlX12_124 sM_0 kX12 rfl rfl rfl (Nat.le_of_ble_eq_true rfl) dX12_wrongOf_22 ?_
      refine X.icmp_eq (tgt := 30) dX12_wrongOf_25 (by decide) (fun c4 => ?_) (fun c4 => ?_)
      · rw [if_pos c4] at h
        refine X.iinc (i := 2) (v := (v2 + (1 : Int32))) (L' := [some (.ref 0), some (.int v1), some (.int (v2 + (1 : Int32)))]) dX12_wrongOf_30 rfl rfl (Nat.le_of_ble_eq_true rfl) rfl ?_
        refine X.goto (tgt := 2) dX12_wrongOf_33 (by decide) ?_
        exact X.weaken (xle_c (xle_c (xle_c xle_e))) (ih h)
      · rw [if_neg c4] at h
        refine X.iload_n (i := 2) dX12_wrongOf_28 rfl rfl ?_
        obtain rfl := Option.some.inj h
        exact X.iret dX12_wrongOf_29 rfl rfl
def pX12_wrongOf (F : Nat) (f : xM) (v1 : Int32) : Option (Int32) := (pX12_wrongOf_b2 F f F v1 (0 : Int32))
set_option maxRecDepth 100000 in
set_option maxHeartbeats 4000000 in
theorem tX12_wrongOf {F : Nat} {f : xM} {g : xN} {v1 : Int32} {r : Int32} (h : pX12_wrongOf F f v1 = some r) : XT mX12_wrongOf 2 [.ref 0, .int v1] f g (some (.int r), f, g) := by
  unfold pX12_wrongOf at h
  refine XT.of (L := [some (.ref 0), some (.int v1), none]) [some (.ref 0), some (.int v1)] rfl (Nat.le_of_ble_eq_true rfl) rfl (xle_c (xle_c (xle_z xle_e))) ?_
  refine X.iconst (v := (0 : Int32)) dX12_wrongOf_0 (by decide) ?_
  refine X.istore_n (i := 2) (L' := [some (.ref 0), some (.int v1), some (.int (0 : Int32))]) dX12_wrongOf_1 rfl (Nat.le_of_ble_eq_true rfl) rfl ?_
  exact X.weaken (xle_c (xle_c (xle_c xle_e))) (tX12_wrongOf_b2 F h)
def pX12_divisor_b13 (F : Nat) : Nat → Int32 → Int32 → Option (Int32)
  | 0, _, _ => none
  | n + 1, v2, v3 => (if v3 = 0 then some (v2) else (if v3 = 0 then none else (pX12_divisor_b13 F n v3 (v2 - v2 / v3 * v3))))
set_option maxRecDepth 100000 in
set_option maxHeartbeats 4000000 in
theorem tX12_divisor_b13 {F : Nat} {f : xM} {g : xN} : ∀ (n : Nat) {v2 : Int32} {v3 : Int32} {r : Int32}, pX12_divisor_b13 F n v2 v3 = some r → X mX12_divisor 0 (some (.int r), f, g) 13 [none, none, some (.int v2), some (.int v3), none] [] f g := by
  intro n
  induction n with
  | zero => intro v2 v3 r h; cases h
  | succ n ih =>
    intro v2 v3 r h
    rw [pX12_divisor_b13] at h
    refine X.iload_n (i := 3) dX12_divisor_13 rfl rfl ?_
    refine X.if_eq (tgt := 30) dX12_divisor_14 (by decide) (fun c2 => ?_) (fun c2 => ?_)
    · rw [if_pos c2] at h
      refine X.iload_n (i := 2) dX12_divisor_30 rfl rfl ?_
      obtain rfl := Option.some.inj h
      exact X.iret dX12_divisor_31 rfl rfl
    · rw [if_neg c2] at h
      refine X.iload_n (i := 2) dX12_divisor_17 rfl rfl ?_
      refine X.iload_n (i := 3) dX12_divisor_18 rfl rfl ?_
      by_cases c3 : v3 = 0
      · rw [if_pos c3] at h; cases h
      rw [if_neg c3] at h
      refine X.irem dX12_divisor_19 c3 ?_
      refine X.istore (i := 4) (L' := [none, none, some (.int v2), some (.int v3), some (.int (v2 - v2 / v3 * v3))]) dX12_divisor_20 (Nat.le_of_ble_eq_true rfl) rfl ?_
      refine X.iload_n (i := 3) dX12_divisor_22 rfl rfl ?_
      refine X.istore_n (i := 2) (L' := [none, none, some (.int v3), some (.int v3), some (.int (v2 - v2 / v3 * v3))]) dX12_divisor_23 rfl (Nat.le_of_ble_eq_true rfl) rfl ?_
      refine X.iload (i := 4) dX12_divisor_24 rfl ?_
      refine X.istore_n (i := 3) (L' := [none, none, some (.int v3), some (.int (v2 - v2 / v3 * v3)), some (.int (v2 - v2 / v3 * v3))]) dX12_divisor_26 rfl (Nat.le_of_ble_eq_true rfl) rfl ?_
      refine X.goto (tgt := 13) dX12_divisor_27 (by decide) ?_
      exact X.weaken (xle_n (xle_n (xle_c (xle_c (xle_n xle_e))))) (ih h)
def pX12_divisor (F : Nat) (v0 : Int32) (v1 : Int32) : Option (Int32) := (if 0 ≤ v0 then (pX12_divisor_b13 F F v0 v1) else (pX12_divisor_b13 F F (-v0) v1))
set_option maxRecDepth 100000 in
set_option maxHeartbeats 4000000 in
theorem tX12_divisor {F : Nat} {f : xM} {g : xN} {v0 : Int32} {v1 : Int32} {r : Int32} (h : pX12_divisor F v0 v1 = some r) : XT mX12_divisor 0 [.int v0, .int v1] f g (some (.int r), f, g) := by
  unfold pX12_divisor at h
  refine XT.of (L := [some (.int v0), some (.int v1), none, none, none]) [some (.int v0), some (.int v1)] rfl (Nat.le_of_ble_eq_true rfl) rfl (xle_c (xle_c (xle_z (xle_z (xle_z xle_e))))) ?_
  refine X.iload_n (i := 0) dX12_divisor_0 rfl rfl ?_
  refine X.if_ge (tgt := 9) dX12_divisor_1 (by decide) (fun c1 => ?_) (fun c1 => ?_)
  · rw [if_pos c1] at h
    refine X.iload_n (i := 0) dX12_divisor_9 rfl rfl ?_
    refine X.istore_n (i := 2) (L' := [some (.int v0), some (.int v1), some (.int v0), none, none]) dX12_divisor_10 rfl (Nat.le_of_ble_eq_true rfl) rfl ?_
    refine X.iload_n (i := 1) dX12_divisor_11 rfl rfl ?_
    refine X.istore_n (i := 3) (L' := [some (.int v0), some (.int v1), some (.int v0), some (.int v1), none]) dX12_divisor_12 rfl (Nat.le_of_ble_eq_true rfl) rfl ?_
    exact X.weaken (xle_n (xle_n (xle_c (xle_c (xle_n xle_e))))) (tX12_divisor_b13 F h)
  · rw [if_neg c1] at h
    refine X.iload_n (i := 0) dX12_divisor_4 rfl rfl ?_
    refine X.ineg dX12_divisor_5 ?_
    refine X.goto (tgt := 10) dX12_divisor_6 (by decide) ?_
    refine X.istore_n (i := 2) (L' := [some (.int v0), some (.int v1), some (.int (-v0)), none, none]) dX12_divisor_10 rfl (Nat.le_of_ble_eq_true rfl) rfl ?_
    refine X.iload_n (i := 1) dX12_divisor_11 rfl rfl ?_
    refine X.istore_n (i := 3) (L' := [some (.int v0), some (.int v1), some (.int (-v0)), some (.int v1), none]) dX12_divisor_12 rfl (Nat.le_of_ble_eq_true rfl) rfl ?_
    exact X.weaken (xle_n (xle_n (xle_c (xle_c (xle_n xle_e))))) (tX12_divisor_b13 F h)
def pX12_fraction (F : Nat) (v0 : Int32) (v1 : Int32) (v2 : Int32) : Option (Int32) := (Option.bind (pX12_divisor F v0 v1) fun q1 => (if v2 = 0 then (if q1 = 0 then none else some ((v1 / q1))) else (if q1 = 0 then none else some ((v0 / q1)))))
set_option maxRecDepth 100000 in
set_option maxHeartbeats 4000000 in
theorem tX12_fraction {F : Nat} {f : xM} {g : xN} {v0 : Int32} {v1 : Int32} {v2 : Int32} {r : Int32} (h : pX12_fraction F v0 v1 v2 = some r) : XT mX12_fraction 1 [.int v0, .int v1, .int v2] f g (some (.int r), f, g) := by
  unfold pX12_fraction at h
  refine XT.of (L := [some (.int v0), some (.int v1), some (.int v2), none]) [some (.int v0), some (.int v1), some (.int v2)] rfl (Nat.le_of_ble_eq_true rfl) rfl (xle_c (xle_c (xle_c (xle_z xle_e)))) ?_
  refine X.iload_n (i := 0) dX12_fraction_0 rfl rfl ?_
  refine X.iload_n (i := 1) dX12_fraction_1 rfl rfl ?_
  obtain ⟨q1, e1, h⟩ := xbind h
  try dsimp only at h
  refine X.callS (μ' := mX12_divisor) (As := [.int v0, .int v1]) (st := []) (st1 := [.int q1]) (r := some (.int q1)) (f' := f) (g' := g) (tX12_divisor e1) (Nat.le_of_ble_eq_true rfl) cwX12_divisor rfl mlX12_246 rfl rfl rfl (Nat.le_of_ble_eq_true rfl) dX12_fraction_2 ?_
  refine X.istore_n (i := 3) (L' := [some (.int v0), some (.int v1), some (.int v2), some (.int q1)]) dX12_fraction_5 rfl (Nat.le_of_ble_eq_true rfl) rfl ?_
  refine X.iload_n (i := 2) dX12_fraction_6 rfl rfl ?_
  refine X.if_eq (tgt := 16) dX12_fraction_7 (by decide) (fun c2 => ?_) (fun c2 => ?_)
  · rw [if_pos c2] at h
    refine X.iload_n (i := 1) dX12_fraction_16 rfl rfl ?_
    refine X.iload_n (i := 3) dX12_fraction_17 rfl rfl ?_
    by_cases c3 : q1 = 0
    · rw [if_pos c3] at h; cases h
    rw [if_neg c3] at h
    refine X.idiv dX12_fraction_18 c3 ?_
    obtain rfl := Option.some.inj h
    exact X.iret dX12_fraction_19 rfl rfl
  · rw [if_neg c2] at h
    refine X.iload_n (i := 0) dX12_fraction_10 rfl rfl ?_
    refine X.iload_n (i := 3) dX12_fraction_11 rfl rfl ?_
    by_cases c4 : q1 = 0
    · rw [if_pos c4] at h; cases h
    rw [if_neg c4] at h
    refine X.idiv dX12_fraction_12 c4 ?_
    refine X.goto (tgt := 19) dX12_fraction_13 (by decide) ?_
    obtain rfl := Option.some.inj h
    exact X.iret dX12_fraction_19 rfl rfl
def pX12_chance_b143 (F : Nat) (K48 : Int32 → Int32 → Int32 → Int32 → Int32 → Int32 → xM → Option (Int32 × xM)) (K70 : Int32 → Int32 → Int32 → Int32 → Int32 → Int32 → Int32 → Int32 → Int32 → xM → Option (Int32 × xM)) (v1 : Int32) (v2 : Int32) (v3 : Int32) (v4 : Int32) (v5 : Int32) (v6 : Int32) (v7 : Int32) (v9 : Int32) (v11 : Int32) (s1 : Int32) (s2 : Int32) (f : xM) : Option (Int32 × xM) := (Option.bind (pX12_letterOf F f (f 0 5) v11) fun q13 => (Option.bind (pX12_notice F f s1 s2 v11 q13) fun q14 => (K70 v1 v2 v3 v4 v5 v6 v7 q14 (v9 + (1 : Int32)) f)))
set_option maxRecDepth 100000 in
set_option maxHeartbeats 4000000 in
theorem tX12_chance_b143 {F : Nat} {g : xN} {K48 : Int32 → Int32 → Int32 → Int32 → Int32 → Int32 → xM → Option (Int32 × xM)} (hK48 : ∀ {v1 : Int32} {v2 : Int32} {v3 : Int32} {v4 : Int32} {v5 : Int32} {v6 : Int32} {f : xM} {r : Int32 × xM}, K48 v1 v2 v3 v4 v5 v6 f = some r → X mX12_chance 4 (some (.int r.1), r.2, g) 48 [some (.ref 0), some (.int v1), some (.int v2), some (.int v3), some (.int v4), some (.int v5), some (.int v6), none, none, none, none, none] [] f g) {K70 : Int32 → Int32 → Int32 → Int32 → Int32 → Int32 → Int32 → Int32 → Int32 → xM → Option (Int32 × xM)} (hK70 : ∀ {v1 : Int32} {v2 : Int32} {v3 : Int32} {v4 : Int32} {v5 : Int32} {v6 : Int32} {v7 : Int32} {v8 : Int32} {v9 : Int32} {f : xM} {r : Int32 × xM}, K70 v1 v2 v3 v4 v5 v6 v7 v8 v9 f = some r → X mX12_chance 4 (some (.int r.1), r.2, g) 70 [some (.ref 0), some (.int v1), some (.int v2), some (.int v3), some (.int v4), some (.int v5), some (.int v6), some (.int v7), some (.int v8), some (.int v9), none, none] [] f g) {v1 : Int32} {v2 : Int32} {v3 : Int32} {v4 : Int32} {v5 : Int32} {v6 : Int32} {v7 : Int32} {v9 : Int32} {v11 : Int32} {s1 : Int32} {s2 : Int32} {f : xM} {r : Int32 × xM} (h : pX12_chance_b143 F K48 K70 v1 v2 v3 v4 v5 v6 v7 v9 v11 s1 s2 f = some r) : X mX12_chance 4 (some (.int r.1), r.2, g) 143 [some (.ref 0), some (.int v1), some (.int v2), some (.int v3), some (.int v4), some (.int v5), some (.int v6), some (.int v7), none, some (.int v9), none, some (.int v11)] [.int s2, .int s1, .ref 0] f g := by
  unfold pX12_chance_b143 at h
  refine X.iload (i := 11) dX12_chance_143 rfl ?_
  refine X.aload_n (i := 0) dX12_chance_145 rfl rfl ?_
  refine X.aload_n (i := 0) dX12_chance_146 rfl rfl ?_
  refine X.getI (k0 := 5) kX12 sM_0 (Nat.le_of_ble_eq_true rfl) rfl lfX12_115 dX12_chance_147 ?_
  refine X.iload (i := 11) dX12_chance_150 rfl ?_
  obtain ⟨q13, e13, h⟩ := xbind h
  try dsimp only at h
  refine X.callV (μ' := mX12_letterOf) (As := [.int (f 0 5), .int v11]) (st := [.int v11, .int s2, .int s1, .ref 0]) (st1 := [.int q13, .int v11, .int s2, .int s1, .ref 0]) (r := some (.int q13)) (f' := f) (g' := g) (tX12_letterOf e13) (Nat.le_of_ble_eq_true rfl) cwX12_letterOf rfl mlX12_124 sM_0 kX12 rfl rfl rfl (Nat.le_of_ble_eq_true rfl) dX12_chance_152 ?_
  obtain ⟨q14, e14, h⟩ := xbind h
  try dsimp only at h
  refine X.callV (μ' := mX12_notice) (As := [.int s1, .int s2, .int v11, .int q13]) (st := []) (st1 := [.int q14]) (r := some (.int q14)) (f' := f) (g' := g) (tX12_notice e14) (Nat.le_of_ble_eq_true rfl) cwX12_notice rfl mlX12_149 sM_0 kX12 rfl rfl rfl (Nat.le_of_ble_eq_true rfl) dX12_chance_155 ?_
  refine X.istore (i := 8) (L' := [some (.ref 0), some (.int v1), some (.int v2), some (.int v3), some (.int v4), some (.int v5), some (.int v6), some (.int v7), some (.int q14), some (.int v9), none, some (.int v11)]) dX12_chance_158 (Nat.le_of_ble_eq_true rfl) rfl ?_
  refine X.iinc (i := 9) (v := (v9 + (1 : Int32))) (L' := [some (.ref 0), some (.int v1), some (.int v2), some (.int v3), some (.int v4), some (.int v5), some (.int v6), some (.int v7), some (.int q14), some (.int (v9 + (1 : Int32))), none, some (.int v11)]) dX12_chance_160 rfl rfl (Nat.le_of_ble_eq_true rfl) rfl ?_
  refine X.goto (tgt := 70) dX12_chance_163 (by decide) ?_
  exact X.weaken (xle_c (xle_c (xle_c (xle_c (xle_c (xle_c (xle_c (xle_c (xle_c (xle_c (xle_n (xle_n xle_e)))))))))))) (hK70 h)
def pX12_chance_b108 (F : Nat) (K48 : Int32 → Int32 → Int32 → Int32 → Int32 → Int32 → xM → Option (Int32 × xM)) (K70 : Int32 → Int32 → Int32 → Int32 → Int32 → Int32 → Int32 → Int32 → Int32 → xM → Option (Int32 × xM)) (v1 : Int32) (v2 : Int32) (v3 : Int32) (v4 : Int32) (v5 : Int32) (v6 : Int32) (v8 : Int32) (v9 : Int32) (v10 : Int32) (v11 : Int32) (s0 : Int32) (s1 : Int32) (f : xM) : Option (Int32 × xM) := (if v11 = (-9 : Int32) then (K70 v1 v2 v3 v4 v5 v6 (s0 * s1) v8 (v9 + (1 : Int32)) f) else (if v10 = 0 then (pX12_chance_b143 F K48 K70 v1 v2 v3 v4 v5 v6 (s0 * s1) v9 v11 v8 (0 : Int32) f) else (if xin ((2 : Int32) + v1) 9 then (pX12_chance_b143 F K48 K70 v1 v2 v3 v4 v5 v6 (s0 * s1) v9 v11 v8 (f 7 ((2 : Int32) + v1).toNatClampNeg) f) else none)))
set_option maxRecDepth 100000 in
set_option maxHeartbeats 4000000 in
theorem tX12_chance_b108 {F : Nat} {g : xN} {K48 : Int32 → Int32 → Int32 → Int32 → Int32 → Int32 → xM → Option (Int32 × xM)} (hK48 : ∀ {v1 : Int32} {v2 : Int32} {v3 : Int32} {v4 : Int32} {v5 : Int32} {v6 : Int32} {f : xM} {r : Int32 × xM}, K48 v1 v2 v3 v4 v5 v6 f = some r → X mX12_chance 4 (some (.int r.1), r.2, g) 48 [some (.ref 0), some (.int v1), some (.int v2), some (.int v3), some (.int v4), some (.int v5), some (.int v6), none, none, none, none, none] [] f g) {K70 : Int32 → Int32 → Int32 → Int32 → Int32 → Int32 → Int32 → Int32 → Int32 → xM → Option (Int32 × xM)} (hK70 : ∀ {v1 : Int32} {v2 : Int32} {v3 : Int32} {v4 : Int32} {v5 : Int32} {v6 : Int32} {v7 : Int32} {v8 : Int32} {v9 : Int32} {f : xM} {r : Int32 × xM}, K70 v1 v2 v3 v4 v5 v6 v7 v8 v9 f = some r → X mX12_chance 4 (some (.int r.1), r.2, g) 70 [some (.ref 0), some (.int v1), some (.int v2), some (.int v3), some (.int v4), some (.int v5), some (.int v6), some (.int v7), some (.int v8), some (.int v9), none, none] [] f g) {v1 : Int32} {v2 : Int32} {v3 : Int32} {v4 : Int32} {v5 : Int32} {v6 : Int32} {v8 : Int32} {v9 : Int32} {v10 : Int32} {v11 : Int32} {s0 : Int32} {s1 : Int32} {f : xM} {r : Int32 × xM} (h : pX12_chance_b108 F K48 K70 v1 v2 v3 v4 v5 v6 v8 v9 v10 v11 s0 s1 f = some r) : X mX12_chance 4 (some (.int r.1), r.2, g) 108 [some (.ref 0), some (.int v1), some (.int v2), some (.int v3), some (.int v4), some (.int v5), some (.int v6), none, some (.int v8), some (.int v9), some (.int v10), some (.int v11)] [.int s1, .int s0] f g := by
  unfold pX12_chance_b108 at h
  refine X.imul dX12_chance_108 ?_
  refine X.istore (i := 7) (L' := [some (.ref 0), some (.int v1), some (.int v2), some (.int v3), some (.int v4), some (.int v5), some (.int v6), some (.int (s0 * s1)), some (.int v8), some (.int v9), some (.int v10), some (.int v11)]) dX12_chance_109 (Nat.le_of_ble_eq_true rfl) rfl ?_
  refine X.iload (i := 11) dX12_chance_111 rfl ?_
  refine X.bipush (v := (-9 : Int32)) dX12_chance_113 (by decide) ?_
  refine X.icmp_ne (tgt := 123) dX12_chance_115 (by decide) (fun c11 => ?_) (fun c11 => ?_)
  · rw [if_neg c11] at h
    refine X.aload_n (i := 0) dX12_chance_123 rfl rfl ?_
    refine X.iload (i := 8) dX12_chance_124 rfl ?_
    refine X.iload (i := 10) dX12_chance_126 rfl ?_
    refine X.if_eq (tgt := 142) dX12_chance_128 (by decide) (fun c12 => ?_) (fun c12 => ?_)
    · rw [if_pos c12] at h
      refine X.iconst (v := (0 : Int32)) dX12_chance_142 (by decide) ?_
      exact X.weaken (xle_c (xle_c (xle_c (xle_c (xle_c (xle_c (xle_c (xle_c (xle_n (xle_c (xle_n (xle_c xle_e)))))))))))) (tX12_chance_b143 hK48 hK70 h)
    · rw [if_neg c12] at h
      refine X.aload_n (i := 0) dX12_chance_131 rfl rfl ?_
      refine X.getR (k0 := 18) kX12 sM_0 (Nat.le_of_ble_eq_true rfl) rfl lfX12_32 dX12_chance_132 ?_
      refine X.iconst (v := (2 : Int32)) dX12_chance_135 (by decide) ?_
      refine X.iload_n (i := 1) dX12_chance_136 rfl rfl ?_
      refine X.iadd dX12_chance_137 ?_
      by_cases c15 : xin ((2 : Int32) + v1) 9
      rotate_left
      · rw [if_neg c15] at h; cases h
      rw [if_pos c15] at h
      refine X.iald sM_7 c15 dX12_chance_138 ?_
      refine X.goto (tgt := 143) dX12_chance_139 (by decide) ?_
      exact X.weaken (xle_c (xle_c (xle_c (xle_c (xle_c (xle_c (xle_c (xle_c (xle_n (xle_c (xle_n (xle_c xle_e)))))))))))) (tX12_chance_b143 hK48 hK70 h)
  · rw [if_pos c11] at h
    refine X.iload (i := 8) dX12_chance_118 rfl ?_
    refine X.goto (tgt := 158) dX12_chance_120 (by decide) ?_
    refine X.istore (i := 8) (L' := [some (.ref 0), some (.int v1), some (.int v2), some (.int v3), some (.int v4), some (.int v5), some (.int v6), some (.int (s0 * s1)), some (.int v8), some (.int v9), some (.int v10), some (.int v11)]) dX12_chance_158 (Nat.le_of_ble_eq_true rfl) rfl ?_
    refine X.iinc (i := 9) (v := (v9 + (1 : Int32))) (L' := [some (.ref 0), some (.int v1), some (.int v2), some (.int v3), some (.int v4), some (.int v5), some (.int v6), some (.int (s0 * s1)), some (.int v8), some (.int (v9 + (1 : Int32))), some (.int v10), some (.int v11)]) dX12_chance_160 rfl rfl (Nat.le_of_ble_eq_true rfl) rfl ?_
    refine X.goto (tgt := 70) dX12_chance_163 (by decide) ?_
    exact X.weaken (xle_c (xle_c (xle_c (xle_c (xle_c (xle_c (xle_c (xle_c (xle_c (xle_c (xle_n (xle_n xle_e)))))))))))) (hK70 h)
def pX12_chance_b70 (F : Nat) (K48 : Int32 → Int32 → Int32 → Int32 → Int32 → Int32 → xM → Option (Int32 × xM)) : Nat → Int32 → Int32 → Int32 → Int32 → Int32 → Int32 → Int32 → Int32 → Int32 → xM → Option (Int32 × xM)
  | 0, _, _, _, _, _, _, _, _, _, _ => none
  | n + 1, v1, v2, v3, v4, v5, v6, v7, v8, v9, f => (if v2 ≤ v9 then (if v8 = (f 0 5) then (K48 v1 v2 v3 v4 (v5 + v7) (v6 + (1 : Int32)) f) else (K48 v1 v2 v3 v4 (v5 + (0 : Int32)) (v6 + (1 : Int32)) f)) else (Option.bind (pX12_wrongOf F f v8) fun q9 => (if (pX12_has v6 v9) = 0 then (pX12_chance_b108 F K48 (pX12_chance_b70 F K48 n) v1 v2 v3 v4 v5 v6 v8 v9 (pX12_has v6 v9) q9 v7 ((10 : Int32) - v3) f) else (pX12_chance_b108 F K48 (pX12_chance_b70 F K48 n) v1 v2 v3 v4 v5 v6 v8 v9 (pX12_has v6 v9) q9 v7 v3 f))))
set_option maxRecDepth 100000 in
set_option maxHeartbeats 4000000 in
theorem tX12_chance_b70 {F : Nat} {g : xN} {K48 : Int32 → Int32 → Int32 → Int32 → Int32 → Int32 → xM → Option (Int32 × xM)} (hK48 : ∀ {v1 : Int32} {v2 : Int32} {v3 : Int32} {v4 : Int32} {v5 : Int32} {v6 : Int32} {f : xM} {r : Int32 × xM}, K48 v1 v2 v3 v4 v5 v6 f = some r → X mX12_chance 4 (some (.int r.1), r.2, g) 48 [some (.ref 0), some (.int v1), some (.int v2), some (.int v3), some (.int v4), some (.int v5), some (.int v6), none, none, none, none, none] [] f g) : ∀ (n : Nat) {v1 : Int32} {v2 : Int32} {v3 : Int32} {v4 : Int32} {v5 : Int32} {v6 : Int32} {v7 : Int32} {v8 : Int32} {v9 : Int32} {f : xM} {r : Int32 × xM}, pX12_chance_b70 F K48 n v1 v2 v3 v4 v5 v6 v7 v8 v9 f = some r → X mX12_chance 4 (some (.int r.1), r.2, g) 70 [some (.ref 0), some (.int v1), some (.int v2), some (.int v3), some (.int v4), some (.int v5), some (.int v6), some (.int v7), some (.int v8), some (.int v9), none, none] [] f g := by
  intro n
  induction n with
  | zero => intro v1 v2 v3 v4 v5 v6 v7 v8 v9 f r h; cases h
  | succ n ih =>
    intro v1 v2 v3 v4 v5 v6 v7 v8 v9 f r h
    rw [pX12_chance_b70] at h
    refine X.iload (i := 9) dX12_chance_70 rfl ?_
    refine X.iload_n (i := 2) dX12_chance_72 rfl rfl ?_
    refine X.icmp_ge (tgt := 166) dX12_chance_73 (by decide) (fun c7 => ?_) (fun c7 => ?_)
    · rw [if_pos c7] at h
      refine X.iload (i := 5) dX12_chance_166 rfl ?_
      refine X.iload (i := 8) dX12_chance_168 rfl ?_
      refine X.aload_n (i := 0) dX12_chance_170 rfl rfl ?_
      refine X.getI (k0 := 5) kX12 sM_0 (Nat.le_of_ble_eq_true rfl) rfl lfX12_115 dX12_chance_171 ?_
      refine X.icmp_ne (tgt := 182) dX12_chance_174 (by decide) (fun c8 => ?_) (fun c8 => ?_)
      · rw [if_neg c8] at h
        refine X.iconst (v := (0 : Int32)) dX12_chance_182 (by decide) ?_
        refine X.iadd dX12_chance_183 ?_
        refine X.istore (i := 5) (L' := [some (.ref 0), some (.int v1), some (.int v2), some (.int v3), some (.int v4), some (.int (v5 + (0 : Int32))), some (.int v6), some (.int v7), some (.int v8), some (.int v9), none, none]) dX12_chance_184 (Nat.le_of_ble_eq_true rfl) rfl ?_
        refine X.iinc (i := 6) (v := (v6 + (1 : Int32))) (L' := [some (.ref 0), some (.int v1), some (.int v2), some (.int v3), some (.int v4), some (.int (v5 + (0 : Int32))), some (.int (v6 + (1 : Int32))), some (.int v7), some (.int v8), some (.int v9), none, none]) dX12_chance_186 rfl rfl (Nat.le_of_ble_eq_true rfl) rfl ?_
        refine X.goto (tgt := 48) dX12_chance_189 (by decide) ?_
        exact X.weaken (xle_c (xle_c (xle_c (xle_c (xle_c (xle_c (xle_c (xle_n (xle_n (xle_n (xle_n (xle_n xle_e)))))))))))) (hK48 h)
      · rw [if_pos c8] at h
        refine X.iload (i := 7) dX12_chance_177 rfl ?_
        refine X.goto (tgt := 183) dX12_chance_179 (by decide) ?_
        refine X.iadd dX12_chance_183 ?_
        refine X.istore (i := 5) (L' := [some (.ref 0), some (.int v1), some (.int v2), some (.int v3), some (.int v4), some (.int (v5 + v7)), some (.int v6), some (.int v7), some (.int v8), some (.int v9), none, none]) dX12_chance_184 (Nat.le_of_ble_eq_true rfl) rfl ?_
        refine X.iinc (i := 6) (v := (v6 + (1 : Int32))) (L' := [some (.ref 0), some (.int v1), some (.int v2), some (.int v3), some (.int v4), some (.int (v5 + v7)), some (.int (v6 + (1 : Int32))), some (.int v7), some (.int v8), some (.int v9), none, none]) dX12_chance_186 rfl rfl (Nat.le_of_ble_eq_true rfl) rfl ?_
        refine X.goto (tgt := 48) dX12_chance_189 (by decide) ?_
        exact X.weaken (xle_c (xle_c (xle_c (xle_c (xle_c (xle_c (xle_c (xle_n (xle_n (xle_n (xle_n (xle_n xle_e)))))))))))) (hK48 h)
    · rw [if_neg c7] at h
      refine X.iload (i := 6) dX12_chance_76 rfl ?_
      refine X.iload (i := 9) dX12_chance_78 rfl ?_
      refine X.callS (μ' := mX12_has) (As := [.int v6, .int v9]) (st := []) (st1 := [.int (pX12_has v6 v9)]) (r := some (.int (pX12_has v6 v9))) (f' := f) (g' := g) (tX12_has rfl) (Nat.le_of_ble_eq_true rfl) cwX12_has rfl mlX12_253 rfl rfl rfl (Nat.le_of_ble_eq_true rfl) dX12_chance_80 ?_
      refine X.istore (i := 10) (L' := [some (.ref 0), some (.int v1), some (.int v2), some (.int v3), some (.int v4), some (.int v5), some (.int v6), some (.int v7), some (.int v8), some (.int v9), some (.int (pX12_has v6 v9)), none]) dX12_chance_83 (Nat.le_of_ble_eq_true rfl) rfl ?_
      refine X.aload_n (i := 0) dX12_chance_85 rfl rfl ?_
      refine X.iload (i := 8) dX12_chance_86 rfl ?_
      obtain ⟨q9, e9, h⟩ := xbind h
      try dsimp only at h
      refine X.callV (μ' := mX12_wrongOf) (As := [.int v8]) (st := []) (st1 := [.int q9]) (r := some (.int q9)) (f' := f) (g' := g) (tX12_wrongOf e9) (Nat.le_of_ble_eq_true rfl) cwX12_wrongOf rfl mlX12_257 sM_0 kX12 rfl rfl rfl (Nat.le_of_ble_eq_true rfl) dX12_chance_88 ?_
      refine X.istore (i := 11) (L' := [some (.ref 0), some (.int v1), some (.int v2), some (.int v3), some (.int v4), some (.int v5), some (.int v6), some (.int v7), some (.int v8), some (.int v9), some (.int (pX12_has v6 v9)), some (.int q9)]) dX12_chance_91 (Nat.le_of_ble_eq_true rfl) rfl ?_
      refine X.iload (i := 7) dX12_chance_93 rfl ?_
      refine X.iload (i := 10) dX12_chance_95 rfl ?_
      refine X.if_eq (tgt := 104) dX12_chance_97 (by decide) (fun c10 => ?_) (fun c10 => ?_)
      · rw [if_pos c10] at h
        refine X.bipush (v := (10 : Int32)) dX12_chance_104 (by decide) ?_
        refine X.iload_n (i := 3) dX12_chance_106 rfl rfl ?_
        refine X.isub dX12_chance_107 ?_
        exact X.weaken (xle_c (xle_c (xle_c (xle_c (xle_c (xle_c (xle_c (xle_n (xle_c (xle_c (xle_c (xle_c xle_e)))))))))))) (tX12_chance_b108 hK48 ih h)
      · rw [if_neg c10] at h
        refine X.iload_n (i := 3) dX12_chance_100 rfl rfl ?_
        refine X.goto (tgt := 108) dX12_chance_101 (by decide) ?_
        exact X.weaken (xle_c (xle_c (xle_c (xle_c (xle_c (xle_c (xle_c (xle_n (xle_c (xle_c (xle_c (xle_c xle_e)))))))))))) (tX12_chance_b108 hK48 ih h)
def pX12_chance_b48 (F : Nat) : Nat → Int32 → Int32 → Int32 → Int32 → Int32 → Int32 → xM → Option (Int32 × xM)
  | 0, _, _, _, _, _, _, _ => none
  | n + 1, v1, v2, v3, v4, v5, v6, f => (if ((1 : Int32) <<< (v2 &&& 31)) ≤ v6 then (Option.bind (pX12_power F (10 : Int32) v2) fun q5 => (Option.bind (pX12_fraction F v5 q5 v4) fun q6 => some ((q6, f)))) else (pX12_chance_b70 F (pX12_chance_b48 F n) F v1 v2 v3 v4 v5 v6 (1 : Int32) (f 7 0) (0 : Int32) f))
set_option maxRecDepth 100000 in
set_option maxHeartbeats 4000000 in
theorem tX12_chance_b48 {F : Nat} {g : xN} : ∀ (n : Nat) {v1 : Int32} {v2 : Int32} {v3 : Int32} {v4 : Int32} {v5 : Int32} {v6 : Int32} {f : xM} {r : Int32 × xM}, pX12_chance_b48 F n v1 v2 v3 v4 v5 v6 f = some r → X mX12_chance 4 (some (.int r.1), r.2, g) 48 [some (.ref 0), some (.int v1), some (.int v2), some (.int v3), some (.int v4), some (.int v5), some (.int v6), none, none, none, none, none] [] f g := by
  intro n
  induction n with
  | zero => intro v1 v2 v3 v4 v5 v6 f r h; cases h
  | succ n ih =>
    intro v1 v2 v3 v4 v5 v6 f r h
    rw [pX12_chance_b48] at h
    refine X.iload (i := 6) dX12_chance_48 rfl ?_
    refine X.iconst (v := (1 : Int32)) dX12_chance_50 (by decide) ?_
    refine X.iload_n (i := 2) dX12_chance_51 rfl rfl ?_
    refine X.ishl dX12_chance_52 ?_
    refine X.icmp_ge (tgt := 192) dX12_chance_53 (by decide) (fun c4 => ?_) (fun c4 => ?_)
    · rw [if_pos c4] at h
      refine X.iload (i := 5) dX12_chance_192 rfl ?_
      refine X.bipush (v := (10 : Int32)) dX12_chance_194 (by decide) ?_
      refine X.iload_n (i := 2) dX12_chance_196 rfl rfl ?_
      obtain ⟨q5, e5, h⟩ := xbind h
      try dsimp only at h
      refine X.callS (μ' := mX12_power) (As := [.int (10 : Int32), .int v2]) (st := [.int v5]) (st1 := [.int q5, .int v5]) (r := some (.int q5)) (f' := f) (g' := g) (tX12_power e5) (Nat.le_of_ble_eq_true rfl) cwX12_power rfl mlX12_121 rfl rfl rfl (Nat.le_of_ble_eq_true rfl) dX12_chance_197 ?_
      refine X.iload (i := 4) dX12_chance_200 rfl ?_
      obtain ⟨q6, e6, h⟩ := xbind h
      try dsimp only at h
      refine X.callS (μ' := mX12_fraction) (As := [.int v5, .int q5, .int v4]) (st := []) (st1 := [.int q6]) (r := some (.int q6)) (f' := f) (g' := g) (tX12_fraction e6) (Nat.le_of_ble_eq_true rfl) cwX12_fraction rfl mlX12_260 rfl rfl rfl (Nat.le_of_ble_eq_true rfl) dX12_chance_202 ?_
      obtain rfl := Option.some.inj h
      exact X.iret dX12_chance_205 rfl rfl
    · rw [if_neg c4] at h
      refine X.iconst (v := (1 : Int32)) dX12_chance_56 (by decide) ?_
      refine X.istore (i := 7) (L' := [some (.ref 0), some (.int v1), some (.int v2), some (.int v3), some (.int v4), some (.int v5), some (.int v6), some (.int (1 : Int32)), none, none, none, none]) dX12_chance_57 (Nat.le_of_ble_eq_true rfl) rfl ?_
      refine X.aload_n (i := 0) dX12_chance_59 rfl rfl ?_
      refine X.getR (k0 := 18) kX12 sM_0 (Nat.le_of_ble_eq_true rfl) rfl lfX12_32 dX12_chance_60 ?_
      refine X.iconst (v := (0 : Int32)) dX12_chance_63 (by decide) ?_
      refine X.ialdK (m := 0) sM_7 (by decide) (by decide) dX12_chance_64 ?_
      refine X.istore (i := 8) (L' := [some (.ref 0), some (.int v1), some (.int v2), some (.int v3), some (.int v4), some (.int v5), some (.int v6), some (.int (1 : Int32)), some (.int (f 7 0)), none, none, none]) dX12_chance_65 (Nat.le_of_ble_eq_true rfl) rfl ?_
      refine X.iconst (v := (0 : Int32)) dX12_chance_67 (by decide) ?_
      refine X.istore (i := 9) (L' := [some (.ref 0), some (.int v1), some (.int v2), some (.int v3), some (.int v4), some (.int v5), some (.int v6), some (.int (1 : Int32)), some (.int (f 7 0)), some (.int (0 : Int32)), none, none]) dX12_chance_68 (Nat.le_of_ble_eq_true rfl) rfl ?_
      exact X.weaken (xle_c (xle_c (xle_c (xle_c (xle_c (xle_c (xle_c (xle_c (xle_c (xle_c (xle_n (xle_n xle_e)))))))))))) (tX12_chance_b70 ih F h)
def pX12_chance (F : Nat) (v1 : Int32) (v2 : Int32) (v3 : Int32) (v4 : Int32) (f : xM) : Option (Int32 × xM) := (if (pX12_noCompositor (xu f 0 0 (0 : Int32)) v1) = 0 then (if (pX12_in v2.toInt64 (1 : Int64) (4 : Int64)) = 0 then some (((-2 : Int32), (xu f 0 0 (0 : Int32)))) else (if (pX12_in v3.toInt64 (0 : Int64) (10 : Int64)) = 0 then some (((-2 : Int32), (xu f 0 0 (0 : Int32)))) else (pX12_chance_b48 F F v1 v2 v3 v4 (0 : Int32) (0 : Int32) (xu f 0 0 (0 : Int32))))) else some (((-1 : Int32), (xu f 0 0 (0 : Int32)))))
set_option maxRecDepth 100000 in
set_option maxHeartbeats 4000000 in
theorem tX12_chance {F : Nat} {g : xN} {v1 : Int32} {v2 : Int32} {v3 : Int32} {v4 : Int32} {f : xM} {r : Int32 × xM} (h : pX12_chance F v1 v2 v3 v4 f = some r) : XT mX12_chance 4 [.ref 0, .int v1, .int v2, .int v3, .int v4] f g (some (.int r.1), r.2, g) := by
  unfold pX12_chance at h
  refine XT.of (L := [some (.ref 0), some (.int v1), some (.int v2), some (.int v3), some (.int v4), none, none, none, none, none, none, none]) [some (.ref 0), some (.int v1), some (.int v2), some (.int v3), some (.int v4)] rfl (Nat.le_of_ble_eq_true rfl) rfl (xle_c (xle_c (xle_c (xle_c (xle_c (xle_z (xle_z (xle_z (xle_z (xle_z (xle_z (xle_z xle_e)))))))))))) ?_
  refine X.aload_n (i := 0) dX12_chance_0 rfl rfl ?_
  refine X.iconst (v := (0 : Int32)) dX12_chance_1 (by decide) ?_
  refine X.putI (k0 := 0) kX12 sM_0 (Nat.le_of_ble_eq_true rfl) rfl lfX12_57 rfl rfl dX12_chance_2 ?_
  refine X.aload_n (i := 0) dX12_chance_5 rfl rfl ?_
  refine X.iload_n (i := 1) dX12_chance_6 rfl rfl ?_
  refine X.callV (μ' := mX12_noCompositor) (As := [.int v1]) (st := []) (st1 := [.int (pX12_noCompositor (xu f 0 0 (0 : Int32)) v1)]) (r := some (.int (pX12_noCompositor (xu f 0 0 (0 : Int32)) v1))) (f' := (xu f 0 0 (0 : Int32))) (g' := g) (tX12_noCompositor rfl) (Nat.le_of_ble_eq_true rfl) cwX12_noCompositor rfl mlX12_142 sM_0 kX12 rfl rfl rfl (Nat.le_of_ble_eq_true rfl) dX12_chance_7 ?_
  refine X.if_eq (tgt := 15) dX12_chance_10 (by decide) (fun c1 => ?_) (fun c1 => ?_)
  · rw [if_pos c1] at h
    refine X.iload_n (i := 2) dX12_chance_15 rfl rfl ?_
    refine X.i2l dX12_chance_16 ?_
    refine X.lconst (v := (1 : Int64)) dX12_chance_17 (by decide) ?_
    refine X.ldc2 dX12_chance_18 lcX12_249 ?_
    refine X.callS (μ' := mX12_in) (As := [.long v2.toInt64, .long (1 : Int64), .long (4 : Int64)]) (st := []) (st1 := [.int (pX12_in v2.toInt64 (1 : Int64) (4 : Int64))]) (r := some (.int (pX12_in v2.toInt64 (1 : Int64) (4 : Int64)))) (f' := (xu f 0 0 (0 : Int32))) (g' := g) (tX12_in rfl) (Nat.le_of_ble_eq_true rfl) cwX12_in rfl mlX12_65 rfl rfl rfl (Nat.le_of_ble_eq_true rfl) dX12_chance_21 ?_
    refine X.if_eq (tgt := 39) dX12_chance_24 (by decide) (fun c2 => ?_) (fun c2 => ?_)
    · rw [if_pos c2] at h
      refine X.bipush (v := (-2 : Int32)) dX12_chance_39 (by decide) ?_
      obtain rfl := Option.some.inj h
      exact X.iret dX12_chance_41 rfl rfl
    · rw [if_neg c2] at h
      refine X.iload_n (i := 3) dX12_chance_27 rfl rfl ?_
      refine X.i2l dX12_chance_28 ?_
      refine X.lconst (v := (0 : Int64)) dX12_chance_29 (by decide) ?_
      refine X.ldc2 dX12_chance_30 lcX12_251 ?_
      refine X.callS (μ' := mX12_in) (As := [.long v3.toInt64, .long (0 : Int64), .long (10 : Int64)]) (st := []) (st1 := [.int (pX12_in v3.toInt64 (0 : Int64) (10 : Int64))]) (r := some (.int (pX12_in v3.toInt64 (0 : Int64) (10 : Int64)))) (f' := (xu f 0 0 (0 : Int32))) (g' := g) (tX12_in rfl) (Nat.le_of_ble_eq_true rfl) cwX12_in rfl mlX12_65 rfl rfl rfl (Nat.le_of_ble_eq_true rfl) dX12_chance_33 ?_
      refine X.if_ne (tgt := 42) dX12_chance_36 (by decide) (fun c3 => ?_) (fun c3 => ?_)
      · rw [if_neg c3] at h
        refine X.iconst (v := (0 : Int32)) dX12_chance_42 (by decide) ?_
        refine X.istore (i := 5) (L' := [some (.ref 0), some (.int v1), some (.int v2), some (.int v3), some (.int v4), some (.int (0 : Int32)), none, none, none, none, none, none]) dX12_chance_43 (Nat.le_of_ble_eq_true rfl) rfl ?_
        refine X.iconst (v := (0 : Int32)) dX12_chance_45 (by decide) ?_
        refine X.istore (i := 6) (L' := [some (.ref 0), some (.int v1), some (.int v2), some (.int v3), some (.int v4), some (.int (0 : Int32)), some (.int (0 : Int32)), none, none, none, none, none]) dX12_chance_46 (Nat.le_of_ble_eq_true rfl) rfl ?_
        exact X.weaken (xle_c (xle_c (xle_c (xle_c (xle_c (xle_c (xle_c (xle_n (xle_n (xle_n (xle_n (xle_n xle_e)))))))))))) (tX12_chance_b48 F h)
      · rw [if_pos c3] at h
        refine X.bipush (v := (-2 : Int32)) dX12_chance_39 (by decide) ?_
        obtain rfl := Option.some.inj h
        exact X.iret dX12_chance_41 rfl rfl
  · rw [if_neg c1] at h
    refine X.iconst (v := (-1 : Int32)) dX12_chance_13 (by decide) ?_
    obtain rfl := Option.some.inj h
    exact X.iret dX12_chance_14 rfl rfl
def pX12_mostRight_b13 (F : Nat) (f : xM) : Nat → Int32 → Int32 → Int32 → Option (Int32)
  | 0, _, _, _ => none
  | n + 1, v1, v2, v3 => (if (300 : Int32) ≤ v3 then some (v2) else (if (pX12_noNotice f v3) = 0 then (if (pX12_has v1 (v3 / (100 : Int32))) = 0 then (pX12_mostRight_b13 F f n v1 v2 (v3 + (1 : Int32))) else (Option.bind (pX12_noticed F f (f 7 0) v3) fun q5 => (Option.bind (pX12_rightOf F f q5) fun q6 => (if q6 ≤ v2 then (pX12_mostRight_b13 F f n v1 v2 (v3 + (1 : Int32))) else (pX12_mostRight_b13 F f n v1 q6 (v3 + (1 : Int32))))))) else (pX12_mostRight_b13 F f n v1 v2 (v3 + (1 : Int32)))))
set_option maxRecDepth 100000 in
set_option maxHeartbeats 4000000 in
theorem tX12_mostRight_b13 {F : Nat} {f : xM} {g : xN} : ∀ (n : Nat) {v1 : Int32} {v2 : Int32} {v3 : Int32} {r : Int32}, pX12_mostRight_b13 F f n v1 v2 v3 = some r → X mX12_mostRight 5 (some (.int r), f, g) 13 [some (.ref 0), some (.int v1), some (.int v2), some (.int v3), none] [] f g := by
  intro n
  induction n with
  | zero => intro v1 v2 v3 r h; cases h
  | succ n ih =>
    intro v1 v2 v3 r h
    rw [pX12_mostRight_b13] at h
    refine X.iload_n (i := 3) dX12_mostRight_13 rfl rfl ?_
    refine X.sipush (v := (300 : Int32)) dX12_mostRight_14 (by decide) ?_
    refine X.icmp_ge (tgt := 75) dX12_mostRight_17 (by decide) (fun c2 => ?_) (fun c2 => ?_)
    · rw [if_pos c2] at h
      refine X.iload_n (i := 2) dX12_mostRight_75 rfl rfl ?_
      obtain rfl := Option.some.inj h
      exact X.iret dX12_mostRight_76 rfl rfl
    · rw [if_neg c2] at h
      refine X.aload_n (i := 0) dX12_mostRight_20 rfl rfl ?_
      refine X.iload_n (i := 3) dX12_mostRight_21 rfl rfl ?_
      refine X.callV (μ' := mX12_noNotice) (As := [.int v3]) (st := []) (st1 := [.int (pX12_noNotice f v3)]) (r := some (.int (pX12_noNotice f v3))) (f' := f) (g' := g) (tX12_noNotice rfl) (Nat.le_of_ble_eq_true rfl) cwX12_noNotice rfl mlX12_174 sM_0 kX12 rfl rfl rfl (Nat.le_of_ble_eq_true rfl) dX12_mostRight_22 ?_
      refine X.if_ne (tgt := 69) dX12_mostRight_25 (by decide) (fun c3 => ?_) (fun c3 => ?_)
      · rw [if_neg c3] at h
        refine X.iinc (i := 3) (v := (v3 + (1 : Int32))) (L' := [some (.ref 0), some (.int v1), some (.int v2), some (.int (v3 + (1 : Int32))), none]) dX12_mostRight_69 rfl rfl (Nat.le_of_ble_eq_true rfl) rfl ?_
        refine X.goto (tgt := 13) dX12_mostRight_72 (by decide) ?_
        exact X.weaken (xle_c (xle_c (xle_c (xle_c (xle_n xle_e))))) (ih h)
      · rw [if_pos c3] at h
        refine X.iload_n (i := 1) dX12_mostRight_28 rfl rfl ?_
        refine X.iload_n (i := 3) dX12_mostRight_29 rfl rfl ?_
        refine X.bipush (v := (100 : Int32)) dX12_mostRight_30 (by decide) ?_
        refine X.idiv dX12_mostRight_32 (by decide) ?_
        refine X.callS (μ' := mX12_has) (As := [.int v1, .int (v3 / (100 : Int32))]) (st := []) (st1 := [.int (pX12_has v1 (v3 / (100 : Int32)))]) (r := some (.int (pX12_has v1 (v3 / (100 : Int32))))) (f' := f) (g' := g) (tX12_has rfl) (Nat.le_of_ble_eq_true rfl) cwX12_has rfl mlX12_253 rfl rfl rfl (Nat.le_of_ble_eq_true rfl) dX12_mostRight_33 ?_
        refine X.if_eq (tgt := 69) dX12_mostRight_36 (by decide) (fun c4 => ?_) (fun c4 => ?_)
        · rw [if_pos c4] at h
          refine X.iinc (i := 3) (v := (v3 + (1 : Int32))) (L' := [some (.ref 0), some (.int v1), some (.int v2), some (.int (v3 + (1 : Int32))), none]) dX12_mostRight_69 rfl rfl (Nat.le_of_ble_eq_true rfl) rfl ?_
          refine X.goto (tgt := 13) dX12_mostRight_72 (by decide) ?_
          exact X.weaken (xle_c (xle_c (xle_c (xle_c (xle_n xle_e))))) (ih h)
        · rw [if_neg c4] at h
          refine X.aload_n (i := 0) dX12_mostRight_39 rfl rfl ?_
          refine X.aload_n (i := 0) dX12_mostRight_40 rfl rfl ?_
          refine X.aload_n (i := 0) dX12_mostRight_41 rfl rfl ?_
          refine X.getR (k0 := 18) kX12 sM_0 (Nat.le_of_ble_eq_true rfl) rfl lfX12_32 dX12_mostRight_42 ?_
          refine X.iconst (v := (0 : Int32)) dX12_mostRight_45 (by decide) ?_
          refine X.ialdK (m := 0) sM_7 (by decide) (by decide) dX12_mostRight_46 ?_
          refine X.iload_n (i := 3) dX12_mostRight_47 rfl rfl ?_
          obtain ⟨q5, e5, h⟩ := xbind h
          try dsimp only at h
          refine X.callV (μ' := mX12_noticed) (As := [.int (f 7 0), .int v3]) (st := [.ref 0]) (st1 := [.int q5, .ref 0]) (r := some (.int q5)) (f' := f) (g' := g) (tX12_noticed e5) (Nat.le_of_ble_eq_true rfl) cwX12_noticed rfl mlX12_177 sM_0 kX12 rfl rfl rfl (Nat.le_of_ble_eq_true rfl) dX12_mostRight_48 ?_
          obtain ⟨q6, e6, h⟩ := xbind h
          try dsimp only at h
          refine X.callV (μ' := mX12_rightOf) (As := [.int q5]) (st := []) (st1 := [.int q6]) (r := some (.int q6)) (f' := f) (g' := g) (tX12_rightOf e6) (Nat.le_of_ble_eq_true rfl) cwX12_rightOf rfl mlX12_139 sM_0 kX12 rfl rfl rfl (Nat.le_of_ble_eq_true rfl) dX12_mostRight_51 ?_
          refine X.istore (i := 4) (L' := [some (.ref 0), some (.int v1), some (.int v2), some (.int v3), some (.int q6)]) dX12_mostRight_54 (Nat.le_of_ble_eq_true rfl) rfl ?_
          refine X.iload (i := 4) dX12_mostRight_56 rfl ?_
          refine X.iload_n (i := 2) dX12_mostRight_58 rfl rfl ?_
          refine X.icmp_le (tgt := 67) dX12_mostRight_59 (by decide) (fun c7 => ?_) (fun c7 => ?_)
          · rw [if_pos c7] at h
            refine X.iload_n (i := 2) dX12_mostRight_67 rfl rfl ?_
            refine X.istore_n (i := 2) (L' := [some (.ref 0), some (.int v1), some (.int v2), some (.int v3), some (.int q6)]) dX12_mostRight_68 rfl (Nat.le_of_ble_eq_true rfl) rfl ?_
            refine X.iinc (i := 3) (v := (v3 + (1 : Int32))) (L' := [some (.ref 0), some (.int v1), some (.int v2), some (.int (v3 + (1 : Int32))), some (.int q6)]) dX12_mostRight_69 rfl rfl (Nat.le_of_ble_eq_true rfl) rfl ?_
            refine X.goto (tgt := 13) dX12_mostRight_72 (by decide) ?_
            exact X.weaken (xle_c (xle_c (xle_c (xle_c (xle_n xle_e))))) (ih h)
          · rw [if_neg c7] at h
            refine X.iload (i := 4) dX12_mostRight_62 rfl ?_
            refine X.goto (tgt := 68) dX12_mostRight_64 (by decide) ?_
            refine X.istore_n (i := 2) (L' := [some (.ref 0), some (.int v1), some (.int q6), some (.int v3), some (.int q6)]) dX12_mostRight_68 rfl (Nat.le_of_ble_eq_true rfl) rfl ?_
            refine X.iinc (i := 3) (v := (v3 + (1 : Int32))) (L' := [some (.ref 0), some (.int v1), some (.int q6), some (.int (v3 + (1 : Int32))), some (.int q6)]) dX12_mostRight_69 rfl rfl (Nat.le_of_ble_eq_true rfl) rfl ?_
            refine X.goto (tgt := 13) dX12_mostRight_72 (by decide) ?_
            exact X.weaken (xle_c (xle_c (xle_c (xle_c (xle_n xle_e))))) (ih h)
def pX12_mostRight (F : Nat) (f : xM) (v1 : Int32) : Option (Int32) := (Option.bind (pX12_rightOf F f (f 7 0)) fun q1 => (pX12_mostRight_b13 F f F v1 q1 (0 : Int32)))
set_option maxRecDepth 100000 in
set_option maxHeartbeats 4000000 in
theorem tX12_mostRight {F : Nat} {f : xM} {g : xN} {v1 : Int32} {r : Int32} (h : pX12_mostRight F f v1 = some r) : XT mX12_mostRight 5 [.ref 0, .int v1] f g (some (.int r), f, g) := by
  unfold pX12_mostRight at h
  refine XT.of (L := [some (.ref 0), some (.int v1), none, none, none]) [some (.ref 0), some (.int v1)] rfl (Nat.le_of_ble_eq_true rfl) rfl (xle_c (xle_c (xle_z (xle_z (xle_z xle_e))))) ?_
  refine X.aload_n (i := 0) dX12_mostRight_0 rfl rfl ?_
  refine X.aload_n (i := 0) dX12_mostRight_1 rfl rfl ?_
  refine X.getR (k0 := 18) kX12 sM_0 (Nat.le_of_ble_eq_true rfl) rfl lfX12_32 dX12_mostRight_2 ?_
  refine X.iconst (v := (0 : Int32)) dX12_mostRight_5 (by decide) ?_
  refine X.ialdK (m := 0) sM_7 (by decide) (by decide) dX12_mostRight_6 ?_
  obtain ⟨q1, e1, h⟩ := xbind h
  try dsimp only at h
  refine X.callV (μ' := mX12_rightOf) (As := [.int (f 7 0)]) (st := []) (st1 := [.int q1]) (r := some (.int q1)) (f' := f) (g' := g) (tX12_rightOf e1) (Nat.le_of_ble_eq_true rfl) cwX12_rightOf rfl mlX12_139 sM_0 kX12 rfl rfl rfl (Nat.le_of_ble_eq_true rfl) dX12_mostRight_7 ?_
  refine X.istore_n (i := 2) (L' := [some (.ref 0), some (.int v1), some (.int q1), none, none]) dX12_mostRight_10 rfl (Nat.le_of_ble_eq_true rfl) rfl ?_
  refine X.iconst (v := (0 : Int32)) dX12_mostRight_11 (by decide) ?_
  refine X.istore_n (i := 3) (L' := [some (.ref 0), some (.int v1), some (.int q1), some (.int (0 : Int32)), none]) dX12_mostRight_12 rfl (Nat.le_of_ble_eq_true rfl) rfl ?_
  exact X.weaken (xle_c (xle_c (xle_c (xle_c (xle_n xle_e))))) (tX12_mostRight_b13 F h)
def pX12_share_b127 (F : Nat) (K68 : Int32 → Int32 → Int32 → Int32 → Int32 → xM → Option (Int32 × xM)) (v1 : Int32) (v2 : Int32) (v3 : Int32) (v4 : Int32) (v5 : Int32) (s0 : Int32) (f : xM) : Option (Int32 × xM) := (if xin (v5 ||| ((1 : Int32) <<< (v1 &&& 31))) 8 then (if xin v5 8 then (K68 v1 v2 (v3 + (s0 * ((f 13 (v5 ||| ((1 : Int32) <<< (v1 &&& 31))).toNatClampNeg) - (f 13 v5.toNatClampNeg)))) v4 (v5 + (1 : Int32)) f) else none) else none)
set_option maxRecDepth 100000 in
set_option maxHeartbeats 4000000 in
theorem tX12_share_b127 {F : Nat} {g : xN} {K68 : Int32 → Int32 → Int32 → Int32 → Int32 → xM → Option (Int32 × xM)} (hK68 : ∀ {v1 : Int32} {v2 : Int32} {v3 : Int32} {v4 : Int32} {v5 : Int32} {f : xM} {r : Int32 × xM}, K68 v1 v2 v3 v4 v5 f = some r → X mX12_share 6 (some (.int r.1), r.2, g) 68 [some (.ref 0), some (.int v1), some (.int v2), some (.int v3), some (.int v4), some (.int v5), none, none] [] f g) {v1 : Int32} {v2 : Int32} {v3 : Int32} {v4 : Int32} {v5 : Int32} {s0 : Int32} {f : xM} {r : Int32 × xM} (h : pX12_share_b127 F K68 v1 v2 v3 v4 v5 s0 f = some r) : X mX12_share 6 (some (.int r.1), r.2, g) 127 [some (.ref 0), some (.int v1), some (.int v2), some (.int v3), some (.int v4), some (.int v5), none, none] [.int s0] f g := by
  unfold pX12_share_b127 at h
  refine X.istore (i := 7) (L' := [some (.ref 0), some (.int v1), some (.int v2), some (.int v3), some (.int v4), some (.int v5), none, some (.int s0)]) dX12_share_127 (Nat.le_of_ble_eq_true rfl) rfl ?_
  refine X.iload_n (i := 3) dX12_share_129 rfl rfl ?_
  refine X.iload (i := 7) dX12_share_130 rfl ?_
  refine X.aload_n (i := 0) dX12_share_132 rfl rfl ?_
  refine X.getR (k0 := 32) kX12 sM_0 (Nat.le_of_ble_eq_true rfl) rfl lfX12_51 dX12_share_133 ?_
  refine X.iload (i := 5) dX12_share_136 rfl ?_
  refine X.iconst (v := (1 : Int32)) dX12_share_138 (by decide) ?_
  refine X.iload_n (i := 1) dX12_share_139 rfl rfl ?_
  refine X.ishl dX12_share_140 ?_
  refine X.ior dX12_share_141 ?_
  by_cases c8 : xin (v5 ||| ((1 : Int32) <<< (v1 &&& 31))) 8
  rotate_left
  · rw [if_neg c8] at h; cases h
  rw [if_pos c8] at h
  refine X.iald sM_13 c8 dX12_share_142 ?_
  refine X.aload_n (i := 0) dX12_share_143 rfl rfl ?_
  refine X.getR (k0 := 32) kX12 sM_0 (Nat.le_of_ble_eq_true rfl) rfl lfX12_51 dX12_share_144 ?_
  refine X.iload (i := 5) dX12_share_147 rfl ?_
  by_cases c9 : xin v5 8
  rotate_left
  · rw [if_neg c9] at h; cases h
  rw [if_pos c9] at h
  refine X.iald sM_13 c9 dX12_share_149 ?_
  refine X.isub dX12_share_150 ?_
  refine X.imul dX12_share_151 ?_
  refine X.iadd dX12_share_152 ?_
  refine X.istore_n (i := 3) (L' := [some (.ref 0), some (.int v1), some (.int v2), some (.int (v3 + (s0 * ((f 13 (v5 ||| ((1 : Int32) <<< (v1 &&& 31))).toNatClampNeg) - (f 13 v5.toNatClampNeg))))), some (.int v4), some (.int v5), none, some (.int s0)]) dX12_share_153 rfl (Nat.le_of_ble_eq_true rfl) rfl ?_
  refine X.iinc (i := 5) (v := (v5 + (1 : Int32))) (L' := [some (.ref 0), some (.int v1), some (.int v2), some (.int (v3 + (s0 * ((f 13 (v5 ||| ((1 : Int32) <<< (v1 &&& 31))).toNatClampNeg) - (f 13 v5.toNatClampNeg))))), some (.int v4), some (.int (v5 + (1 : Int32))), none, some (.int s0)]) dX12_share_154 rfl rfl (Nat.le_of_ble_eq_true rfl) rfl ?_
  refine X.goto (tgt := 68) dX12_share_157 (by decide) ?_
  exact X.weaken (xle_c (xle_c (xle_c (xle_c (xle_c (xle_c (xle_n (xle_n xle_e)))))))) (hK68 h)
def pX12_share_b126 (F : Nat) (K68 : Int32 → Int32 → Int32 → Int32 → Int32 → xM → Option (Int32 × xM)) (v1 : Int32) (v2 : Int32) (v3 : Int32) (v4 : Int32) (v5 : Int32) (f : xM) : Option (Int32 × xM) := (pX12_share_b127 F K68 v1 v2 v3 v4 v5 (1 : Int32) f)
set_option maxRecDepth 100000 in
set_option maxHeartbeats 4000000 in
theorem tX12_share_b126 {F : Nat} {g : xN} {K68 : Int32 → Int32 → Int32 → Int32 → Int32 → xM → Option (Int32 × xM)} (hK68 : ∀ {v1 : Int32} {v2 : Int32} {v3 : Int32} {v4 : Int32} {v5 : Int32} {f : xM} {r : Int32 × xM}, K68 v1 v2 v3 v4 v5 f = some r → X mX12_share 6 (some (.int r.1), r.2, g) 68 [some (.ref 0), some (.int v1), some (.int v2), some (.int v3), some (.int v4), some (.int v5), none, none] [] f g) {v1 : Int32} {v2 : Int32} {v3 : Int32} {v4 : Int32} {v5 : Int32} {f : xM} {r : Int32 × xM} (h : pX12_share_b126 F K68 v1 v2 v3 v4 v5 f = some r) : X mX12_share 6 (some (.int r.1), r.2, g) 126 [some (.ref 0), some (.int v1), some (.int v2), some (.int v3), some (.int v4), some (.int v5), none, none] [] f g := by
  unfold pX12_share_b126 at h
  refine X.iconst (v := (1 : Int32)) dX12_share_126 (by decide) ?_
  exact X.weaken (xle_c (xle_c (xle_c (xle_c (xle_c (xle_c (xle_n (xle_n xle_e)))))))) (tX12_share_b127 hK68 h)
def pX12_share_b68 (F : Nat) : Nat → Int32 → Int32 → Int32 → Int32 → Int32 → xM → Option (Int32 × xM)
  | 0, _, _, _, _, _, _ => none
  | n + 1, v1, v2, v3, v4, v5, f => (if ((1 : Int32) <<< ((f 0 6) &&& 31)) ≤ v5 then (Option.bind (pX12_fraction F v3 v4 v2) fun q5 => some ((q5, f))) else (if (pX12_has v5 v1) = 0 then (if (f 0 6) = (3 : Int32) then (if (((v5 &&& (1 : Int32)) + ((v5 >>> ((1 : Int32) &&& 31)) &&& (1 : Int32))) + ((v5 >>> ((2 : Int32) &&& 31)) &&& (1 : Int32))) = (1 : Int32) then (pX12_share_b126 F (pX12_share_b68 F n) v1 v2 v3 v4 v5 f) else (pX12_share_b127 F (pX12_share_b68 F n) v1 v2 v3 v4 v5 (2 : Int32) f)) else (pX12_share_b126 F (pX12_share_b68 F n) v1 v2 v3 v4 v5 f)) else (pX12_share_b68 F n v1 v2 v3 v4 (v5 + (1 : Int32)) f)))
set_option maxRecDepth 100000 in
set_option maxHeartbeats 4000000 in
theorem tX12_share_b68 {F : Nat} {g : xN} : ∀ (n : Nat) {v1 : Int32} {v2 : Int32} {v3 : Int32} {v4 : Int32} {v5 : Int32} {f : xM} {r : Int32 × xM}, pX12_share_b68 F n v1 v2 v3 v4 v5 f = some r → X mX12_share 6 (some (.int r.1), r.2, g) 68 [some (.ref 0), some (.int v1), some (.int v2), some (.int v3), some (.int v4), some (.int v5), none, none] [] f g := by
  intro n
  induction n with
  | zero => intro v1 v2 v3 v4 v5 f r h; cases h
  | succ n ih =>
    intro v1 v2 v3 v4 v5 f r h
    rw [pX12_share_b68] at h
    refine X.iload (i := 5) dX12_share_68 rfl ?_
    refine X.iconst (v := (1 : Int32)) dX12_share_70 (by decide) ?_
    refine X.aload_n (i := 0) dX12_share_71 rfl rfl ?_
    refine X.getI (k0 := 6) kX12 sM_0 (Nat.le_of_ble_eq_true rfl) rfl lfX12_62 dX12_share_72 ?_
    refine X.ishl dX12_share_75 ?_
    refine X.icmp_ge (tgt := 160) dX12_share_76 (by decide) (fun c4 => ?_) (fun c4 => ?_)
    · rw [if_pos c4] at h
      refine X.iload_n (i := 3) dX12_share_160 rfl rfl ?_
      refine X.iload (i := 4) dX12_share_161 rfl ?_
      refine X.iload_n (i := 2) dX12_share_163 rfl rfl ?_
      obtain ⟨q5, e5, h⟩ := xbind h
      try dsimp only at h
      refine X.callS (μ' := mX12_fraction) (As := [.int v3, .int v4, .int v2]) (st := []) (st1 := [.int q5]) (r := some (.int q5)) (f' := f) (g' := g) (tX12_fraction e5) (Nat.le_of_ble_eq_true rfl) cwX12_fraction rfl mlX12_260 rfl rfl rfl (Nat.le_of_ble_eq_true rfl) dX12_share_164 ?_
      obtain rfl := Option.some.inj h
      exact X.iret dX12_share_167 rfl rfl
    · rw [if_neg c4] at h
      refine X.iload (i := 5) dX12_share_79 rfl ?_
      refine X.iload_n (i := 1) dX12_share_81 rfl rfl ?_
      refine X.callS (μ' := mX12_has) (As := [.int v5, .int v1]) (st := []) (st1 := [.int (pX12_has v5 v1)]) (r := some (.int (pX12_has v5 v1))) (f' := f) (g' := g) (tX12_has rfl) (Nat.le_of_ble_eq_true rfl) cwX12_has rfl mlX12_253 rfl rfl rfl (Nat.le_of_ble_eq_true rfl) dX12_share_82 ?_
      refine X.if_ne (tgt := 154) dX12_share_85 (by decide) (fun c6 => ?_) (fun c6 => ?_)
      · rw [if_neg c6] at h
        refine X.iinc (i := 5) (v := (v5 + (1 : Int32))) (L' := [some (.ref 0), some (.int v1), some (.int v2), some (.int v3), some (.int v4), some (.int (v5 + (1 : Int32))), none, none]) dX12_share_154 rfl rfl (Nat.le_of_ble_eq_true rfl) rfl ?_
        refine X.goto (tgt := 68) dX12_share_157 (by decide) ?_
        exact X.weaken (xle_c (xle_c (xle_c (xle_c (xle_c (xle_c (xle_n (xle_n xle_e)))))))) (ih h)
      · rw [if_pos c6] at h
        refine X.iload (i := 5) dX12_share_88 rfl ?_
        refine X.iconst (v := (1 : Int32)) dX12_share_90 (by decide) ?_
        refine X.iand dX12_share_91 ?_
        refine X.iload (i := 5) dX12_share_92 rfl ?_
        refine X.iconst (v := (1 : Int32)) dX12_share_94 (by decide) ?_
        refine X.ishr dX12_share_95 ?_
        refine X.iconst (v := (1 : Int32)) dX12_share_96 (by decide) ?_
        refine X.iand dX12_share_97 ?_
        refine X.iadd dX12_share_98 ?_
        refine X.iload (i := 5) dX12_share_99 rfl ?_
        refine X.iconst (v := (2 : Int32)) dX12_share_101 (by decide) ?_
        refine X.ishr dX12_share_102 ?_
        refine X.iconst (v := (1 : Int32)) dX12_share_103 (by decide) ?_
        refine X.iand dX12_share_104 ?_
        refine X.iadd dX12_share_105 ?_
        refine X.istore (i := 6) (L' := [some (.ref 0), some (.int v1), some (.int v2), some (.int v3), some (.int v4), some (.int v5), some (.int (((v5 &&& (1 : Int32)) + ((v5 >>> ((1 : Int32) &&& 31)) &&& (1 : Int32))) + ((v5 >>> ((2 : Int32) &&& 31)) &&& (1 : Int32)))), none]) dX12_share_106 (Nat.le_of_ble_eq_true rfl) rfl ?_
        refine X.aload_n (i := 0) dX12_share_108 rfl rfl ?_
        refine X.getI (k0 := 6) kX12 sM_0 (Nat.le_of_ble_eq_true rfl) rfl lfX12_62 dX12_share_109 ?_
        refine X.iconst (v := (3 : Int32)) dX12_share_112 (by decide) ?_
        refine X.icmp_ne (tgt := 126) dX12_share_113 (by decide) (fun c7 => ?_) (fun c7 => ?_)
        · rw [if_neg c7] at h
          exact X.weaken (xle_c (xle_c (xle_c (xle_c (xle_c (xle_c (xle_n (xle_n xle_e)))))))) (tX12_share_b126 ih h)
        · rw [if_pos c7] at h
          refine X.iload (i := 6) dX12_share_116 rfl ?_
          refine X.iconst (v := (1 : Int32)) dX12_share_118 (by decide) ?_
          refine X.icmp_eq (tgt := 126) dX12_share_119 (by decide) (fun c10 => ?_) (fun c10 => ?_)
          · rw [if_pos c10] at h
            exact X.weaken (xle_c (xle_c (xle_c (xle_c (xle_c (xle_c (xle_n (xle_n xle_e)))))))) (tX12_share_b126 ih h)
          · rw [if_neg c10] at h
            refine X.iconst (v := (2 : Int32)) dX12_share_122 (by decide) ?_
            refine X.goto (tgt := 127) dX12_share_123 (by decide) ?_
            exact X.weaken (xle_c (xle_c (xle_c (xle_c (xle_c (xle_c (xle_n (xle_n xle_e)))))))) (tX12_share_b127 ih h)
def pX12_share_b17 (F : Nat) : Nat → Int32 → Int32 → Int32 → xM → Option (Int32 × xM)
  | 0, _, _, _, _ => none
  | n + 1, v1, v2, v3, f => (if ((1 : Int32) <<< ((f 0 6) &&& 31)) ≤ v3 then (if (f 0 6) = (3 : Int32) then (pX12_share_b68 F F v1 v2 (0 : Int32) (6 : Int32) (0 : Int32) f) else (pX12_share_b68 F F v1 v2 (0 : Int32) (f 0 6) (0 : Int32) f)) else (Option.bind (pX12_mostRight F f v3) fun q11 => (if xin v3 8 then (pX12_share_b17 F n v1 v2 (v3 + (1 : Int32)) (xu f 13 v3.toNatClampNeg q11)) else none)))
set_option maxRecDepth 100000 in
set_option maxHeartbeats 4000000 in
theorem tX12_share_b17 {F : Nat} {g : xN} : ∀ (n : Nat) {v1 : Int32} {v2 : Int32} {v3 : Int32} {f : xM} {r : Int32 × xM}, pX12_share_b17 F n v1 v2 v3 f = some r → X mX12_share 6 (some (.int r.1), r.2, g) 17 [some (.ref 0), some (.int v1), some (.int v2), some (.int v3), none, none, none, none] [] f g := by
  intro n
  induction n with
  | zero => intro v1 v2 v3 f r h; cases h
  | succ n ih =>
    intro v1 v2 v3 f r h
    rw [pX12_share_b17] at h
    refine X.iload_n (i := 3) dX12_share_17 rfl rfl ?_
    refine X.iconst (v := (1 : Int32)) dX12_share_18 (by decide) ?_
    refine X.aload_n (i := 0) dX12_share_19 rfl rfl ?_
    refine X.getI (k0 := 6) kX12 sM_0 (Nat.le_of_ble_eq_true rfl) rfl lfX12_62 dX12_share_20 ?_
    refine X.ishl dX12_share_23 ?_
    refine X.icmp_ge (tgt := 44) dX12_share_24 (by decide) (fun c2 => ?_) (fun c2 => ?_)
    · rw [if_pos c2] at h
      refine X.iconst (v := (0 : Int32)) dX12_share_44 (by decide) ?_
      refine X.istore_n (i := 3) (L' := [some (.ref 0), some (.int v1), some (.int v2), some (.int (0 : Int32)), none, none, none, none]) dX12_share_45 rfl (Nat.le_of_ble_eq_true rfl) rfl ?_
      refine X.aload_n (i := 0) dX12_share_46 rfl rfl ?_
      refine X.getI (k0 := 6) kX12 sM_0 (Nat.le_of_ble_eq_true rfl) rfl lfX12_62 dX12_share_47 ?_
      refine X.iconst (v := (3 : Int32)) dX12_share_50 (by decide) ?_
      refine X.icmp_ne (tgt := 59) dX12_share_51 (by decide) (fun c3 => ?_) (fun c3 => ?_)
      · rw [if_neg c3] at h
        refine X.aload_n (i := 0) dX12_share_59 rfl rfl ?_
        refine X.getI (k0 := 6) kX12 sM_0 (Nat.le_of_ble_eq_true rfl) rfl lfX12_62 dX12_share_60 ?_
        refine X.istore (i := 4) (L' := [some (.ref 0), some (.int v1), some (.int v2), some (.int (0 : Int32)), some (.int (f 0 6)), none, none, none]) dX12_share_63 (Nat.le_of_ble_eq_true rfl) rfl ?_
        refine X.iconst (v := (0 : Int32)) dX12_share_65 (by decide) ?_
        refine X.istore (i := 5) (L' := [some (.ref 0), some (.int v1), some (.int v2), some (.int (0 : Int32)), some (.int (f 0 6)), some (.int (0 : Int32)), none, none]) dX12_share_66 (Nat.le_of_ble_eq_true rfl) rfl ?_
        exact X.weaken (xle_c (xle_c (xle_c (xle_c (xle_c (xle_c (xle_n (xle_n xle_e)))))))) (tX12_share_b68 F h)
      · rw [if_pos c3] at h
        refine X.bipush (v := (6 : Int32)) dX12_share_54 (by decide) ?_
        refine X.goto (tgt := 63) dX12_share_56 (by decide) ?_
        refine X.istore (i := 4) (L' := [some (.ref 0), some (.int v1), some (.int v2), some (.int (0 : Int32)), some (.int (6 : Int32)), none, none, none]) dX12_share_63 (Nat.le_of_ble_eq_true rfl) rfl ?_
        refine X.iconst (v := (0 : Int32)) dX12_share_65 (by decide) ?_
        refine X.istore (i := 5) (L' := [some (.ref 0), some (.int v1), some (.int v2), some (.int (0 : Int32)), some (.int (6 : Int32)), some (.int (0 : Int32)), none, none]) dX12_share_66 (Nat.le_of_ble_eq_true rfl) rfl ?_
        exact X.weaken (xle_c (xle_c (xle_c (xle_c (xle_c (xle_c (xle_n (xle_n xle_e)))))))) (tX12_share_b68 F h)
    · rw [if_neg c2] at h
      refine X.aload_n (i := 0) dX12_share_27 rfl rfl ?_
      refine X.getR (k0 := 32) kX12 sM_0 (Nat.le_of_ble_eq_true rfl) rfl lfX12_51 dX12_share_28 ?_
      refine X.iload_n (i := 3) dX12_share_31 rfl rfl ?_
      refine X.aload_n (i := 0) dX12_share_32 rfl rfl ?_
      refine X.iload_n (i := 3) dX12_share_33 rfl rfl ?_
      obtain ⟨q11, e11, h⟩ := xbind h
      try dsimp only at h
      refine X.callV (μ' := mX12_mostRight) (As := [.int v3]) (st := [.int v3, .ref 13]) (st1 := [.int q11, .int v3, .ref 13]) (r := some (.int q11)) (f' := f) (g' := g) (tX12_mostRight e11) (Nat.le_of_ble_eq_true rfl) cwX12_mostRight rfl mlX12_264 sM_0 kX12 rfl rfl rfl (Nat.le_of_ble_eq_true rfl) dX12_share_34 ?_
      by_cases c12 : xin v3 8
      rotate_left
      · rw [if_neg c12] at h; cases h
      rw [if_pos c12] at h
      refine X.iast sM_13 c12 dX12_share_37 ?_
      refine X.iinc (i := 3) (v := (v3 + (1 : Int32))) (L' := [some (.ref 0), some (.int v1), some (.int v2), some (.int (v3 + (1 : Int32))), none, none, none, none]) dX12_share_38 rfl rfl (Nat.le_of_ble_eq_true rfl) rfl ?_
      refine X.goto (tgt := 17) dX12_share_41 (by decide) ?_
      exact X.weaken (xle_c (xle_c (xle_c (xle_c (xle_n (xle_n (xle_n (xle_n xle_e)))))))) (ih h)
def pX12_share (F : Nat) (v1 : Int32) (v2 : Int32) (f : xM) : Option (Int32 × xM) := (if (pX12_noCompositor (xu f 0 0 (0 : Int32)) v1) = 0 then (pX12_share_b17 F F v1 v2 (0 : Int32) (xu f 0 0 (0 : Int32))) else some (((-1 : Int32), (xu f 0 0 (0 : Int32)))))
set_option maxRecDepth 100000 in
set_option maxHeartbeats 4000000 in
theorem tX12_share {F : Nat} {g : xN} {v1 : Int32} {v2 : Int32} {f : xM} {r : Int32 × xM} (h : pX12_share F v1 v2 f = some r) : XT mX12_share 6 [.ref 0, .int v1, .int v2] f g (some (.int r.1), r.2, g) := by
  unfold pX12_share at h
  refine XT.of (L := [some (.ref 0), some (.int v1), some (.int v2), none, none, none, none, none]) [some (.ref 0), some (.int v1), some (.int v2)] rfl (Nat.le_of_ble_eq_true rfl) rfl (xle_c (xle_c (xle_c (xle_z (xle_z (xle_z (xle_z (xle_z xle_e)))))))) ?_
  refine X.aload_n (i := 0) dX12_share_0 rfl rfl ?_
  refine X.iconst (v := (0 : Int32)) dX12_share_1 (by decide) ?_
  refine X.putI (k0 := 0) kX12 sM_0 (Nat.le_of_ble_eq_true rfl) rfl lfX12_57 rfl rfl dX12_share_2 ?_
  refine X.aload_n (i := 0) dX12_share_5 rfl rfl ?_
  refine X.iload_n (i := 1) dX12_share_6 rfl rfl ?_
  refine X.callV (μ' := mX12_noCompositor) (As := [.int v1]) (st := []) (st1 := [.int (pX12_noCompositor (xu f 0 0 (0 : Int32)) v1)]) (r := some (.int (pX12_noCompositor (xu f 0 0 (0 : Int32)) v1))) (f' := (xu f 0 0 (0 : Int32))) (g' := g) (tX12_noCompositor rfl) (Nat.le_of_ble_eq_true rfl) cwX12_noCompositor rfl mlX12_142 sM_0 kX12 rfl rfl rfl (Nat.le_of_ble_eq_true rfl) dX12_share_7 ?_
  refine X.if_eq (tgt := 15) dX12_share_10 (by decide) (fun c1 => ?_) (fun c1 => ?_)
  · rw [if_pos c1] at h
    refine X.iconst (v := (0 : Int32)) dX12_share_15 (by decide) ?_
    refine X.istore_n (i := 3) (L' := [some (.ref 0), some (.int v1), some (.int v2), some (.int (0 : Int32)), none, none, none, none]) dX12_share_16 rfl (Nat.le_of_ble_eq_true rfl) rfl ?_
    exact X.weaken (xle_c (xle_c (xle_c (xle_c (xle_n (xle_n (xle_n (xle_n xle_e)))))))) (tX12_share_b17 F h)
  · rw [if_neg c1] at h
    refine X.iconst (v := (-1 : Int32)) dX12_share_13 (by decide) ?_
    obtain rfl := Option.some.inj h
    exact X.iret dX12_share_14 rfl rfl
def pX12_seed (v1 : Int64) (f : xM) (g : xN) : Int64 × xM × xN := ((g 0 24), (xu f 0 0 (0 : Int32)), (xu g 0 24 v1))
set_option maxRecDepth 100000 in
set_option maxHeartbeats 4000000 in
theorem tX12_seed {v1 : Int64} {f : xM} {g : xN} {r : Int64 × xM × xN} (h : pX12_seed v1 f g = r) : XT mX12_seed 0 [.ref 0, .long v1] f g (some (.long r.1), r.2.1, r.2.2) := by
  unfold pX12_seed at h
  refine XT.of (L := [some (.ref 0), some (.long v1), none, none, none]) [some (.ref 0), some (.long v1), none] rfl (Nat.le_of_ble_eq_true rfl) rfl (xle_c (xle_c (xle_n (xle_z (xle_z xle_e))))) ?_
  refine X.aload_n (i := 0) dX12_seed_0 rfl rfl ?_
  refine X.iconst (v := (0 : Int32)) dX12_seed_1 (by decide) ?_
  refine X.putI (k0 := 0) kX12 sM_0 (Nat.le_of_ble_eq_true rfl) rfl lfX12_57 rfl rfl dX12_seed_2 ?_
  refine X.aload_n (i := 0) dX12_seed_5 rfl rfl ?_
  refine X.getL (k0 := 24) kX12 sM_0 (Nat.le_of_ble_eq_true rfl) rfl lfX12_267 dX12_seed_6 ?_
  refine X.lstore_n (i := 3) (L' := [some (.ref 0), some (.long v1), none, some (.long (g 0 24)), none]) dX12_seed_9 rfl (Nat.le_of_ble_eq_true rfl) rfl ?_
  refine X.aload_n (i := 0) dX12_seed_10 rfl rfl ?_
  refine X.lload_n (i := 1) dX12_seed_11 rfl rfl ?_
  refine X.putL (k0 := 24) kX12 sM_0 (Nat.le_of_ble_eq_true rfl) rfl lfX12_267 rfl rfl dX12_seed_12 ?_
  refine X.lload_n (i := 3) dX12_seed_15 rfl rfl ?_
  subst h
  exact X.lret dX12_seed_16 rfl rfl
def pX12_years_b32 (F : Nat) : Nat → Int32 → Int32 → Int32 → Int32 → xM → xN → Option (Int32 × xM × xN)
  | 0, _, _, _, _, _, _ => none
  | n + 1, v1, v2, v3, v4, f, g => (if v1 ≤ v4 then some ((v3, f, g)) else (if (pX12_noNotice f ((((((((xu g 0 24 (((g 0 24) * (6364136223846793005 : Int64)) + (1442695040888963407 : Int64))) 0 24).toUInt64 >>> ((33 : Int32).toInt64.toUInt64 &&& Int64.toUInt64 63)).toInt64 - (((xu g 0 24 (((g 0 24) * (6364136223846793005 : Int64)) + (1442695040888963407 : Int64))) 0 24).toUInt64 >>> ((33 : Int32).toInt64.toUInt64 &&& Int64.toUInt64 63)).toInt64 / (60 : Int64) * (60 : Int64)).toInt32 / (20 : Int32)) * (100 : Int32)) + (((((((xu g 0 24 (((g 0 24) * (6364136223846793005 : Int64)) + (1442695040888963407 : Int64))) 0 24).toUInt64 >>> ((33 : Int32).toInt64.toUInt64 &&& Int64.toUInt64 63)).toInt64 - (((xu g 0 24 (((g 0 24) * (6364136223846793005 : Int64)) + (1442695040888963407 : Int64))) 0 24).toUInt64 >>> ((33 : Int32).toInt64.toUInt64 &&& Int64.toUInt64 63)).toInt64 / (60 : Int64) * (60 : Int64)).toInt32 - ((((xu g 0 24 (((g 0 24) * (6364136223846793005 : Int64)) + (1442695040888963407 : Int64))) 0 24).toUInt64 >>> ((33 : Int32).toInt64.toUInt64 &&& Int64.toUInt64 63)).toInt64 - (((xu g 0 24 (((g 0 24) * (6364136223846793005 : Int64)) + (1442695040888963407 : Int64))) 0 24).toUInt64 >>> ((33 : Int32).toInt64.toUInt64 &&& Int64.toUInt64 63)).toInt64 / (60 : Int64) * (60 : Int64)).toInt32 / (20 : Int32) * (20 : Int32)) / (4 : Int32)) * (10 : Int32))) + (((((xu g 0 24 (((g 0 24) * (6364136223846793005 : Int64)) + (1442695040888963407 : Int64))) 0 24).toUInt64 >>> ((33 : Int32).toInt64.toUInt64 &&& Int64.toUInt64 63)).toInt64 - (((xu g 0 24 (((g 0 24) * (6364136223846793005 : Int64)) + (1442695040888963407 : Int64))) 0 24).toUInt64 >>> ((33 : Int32).toInt64.toUInt64 &&& Int64.toUInt64 63)).toInt64 / (60 : Int64) * (60 : Int64)).toInt32 - ((((xu g 0 24 (((g 0 24) * (6364136223846793005 : Int64)) + (1442695040888963407 : Int64))) 0 24).toUInt64 >>> ((33 : Int32).toInt64.toUInt64 &&& Int64.toUInt64 63)).toInt64 - (((xu g 0 24 (((g 0 24) * (6364136223846793005 : Int64)) + (1442695040888963407 : Int64))) 0 24).toUInt64 >>> ((33 : Int32).toInt64.toUInt64 &&& Int64.toUInt64 63)).toInt64 / (60 : Int64) * (60 : Int64)).toInt32 / (4 : Int32) * (4 : Int32)))) = 0 then (Option.bind (pX12_noticed F f v2 ((((((((xu g 0 24 (((g 0 24) * (6364136223846793005 : Int64)) + (1442695040888963407 : Int64))) 0 24).toUInt64 >>> ((33 : Int32).toInt64.toUInt64 &&& Int64.toUInt64 63)).toInt64 - (((xu g 0 24 (((g 0 24) * (6364136223846793005 : Int64)) + (1442695040888963407 : Int64))) 0 24).toUInt64 >>> ((33 : Int32).toInt64.toUInt64 &&& Int64.toUInt64 63)).toInt64 / (60 : Int64) * (60 : Int64)).toInt32 / (20 : Int32)) * (100 : Int32)) + (((((((xu g 0 24 (((g 0 24) * (6364136223846793005 : Int64)) + (1442695040888963407 : Int64))) 0 24).toUInt64 >>> ((33 : Int32).toInt64.toUInt64 &&& Int64.toUInt64 63)).toInt64 - (((xu g 0 24 (((g 0 24) * (6364136223846793005 : Int64)) + (1442695040888963407 : Int64))) 0 24).toUInt64 >>> ((33 : Int32).toInt64.toUInt64 &&& Int64.toUInt64 63)).toInt64 / (60 : Int64) * (60 : Int64)).toInt32 - ((((xu g 0 24 (((g 0 24) * (6364136223846793005 : Int64)) + (1442695040888963407 : Int64))) 0 24).toUInt64 >>> ((33 : Int32).toInt64.toUInt64 &&& Int64.toUInt64 63)).toInt64 - (((xu g 0 24 (((g 0 24) * (6364136223846793005 : Int64)) + (1442695040888963407 : Int64))) 0 24).toUInt64 >>> ((33 : Int32).toInt64.toUInt64 &&& Int64.toUInt64 63)).toInt64 / (60 : Int64) * (60 : Int64)).toInt32 / (20 : Int32) * (20 : Int32)) / (4 : Int32)) * (10 : Int32))) + (((((xu g 0 24 (((g 0 24) * (6364136223846793005 : Int64)) + (1442695040888963407 : Int64))) 0 24).toUInt64 >>> ((33 : Int32).toInt64.toUInt64 &&& Int64.toUInt64 63)).toInt64 - (((xu g 0 24 (((g 0 24) * (6364136223846793005 : Int64)) + (1442695040888963407 : Int64))) 0 24).toUInt64 >>> ((33 : Int32).toInt64.toUInt64 &&& Int64.toUInt64 63)).toInt64 / (60 : Int64) * (60 : Int64)).toInt32 - ((((xu g 0 24 (((g 0 24) * (6364136223846793005 : Int64)) + (1442695040888963407 : Int64))) 0 24).toUInt64 >>> ((33 : Int32).toInt64.toUInt64 &&& Int64.toUInt64 63)).toInt64 - (((xu g 0 24 (((g 0 24) * (6364136223846793005 : Int64)) + (1442695040888963407 : Int64))) 0 24).toUInt64 >>> ((33 : Int32).toInt64.toUInt64 &&& Int64.toUInt64 63)).toInt64 / (60 : Int64) * (60 : Int64)).toInt32 / (4 : Int32) * (4 : Int32)))) fun q4 => (Option.bind (pX12_rightOf F f q4) fun q5 => (pX12_years_b32 F n v1 q4 (v3 + q5) (v4 + (1 : Int32)) f (xu g 0 24 (((g 0 24) * (6364136223846793005 : Int64)) + (1442695040888963407 : Int64)))))) else (Option.bind (pX12_rightOf F f v2) fun q6 => (pX12_years_b32 F n v1 v2 (v3 + q6) (v4 + (1 : Int32)) f (xu g 0 24 (((g 0 24) * (6364136223846793005 : Int64)) + (1442695040888963407 : Int64)))))))
set_option maxRecDepth 100000 in
set_option maxHeartbeats 4000000 in
theorem tX12_years_b32 {F : Nat} : ∀ (n : Nat) {v1 : Int32} {v2 : Int32} {v3 : Int32} {v4 : Int32} {f : xM} {g : xN} {r : Int32 × xM × xN}, pX12_years_b32 F n v1 v2 v3 v4 f g = some r → X mX12_years 5 (some (.int r.1), r.2.1, r.2.2) 32 [some (.ref 0), some (.int v1), some (.int v2), some (.int v3), some (.int v4), none, none] [] f g := by
  intro n
  induction n with
  | zero => intro v1 v2 v3 v4 f g r h; cases h
  | succ n ih =>
    intro v1 v2 v3 v4 f g r h
    rw [pX12_years_b32] at h
    refine X.iload (i := 4) dX12_years_32 rfl ?_
    refine X.iload_n (i := 1) dX12_years_34 rfl rfl ?_
    refine X.icmp_ge (tgt := 129) dX12_years_35 (by decide) (fun c2 => ?_) (fun c2 => ?_)
    · rw [if_pos c2] at h
      refine X.iload_n (i := 3) dX12_years_129 rfl rfl ?_
      obtain rfl := Option.some.inj h
      exact X.iret dX12_years_130 rfl rfl
    · rw [if_neg c2] at h
      refine X.aload_n (i := 0) dX12_years_38 rfl rfl ?_
      refine X.aload_n (i := 0) dX12_years_39 rfl rfl ?_
      refine X.getL (k0 := 24) kX12 sM_0 (Nat.le_of_ble_eq_true rfl) rfl lfX12_267 dX12_years_40 ?_
      refine X.ldc2 dX12_years_43 lcX12_273 ?_
      refine X.lmul dX12_years_46 ?_
      refine X.ldc2 dX12_years_47 lcX12_275 ?_
      refine X.ladd dX12_years_50 ?_
      refine X.putL (k0 := 24) kX12 sM_0 (Nat.le_of_ble_eq_true rfl) rfl lfX12_267 rfl rfl dX12_years_51 ?_
      refine X.aload_n (i := 0) dX12_years_54 rfl rfl ?_
      refine X.getL (k0 := 24) kX12 sM_0 (Nat.le_of_ble_eq_true rfl) rfl lfX12_267 dX12_years_55 ?_
      refine X.bipush (v := (33 : Int32)) dX12_years_58 (by decide) ?_
      refine X.lushr dX12_years_60 ?_
      refine X.ldc2 dX12_years_61 lcX12_277 ?_
      refine X.lrem dX12_years_64 (by decide) ?_
      refine X.l2i dX12_years_65 ?_
      refine X.istore (i := 5) (L' := [some (.ref 0), some (.int v1), some (.int v2), some (.int v3), some (.int v4), some (.int ((((xu g 0 24 (((g 0 24) * (6364136223846793005 : Int64)) + (1442695040888963407 : Int64))) 0 24).toUInt64 >>> ((33 : Int32).toInt64.toUInt64 &&& Int64.toUInt64 63)).toInt64 - (((xu g 0 24 (((g 0 24) * (6364136223846793005 : Int64)) + (1442695040888963407 : Int64))) 0 24).toUInt64 >>> ((33 : Int32).toInt64.toUInt64 &&& Int64.toUInt64 63)).toInt64 / (60 : Int64) * (60 : Int64)).toInt32), none]) dX12_years_66 (Nat.le_of_ble_eq_true rfl) rfl ?_
      refine X.iload (i := 5) dX12_years_68 rfl ?_
      refine X.bipush (v := (20 : Int32)) dX12_years_70 (by decide) ?_
      refine X.idiv dX12_years_72 (by decide) ?_
      refine X.bipush (v := (100 : Int32)) dX12_years_73 (by decide) ?_
      refine X.imul dX12_years_75 ?_
      refine X.iload (i := 5) dX12_years_76 rfl ?_
      refine X.bipush (v := (20 : Int32)) dX12_years_78 (by decide) ?_
      refine X.irem dX12_years_80 (by decide) ?_
      refine X.iconst (v := (4 : Int32)) dX12_years_81 (by decide) ?_
      refine X.idiv dX12_years_82 (by decide) ?_
      refine X.bipush (v := (10 : Int32)) dX12_years_83 (by decide) ?_
      refine X.imul dX12_years_85 ?_
      refine X.iadd dX12_years_86 ?_
      refine X.iload (i := 5) dX12_years_87 rfl ?_
      refine X.iconst (v := (4 : Int32)) dX12_years_89 (by decide) ?_
      refine X.irem dX12_years_90 (by decide) ?_
      refine X.iadd dX12_years_91 ?_
      refine X.istore (i := 6) (L' := [some (.ref 0), some (.int v1), some (.int v2), some (.int v3), some (.int v4), some (.int ((((xu g 0 24 (((g 0 24) * (6364136223846793005 : Int64)) + (1442695040888963407 : Int64))) 0 24).toUInt64 >>> ((33 : Int32).toInt64.toUInt64 &&& Int64.toUInt64 63)).toInt64 - (((xu g 0 24 (((g 0 24) * (6364136223846793005 : Int64)) + (1442695040888963407 : Int64))) 0 24).toUInt64 >>> ((33 : Int32).toInt64.toUInt64 &&& Int64.toUInt64 63)).toInt64 / (60 : Int64) * (60 : Int64)).toInt32), some (.int ((((((((xu g 0 24 (((g 0 24) * (6364136223846793005 : Int64)) + (1442695040888963407 : Int64))) 0 24).toUInt64 >>> ((33 : Int32).toInt64.toUInt64 &&& Int64.toUInt64 63)).toInt64 - (((xu g 0 24 (((g 0 24) * (6364136223846793005 : Int64)) + (1442695040888963407 : Int64))) 0 24).toUInt64 >>> ((33 : Int32).toInt64.toUInt64 &&& Int64.toUInt64 63)).toInt64 / (60 : Int64) * (60 : Int64)).toInt32 / (20 : Int32)) * (100 : Int32)) + (((((((xu g 0 24 (((g 0 24) * (6364136223846793005 : Int64)) + (1442695040888963407 : Int64))) 0 24).toUInt64 >>> ((33 : Int32).toInt64.toUInt64 &&& Int64.toUInt64 63)).toInt64 - (((xu g 0 24 (((g 0 24) * (6364136223846793005 : Int64)) + (1442695040888963407 : Int64))) 0 24).toUInt64 >>> ((33 : Int32).toInt64.toUInt64 &&& Int64.toUInt64 63)).toInt64 / (60 : Int64) * (60 : Int64)).toInt32 - ((((xu g 0 24 (((g 0 24) * (6364136223846793005 : Int64)) + (1442695040888963407 : Int64))) 0 24).toUInt64 >>> ((33 : Int32).toInt64.toUInt64 &&& Int64.toUInt64 63)).toInt64 - (((xu g 0 24 (((g 0 24) * (6364136223846793005 : Int64)) + (1442695040888963407 : Int64))) 0 24).toUInt64 >>> ((33 : Int32).toInt64.toUInt64 &&& Int64.toUInt64 63)).toInt64 / (60 : Int64) * (60 : Int64)).toInt32 / (20 : Int32) * (20 : Int32)) / (4 : Int32)) * (10 : Int32))) + (((((xu g 0 24 (((g 0 24) * (6364136223846793005 : Int64)) + (1442695040888963407 : Int64))) 0 24).toUInt64 >>> ((33 : Int32).toInt64.toUInt64 &&& Int64.toUInt64 63)).toInt64 - (((xu g 0 24 (((g 0 24) * (6364136223846793005 : Int64)) + (1442695040888963407 : Int64))) 0 24).toUInt64 >>> ((33 : Int32).toInt64.toUInt64 &&& Int64.toUInt64 63)).toInt64 / (60 : Int64) * (60 : Int64)).toInt32 - ((((xu g 0 24 (((g 0 24) * (6364136223846793005 : Int64)) + (1442695040888963407 : Int64))) 0 24).toUInt64 >>> ((33 : Int32).toInt64.toUInt64 &&& Int64.toUInt64 63)).toInt64 - (((xu g 0 24 (((g 0 24) * (6364136223846793005 : Int64)) + (1442695040888963407 : Int64))) 0 24).toUInt64 >>> ((33 : Int32).toInt64.toUInt64 &&& Int64.toUInt64 63)).toInt64 / (60 : Int64) * (60 : Int64)).toInt32 / (4 : Int32) * (4 : Int32))))]) dX12_years_92 (Nat.le_of_ble_eq_true rfl) rfl ?_
      refine X.aload_n (i := 0) dX12_years_94 rfl rfl ?_
      refine X.iload (i := 6) dX12_years_95 rfl ?_
      refine X.callV (μ' := mX12_noNotice) (As := [.int ((((((((xu g 0 24 (((g 0 24) * (6364136223846793005 : Int64)) + (1442695040888963407 : Int64))) 0 24).toUInt64 >>> ((33 : Int32).toInt64.toUInt64 &&& Int64.toUInt64 63)).toInt64 - (((xu g 0 24 (((g 0 24) * (6364136223846793005 : Int64)) + (1442695040888963407 : Int64))) 0 24).toUInt64 >>> ((33 : Int32).toInt64.toUInt64 &&& Int64.toUInt64 63)).toInt64 / (60 : Int64) * (60 : Int64)).toInt32 / (20 : Int32)) * (100 : Int32)) + (((((((xu g 0 24 (((g 0 24) * (6364136223846793005 : Int64)) + (1442695040888963407 : Int64))) 0 24).toUInt64 >>> ((33 : Int32).toInt64.toUInt64 &&& Int64.toUInt64 63)).toInt64 - (((xu g 0 24 (((g 0 24) * (6364136223846793005 : Int64)) + (1442695040888963407 : Int64))) 0 24).toUInt64 >>> ((33 : Int32).toInt64.toUInt64 &&& Int64.toUInt64 63)).toInt64 / (60 : Int64) * (60 : Int64)).toInt32 - ((((xu g 0 24 (((g 0 24) * (6364136223846793005 : Int64)) + (1442695040888963407 : Int64))) 0 24).toUInt64 >>> ((33 : Int32).toInt64.toUInt64 &&& Int64.toUInt64 63)).toInt64 - (((xu g 0 24 (((g 0 24) * (6364136223846793005 : Int64)) + (1442695040888963407 : Int64))) 0 24).toUInt64 >>> ((33 : Int32).toInt64.toUInt64 &&& Int64.toUInt64 63)).toInt64 / (60 : Int64) * (60 : Int64)).toInt32 / (20 : Int32) * (20 : Int32)) / (4 : Int32)) * (10 : Int32))) + (((((xu g 0 24 (((g 0 24) * (6364136223846793005 : Int64)) + (1442695040888963407 : Int64))) 0 24).toUInt64 >>> ((33 : Int32).toInt64.toUInt64 &&& Int64.toUInt64 63)).toInt64 - (((xu g 0 24 (((g 0 24) * (6364136223846793005 : Int64)) + (1442695040888963407 : Int64))) 0 24).toUInt64 >>> ((33 : Int32).toInt64.toUInt64 &&& Int64.toUInt64 63)).toInt64 / (60 : Int64) * (60 : Int64)).toInt32 - ((((xu g 0 24 (((g 0 24) * (6364136223846793005 : Int64)) + (1442695040888963407 : Int64))) 0 24).toUInt64 >>> ((33 : Int32).toInt64.toUInt64 &&& Int64.toUInt64 63)).toInt64 - (((xu g 0 24 (((g 0 24) * (6364136223846793005 : Int64)) + (1442695040888963407 : Int64))) 0 24).toUInt64 >>> ((33 : Int32).toInt64.toUInt64 &&& Int64.toUInt64 63)).toInt64 / (60 : Int64) * (60 : Int64)).toInt32 / (4 : Int32) * (4 : Int32)))]) (st := []) (st1 := [.int (pX12_noNotice f ((((((((xu g 0 24 (((g 0 24) * (6364136223846793005 : Int64)) + (1442695040888963407 : Int64))) 0 24).toUInt64 >>> ((33 : Int32).toInt64.toUInt64 &&& Int64.toUInt64 63)).toInt64 - (((xu g 0 24 (((g 0 24) * (6364136223846793005 : Int64)) + (1442695040888963407 : Int64))) 0 24).toUInt64 >>> ((33 : Int32).toInt64.toUInt64 &&& Int64.toUInt64 63)).toInt64 / (60 : Int64) * (60 : Int64)).toInt32 / (20 : Int32)) * (100 : Int32)) + (((((((xu g 0 24 (((g 0 24) * (6364136223846793005 : Int64)) + (1442695040888963407 : Int64))) 0 24).toUInt64 >>> ((33 : Int32).toInt64.toUInt64 &&& Int64.toUInt64 63)).toInt64 - (((xu g 0 24 (((g 0 24) * (6364136223846793005 : Int64)) + (1442695040888963407 : Int64))) 0 24).toUInt64 >>> ((33 : Int32).toInt64.toUInt64 &&& Int64.toUInt64 63)).toInt64 / (60 : Int64) * (60 : Int64)).toInt32 - ((((xu g 0 24 (((g 0 24) * (6364136223846793005 : Int64)) + (1442695040888963407 : Int64))) 0 24).toUInt64 >>> ((33 : Int32).toInt64.toUInt64 &&& Int64.toUInt64 63)).toInt64 - (((xu g 0 24 (((g 0 24) * (6364136223846793005 : Int64)) + (1442695040888963407 : Int64))) 0 24).toUInt64 >>> ((33 : Int32).toInt64.toUInt64 &&& Int64.toUInt64 63)).toInt64 / (60 : Int64) * (60 : Int64)).toInt32 / (20 : Int32) * (20 : Int32)) / (4 : Int32)) * (10 : Int32))) + (((((xu g 0 24 (((g 0 24) * (6364136223846793005 : Int64)) + (1442695040888963407 : Int64))) 0 24).toUInt64 >>> ((33 : Int32).toInt64.toUInt64 &&& Int64.toUInt64 63)).toInt64 - (((xu g 0 24 (((g 0 24) * (6364136223846793005 : Int64)) + (1442695040888963407 : Int64))) 0 24).toUInt64 >>> ((33 : Int32).toInt64.toUInt64 &&& Int64.toUInt64 63)).toInt64 / (60 : Int64) * (60 : Int64)).toInt32 - ((((xu g 0 24 (((g 0 24) * (6364136223846793005 : Int64)) + (1442695040888963407 : Int64))) 0 24).toUInt64 >>> ((33 : Int32).toInt64.toUInt64 &&& Int64.toUInt64 63)).toInt64 - (((xu g 0 24 (((g 0 24) * (6364136223846793005 : Int64)) + (1442695040888963407 : Int64))) 0 24).toUInt64 >>> ((33 : Int32).toInt64.toUInt64 &&& Int64.toUInt64 63)).toInt64 / (60 : Int64) * (60 : Int64)).toInt32 / (4 : Int32) * (4 : Int32))))]) (r := some (.int (pX12_noNotice f ((((((((xu g 0 24 (((g 0 24) * (6364136223846793005 : Int64)) + (1442695040888963407 : Int64))) 0 24).toUInt64 >>> ((33 : Int32).toInt64.toUInt64 &&& Int64.toUInt64 63)).toInt64 - (((xu g 0 24 (((g 0 24) * (6364136223846793005 : Int64)) + (1442695040888963407 : Int64))) 0 24).toUInt64 >>> ((33 : Int32).toInt64.toUInt64 &&& Int64.toUInt64 63)).toInt64 / (60 : Int64) * (60 : Int64)).toInt32 / (20 : Int32)) * (100 : Int32)) + (((((((xu g 0 24 (((g 0 24) * (6364136223846793005 : Int64)) + (1442695040888963407 : Int64))) 0 24).toUInt64 >>> ((33 : Int32).toInt64.toUInt64 &&& Int64.toUInt64 63)).toInt64 - (((xu g 0 24 (((g 0 24) * (6364136223846793005 : Int64)) + (1442695040888963407 : Int64))) 0 24).toUInt64 >>> ((33 : Int32).toInt64.toUInt64 &&& Int64.toUInt64 63)).toInt64 / (60 : Int64) * (60 : Int64)).toInt32 - ((((xu g 0 24 (((g 0 24) * (6364136223846793005 : Int64)) + (1442695040888963407 : Int64))) 0 24).toUInt64 >>> ((33 : Int32).toInt64.toUInt64 &&& Int64.toUInt64 63)).toInt64 - (((xu g 0 24 (((g 0 24) * (6364136223846793005 : Int64)) + (1442695040888963407 : Int64))) 0 24).toUInt64 >>> ((33 : Int32).toInt64.toUInt64 &&& Int64.toUInt64 63)).toInt64 / (60 : Int64) * (60 : Int64)).toInt32 / (20 : Int32) * (20 : Int32)) / (4 : Int32)) * (10 : Int32))) + (((((xu g 0 24 (((g 0 24) * (6364136223846793005 : Int64)) + (1442695040888963407 : Int64))) 0 24).toUInt64 >>> ((33 : Int32).toInt64.toUInt64 &&& Int64.toUInt64 63)).toInt64 - (((xu g 0 24 (((g 0 24) * (6364136223846793005 : Int64)) + (1442695040888963407 : Int64))) 0 24).toUInt64 >>> ((33 : Int32).toInt64.toUInt64 &&& Int64.toUInt64 63)).toInt64 / (60 : Int64) * (60 : Int64)).toInt32 - ((((xu g 0 24 (((g 0 24) * (6364136223846793005 : Int64)) + (1442695040888963407 : Int64))) 0 24).toUInt64 >>> ((33 : Int32).toInt64.toUInt64 &&& Int64.toUInt64 63)).toInt64 - (((xu g 0 24 (((g 0 24) * (6364136223846793005 : Int64)) + (1442695040888963407 : Int64))) 0 24).toUInt64 >>> ((33 : Int32).toInt64.toUInt64 &&& Int64.toUInt64 63)).toInt64 / (60 : Int64) * (60 : Int64)).toInt32 / (4 : Int32) * (4 : Int32)))))) (f' := f) (g' := (xu g 0 24 (((g 0 24) * (6364136223846793005 : Int64)) + (1442695040888963407 : Int64)))) (tX12_noNotice rfl) (Nat.le_of_ble_eq_true rfl) cwX12_noNotice rfl mlX12_174 sM_0 kX12 rfl rfl rfl (Nat.le_of_ble_eq_true rfl) dX12_years_97 ?_
      refine X.if_eq (tgt := 107) dX12_years_100 (by decide) (fun c3 => ?_) (fun c3 => ?_)
      · rw [if_pos c3] at h
        refine X.aload_n (i := 0) dX12_years_107 rfl rfl ?_
        refine X.iload_n (i := 2) dX12_years_108 rfl rfl ?_
        refine X.iload (i := 6) dX12_years_109 rfl ?_
        obtain ⟨q4, e4, h⟩ := xbind h
        try dsimp only at h
        refine X.callV (μ' := mX12_noticed) (As := [.int v2, .int ((((((((xu g 0 24 (((g 0 24) * (6364136223846793005 : Int64)) + (1442695040888963407 : Int64))) 0 24).toUInt64 >>> ((33 : Int32).toInt64.toUInt64 &&& Int64.toUInt64 63)).toInt64 - (((xu g 0 24 (((g 0 24) * (6364136223846793005 : Int64)) + (1442695040888963407 : Int64))) 0 24).toUInt64 >>> ((33 : Int32).toInt64.toUInt64 &&& Int64.toUInt64 63)).toInt64 / (60 : Int64) * (60 : Int64)).toInt32 / (20 : Int32)) * (100 : Int32)) + (((((((xu g 0 24 (((g 0 24) * (6364136223846793005 : Int64)) + (1442695040888963407 : Int64))) 0 24).toUInt64 >>> ((33 : Int32).toInt64.toUInt64 &&& Int64.toUInt64 63)).toInt64 - (((xu g 0 24 (((g 0 24) * (6364136223846793005 : Int64)) + (1442695040888963407 : Int64))) 0 24).toUInt64 >>> ((33 : Int32).toInt64.toUInt64 &&& Int64.toUInt64 63)).toInt64 / (60 : Int64) * (60 : Int64)).toInt32 - ((((xu g 0 24 (((g 0 24) * (6364136223846793005 : Int64)) + (1442695040888963407 : Int64))) 0 24).toUInt64 >>> ((33 : Int32).toInt64.toUInt64 &&& Int64.toUInt64 63)).toInt64 - (((xu g 0 24 (((g 0 24) * (6364136223846793005 : Int64)) + (1442695040888963407 : Int64))) 0 24).toUInt64 >>> ((33 : Int32).toInt64.toUInt64 &&& Int64.toUInt64 63)).toInt64 / (60 : Int64) * (60 : Int64)).toInt32 / (20 : Int32) * (20 : Int32)) / (4 : Int32)) * (10 : Int32))) + (((((xu g 0 24 (((g 0 24) * (6364136223846793005 : Int64)) + (1442695040888963407 : Int64))) 0 24).toUInt64 >>> ((33 : Int32).toInt64.toUInt64 &&& Int64.toUInt64 63)).toInt64 - (((xu g 0 24 (((g 0 24) * (6364136223846793005 : Int64)) + (1442695040888963407 : Int64))) 0 24).toUInt64 >>> ((33 : Int32).toInt64.toUInt64 &&& Int64.toUInt64 63)).toInt64 / (60 : Int64) * (60 : Int64)).toInt32 - ((((xu g 0 24 (((g 0 24) * (6364136223846793005 : Int64)) + (1442695040888963407 : Int64))) 0 24).toUInt64 >>> ((33 : Int32).toInt64.toUInt64 &&& Int64.toUInt64 63)).toInt64 - (((xu g 0 24 (((g 0 24) * (6364136223846793005 : Int64)) + (1442695040888963407 : Int64))) 0 24).toUInt64 >>> ((33 : Int32).toInt64.toUInt64 &&& Int64.toUInt64 63)).toInt64 / (60 : Int64) * (60 : Int64)).toInt32 / (4 : Int32) * (4 : Int32)))]) (st := []) (st1 := [.int q4]) (r := some (.int q4)) (f' := f) (g' := (xu g 0 24 (((g 0 24) * (6364136223846793005 : Int64)) + (1442695040888963407 : Int64)))) (tX12_noticed e4) (Nat.le_of_ble_eq_true rfl) cwX12_noticed rfl mlX12_177 sM_0 kX12 rfl rfl rfl (Nat.le_of_ble_eq_true rfl) dX12_years_111 ?_
        refine X.istore_n (i := 2) (L' := [some (.ref 0), some (.int v1), some (.int q4), some (.int v3), some (.int v4), some (.int ((((xu g 0 24 (((g 0 24) * (6364136223846793005 : Int64)) + (1442695040888963407 : Int64))) 0 24).toUInt64 >>> ((33 : Int32).toInt64.toUInt64 &&& Int64.toUInt64 63)).toInt64 - (((xu g 0 24 (((g 0 24) * (6364136223846793005 : Int64)) + (1442695040888963407 : Int64))) 0 24).toUInt64 >>> ((33 : Int32).toInt64.toUInt64 &&& Int64.toUInt64 63)).toInt64 / (60 : Int64) * (60 : Int64)).toInt32), some (.int ((((((((xu g 0 24 (((g 0 24) * (6364136223846793005 : Int64)) + (1442695040888963407 : Int64))) 0 24).toUInt64 >>> ((33 : Int32).toInt64.toUInt64 &&& Int64.toUInt64 63)).toInt64 - (((xu g 0 24 (((g 0 24) * (6364136223846793005 : Int64)) + (1442695040888963407 : Int64))) 0 24).toUInt64 >>> ((33 : Int32).toInt64.toUInt64 &&& Int64.toUInt64 63)).toInt64 / (60 : Int64) * (60 : Int64)).toInt32 / (20 : Int32)) * (100 : Int32)) + (((((((xu g 0 24 (((g 0 24) * (6364136223846793005 : Int64)) + (1442695040888963407 : Int64))) 0 24).toUInt64 >>> ((33 : Int32).toInt64.toUInt64 &&& Int64.toUInt64 63)).toInt64 - (((xu g 0 24 (((g 0 24) * (6364136223846793005 : Int64)) + (1442695040888963407 : Int64))) 0 24).toUInt64 >>> ((33 : Int32).toInt64.toUInt64 &&& Int64.toUInt64 63)).toInt64 / (60 : Int64) * (60 : Int64)).toInt32 - ((((xu g 0 24 (((g 0 24) * (6364136223846793005 : Int64)) + (1442695040888963407 : Int64))) 0 24).toUInt64 >>> ((33 : Int32).toInt64.toUInt64 &&& Int64.toUInt64 63)).toInt64 - (((xu g 0 24 (((g 0 24) * (6364136223846793005 : Int64)) + (1442695040888963407 : Int64))) 0 24).toUInt64 >>> ((33 : Int32).toInt64.toUInt64 &&& Int64.toUInt64 63)).toInt64 / (60 : Int64) * (60 : Int64)).toInt32 / (20 : Int32) * (20 : Int32)) / (4 : Int32)) * (10 : Int32))) + (((((xu g 0 24 (((g 0 24) * (6364136223846793005 : Int64)) + (1442695040888963407 : Int64))) 0 24).toUInt64 >>> ((33 : Int32).toInt64.toUInt64 &&& Int64.toUInt64 63)).toInt64 - (((xu g 0 24 (((g 0 24) * (6364136223846793005 : Int64)) + (1442695040888963407 : Int64))) 0 24).toUInt64 >>> ((33 : Int32).toInt64.toUInt64 &&& Int64.toUInt64 63)).toInt64 / (60 : Int64) * (60 : Int64)).toInt32 - ((((xu g 0 24 (((g 0 24) * (6364136223846793005 : Int64)) + (1442695040888963407 : Int64))) 0 24).toUInt64 >>> ((33 : Int32).toInt64.toUInt64 &&& Int64.toUInt64 63)).toInt64 - (((xu g 0 24 (((g 0 24) * (6364136223846793005 : Int64)) + (1442695040888963407 : Int64))) 0 24).toUInt64 >>> ((33 : Int32).toInt64.toUInt64 &&& Int64.toUInt64 63)).toInt64 / (60 : Int64) * (60 : Int64)).toInt32 / (4 : Int32) * (4 : Int32))))]) dX12_years_114 rfl (Nat.le_of_ble_eq_true rfl) rfl ?_
        refine X.iload_n (i := 3) dX12_years_115 rfl rfl ?_
        refine X.aload_n (i := 0) dX12_years_116 rfl rfl ?_
        refine X.iload_n (i := 2) dX12_years_117 rfl rfl ?_
        obtain ⟨q5, e5, h⟩ := xbind h
        try dsimp only at h
        refine X.callV (μ' := mX12_rightOf) (As := [.int q4]) (st := [.int v3]) (st1 := [.int q5, .int v3]) (r := some (.int q5)) (f' := f) (g' := (xu g 0 24 (((g 0 24) * (6364136223846793005 : Int64)) + (1442695040888963407 : Int64)))) (tX12_rightOf e5) (Nat.le_of_ble_eq_true rfl) cwX12_rightOf rfl mlX12_139 sM_0 kX12 rfl rfl rfl (Nat.le_of_ble_eq_true rfl) dX12_years_118 ?_
        refine X.iadd dX12_years_121 ?_
        refine X.istore_n (i := 3) (L' := [some (.ref 0), some (.int v1), some (.int q4), some (.int (v3 + q5)), some (.int v4), some (.int ((((xu g 0 24 (((g 0 24) * (6364136223846793005 : Int64)) + (1442695040888963407 : Int64))) 0 24).toUInt64 >>> ((33 : Int32).toInt64.toUInt64 &&& Int64.toUInt64 63)).toInt64 - (((xu g 0 24 (((g 0 24) * (6364136223846793005 : Int64)) + (1442695040888963407 : Int64))) 0 24).toUInt64 >>> ((33 : Int32).toInt64.toUInt64 &&& Int64.toUInt64 63)).toInt64 / (60 : Int64) * (60 : Int64)).toInt32), some (.int ((((((((xu g 0 24 (((g 0 24) * (6364136223846793005 : Int64)) + (1442695040888963407 : Int64))) 0 24).toUInt64 >>> ((33 : Int32).toInt64.toUInt64 &&& Int64.toUInt64 63)).toInt64 - (((xu g 0 24 (((g 0 24) * (6364136223846793005 : Int64)) + (1442695040888963407 : Int64))) 0 24).toUInt64 >>> ((33 : Int32).toInt64.toUInt64 &&& Int64.toUInt64 63)).toInt64 / (60 : Int64) * (60 : Int64)).toInt32 / (20 : Int32)) * (100 : Int32)) + (((((((xu g 0 24 (((g 0 24) * (6364136223846793005 : Int64)) + (1442695040888963407 : Int64))) 0 24).toUInt64 >>> ((33 : Int32).toInt64.toUInt64 &&& Int64.toUInt64 63)).toInt64 - (((xu g 0 24 (((g 0 24) * (6364136223846793005 : Int64)) + (1442695040888963407 : Int64))) 0 24).toUInt64 >>> ((33 : Int32).toInt64.toUInt64 &&& Int64.toUInt64 63)).toInt64 / (60 : Int64) * (60 : Int64)).toInt32 - ((((xu g 0 24 (((g 0 24) * (6364136223846793005 : Int64)) + (1442695040888963407 : Int64))) 0 24).toUInt64 >>> ((33 : Int32).toInt64.toUInt64 &&& Int64.toUInt64 63)).toInt64 - (((xu g 0 24 (((g 0 24) * (6364136223846793005 : Int64)) + (1442695040888963407 : Int64))) 0 24).toUInt64 >>> ((33 : Int32).toInt64.toUInt64 &&& Int64.toUInt64 63)).toInt64 / (60 : Int64) * (60 : Int64)).toInt32 / (20 : Int32) * (20 : Int32)) / (4 : Int32)) * (10 : Int32))) + (((((xu g 0 24 (((g 0 24) * (6364136223846793005 : Int64)) + (1442695040888963407 : Int64))) 0 24).toUInt64 >>> ((33 : Int32).toInt64.toUInt64 &&& Int64.toUInt64 63)).toInt64 - (((xu g 0 24 (((g 0 24) * (6364136223846793005 : Int64)) + (1442695040888963407 : Int64))) 0 24).toUInt64 >>> ((33 : Int32).toInt64.toUInt64 &&& Int64.toUInt64 63)).toInt64 / (60 : Int64) * (60 : Int64)).toInt32 - ((((xu g 0 24 (((g 0 24) * (6364136223846793005 : Int64)) + (1442695040888963407 : Int64))) 0 24).toUInt64 >>> ((33 : Int32).toInt64.toUInt64 &&& Int64.toUInt64 63)).toInt64 - (((xu g 0 24 (((g 0 24) * (6364136223846793005 : Int64)) + (1442695040888963407 : Int64))) 0 24).toUInt64 >>> ((33 : Int32).toInt64.toUInt64 &&& Int64.toUInt64 63)).toInt64 / (60 : Int64) * (60 : Int64)).toInt32 / (4 : Int32) * (4 : Int32))))]) dX12_years_122 rfl (Nat.le_of_ble_eq_true rfl) rfl ?_
        refine X.iinc (i := 4) (v := (v4 + (1 : Int32))) (L' := [some (.ref 0), some (.int v1), some (.int q4), some (.int (v3 + q5)), some (.int (v4 + (1 : Int32))), some (.int ((((xu g 0 24 (((g 0 24) * (6364136223846793005 : Int64)) + (1442695040888963407 : Int64))) 0 24).toUInt64 >>> ((33 : Int32).toInt64.toUInt64 &&& Int64.toUInt64 63)).toInt64 - (((xu g 0 24 (((g 0 24) * (6364136223846793005 : Int64)) + (1442695040888963407 : Int64))) 0 24).toUInt64 >>> ((33 : Int32).toInt64.toUInt64 &&& Int64.toUInt64 63)).toInt64 / (60 : Int64) * (60 : Int64)).toInt32), some (.int ((((((((xu g 0 24 (((g 0 24) * (6364136223846793005 : Int64)) + (1442695040888963407 : Int64))) 0 24).toUInt64 >>> ((33 : Int32).toInt64.toUInt64 &&& Int64.toUInt64 63)).toInt64 - (((xu g 0 24 (((g 0 24) * (6364136223846793005 : Int64)) + (1442695040888963407 : Int64))) 0 24).toUInt64 >>> ((33 : Int32).toInt64.toUInt64 &&& Int64.toUInt64 63)).toInt64 / (60 : Int64) * (60 : Int64)).toInt32 / (20 : Int32)) * (100 : Int32)) + (((((((xu g 0 24 (((g 0 24) * (6364136223846793005 : Int64)) + (1442695040888963407 : Int64))) 0 24).toUInt64 >>> ((33 : Int32).toInt64.toUInt64 &&& Int64.toUInt64 63)).toInt64 - (((xu g 0 24 (((g 0 24) * (6364136223846793005 : Int64)) + (1442695040888963407 : Int64))) 0 24).toUInt64 >>> ((33 : Int32).toInt64.toUInt64 &&& Int64.toUInt64 63)).toInt64 / (60 : Int64) * (60 : Int64)).toInt32 - ((((xu g 0 24 (((g 0 24) * (6364136223846793005 : Int64)) + (1442695040888963407 : Int64))) 0 24).toUInt64 >>> ((33 : Int32).toInt64.toUInt64 &&& Int64.toUInt64 63)).toInt64 - (((xu g 0 24 (((g 0 24) * (6364136223846793005 : Int64)) + (1442695040888963407 : Int64))) 0 24).toUInt64 >>> ((33 : Int32).toInt64.toUInt64 &&& Int64.toUInt64 63)).toInt64 / (60 : Int64) * (60 : Int64)).toInt32 / (20 : Int32) * (20 : Int32)) / (4 : Int32)) * (10 : Int32))) + (((((xu g 0 24 (((g 0 24) * (6364136223846793005 : Int64)) + (1442695040888963407 : Int64))) 0 24).toUInt64 >>> ((33 : Int32).toInt64.toUInt64 &&& Int64.toUInt64 63)).toInt64 - (((xu g 0 24 (((g 0 24) * (6364136223846793005 : Int64)) + (1442695040888963407 : Int64))) 0 24).toUInt64 >>> ((33 : Int32).toInt64.toUInt64 &&& Int64.toUInt64 63)).toInt64 / (60 : Int64) * (60 : Int64)).toInt32 - ((((xu g 0 24 (((g 0 24) * (6364136223846793005 : Int64)) + (1442695040888963407 : Int64))) 0 24).toUInt64 >>> ((33 : Int32).toInt64.toUInt64 &&& Int64.toUInt64 63)).toInt64 - (((xu g 0 24 (((g 0 24) * (6364136223846793005 : Int64)) + (1442695040888963407 : Int64))) 0 24).toUInt64 >>> ((33 : Int32).toInt64.toUInt64 &&& Int64.toUInt64 63)).toInt64 / (60 : Int64) * (60 : Int64)).toInt32 / (4 : Int32) * (4 : Int32))))]) dX12_years_123 rfl rfl (Nat.le_of_ble_eq_true rfl) rfl ?_
        refine X.goto (tgt := 32) dX12_years_126 (by decide) ?_
        exact X.weaken (xle_c (xle_c (xle_c (xle_c (xle_c (xle_n (xle_n xle_e))))))) (ih h)
      · rw [if_neg c3] at h
        refine X.iload_n (i := 2) dX12_years_103 rfl rfl ?_
        refine X.goto (tgt := 114) dX12_years_104 (by decide) ?_
        refine X.istore_n (i := 2) (L' := [some (.ref 0), some (.int v1), some (.int v2), some (.int v3), some (.int v4), some (.int ((((xu g 0 24 (((g 0 24) * (6364136223846793005 : Int64)) + (1442695040888963407 : Int64))) 0 24).toUInt64 >>> ((33 : Int32).toInt64.toUInt64 &&& Int64.toUInt64 63)).toInt64 - (((xu g 0 24 (((g 0 24) * (6364136223846793005 : Int64)) + (1442695040888963407 : Int64))) 0 24).toUInt64 >>> ((33 : Int32).toInt64.toUInt64 &&& Int64.toUInt64 63)).toInt64 / (60 : Int64) * (60 : Int64)).toInt32), some (.int ((((((((xu g 0 24 (((g 0 24) * (6364136223846793005 : Int64)) + (1442695040888963407 : Int64))) 0 24).toUInt64 >>> ((33 : Int32).toInt64.toUInt64 &&& Int64.toUInt64 63)).toInt64 - (((xu g 0 24 (((g 0 24) * (6364136223846793005 : Int64)) + (1442695040888963407 : Int64))) 0 24).toUInt64 >>> ((33 : Int32).toInt64.toUInt64 &&& Int64.toUInt64 63)).toInt64 / (60 : Int64) * (60 : Int64)).toInt32 / (20 : Int32)) * (100 : Int32)) + (((((((xu g 0 24 (((g 0 24) * (6364136223846793005 : Int64)) + (1442695040888963407 : Int64))) 0 24).toUInt64 >>> ((33 : Int32).toInt64.toUInt64 &&& Int64.toUInt64 63)).toInt64 - (((xu g 0 24 (((g 0 24) * (6364136223846793005 : Int64)) + (1442695040888963407 : Int64))) 0 24).toUInt64 >>> ((33 : Int32).toInt64.toUInt64 &&& Int64.toUInt64 63)).toInt64 / (60 : Int64) * (60 : Int64)).toInt32 - ((((xu g 0 24 (((g 0 24) * (6364136223846793005 : Int64)) + (1442695040888963407 : Int64))) 0 24).toUInt64 >>> ((33 : Int32).toInt64.toUInt64 &&& Int64.toUInt64 63)).toInt64 - (((xu g 0 24 (((g 0 24) * (6364136223846793005 : Int64)) + (1442695040888963407 : Int64))) 0 24).toUInt64 >>> ((33 : Int32).toInt64.toUInt64 &&& Int64.toUInt64 63)).toInt64 / (60 : Int64) * (60 : Int64)).toInt32 / (20 : Int32) * (20 : Int32)) / (4 : Int32)) * (10 : Int32))) + (((((xu g 0 24 (((g 0 24) * (6364136223846793005 : Int64)) + (1442695040888963407 : Int64))) 0 24).toUInt64 >>> ((33 : Int32).toInt64.toUInt64 &&& Int64.toUInt64 63)).toInt64 - (((xu g 0 24 (((g 0 24) * (6364136223846793005 : Int64)) + (1442695040888963407 : Int64))) 0 24).toUInt64 >>> ((33 : Int32).toInt64.toUInt64 &&& Int64.toUInt64 63)).toInt64 / (60 : Int64) * (60 : Int64)).toInt32 - ((((xu g 0 24 (((g 0 24) * (6364136223846793005 : Int64)) + (1442695040888963407 : Int64))) 0 24).toUInt64 >>> ((33 : Int32).toInt64.toUInt64 &&& Int64.toUInt64 63)).toInt64 - (((xu g 0 24 (((g 0 24) * (6364136223846793005 : Int64)) + (1442695040888963407 : Int64))) 0 24).toUInt64 >>> ((33 : Int32).toInt64.toUInt64 &&& Int64.toUInt64 63)).toInt64 / (60 : Int64) * (60 : Int64)).toInt32 / (4 : Int32) * (4 : Int32))))]) dX12_years_114 rfl (Nat.le_of_ble_eq_true rfl) rfl ?_
        refine X.iload_n (i := 3) dX12_years_115 rfl rfl ?_
        refine X.aload_n (i := 0) dX12_years_116 rfl rfl ?_
        refine X.iload_n (i := 2) dX12_years_117 rfl rfl ?_
        obtain ⟨q6, e6, h⟩ := xbind h
        try dsimp only at h
        refine X.callV (μ' := mX12_rightOf) (As := [.int v2]) (st := [.int v3]) (st1 := [.int q6, .int v3]) (r := some (.int q6)) (f' := f) (g' := (xu g 0 24 (((g 0 24) * (6364136223846793005 : Int64)) + (1442695040888963407 : Int64)))) (tX12_rightOf e6) (Nat.le_of_ble_eq_true rfl) cwX12_rightOf rfl mlX12_139 sM_0 kX12 rfl rfl rfl (Nat.le_of_ble_eq_true rfl) dX12_years_118 ?_
        refine X.iadd dX12_years_121 ?_
        refine X.istore_n (i := 3) (L' := [some (.ref 0), some (.int v1), some (.int v2), some (.int (v3 + q6)), some (.int v4), some (.int ((((xu g 0 24 (((g 0 24) * (6364136223846793005 : Int64)) + (1442695040888963407 : Int64))) 0 24).toUInt64 >>> ((33 : Int32).toInt64.toUInt64 &&& Int64.toUInt64 63)).toInt64 - (((xu g 0 24 (((g 0 24) * (6364136223846793005 : Int64)) + (1442695040888963407 : Int64))) 0 24).toUInt64 >>> ((33 : Int32).toInt64.toUInt64 &&& Int64.toUInt64 63)).toInt64 / (60 : Int64) * (60 : Int64)).toInt32), some (.int ((((((((xu g 0 24 (((g 0 24) * (6364136223846793005 : Int64)) + (1442695040888963407 : Int64))) 0 24).toUInt64 >>> ((33 : Int32).toInt64.toUInt64 &&& Int64.toUInt64 63)).toInt64 - (((xu g 0 24 (((g 0 24) * (6364136223846793005 : Int64)) + (1442695040888963407 : Int64))) 0 24).toUInt64 >>> ((33 : Int32).toInt64.toUInt64 &&& Int64.toUInt64 63)).toInt64 / (60 : Int64) * (60 : Int64)).toInt32 / (20 : Int32)) * (100 : Int32)) + (((((((xu g 0 24 (((g 0 24) * (6364136223846793005 : Int64)) + (1442695040888963407 : Int64))) 0 24).toUInt64 >>> ((33 : Int32).toInt64.toUInt64 &&& Int64.toUInt64 63)).toInt64 - (((xu g 0 24 (((g 0 24) * (6364136223846793005 : Int64)) + (1442695040888963407 : Int64))) 0 24).toUInt64 >>> ((33 : Int32).toInt64.toUInt64 &&& Int64.toUInt64 63)).toInt64 / (60 : Int64) * (60 : Int64)).toInt32 - ((((xu g 0 24 (((g 0 24) * (6364136223846793005 : Int64)) + (1442695040888963407 : Int64))) 0 24).toUInt64 >>> ((33 : Int32).toInt64.toUInt64 &&& Int64.toUInt64 63)).toInt64 - (((xu g 0 24 (((g 0 24) * (6364136223846793005 : Int64)) + (1442695040888963407 : Int64))) 0 24).toUInt64 >>> ((33 : Int32).toInt64.toUInt64 &&& Int64.toUInt64 63)).toInt64 / (60 : Int64) * (60 : Int64)).toInt32 / (20 : Int32) * (20 : Int32)) / (4 : Int32)) * (10 : Int32))) + (((((xu g 0 24 (((g 0 24) * (6364136223846793005 : Int64)) + (1442695040888963407 : Int64))) 0 24).toUInt64 >>> ((33 : Int32).toInt64.toUInt64 &&& Int64.toUInt64 63)).toInt64 - (((xu g 0 24 (((g 0 24) * (6364136223846793005 : Int64)) + (1442695040888963407 : Int64))) 0 24).toUInt64 >>> ((33 : Int32).toInt64.toUInt64 &&& Int64.toUInt64 63)).toInt64 / (60 : Int64) * (60 : Int64)).toInt32 - ((((xu g 0 24 (((g 0 24) * (6364136223846793005 : Int64)) + (1442695040888963407 : Int64))) 0 24).toUInt64 >>> ((33 : Int32).toInt64.toUInt64 &&& Int64.toUInt64 63)).toInt64 - (((xu g 0 24 (((g 0 24) * (6364136223846793005 : Int64)) + (1442695040888963407 : Int64))) 0 24).toUInt64 >>> ((33 : Int32).toInt64.toUInt64 &&& Int64.toUInt64 63)).toInt64 / (60 : Int64) * (60 : Int64)).toInt32 / (4 : Int32) * (4 : Int32))))]) dX12_years_122 rfl (Nat.le_of_ble_eq_true rfl) rfl ?_
        refine X.iinc (i := 4) (v := (v4 + (1 : Int32))) (L' := [some (.ref 0), some (.int v1), some (.int v2), some (.int (v3 + q6)), some (.int (v4 + (1 : Int32))), some (.int ((((xu g 0 24 (((g 0 24) * (6364136223846793005 : Int64)) + (1442695040888963407 : Int64))) 0 24).toUInt64 >>> ((33 : Int32).toInt64.toUInt64 &&& Int64.toUInt64 63)).toInt64 - (((xu g 0 24 (((g 0 24) * (6364136223846793005 : Int64)) + (1442695040888963407 : Int64))) 0 24).toUInt64 >>> ((33 : Int32).toInt64.toUInt64 &&& Int64.toUInt64 63)).toInt64 / (60 : Int64) * (60 : Int64)).toInt32), some (.int ((((((((xu g 0 24 (((g 0 24) * (6364136223846793005 : Int64)) + (1442695040888963407 : Int64))) 0 24).toUInt64 >>> ((33 : Int32).toInt64.toUInt64 &&& Int64.toUInt64 63)).toInt64 - (((xu g 0 24 (((g 0 24) * (6364136223846793005 : Int64)) + (1442695040888963407 : Int64))) 0 24).toUInt64 >>> ((33 : Int32).toInt64.toUInt64 &&& Int64.toUInt64 63)).toInt64 / (60 : Int64) * (60 : Int64)).toInt32 / (20 : Int32)) * (100 : Int32)) + (((((((xu g 0 24 (((g 0 24) * (6364136223846793005 : Int64)) + (1442695040888963407 : Int64))) 0 24).toUInt64 >>> ((33 : Int32).toInt64.toUInt64 &&& Int64.toUInt64 63)).toInt64 - (((xu g 0 24 (((g 0 24) * (6364136223846793005 : Int64)) + (1442695040888963407 : Int64))) 0 24).toUInt64 >>> ((33 : Int32).toInt64.toUInt64 &&& Int64.toUInt64 63)).toInt64 / (60 : Int64) * (60 : Int64)).toInt32 - ((((xu g 0 24 (((g 0 24) * (6364136223846793005 : Int64)) + (1442695040888963407 : Int64))) 0 24).toUInt64 >>> ((33 : Int32).toInt64.toUInt64 &&& Int64.toUInt64 63)).toInt64 - (((xu g 0 24 (((g 0 24) * (6364136223846793005 : Int64)) + (1442695040888963407 : Int64))) 0 24).toUInt64 >>> ((33 : Int32).toInt64.toUInt64 &&& Int64.toUInt64 63)).toInt64 / (60 : Int64) * (60 : Int64)).toInt32 / (20 : Int32) * (20 : Int32)) / (4 : Int32)) * (10 : Int32))) + (((((xu g 0 24 (((g 0 24) * (6364136223846793005 : Int64)) + (1442695040888963407 : Int64))) 0 24).toUInt64 >>> ((33 : Int32).toInt64.toUInt64 &&& Int64.toUInt64 63)).toInt64 - (((xu g 0 24 (((g 0 24) * (6364136223846793005 : Int64)) + (1442695040888963407 : Int64))) 0 24).toUInt64 >>> ((33 : Int32).toInt64.toUInt64 &&& Int64.toUInt64 63)).toInt64 / (60 : Int64) * (60 : Int64)).toInt32 - ((((xu g 0 24 (((g 0 24) * (6364136223846793005 : Int64)) + (1442695040888963407 : Int64))) 0 24).toUInt64 >>> ((33 : Int32).toInt64.toUInt64 &&& Int64.toUInt64 63)).toInt64 - (((xu g 0 24 (((g 0 24) * (6364136223846793005 : Int64)) + (1442695040888963407 : Int64))) 0 24).toUInt64 >>> ((33 : Int32).toInt64.toUInt64 &&& Int64.toUInt64 63)).toInt64 / (60 : Int64) * (60 : Int64)).toInt32 / (4 : Int32) * (4 : Int32))))]) dX12_years_123 rfl rfl (Nat.le_of_ble_eq_true rfl) rfl ?_
        refine X.goto (tgt := 32) dX12_years_126 (by decide) ?_
        exact X.weaken (xle_c (xle_c (xle_c (xle_c (xle_c (xle_n (xle_n xle_e))))))) (ih h)
def pX12_years (F : Nat) (v1 : Int32) (f : xM) (g : xN) : Option (Int32 × xM × xN) := (if (pX12_in v1.toInt64 (1 : Int64) (30 : Int64)) = 0 then some (((-2 : Int32), (xu f 0 0 (0 : Int32)), g)) else (pX12_years_b32 F F v1 ((xu f 0 0 (0 : Int32)) 7 0) (0 : Int32) (0 : Int32) (xu f 0 0 (0 : Int32)) g))
set_option maxRecDepth 100000 in
set_option maxHeartbeats 4000000 in
theorem tX12_years {F : Nat} {v1 : Int32} {f : xM} {g : xN} {r : Int32 × xM × xN} (h : pX12_years F v1 f g = some r) : XT mX12_years 5 [.ref 0, .int v1] f g (some (.int r.1), r.2.1, r.2.2) := by
  unfold pX12_years at h
  refine XT.of (L := [some (.ref 0), some (.int v1), none, none, none, none, none]) [some (.ref 0), some (.int v1)] rfl (Nat.le_of_ble_eq_true rfl) rfl (xle_c (xle_c (xle_z (xle_z (xle_z (xle_z (xle_z xle_e))))))) ?_
  refine X.aload_n (i := 0) dX12_years_0 rfl rfl ?_
  refine X.iconst (v := (0 : Int32)) dX12_years_1 (by decide) ?_
  refine X.putI (k0 := 0) kX12 sM_0 (Nat.le_of_ble_eq_true rfl) rfl lfX12_57 rfl rfl dX12_years_2 ?_
  refine X.iload_n (i := 1) dX12_years_5 rfl rfl ?_
  refine X.i2l dX12_years_6 ?_
  refine X.lconst (v := (1 : Int64)) dX12_years_7 (by decide) ?_
  refine X.ldc2 dX12_years_8 lcX12_271 ?_
  refine X.callS (μ' := mX12_in) (As := [.long v1.toInt64, .long (1 : Int64), .long (30 : Int64)]) (st := []) (st1 := [.int (pX12_in v1.toInt64 (1 : Int64) (30 : Int64))]) (r := some (.int (pX12_in v1.toInt64 (1 : Int64) (30 : Int64)))) (f' := (xu f 0 0 (0 : Int32))) (g' := g) (tX12_in rfl) (Nat.le_of_ble_eq_true rfl) cwX12_in rfl mlX12_65 rfl rfl rfl (Nat.le_of_ble_eq_true rfl) dX12_years_11 ?_
  refine X.if_ne (tgt := 20) dX12_years_14 (by decide) (fun c1 => ?_) (fun c1 => ?_)
  · rw [if_neg c1] at h
    refine X.aload_n (i := 0) dX12_years_20 rfl rfl ?_
    refine X.getR (k0 := 18) kX12 sM_0 (Nat.le_of_ble_eq_true rfl) rfl lfX12_32 dX12_years_21 ?_
    refine X.iconst (v := (0 : Int32)) dX12_years_24 (by decide) ?_
    refine X.ialdK (m := 0) sM_7 (by decide) (by decide) dX12_years_25 ?_
    refine X.istore_n (i := 2) (L' := [some (.ref 0), some (.int v1), some (.int ((xu f 0 0 (0 : Int32)) 7 0)), none, none, none, none]) dX12_years_26 rfl (Nat.le_of_ble_eq_true rfl) rfl ?_
    refine X.iconst (v := (0 : Int32)) dX12_years_27 (by decide) ?_
    refine X.istore_n (i := 3) (L' := [some (.ref 0), some (.int v1), some (.int ((xu f 0 0 (0 : Int32)) 7 0)), some (.int (0 : Int32)), none, none, none]) dX12_years_28 rfl (Nat.le_of_ble_eq_true rfl) rfl ?_
    refine X.iconst (v := (0 : Int32)) dX12_years_29 (by decide) ?_
    refine X.istore (i := 4) (L' := [some (.ref 0), some (.int v1), some (.int ((xu f 0 0 (0 : Int32)) 7 0)), some (.int (0 : Int32)), some (.int (0 : Int32)), none, none]) dX12_years_30 (Nat.le_of_ble_eq_true rfl) rfl ?_
    exact X.weaken (xle_c (xle_c (xle_c (xle_c (xle_c (xle_n (xle_n xle_e))))))) (tX12_years_b32 F h)
  · rw [if_pos c1] at h
    refine X.bipush (v := (-2 : Int32)) dX12_years_17 (by decide) ?_
    obtain rfl := Option.some.inj h
    exact X.iret dX12_years_19 rfl rfl
def pX12_keep_b26 (F : Nat) : Nat → Int32 → Int32 → xM → Option (Int32 × xM)
  | 0, _, _, _ => none
  | n + 1, v1, v2, f => (if (9 : Int32) ≤ v2 then some (((f 7 1), f)) else (if xin v2 9 then (if xin (((9 : Int32) * v1) + v2) 18 then (pX12_keep_b26 F n v1 (v2 + (1 : Int32)) (xu f 10 (((9 : Int32) * v1) + v2).toNatClampNeg (f 7 v2.toNatClampNeg))) else none) else none))
set_option maxRecDepth 100000 in
set_option maxHeartbeats 4000000 in
theorem tX12_keep_b26 {F : Nat} {g : xN} : ∀ (n : Nat) {v1 : Int32} {v2 : Int32} {f : xM} {r : Int32 × xM}, pX12_keep_b26 F n v1 v2 f = some r → X mX12_keep 1 (some (.int r.1), r.2, g) 26 [some (.ref 0), some (.int v1), some (.int v2)] [] f g := by
  intro n
  induction n with
  | zero => intro v1 v2 f r h; cases h
  | succ n ih =>
    intro v1 v2 f r h
    rw [pX12_keep_b26] at h
    refine X.iload_n (i := 2) dX12_keep_26 rfl rfl ?_
    refine X.bipush (v := (9 : Int32)) dX12_keep_27 (by decide) ?_
    refine X.icmp_ge (tgt := 55) dX12_keep_29 (by decide) (fun c3 => ?_) (fun c3 => ?_)
    · rw [if_pos c3] at h
      refine X.aload_n (i := 0) dX12_keep_55 rfl rfl ?_
      refine X.getR (k0 := 18) kX12 sM_0 (Nat.le_of_ble_eq_true rfl) rfl lfX12_32 dX12_keep_56 ?_
      refine X.iconst (v := (1 : Int32)) dX12_keep_59 (by decide) ?_
      refine X.ialdK (m := 1) sM_7 (by decide) (by decide) dX12_keep_60 ?_
      obtain rfl := Option.some.inj h
      exact X.iret dX12_keep_61 rfl rfl
    · rw [if_neg c3] at h
      refine X.aload_n (i := 0) dX12_keep_32 rfl rfl ?_
      refine X.getR (k0 := 22) kX12 sM_0 (Nat.le_of_ble_eq_true rfl) rfl lfX12_41 dX12_keep_33 ?_
      refine X.bipush (v := (9 : Int32)) dX12_keep_36 (by decide) ?_
      refine X.iload_n (i := 1) dX12_keep_38 rfl rfl ?_
      refine X.imul dX12_keep_39 ?_
      refine X.iload_n (i := 2) dX12_keep_40 rfl rfl ?_
      refine X.iadd dX12_keep_41 ?_
      refine X.aload_n (i := 0) dX12_keep_42 rfl rfl ?_
      refine X.getR (k0 := 18) kX12 sM_0 (Nat.le_of_ble_eq_true rfl) rfl lfX12_32 dX12_keep_43 ?_
      refine X.iload_n (i := 2) dX12_keep_46 rfl rfl ?_
      by_cases c4 : xin v2 9
      rotate_left
      · rw [if_neg c4] at h; cases h
      rw [if_pos c4] at h
      refine X.iald sM_7 c4 dX12_keep_47 ?_
      by_cases c5 : xin (((9 : Int32) * v1) + v2) 18
      rotate_left
      · rw [if_neg c5] at h; cases h
      rw [if_pos c5] at h
      refine X.iast sM_10 c5 dX12_keep_48 ?_
      refine X.iinc (i := 2) (v := (v2 + (1 : Int32))) (L' := [some (.ref 0), some (.int v1), some (.int (v2 + (1 : Int32)))]) dX12_keep_49 rfl rfl (Nat.le_of_ble_eq_true rfl) rfl ?_
      refine X.goto (tgt := 26) dX12_keep_52 (by decide) ?_
      exact X.weaken (xle_c (xle_c (xle_c xle_e))) (ih h)
def pX12_keep (F : Nat) (v1 : Int32) (f : xM) : Option (Int32 × xM) := (if (pX12_in v1.toInt64 (0 : Int64) (1 : Int64)) = 0 then some (((-1 : Int32), (xu f 0 0 (0 : Int32)))) else (if xin v1 2 then (pX12_keep_b26 F F v1 (0 : Int32) (xu (xu f 0 0 (0 : Int32)) 11 v1.toNatClampNeg (1 : Int32))) else none))
set_option maxRecDepth 100000 in
set_option maxHeartbeats 4000000 in
theorem tX12_keep {F : Nat} {g : xN} {v1 : Int32} {f : xM} {r : Int32 × xM} (h : pX12_keep F v1 f = some r) : XT mX12_keep 1 [.ref 0, .int v1] f g (some (.int r.1), r.2, g) := by
  unfold pX12_keep at h
  refine XT.of (L := [some (.ref 0), some (.int v1), none]) [some (.ref 0), some (.int v1)] rfl (Nat.le_of_ble_eq_true rfl) rfl (xle_c (xle_c (xle_z xle_e))) ?_
  refine X.aload_n (i := 0) dX12_keep_0 rfl rfl ?_
  refine X.iconst (v := (0 : Int32)) dX12_keep_1 (by decide) ?_
  refine X.putI (k0 := 0) kX12 sM_0 (Nat.le_of_ble_eq_true rfl) rfl lfX12_57 rfl rfl dX12_keep_2 ?_
  refine X.iload_n (i := 1) dX12_keep_5 rfl rfl ?_
  refine X.i2l dX12_keep_6 ?_
  refine X.lconst (v := (0 : Int64)) dX12_keep_7 (by decide) ?_
  refine X.lconst (v := (1 : Int64)) dX12_keep_8 (by decide) ?_
  refine X.callS (μ' := mX12_in) (As := [.long v1.toInt64, .long (0 : Int64), .long (1 : Int64)]) (st := []) (st1 := [.int (pX12_in v1.toInt64 (0 : Int64) (1 : Int64))]) (r := some (.int (pX12_in v1.toInt64 (0 : Int64) (1 : Int64)))) (f' := (xu f 0 0 (0 : Int32))) (g' := g) (tX12_in rfl) (Nat.le_of_ble_eq_true rfl) cwX12_in rfl mlX12_65 rfl rfl rfl (Nat.le_of_ble_eq_true rfl) dX12_keep_9 ?_
  refine X.if_ne (tgt := 17) dX12_keep_12 (by decide) (fun c1 => ?_) (fun c1 => ?_)
  · rw [if_neg c1] at h
    refine X.aload_n (i := 0) dX12_keep_17 rfl rfl ?_
    refine X.getR (k0 := 23) kX12 sM_0 (Nat.le_of_ble_eq_true rfl) rfl lfX12_44 dX12_keep_18 ?_
    refine X.iload_n (i := 1) dX12_keep_21 rfl rfl ?_
    refine X.iconst (v := (1 : Int32)) dX12_keep_22 (by decide) ?_
    by_cases c2 : xin v1 2
    rotate_left
    · rw [if_neg c2] at h; cases h
    rw [if_pos c2] at h
    refine X.zast sM_11 c2 rfl dX12_keep_23 ?_
    refine X.iconst (v := (0 : Int32)) dX12_keep_24 (by decide) ?_
    refine X.istore_n (i := 2) (L' := [some (.ref 0), some (.int v1), some (.int (0 : Int32))]) dX12_keep_25 rfl (Nat.le_of_ble_eq_true rfl) rfl ?_
    exact X.weaken (xle_c (xle_c (xle_c xle_e))) (tX12_keep_b26 F h)
  · rw [if_pos c1] at h
    refine X.iconst (v := (-1 : Int32)) dX12_keep_15 (by decide) ?_
    obtain rfl := Option.some.inj h
    exact X.iret dX12_keep_16 rfl rfl
def pX12_again_b31 (F : Nat) : Nat → Int32 → Int32 → xM → Option (Int32 × xM)
  | 0, _, _, _ => none
  | n + 1, v1, v2, f => (if (9 : Int32) ≤ v2 then some ((((xu f 0 21 (0 : Int32)) 7 1), (xu f 0 21 (0 : Int32)))) else (if xin (((9 : Int32) * v1) + v2) 18 then (if xin v2 9 then (pX12_again_b31 F n v1 (v2 + (1 : Int32)) (xu f 7 v2.toNatClampNeg (f 10 (((9 : Int32) * v1) + v2).toNatClampNeg))) else none) else none))
set_option maxRecDepth 100000 in
set_option maxHeartbeats 4000000 in
theorem tX12_again_b31 {F : Nat} {g : xN} : ∀ (n : Nat) {v1 : Int32} {v2 : Int32} {f : xM} {r : Int32 × xM}, pX12_again_b31 F n v1 v2 f = some r → X mX12_again 1 (some (.int r.1), r.2, g) 31 [some (.ref 0), some (.int v1), some (.int v2)] [] f g := by
  intro n
  induction n with
  | zero => intro v1 v2 f r h; cases h
  | succ n ih =>
    intro v1 v2 f r h
    rw [pX12_again_b31] at h
    refine X.iload_n (i := 2) dX12_again_31 rfl rfl ?_
    refine X.bipush (v := (9 : Int32)) dX12_again_32 (by decide) ?_
    refine X.icmp_ge (tgt := 60) dX12_again_34 (by decide) (fun c4 => ?_) (fun c4 => ?_)
    · rw [if_pos c4] at h
      refine X.aload_n (i := 0) dX12_again_60 rfl rfl ?_
      refine X.iconst (v := (0 : Int32)) dX12_again_61 (by decide) ?_
      refine X.putI (k0 := 21) kX12 sM_0 (Nat.le_of_ble_eq_true rfl) rfl lfX12_118 rfl rfl dX12_again_62 ?_
      refine X.aload_n (i := 0) dX12_again_65 rfl rfl ?_
      refine X.getR (k0 := 18) kX12 sM_0 (Nat.le_of_ble_eq_true rfl) rfl lfX12_32 dX12_again_66 ?_
      refine X.iconst (v := (1 : Int32)) dX12_again_69 (by decide) ?_
      refine X.ialdK (m := 1) sM_7 (by decide) (by decide) dX12_again_70 ?_
      obtain rfl := Option.some.inj h
      exact X.iret dX12_again_71 rfl rfl
    · rw [if_neg c4] at h
      refine X.aload_n (i := 0) dX12_again_37 rfl rfl ?_
      refine X.getR (k0 := 18) kX12 sM_0 (Nat.le_of_ble_eq_true rfl) rfl lfX12_32 dX12_again_38 ?_
      refine X.iload_n (i := 2) dX12_again_41 rfl rfl ?_
      refine X.aload_n (i := 0) dX12_again_42 rfl rfl ?_
      refine X.getR (k0 := 22) kX12 sM_0 (Nat.le_of_ble_eq_true rfl) rfl lfX12_41 dX12_again_43 ?_
      refine X.bipush (v := (9 : Int32)) dX12_again_46 (by decide) ?_
      refine X.iload_n (i := 1) dX12_again_48 rfl rfl ?_
      refine X.imul dX12_again_49 ?_
      refine X.iload_n (i := 2) dX12_again_50 rfl rfl ?_
      refine X.iadd dX12_again_51 ?_
      by_cases c5 : xin (((9 : Int32) * v1) + v2) 18
      rotate_left
      · rw [if_neg c5] at h; cases h
      rw [if_pos c5] at h
      refine X.iald sM_10 c5 dX12_again_52 ?_
      by_cases c6 : xin v2 9
      rotate_left
      · rw [if_neg c6] at h; cases h
      rw [if_pos c6] at h
      refine X.iast sM_7 c6 dX12_again_53 ?_
      refine X.iinc (i := 2) (v := (v2 + (1 : Int32))) (L' := [some (.ref 0), some (.int v1), some (.int (v2 + (1 : Int32)))]) dX12_again_54 rfl rfl (Nat.le_of_ble_eq_true rfl) rfl ?_
      refine X.goto (tgt := 31) dX12_again_57 (by decide) ?_
      exact X.weaken (xle_c (xle_c (xle_c xle_e))) (ih h)
def pX12_again (F : Nat) (v1 : Int32) (f : xM) : Option (Int32 × xM) := (if (pX12_in v1.toInt64 (0 : Int64) (1 : Int64)) = 0 then some (((-1 : Int32), (xu f 0 0 (0 : Int32)))) else (if xin v1 2 then (if ((xu f 0 0 (0 : Int32)) 11 v1.toNatClampNeg) = 0 then some (((-3 : Int32), (xu f 0 0 (0 : Int32)))) else (pX12_again_b31 F F v1 (0 : Int32) (xu f 0 0 (0 : Int32)))) else none))
set_option maxRecDepth 100000 in
set_option maxHeartbeats 4000000 in
theorem tX12_again {F : Nat} {g : xN} {v1 : Int32} {f : xM} {r : Int32 × xM} (h : pX12_again F v1 f = some r) : XT mX12_again 1 [.ref 0, .int v1] f g (some (.int r.1), r.2, g) := by
  unfold pX12_again at h
  refine XT.of (L := [some (.ref 0), some (.int v1), none]) [some (.ref 0), some (.int v1)] rfl (Nat.le_of_ble_eq_true rfl) rfl (xle_c (xle_c (xle_z xle_e))) ?_
  refine X.aload_n (i := 0) dX12_again_0 rfl rfl ?_
  refine X.iconst (v := (0 : Int32)) dX12_again_1 (by decide) ?_
  refine X.putI (k0 := 0) kX12 sM_0 (Nat.le_of_ble_eq_true rfl) rfl lfX12_57 rfl rfl dX12_again_2 ?_
  refine X.iload_n (i := 1) dX12_again_5 rfl rfl ?_
  refine X.i2l dX12_again_6 ?_
  refine X.lconst (v := (0 : Int64)) dX12_again_7 (by decide) ?_
  refine X.lconst (v := (1 : Int64)) dX12_again_8 (by decide) ?_
  refine X.callS (μ' := mX12_in) (As := [.long v1.toInt64, .long (0 : Int64), .long (1 : Int64)]) (st := []) (st1 := [.int (pX12_in v1.toInt64 (0 : Int64) (1 : Int64))]) (r := some (.int (pX12_in v1.toInt64 (0 : Int64) (1 : Int64)))) (f' := (xu f 0 0 (0 : Int32))) (g' := g) (tX12_in rfl) (Nat.le_of_ble_eq_true rfl) cwX12_in rfl mlX12_65 rfl rfl rfl (Nat.le_of_ble_eq_true rfl) dX12_again_9 ?_
  refine X.if_ne (tgt := 17) dX12_again_12 (by decide) (fun c1 => ?_) (fun c1 => ?_)
  · rw [if_neg c1] at h
    refine X.aload_n (i := 0) dX12_again_17 rfl rfl ?_
    refine X.getR (k0 := 23) kX12 sM_0 (Nat.le_of_ble_eq_true rfl) rfl lfX12_44 dX12_again_18 ?_
    refine X.iload_n (i := 1) dX12_again_21 rfl rfl ?_
    by_cases c2 : xin v1 2
    rotate_left
    · rw [if_neg c2] at h; cases h
    rw [if_pos c2] at h
    refine X.zald sM_11 c2 dX12_again_22 ?_
    refine X.if_ne (tgt := 29) dX12_again_23 (by decide) (fun c3 => ?_) (fun c3 => ?_)
    · rw [if_neg c3] at h
      refine X.iconst (v := (0 : Int32)) dX12_again_29 (by decide) ?_
      refine X.istore_n (i := 2) (L' := [some (.ref 0), some (.int v1), some (.int (0 : Int32))]) dX12_again_30 rfl (Nat.le_of_ble_eq_true rfl) rfl ?_
      exact X.weaken (xle_c (xle_c (xle_c xle_e))) (tX12_again_b31 F h)
    · rw [if_pos c3] at h
      refine X.bipush (v := (-3 : Int32)) dX12_again_26 (by decide) ?_
      obtain rfl := Option.some.inj h
      exact X.iret dX12_again_28 rfl rfl
  · rw [if_pos c1] at h
    refine X.iconst (v := (-1 : Int32)) dX12_again_15 (by decide) ?_
    obtain rfl := Option.some.inj h
    exact X.iret dX12_again_16 rfl rfl
