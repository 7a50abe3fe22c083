/-! ===== the law ===== -/
def zA (s : State) : Nat → Prop := fun q => s.heap.size ≤ q
def zC (p : Program) (s : State) (m : MethodId) (meth : Method) (c : Code) (D : va_G) (ct : Bool → ClassId) (aC aM : Nat → Nat) (b L : Nat) (xs : Nat → Int32) : Prop :=
  lw_At p s m meth c b L xs ∧ L ≤ 384 ∧ xK D ct s ∧ xI aC shC.length ∧ xI aM shM.length ∧ (∀ i j, i < shC.length → j < shM.length → aC i ≠ aM j) ∧ (∀ i, i < shC.length → s.heap.size ≤ aC i) ∧ (∀ i, i < shM.length → s.heap.size ≤ aM i) ∧ xO (zA s) s s.heap
def Z (p : Program) (l : Launch) (e : Env) (s : State) (m : MethodId) (below : List Frame) (meth : Method) (c : Code) (D : va_G) (ct : Bool → ClassId) (aC aM : Nat → Nat) (b : Nat) (pc : Nat) (i : Int32) (st : List Value) (f : xM) (g : xN) (h : xM) (k : xN) : Prop :=
  ∀ (H : Heap) (locs : List Loc) (ls : Array Slot), va_P D vwCl (xw ct aC shC f g) H → va_P D vwCl (xw ct aM shM h k) H → va_S (zA s) s.heap H locs → lv_has ls 4 [(0, .ref b), (1, .ref (aC 0)), (2, .ref (aM 0)), (3, .int i)] → W p l e room_1 s m #[Value.ref b] below meth c H locs 43 4647 (lw_Z below #[Value.ref b] s) (F0 m pc ls st)
section ZR
variable {p : Program} {l : Launch} {e : Env} {s : State} {m : MethodId} {below : List Frame} {meth : Method} {c : Code} {D : va_G} {ct : Bool → ClassId} {aC aM : Nat → Nat} {b L : Nat} {xs : Nat → Int32} {pc : Nat} {i : Int32} {st st0 st1 : List Value} {f f' : xM} {g g' : xN} {h h' : xM} {k k' : xN}

theorem Z.iconst (hC : zC p s m meth c D ct aC aM b L xs) {n : Int} {v : Int32} (hd : decode code pc = .ok (.iconst n, 1)) (hv : Int32.ofInt n = v) (kk : Z p l e s m below meth c D ct aC aM b (pc + 1) i (.int v :: st) f g h k) : Z p l e s m below meth c D ct aC aM b pc i st f g h k := by
  intro H locs ls hP hM hS hl
  obtain ⟨⟨hx, hb, hr, hml, hown, hts, hX, hbl, hlk, hgv⟩, hL, hK, hIC, hIM, hdis, hnC, hnM, hO⟩ := hC
  exact lv_iconst hx hb hd hv (kk H locs ls hP hM hS hl)

theorem Z.bipush (hC : zC p s m meth c D ct aC aM b L xs) {n : Int} {v : Int32} (hd : decode code pc = .ok (.bipush n, 2)) (hv : (Int8.ofInt n).toInt32 = v) (kk : Z p l e s m below meth c D ct aC aM b (pc + 2) i (.int v :: st) f g h k) : Z p l e s m below meth c D ct aC aM b pc i st f g h k := by
  intro H locs ls hP hM hS hl
  obtain ⟨⟨hx, hb, hr, hml, hown, hts, hX, hbl, hlk, hgv⟩, hL, hK, hIC, hIM, hdis, hnC, hnM, hO⟩ := hC
  exact lv_bipush hx hb hd hv (kk H locs ls hP hM hS hl)

theorem Z.aload0 (hC : zC p s m meth c D ct aC aM b L xs) (hd : decode code pc = .ok (.aload_n 0, 1)) (kk : Z p l e s m below meth c D ct aC aM b (pc + 1) i (.ref b :: st) f g h k) : Z p l e s m below meth c D ct aC aM b pc i st f g h k := by
  intro H locs ls hP hM hS hl
  obtain ⟨⟨hx, hb, hr, hml, hown, hts, hX, hbl, hlk, hgv⟩, hL, hK, hIC, hIM, hdis, hnC, hnM, hO⟩ := hC
  exact lv_aload_n hx hb hd rfl (lv_at hl 0 rfl) (kk H locs ls hP hM hS hl)

theorem Z.aload1 (hC : zC p s m meth c D ct aC aM b L xs) (hd : decode code pc = .ok (.aload_n 1, 1)) (kk : Z p l e s m below meth c D ct aC aM b (pc + 1) i (.ref (aC 0) :: st) f g h k) : Z p l e s m below meth c D ct aC aM b pc i st f g h k := by
  intro H locs ls hP hM hS hl
  obtain ⟨⟨hx, hb, hr, hml, hown, hts, hX, hbl, hlk, hgv⟩, hL, hK, hIC, hIM, hdis, hnC, hnM, hO⟩ := hC
  exact lv_aload_n hx hb hd rfl (lv_at hl 1 rfl) (kk H locs ls hP hM hS hl)

theorem Z.aload2 (hC : zC p s m meth c D ct aC aM b L xs) (hd : decode code pc = .ok (.aload_n 2, 1)) (kk : Z p l e s m below meth c D ct aC aM b (pc + 1) i (.ref (aM 0) :: st) f g h k) : Z p l e s m below meth c D ct aC aM b pc i st f g h k := by
  intro H locs ls hP hM hS hl
  obtain ⟨⟨hx, hb, hr, hml, hown, hts, hX, hbl, hlk, hgv⟩, hL, hK, hIC, hIM, hdis, hnC, hnM, hO⟩ := hC
  exact lv_aload_n hx hb hd rfl (lv_at hl 2 rfl) (kk H locs ls hP hM hS hl)

theorem Z.iload3 (hC : zC p s m meth c D ct aC aM b L xs) (hd : decode code pc = .ok (.iload_n 3, 1)) (kk : Z p l e s m below meth c D ct aC aM b (pc + 1) i (.int i :: st) f g h k) : Z p l e s m below meth c D ct aC aM b pc i st f g h k := by
  intro H locs ls hP hM hS hl
  obtain ⟨⟨hx, hb, hr, hml, hown, hts, hX, hbl, hlk, hgv⟩, hL, hK, hIC, hIM, hdis, hnC, hnM, hO⟩ := hC
  exact lv_iload_n hx hb hd rfl (lv_at hl 3 rfl) (kk H locs ls hP hM hS hl)

theorem Z.iinc3 (hC : zC p s m meth c D ct aC aM b L xs) (hd : decode code pc = .ok (.iinc 3 6, 3)) (kk : Z p l e s m below meth c D ct aC aM b (pc + 3) (i + 6) st f g h k) : Z p l e s m below meth c D ct aC aM b pc i st f g h k := by
  intro H locs ls hP hM hS hl
  obtain ⟨⟨hx, hb, hr, hml, hown, hts, hX, hbl, hlk, hgv⟩, hL, hK, hIC, hIM, hdis, hnC, hnM, hO⟩ := hC
  exact lv_iinc hx hb hd hl (k := 3) rfl (v := i + 6) rfl (by decide) rfl (fun ls' hl' => kk H locs ls' hP hM hS (lv_sub hl' [1, 2, 3, 0] rfl))

theorem Z.iadd (hC : zC p s m meth c D ct aC aM b L xs) {x y : Int32} (hd : decode code pc = .ok (.iadd, 1)) (kk : Z p l e s m below meth c D ct aC aM b (pc + 1) i (.int (x + y) :: st) f g h k) : Z p l e s m below meth c D ct aC aM b pc i (.int y :: .int x :: st) f g h k := by
  intro H locs ls hP hM hS hl
  obtain ⟨⟨hx, hb, hr, hml, hown, hts, hX, hbl, hlk, hgv⟩, hL, hK, hIC, hIM, hdis, hnC, hnM, hO⟩ := hC
  exact lv_iadd hx hb hd (kk H locs ls hP hM hS hl)

theorem Z.isub (hC : zC p s m meth c D ct aC aM b L xs) {x y : Int32} (hd : decode code pc = .ok (.isub, 1)) (kk : Z p l e s m below meth c D ct aC aM b (pc + 1) i (.int (x - y) :: st) f g h k) : Z p l e s m below meth c D ct aC aM b pc i (.int y :: .int x :: st) f g h k := by
  intro H locs ls hP hM hS hl
  obtain ⟨⟨hx, hb, hr, hml, hown, hts, hX, hbl, hlk, hgv⟩, hL, hK, hIC, hIM, hdis, hnC, hnM, hO⟩ := hC
  exact lv_isub hx hb hd (kk H locs ls hP hM hS hl)

theorem Z.iand (hC : zC p s m meth c D ct aC aM b L xs) {x y : Int32} (hd : decode code pc = .ok (.iand, 1)) (kk : Z p l e s m below meth c D ct aC aM b (pc + 1) i (.int (x &&& y) :: st) f g h k) : Z p l e s m below meth c D ct aC aM b pc i (.int y :: .int x :: st) f g h k := by
  intro H locs ls hP hM hS hl
  obtain ⟨⟨hx, hb, hr, hml, hown, hts, hX, hbl, hlk, hgv⟩, hL, hK, hIC, hIM, hdis, hnC, hnM, hO⟩ := hC
  exact lv_iand hx hb hd (kk H locs ls hP hM hS hl)

theorem Z.land (hC : zC p s m meth c D ct aC aM b L xs) {x y : Int64} (hd : decode code pc = .ok (.land, 1)) (kk : Z p l e s m below meth c D ct aC aM b (pc + 1) i (.long (x &&& y) :: st) f g h k) : Z p l e s m below meth c D ct aC aM b pc i (.long y :: .long x :: st) f g h k := by
  intro H locs ls hP hM hS hl
  obtain ⟨⟨hx, hb, hr, hml, hown, hts, hX, hbl, hlk, hgv⟩, hL, hK, hIC, hIM, hdis, hnC, hnM, hO⟩ := hC
  exact lv_land hx hb hd (kk H locs ls hP hM hS hl)

theorem Z.lor (hC : zC p s m meth c D ct aC aM b L xs) {x y : Int64} (hd : decode code pc = .ok (.lor, 1)) (kk : Z p l e s m below meth c D ct aC aM b (pc + 1) i (.long (x ||| y) :: st) f g h k) : Z p l e s m below meth c D ct aC aM b pc i (.long y :: .long x :: st) f g h k := by
  intro H locs ls hP hM hS hl
  obtain ⟨⟨hx, hb, hr, hml, hown, hts, hX, hbl, hlk, hgv⟩, hL, hK, hIC, hIM, hdis, hnC, hnM, hO⟩ := hC
  exact lv_lor hx hb hd (kk H locs ls hP hM hS hl)

theorem Z.i2l (hC : zC p s m meth c D ct aC aM b L xs) {x : Int32} (hd : decode code pc = .ok (.i2l, 1)) (kk : Z p l e s m below meth c D ct aC aM b (pc + 1) i (.long x.toInt64 :: st) f g h k) : Z p l e s m below meth c D ct aC aM b pc i (.int x :: st) f g h k := by
  intro H locs ls hP hM hS hl
  obtain ⟨⟨hx, hb, hr, hml, hown, hts, hX, hbl, hlk, hgv⟩, hL, hK, hIC, hIM, hdis, hnC, hnM, hO⟩ := hC
  exact lv_i2l hx hb hd rfl (kk H locs ls hP hM hS hl)

theorem Z.lshl (hC : zC p s m meth c D ct aC aM b L xs) {x : Int64} {y : Int32} (hd : decode code pc = .ok (.lshl, 1)) (kk : Z p l e s m below meth c D ct aC aM b (pc + 1) i (.long (x <<< (y.toInt64 &&& 63)) :: st) f g h k) : Z p l e s m below meth c D ct aC aM b pc i (.int y :: .long x :: st) f g h k := by
  intro H locs ls hP hM hS hl
  obtain ⟨⟨hx, hb, hr, hml, hown, hts, hX, hbl, hlk, hgv⟩, hL, hK, hIC, hIM, hdis, hnC, hnM, hO⟩ := hC
  exact lv_lshl hx hb hd rfl (kk H locs ls hP hM hS hl)

theorem Z.lcmpE (hC : zC p s m meth c D ct aC aM b L xs) {x y : Int64} (hd : decode code pc = .ok (.lcmp, 1)) (he : x = y) (kk : Z p l e s m below meth c D ct aC aM b (pc + 1) i (.int 0 :: st) f g h k) : Z p l e s m below meth c D ct aC aM b pc i (.long y :: .long x :: st) f g h k := by
  intro H locs ls hP hM hS hl
  obtain ⟨⟨hx, hb, hr, hml, hown, hts, hX, hbl, hlk, hgv⟩, hL, hK, hIC, hIM, hdis, hnC, hnM, hO⟩ := hC
  subst he
  refine W.lcmp hx hb hd ?_
  rw [show lg_cmp x x = 0 by simp [lg_cmp]]
  exact (kk H locs ls hP hM hS hl)

theorem Z.ldc2 (hC : zC p s m meth c D ct aC aM b L xs) {idx : Nat} {v : Int64} (hd : decode code pc = .ok (.ldc2_w idx, 3)) (hc : Cond.constantLong R_law idx v ∈ xg) (kk : Z p l e s m below meth c D ct aC aM b (pc + 3) i (.long v :: st) f g h k) : Z p l e s m below meth c D ct aC aM b pc i st f g h k := by
  intro H locs ls hP hM hS hl
  obtain ⟨⟨hx, hb, hr, hml, hown, hts, hX, hbl, hlk, hgv⟩, hL, hK, hIC, hIM, hdis, hnC, hnM, hO⟩ := hC
  exact lv_ldc2 hx hb hown (hts _ (xg_tbl hc)) hd (kk H locs ls hP hM hS hl)

theorem Z.goto (hC : zC p s m meth c D ct aC aM b L xs) {off : Int} {tgt : Nat} (hd : decode code pc = .ok (.goto off, 3)) (ht : (pc : Int) + off = (tgt : Int)) (kk : Z p l e s m below meth c D ct aC aM b tgt i st f g h k) : Z p l e s m below meth c D ct aC aM b pc i st f g h k := by
  intro H locs ls hP hM hS hl
  obtain ⟨⟨hx, hb, hr, hml, hown, hts, hX, hbl, hlk, hgv⟩, hL, hK, hIC, hIM, hdis, hnC, hnM, hO⟩ := hC
  exact lv_goto hx hb hd ht (kk H locs ls hP hM hS hl)

theorem Z.ifT (hC : zC p s m meth c D ct aC aM b L xs) {x : Int32} {off : Int} {tgt : Nat} (hd : decode code pc = .ok (.ifCond .eq off, 3)) (ht : (pc : Int) + off = (tgt : Int)) (hc : x = 0) (kk : Z p l e s m below meth c D ct aC aM b tgt i st f g h k) : Z p l e s m below meth c D ct aC aM b pc i (.int x :: st) f g h k := by
  intro H locs ls hP hM hS hl
  obtain ⟨⟨hx, hb, hr, hml, hown, hts, hX, hbl, hlk, hgv⟩, hL, hK, hIC, hIM, hdis, hnC, hnM, hO⟩ := hC
  exact lv_if_eq hx hb hd ht (fun _ => (kk H locs ls hP hM hS hl)) (fun q => absurd hc q)

theorem Z.ifF (hC : zC p s m meth c D ct aC aM b L xs) {x : Int32} {off : Int} {tgt : Nat} (hd : decode code pc = .ok (.ifCond .eq off, 3)) (ht : (pc : Int) + off = (tgt : Int)) (hc : ¬ x = 0) (kk : Z p l e s m below meth c D ct aC aM b (pc + 3) i st f g h k) : Z p l e s m below meth c D ct aC aM b pc i (.int x :: st) f g h k := by
  intro H locs ls hP hM hS hl
  obtain ⟨⟨hx, hb, hr, hml, hown, hts, hX, hbl, hlk, hgv⟩, hL, hK, hIC, hIM, hdis, hnC, hnM, hO⟩ := hC
  exact lv_if_eq hx hb hd ht (fun q => absurd q hc) (fun _ => (kk H locs ls hP hM hS hl))

theorem Z.eqT (hC : zC p s m meth c D ct aC aM b L xs) {x y : Int32} {off : Int} {tgt : Nat} (hd : decode code pc = .ok (.if_icmp .eq off, 3)) (ht : (pc : Int) + off = (tgt : Int)) (hc : x = y) (kk : Z p l e s m below meth c D ct aC aM b tgt i st f g h k) : Z p l e s m below meth c D ct aC aM b pc i (.int y :: .int x :: st) f g h k := by
  intro H locs ls hP hM hS hl
  obtain ⟨⟨hx, hb, hr, hml, hown, hts, hX, hbl, hlk, hgv⟩, hL, hK, hIC, hIM, hdis, hnC, hnM, hO⟩ := hC
  exact lv_icmp_eq hx hb hd ht (fun _ => (kk H locs ls hP hM hS hl)) (fun q => absurd hc q)

theorem Z.gt (hC : zC p s m meth c D ct aC aM b L xs) {x y : Int32} {off : Int} {tgt : Nat} (hd : decode code pc = .ok (.if_icmp .gt off, 3)) (ht : (pc : Int) + off = (tgt : Int)) (kt : y < x → Z p l e s m below meth c D ct aC aM b tgt i st f g h k) (kf : ¬ y < x → Z p l e s m below meth c D ct aC aM b (pc + 3) i st f g h k) : Z p l e s m below meth c D ct aC aM b pc i (.int y :: .int x :: st) f g h k := by
  intro H locs ls hP hM hS hl
  obtain ⟨⟨hx, hb, hr, hml, hown, hts, hX, hbl, hlk, hgv⟩, hL, hK, hIC, hIM, hdis, hnC, hnM, hO⟩ := hC
  exact lv_icmp_gt hx hb hd ht (fun q => kt q H locs ls hP hM hS hl) (fun q => kf q H locs ls hP hM hS hl)

theorem Z.swIn (hC : zC p s m meth c D ct aC aM b L xs) {dflt lo hi : Int} {offs : Array Int} {len : Nat} {x v : Int32} {off : Int} {tgt : Nat} (hd : decode code pc = .ok (.tableswitch dflt lo hi offs, len)) (hv : x = v) (h1 : ¬ v.toInt < lo) (h2 : ¬ hi < v.toInt) (ho : offs[(v.toInt - lo).toNat]? = some off) (ht : (pc : Int) + off = (tgt : Int)) (kk : Z p l e s m below meth c D ct aC aM b tgt i st f g h k) : Z p l e s m below meth c D ct aC aM b pc i (.int x :: st) f g h k := by
  intro H locs ls hP hM hS hl
  obtain ⟨⟨hx, hb, hr, hml, hown, hts, hX, hbl, hlk, hgv⟩, hL, hK, hIC, hIM, hdis, hnC, hnM, hO⟩ := hC
  subst hv
  exact lv_tableIn hx hb hd h1 h2 ho ht (kk H locs ls hP hM hS hl)

theorem Z.swOut (hC : zC p s m meth c D ct aC aM b L xs) {dflt lo hi : Int} {offs : Array Int} {len : Nat} {x : Int32} {tgt : Nat} (hd : decode code pc = .ok (.tableswitch dflt lo hi offs, len)) (h1 : x.toInt < lo ∨ hi < x.toInt) (ht : (pc : Int) + dflt = (tgt : Int)) (kk : Z p l e s m below meth c D ct aC aM b tgt i st f g h k) : Z p l e s m below meth c D ct aC aM b pc i (.int x :: st) f g h k := by
  intro H locs ls hP hM hS hl
  obtain ⟨⟨hx, hb, hr, hml, hown, hts, hX, hbl, hlk, hgv⟩, hL, hK, hIC, hIM, hdis, hnC, hnM, hO⟩ := hC
  exact lv_tableOut hx hb hd h1 ht (kk H locs ls hP hM hS hl)

theorem Z.sld (hC : zC p s m meth c D ct aC aM b L xs) {j : Int32} (hd : decode code pc = .ok (.iaload, 1)) (hin : vp_in j L) (kk : Z p l e s m below meth c D ct aC aM b (pc + 1) i (.int (xs j.toNatClampNeg) :: st) f g h k) : Z p l e s m below meth c D ct aC aM b pc i (.int j :: .ref b :: st) f g h k := by
  intro H locs ls hP hM hS hl
  obtain ⟨⟨hx, hb, hr, hml, hown, hts, hX, hbl, hlk, hgv⟩, hL, hK, hIC, hIM, hdis, hnC, hnM, hO⟩ := hC
  exact va_sld hx hb hX hbl (Nat.not_le.mpr hbl) hS hin hd (kk H locs ls hP hM hS hl)

theorem Z.slen (hC : zC p s m meth c D ct aC aM b L xs) (hd : decode code pc = .ok (.arraylength, 1)) (kk : Z p l e s m below meth c D ct aC aM b (pc + 1) i (.int (nI L) :: st) f g h k) : Z p l e s m below meth c D ct aC aM b pc i (.ref b :: st) f g h k := by
  intro H locs ls hP hM hS hl
  obtain ⟨⟨hx, hb, hr, hml, hown, hts, hX, hbl, hlk, hgv⟩, hL, hK, hIC, hIM, hdis, hnC, hnM, hO⟩ := hC
  exact va_slen hx hb hX hbl (Nat.not_le.mpr hbl) hS hd (kk H locs ls hP hM hS hl)

theorem Z.ret (hC : zC p s m meth c D ct aC aM b L xs) (hd : decode code pc = .ok (.ireturn, 1)) : Z p l e s m below meth c D ct aC aM b pc i [.int 1] f g h k := by
  intro H locs ls hP hM hS hl
  obtain ⟨⟨hx, hb, hr, hml, hown, hts, hX, hbl, hlk, hgv⟩, hL, hK, hIC, hIM, hdis, hnC, hnM, hO⟩ := hC
  refine va_forget hS.2.2 ?_
  refine W.widen (k := 600000) (n := 7302250) (by omega) (by omega) ?_
  exact lw_ret hx hb hr hlk hd

theorem xA_kept {ad ad2 : Nat → Nat} {sh sh2 : xS} {f : xM} {g : xN} {D : va_G} {ct : Bool → ClassId} {H H1 : Heap} (hP : va_P D vwCl (xw ct ad2 sh2 f g) H) (hdis : ∀ i j, i < sh.length → j < sh2.length → ad i ≠ ad2 j) (hk : ∀ q : Nat, q < H.size → ¬ xA ad sh.length q → H1[q]? = H[q]?) : va_P D vwCl (xw ct ad2 sh2 f g) H1 := by
  refine hP.kept (fun j q hq => ?_)
  have hlt := (hP j q hq).lt
  obtain ⟨c1, h1, rfl⟩ := xw_of hq
  exact hk _ hlt (fun ⟨i, hi, he⟩ => hdis i j hi (List.getElem?_eq_some_iff.mp h1).1 he)
theorem xO_at {A B : Nat → Prop} {s U : State} {H : Heap} {locs : List Loc} (hO : xO A s s.heap) (hS : va_S A s.heap H locs) (hAB : ∀ q, B q → A q) (hU : U.heap = H) (hW : s.WarmedH U.vm) : xO B U U.heap := by
  subst hU
  obtain ⟨t, hZ, hT⟩ := hO
  exact ⟨t, (va_Z.moved hW.alike (hZ.kept hS.2.1)).narrow hAB, (va_T.moved hW.alike (hT.kept hS.2.1)).narrow hAB⟩

theorem Z.callC {μ : xm} {d' n idx : Nat} {As : List Value} {r : Option Value} (hC : zC p s m meth c D ct aC aM b L xs) (hX1 : XT μ d' (.ref 0 :: As) f g (r, f', g')) (hd' : d' ≤ 100) (hcw : xcv μ n) (hsh : μ.2.2.2.2 = shC) (hcls : μ.1.cls = RX11) (hlink : Cond.methodLink R_law idx μ.1 ∈ xg) (hlen : As.length = n) (hAs : ∀ ad, As.map (xt ad) = As) (hrr : ∀ ad, r.map (xt ad) = r) (hst : st0 = As.reverse ++ .ref (aC 0) :: st) (hst1 : r.toList ++ st = st1) (hcat : (st.map fun v => v.category).sum ≤ 8) (hd : decode code pc = .ok (.invokevirtual idx, 3)) (kk : Z p l e s m below meth c D ct aC aM b (pc + 3) i st1 f' g' h k) : Z p l e s m below meth c D ct aC aM b pc i st0 f g h k := by
  intro H locs ls hP hM hS hl
  obtain ⟨⟨hx, hb, hr, hml, hown, hts, hX, hbl, hlk, hgv⟩, hL, hK, hIC, hIM, hdis, hnC, hnM, hO⟩ := hC
  obtain ⟨h1, h2, h3, h4, h5, h6, h7, h8⟩ := hcw
  have hM1 := hX1 l D ct aC
  rw [hsh] at hM1
  subst hst
  subst hst1
  have htg : ∀ w ∈ xg, w.before #[Value.ref b] s = true := fun w hw => hts w (xg_tbl hw)
  have hAB : ∀ q, xA aC shC.length q → zA s q := fun q hq => by
    obtain ⟨i, hi, rfl⟩ := hq
    exact hnC i hi
  have hgd : GoodIn xg (wsV R_law idx μ.1.cls μ.1 (.code μ.1 μ.2.1 μ.2.2.1 μ.2.2.2.1 :: xg)) := by
    intro w hw
    simp only [wsV, List.mem_append, List.mem_cons, List.not_mem_nil, or_false] at hw
    rcases hw with (rfl | rfl | rfl | rfl) | rfl | hw
    · exact ⟨hlink, xg_good hlink⟩
    · exact ⟨h1, xg_good h1⟩
    · exact ⟨h2, xg_good h2⟩
    · exact ⟨h3, xg_good h3⟩
    · exact ⟨h4, xg_good h4⟩
    · exact ⟨hw, xg_good hw⟩
  have hrec : ∃ cell : Cell, H[aC 0]? = some cell ∧ cell.vm.isStatics = false ∧ s.vm.findClass μ.1.cls = some cell.cls := by
    rw [hcls]
    exact va_recv hK.1 hP (ci := 11) (q := (RX11, TX11, 11)) rfl (xw_at sC_0)
  have hrun := va_runV (p := p) (l := l) (e := e) (R := room_1) (below := below) (meth := meth) (locs := locs) (cells := 43) (slots := 4647) (As := As) (rest := st) (Ts := xg) (C := μ.1.cls) (b := aC 0) (H := H) (g := F0 m pc ls (As.reverse ++ .ref (aC 0) :: st)) ⟨hx, hb, hml, hown, htg⟩ hM1 (cwV (index := idx) n htg hgd rfl rfl rfl ⟨rfl, h6, h7, h8⟩ ⟨by show d' + 1 ≤ 2048; omega, by show 8 + (μ.2.2.1 + 11) + 64 * d' ≤ 84000; omega⟩) ⟨xPc_blind, hrec, fun U hU hW => ⟨by rw [List.map_cons, hAs]; rfl, hK.moved hW, hIC, xO_at hO hS hAB hU hW, by rw [hU]; exact hP⟩⟩ rfl hlen hl.1 rfl (lv_room hcat) hd ⟨by decide, by decide⟩
  intro T hT X
  obtain ⟨v, st₀, t, T', L', h0, X', hL', e1, e2, ⟨⟨hv, hP1⟩, hz, hk⟩, stp⟩ := hrun T hT X
  cases hv
  rw [h0] at hz hk
  rw [hrr] at stp
  obtain ⟨t2, a1, b1⟩ := kk T'.heap (locs ++ L') ls (by rw [e1]; exact hP1) (by rw [e1]; exact xA_kept hM hdis hk) ⟨Nat.le_trans hS.1 (by rw [e1]; exact hz), fun q q1 q2 => by rw [e1, hk q (Nat.lt_of_lt_of_le q1 hS.1) (fun z => q2 (hAB q z))]; exact hS.2.1 q q1 q2, fun q hq => by
    rcases List.mem_append.mp hq with q1 | q1
    · exact hS.2.2 q q1
    · exact hAB _ (hL' q q1)⟩ hl T' rfl X'
  exact ⟨t2, stp t2 a1, b1⟩

theorem Z.callM {μ : xm} {d' n idx : Nat} {As : List Value} {r : Option Value} (hC : zC p s m meth c D ct aC aM b L xs) (hX1 : XT μ d' (.ref 0 :: As) h k (r, h', k')) (hd' : d' ≤ 100) (hcw : xcv μ n) (hsh : μ.2.2.2.2 = shM) (hcls : μ.1.cls = RX12) (hlink : Cond.methodLink R_law idx μ.1 ∈ xg) (hlen : As.length = n) (hAs : ∀ ad, As.map (xt ad) = As) (hrr : ∀ ad, r.map (xt ad) = r) (hst : st0 = As.reverse ++ .ref (aM 0) :: st) (hst1 : r.toList ++ st = st1) (hcat : (st.map fun v => v.category).sum ≤ 8) (hd : decode code pc = .ok (.invokevirtual idx, 3)) (kk : Z p l e s m below meth c D ct aC aM b (pc + 3) i st1 f g h' k') : Z p l e s m below meth c D ct aC aM b pc i st0 f g h k := by
  intro H locs ls hP hM hS hl
  obtain ⟨⟨hx, hb, hr, hml, hown, hts, hX, hbl, hlk, hgv⟩, hL, hK, hIC, hIM, hdis, hnC, hnM, hO⟩ := hC
  obtain ⟨h1, h2, h3, h4, h5, h6, h7, h8⟩ := hcw
  have hM1 := hX1 l D ct aM
  rw [hsh] at hM1
  subst hst
  subst hst1
  have htg : ∀ w ∈ xg, w.before #[Value.ref b] s = true := fun w hw => hts w (xg_tbl hw)
  have hAB : ∀ q, xA aM shM.length q → zA s q := fun q hq => by
    obtain ⟨i, hi, rfl⟩ := hq
    exact hnM i hi
  have hgd : GoodIn xg (wsV R_law idx μ.1.cls μ.1 (.code μ.1 μ.2.1 μ.2.2.1 μ.2.2.2.1 :: xg)) := by
    intro w hw
    simp only [wsV, List.mem_append, List.mem_cons, List.not_mem_nil, or_false] at hw
    rcases hw with (rfl | rfl | rfl | rfl) | rfl | hw
    · exact ⟨hlink, xg_good hlink⟩
    · exact ⟨h1, xg_good h1⟩
    · exact ⟨h2, xg_good h2⟩
    · exact ⟨h3, xg_good h3⟩
    · exact ⟨h4, xg_good h4⟩
    · exact ⟨hw, xg_good hw⟩
  have hrec : ∃ cell : Cell, H[aM 0]? = some cell ∧ cell.vm.isStatics = false ∧ s.vm.findClass μ.1.cls = some cell.cls := by
    rw [hcls]
    exact va_recv hK.1 hM (ci := 12) (q := (RX12, TX12, 34)) rfl (xw_at sM_0)
  have hrun := va_runV (p := p) (l := l) (e := e) (R := room_1) (below := below) (meth := meth) (locs := locs) (cells := 43) (slots := 4647) (As := As) (rest := st) (Ts := xg) (C := μ.1.cls) (b := aM 0) (H := H) (g := F0 m pc ls (As.reverse ++ .ref (aM 0) :: st)) ⟨hx, hb, hml, hown, htg⟩ hM1 (cwV (index := idx) n htg hgd rfl rfl rfl ⟨rfl, h6, h7, h8⟩ ⟨by show d' + 1 ≤ 2048; omega, by show 8 + (μ.2.2.1 + 11) + 64 * d' ≤ 84000; omega⟩) ⟨xPc_blind, hrec, fun U hU hW => ⟨by rw [List.map_cons, hAs]; rfl, hK.moved hW, hIM, xO_at hO hS hAB hU hW, by rw [hU]; exact hM⟩⟩ rfl hlen hl.1 rfl (lv_room hcat) hd ⟨by decide, by decide⟩
  intro T hT X
  obtain ⟨v, st₀, t, T', L', h0, X', hL', e1, e2, ⟨⟨hv, hP1⟩, hz, hk⟩, stp⟩ := hrun T hT X
  cases hv
  rw [h0] at hz hk
  rw [hrr] at stp
  obtain ⟨t2, a1, b1⟩ := kk T'.heap (locs ++ L') ls (by rw [e1]; exact xA_kept hP (fun i j hi hj => (hdis j i hj hi).symm) hk) (by rw [e1]; exact hP1) ⟨Nat.le_trans hS.1 (by rw [e1]; exact hz), fun q q1 q2 => by rw [e1, hk q (Nat.lt_of_lt_of_le q1 hS.1) (fun z => q2 (hAB q z))]; exact hS.2.1 q q1 q2, fun q hq => by
    rcases List.mem_append.mp hq with q1 | q1
    · exact hS.2.2 q q1
    · exact hAB _ (hL' q q1)⟩ hl T' rfl X'
  exact ⟨t2, stp t2 a1, b1⟩

end ZR
theorem mlL_13 : Cond.methodLink R_law 13 yX11_write ∈ xg := xg_in 401 (by decide +kernel) rfl
theorem mlL_17 : Cond.methodLink R_law 17 yX12_write ∈ xg := xg_in 990 (by decide +kernel) rfl
theorem mlL_18 : Cond.methodLink R_law 18 yX11_wipe ∈ xg := xg_in 409 (by decide +kernel) rfl
theorem mlL_22 : Cond.methodLink R_law 22 yX12_wipe ∈ xg := xg_in 998 (by decide +kernel) rfl
theorem mlL_23 : Cond.methodLink R_law 23 yX11_fault ∈ xg := xg_in 413 (by decide +kernel) rfl
theorem mlL_26 : Cond.methodLink R_law 26 yX12_fault ∈ xg := xg_in 1002 (by decide +kernel) rfl
theorem mlL_27 : Cond.methodLink R_law 27 yX11_paper ∈ xg := xg_in 456 (by decide +kernel) rfl
theorem mlL_30 : Cond.methodLink R_law 30 yX12_paper ∈ xg := xg_in 1027 (by decide +kernel) rfl
theorem mlL_31 : Cond.methodLink R_law 31 yX11_about ∈ xg := xg_in 487 (by decide +kernel) rfl
theorem mlL_34 : Cond.methodLink R_law 34 yX12_about ∈ xg := xg_in 1031 (by decide +kernel) rfl
theorem mlL_35 : Cond.methodLink R_law 35 yX11_kind ∈ xg := xg_in 545 (by decide +kernel) rfl
theorem mlL_38 : Cond.methodLink R_law 38 yX12_kind ∈ xg := xg_in 1054 (by decide +kernel) rfl
theorem mlL_39 : Cond.methodLink R_law 39 yX11_reader ∈ xg := xg_in 557 (by decide +kernel) rfl
theorem mlL_43 : Cond.methodLink R_law 43 yX12_reader ∈ xg := xg_in 1062 (by decide +kernel) rfl
theorem mlL_44 : Cond.methodLink R_law 44 yX11_print ∈ xg := xg_in 568 (by decide +kernel) rfl
theorem mlL_48 : Cond.methodLink R_law 48 yX12_print ∈ xg := xg_in 1070 (by decide +kernel) rfl
theorem mlL_49 : Cond.methodLink R_law 49 yX11_quiet ∈ xg := xg_in 622 (by decide +kernel) rfl
theorem mlL_52 : Cond.methodLink R_law 52 yX12_quiet ∈ xg := xg_in 1097 (by decide +kernel) rfl
theorem mlL_53 : Cond.methodLink R_law 53 yX11_tell ∈ xg := xg_in 627 (by decide +kernel) rfl
theorem mlL_56 : Cond.methodLink R_law 56 yX12_tell ∈ xg := xg_in 1101 (by decide +kernel) rfl
theorem mlL_57 : Cond.methodLink R_law 57 yX11_learn ∈ xg := xg_in 632 (by decide +kernel) rfl
theorem mlL_60 : Cond.methodLink R_law 60 yX12_learn ∈ xg := xg_in 1105 (by decide +kernel) rfl
theorem mlL_61 : Cond.methodLink R_law 61 yX11_undo ∈ xg := xg_in 637 (by decide +kernel) rfl
theorem mlL_64 : Cond.methodLink R_law 64 yX12_undo ∈ xg := xg_in 1109 (by decide +kernel) rfl
theorem lcL_65 : Cond.constantLong R_law 65 (4294967295) ∈ xg := xg_in 1262 (by decide +kernel) rfl
theorem mlL_67 : Cond.methodLink R_law 67 yX11_after ∈ xg := xg_in 649 (by decide +kernel) rfl
theorem mlL_71 : Cond.methodLink R_law 71 yX12_after ∈ xg := xg_in 1113 (by decide +kernel) rfl
theorem mlL_72 : Cond.methodLink R_law 72 yX11_righted ∈ xg := xg_in 669 (by decide +kernel) rfl
theorem mlL_75 : Cond.methodLink R_law 75 yX12_righted ∈ xg := xg_in 1144 (by decide +kernel) rfl
theorem mlL_76 : Cond.methodLink R_law 76 yX11_allRighted ∈ xg := xg_in 708 (by decide +kernel) rfl
theorem mlL_79 : Cond.methodLink R_law 79 yX12_allRighted ∈ xg := xg_in 1165 (by decide +kernel) rfl
theorem mlL_80 : Cond.methodLink R_law 80 yX11_ring ∈ xg := xg_in 712 (by decide +kernel) rfl
theorem mlL_84 : Cond.methodLink R_law 84 yX12_ring ∈ xg := xg_in 1169 (by decide +kernel) rfl
theorem mlL_85 : Cond.methodLink R_law 85 yX11_first ∈ xg := xg_in 730 (by decide +kernel) rfl
theorem mlL_88 : Cond.methodLink R_law 88 yX12_first ∈ xg := xg_in 1173 (by decide +kernel) rfl
theorem mlL_89 : Cond.methodLink R_law 89 yX11_who ∈ xg := xg_in 742 (by decide +kernel) rfl
theorem mlL_93 : Cond.methodLink R_law 93 yX12_who ∈ xg := xg_in 1186 (by decide +kernel) rfl
theorem mlL_94 : Cond.methodLink R_law 94 yX11_code ∈ xg := xg_in 747 (by decide +kernel) rfl
theorem mlL_97 : Cond.methodLink R_law 97 yX12_code ∈ xg := xg_in 1190 (by decide +kernel) rfl
theorem mlL_98 : Cond.methodLink R_law 98 yX11_codeName ∈ xg := xg_in 769 (by decide +kernel) rfl
theorem mlL_101 : Cond.methodLink R_law 101 yX12_codeName ∈ xg := xg_in 1203 (by decide +kernel) rfl
theorem mlL_102 : Cond.methodLink R_law 102 yX11_rests ∈ xg := xg_in 773 (by decide +kernel) rfl
theorem mlL_106 : Cond.methodLink R_law 106 yX12_rests ∈ xg := xg_in 1207 (by decide +kernel) rfl
theorem mlL_107 : Cond.methodLink R_law 107 yX11_chance ∈ xg := xg_in 801 (by decide +kernel) rfl
theorem mlL_111 : Cond.methodLink R_law 111 yX12_chance ∈ xg := xg_in 1215 (by decide +kernel) rfl
theorem mlL_112 : Cond.methodLink R_law 112 yX11_share ∈ xg := xg_in 826 (by decide +kernel) rfl
theorem mlL_116 : Cond.methodLink R_law 116 yX12_share ∈ xg := xg_in 1234 (by decide +kernel) rfl
theorem mlL_117 : Cond.methodLink R_law 117 yX11_seed ∈ xg := xg_in 859 (by decide +kernel) rfl
theorem mlL_121 : Cond.methodLink R_law 121 yX12_seed ∈ xg := xg_in 1242 (by decide +kernel) rfl
theorem mlL_122 : Cond.methodLink R_law 122 yX11_years ∈ xg := xg_in 863 (by decide +kernel) rfl
theorem mlL_125 : Cond.methodLink R_law 125 yX12_years ∈ xg := xg_in 1246 (by decide +kernel) rfl
theorem mlL_126 : Cond.methodLink R_law 126 yX11_keep ∈ xg := xg_in 871 (by decide +kernel) rfl
theorem mlL_129 : Cond.methodLink R_law 129 yX12_keep ∈ xg := xg_in 1254 (by decide +kernel) rfl
theorem mlL_130 : Cond.methodLink R_law 130 yX11_again ∈ xg := xg_in 876 (by decide +kernel) rfl
theorem mlL_133 : Cond.methodLink R_law 133 yX12_again ∈ xg := xg_in 1258 (by decide +kernel) rfl
