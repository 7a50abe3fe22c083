/-! ===== the abstract machine: memory and calls ===== -/
def xcl (ci : Nat) (C : String) (T : u_T) (N : Nat) (ty : Nat → FieldType) : Prop := vwCl[ci]? = some (C, T, N) ∧ (∀ w ∈ u_ws C T N, w ∈ xg) ∧ (∀ k, k < N → parseFieldDescriptor (T k).2.2.1 = some (ty k)) ∧ (∀ a, a < N → ∀ b, b < N → a ≠ b → (T a).2.1 ≠ (T b).2.1)
theorem xg_ws {C : String} {T : u_T} {N : Nat} (h1 : (u_ws C T N).all (fun w => decide (w ∈ lw_tbl) && goodWord w) = true) : ∀ w ∈ u_ws C T N, w ∈ xg := fun w hw => by
  have h := List.all_eq_true.mp h1 w hw
  simp only [Bool.and_eq_true, decide_eq_true_eq] at h
  exact List.mem_filter.mpr h
section XR2
variable {μ : xm} {d : Nat} {R : xR} {pc : Nat} {L : List (Option Value)} {st : List Value} {f : xM} {g : xN} {i k0 ci N idx n : Nat} {C : String} {T : u_T} {ty : Nat → FieldType} {sl : List (Nat ⊕ Bool)}
theorem xmap_at {ad : Nat → Nat} {t : Nat ⊕ Bool} (h : sl[k0]? = some t) : (sl.mapIdx (fun k t => xv ad f g i k t))[k0]? = some (xv ad f g i k0 t) := by simp [List.getElem?_mapIdx, h]

theorem X.getI (hc : xcl ci C T N ty) (hs : μ.2.2.2.2[i]? = some (.inr (ci, sl))) (hk : k0 < N) (hsl : sl[k0]? = some (.inr false)) (hlink : Cond.fieldLink μ.1.cls idx (T k0).1 (T k0).2.1 (T k0).2.2.1 ∈ xg) (hd : decode μ.2.1 pc = .ok (.getfield idx, 3)) (k : X μ d R (pc + 3) L (.int (f i k0) :: st) f g) : X μ d R pc L (.ref i :: st) f g := by
  intro p l e s m args below meth c D ct ad H locs ls hC hP hS hl
  obtain ⟨hx, hb, hml, hr, hlk, hown, hts, hK, hI, hO⟩ := id hC
  exact va_get hx hb hts hc.2.1 hown hK.1 hP i (xw_at hs) hc.1 k0 hk (hts _ hlink) (fun _ h9 => h9) (xmap_at hsl) hd (k p l e s m args below meth c D ct ad H locs ls hC hP hS hl)
theorem X.getIN {host : String} (hc : xcl ci C T N ty) (hs : μ.2.2.2.2[i]? = some (.inr (ci, sl))) (hk : k0 < N) (hsl : sl[k0]? = some (.inr false)) (hlink : Cond.fieldLinkNest μ.1.cls idx (T k0).1 (T k0).2.1 (T k0).2.2.1 host ∈ xn) (hd : decode μ.2.1 pc = .ok (.getfield idx, 3)) (k : X μ d R (pc + 3) L (.int (f i k0) :: st) f g) : X μ d R pc L (.ref i :: st) f g := by
  intro p l e s m args below meth c D ct ad H locs ls hC hP hS hl
  obtain ⟨hx, hb, hml, hr, hlk, hown, hts, hK, hI, hO⟩ := id hC
  exact va_getN hx hb hts hc.2.1 hown hK.1 hP i (xw_at hs) hc.1 k0 hk (va_Nw.use rfl (hK.2 _ hlink)) (fun _ h9 => h9) (xmap_at hsl) hd (k p l e s m args below meth c D ct ad H locs ls hC hP hS hl)

theorem X.getL (hc : xcl ci C T N ty) (hs : μ.2.2.2.2[i]? = some (.inr (ci, sl))) (hk : k0 < N) (hsl : sl[k0]? = some (.inr true)) (hlink : Cond.fieldLink μ.1.cls idx (T k0).1 (T k0).2.1 (T k0).2.2.1 ∈ xg) (hd : decode μ.2.1 pc = .ok (.getfield idx, 3)) (k : X μ d R (pc + 3) L (.long (g i k0) :: st) f g) : X μ d R pc L (.ref i :: st) f g := by
  intro p l e s m args below meth c D ct ad H locs ls hC hP hS hl
  obtain ⟨hx, hb, hml, hr, hlk, hown, hts, hK, hI, hO⟩ := id hC
  exact va_get hx hb hts hc.2.1 hown hK.1 hP i (xw_at hs) hc.1 k0 hk (hts _ hlink) (fun _ h9 => h9) (xmap_at hsl) hd (k p l e s m args below meth c D ct ad H locs ls hC hP hS hl)
theorem X.getLN {host : String} (hc : xcl ci C T N ty) (hs : μ.2.2.2.2[i]? = some (.inr (ci, sl))) (hk : k0 < N) (hsl : sl[k0]? = some (.inr true)) (hlink : Cond.fieldLinkNest μ.1.cls idx (T k0).1 (T k0).2.1 (T k0).2.2.1 host ∈ xn) (hd : decode μ.2.1 pc = .ok (.getfield idx, 3)) (k : X μ d R (pc + 3) L (.long (g i k0) :: st) f g) : X μ d R pc L (.ref i :: st) f g := by
  intro p l e s m args below meth c D ct ad H locs ls hC hP hS hl
  obtain ⟨hx, hb, hml, hr, hlk, hown, hts, hK, hI, hO⟩ := id hC
  exact va_getN hx hb hts hc.2.1 hown hK.1 hP i (xw_at hs) hc.1 k0 hk (va_Nw.use rfl (hK.2 _ hlink)) (fun _ h9 => h9) (xmap_at hsl) hd (k p l e s m args below meth c D ct ad H locs ls hC hP hS hl)

theorem X.getR {j : Nat} (hc : xcl ci C T N ty) (hs : μ.2.2.2.2[i]? = some (.inr (ci, sl))) (hk : k0 < N) (hsl : sl[k0]? = some (.inl j)) (hlink : Cond.fieldLink μ.1.cls idx (T k0).1 (T k0).2.1 (T k0).2.2.1 ∈ xg) (hd : decode μ.2.1 pc = .ok (.getfield idx, 3)) (k : X μ d R (pc + 3) L (.ref j :: st) f g) : X μ d R pc L (.ref i :: st) f g := by
  intro p l e s m args below meth c D ct ad H locs ls hC hP hS hl
  obtain ⟨hx, hb, hml, hr, hlk, hown, hts, hK, hI, hO⟩ := id hC
  exact va_get hx hb hts hc.2.1 hown hK.1 hP i (xw_at hs) hc.1 k0 hk (hts _ hlink) (fun _ h9 => h9) (xmap_at hsl) hd (k p l e s m args below meth c D ct ad H locs ls hC hP hS hl)
theorem X.getRN {j : Nat} {host : String} (hc : xcl ci C T N ty) (hs : μ.2.2.2.2[i]? = some (.inr (ci, sl))) (hk : k0 < N) (hsl : sl[k0]? = some (.inl j)) (hlink : Cond.fieldLinkNest μ.1.cls idx (T k0).1 (T k0).2.1 (T k0).2.2.1 host ∈ xn) (hd : decode μ.2.1 pc = .ok (.getfield idx, 3)) (k : X μ d R (pc + 3) L (.ref j :: st) f g) : X μ d R pc L (.ref i :: st) f g := by
  intro p l e s m args below meth c D ct ad H locs ls hC hP hS hl
  obtain ⟨hx, hb, hml, hr, hlk, hown, hts, hK, hI, hO⟩ := id hC
  exact va_getN hx hb hts hc.2.1 hown hK.1 hP i (xw_at hs) hc.1 k0 hk (va_Nw.use rfl (hK.2 _ hlink)) (fun _ h9 => h9) (xmap_at hsl) hd (k p l e s m args below meth c D ct ad H locs ls hC hP hS hl)

theorem X.putI {v : Int32} (hc : xcl ci C T N ty) (hs : μ.2.2.2.2[i]? = some (.inr (ci, sl))) (hk : k0 < N) (hsl : sl[k0]? = some (.inr false)) (hlink : Cond.fieldLink μ.1.cls idx (T k0).1 (T k0).2.1 (T k0).2.2.1 ∈ xg) (hfin : (T k0).2.2.2 = false) (hty : ty k0 = .int) (hd : decode μ.2.1 pc = .ok (.putfield idx, 3)) (k : X μ d R (pc + 3) L st (xu f i k0 v) g) : X μ d R pc L (.int v :: .ref i :: st) f g := by
  intro p l e s m args below meth c D ct ad H locs ls hC hP hS hl
  obtain ⟨hx, hb, hml, hr, hlk, hown, hts, hK, hI, hO⟩ := id hC
  refine va_put (v := .int v) hx hb hts hc.2.1 ty hc.2.2.1 hc.2.2.2 hown hK.1 hP (xw_D hI) hS i (xw_at hs) hc.1 k0 hk (hts _ hlink) (fun _ h9 => h9) hfin ((hc.2.2.1 k0 hk).trans (congrArg some hty)) rfl rfl (by have := (List.getElem?_eq_some_iff.mp hsl).1; simpa using this) hd (fun H locs hP hD hS => ?_)
  rw [xw_setI hs hsl] at hP
  exact k p l e s m args below meth c D ct ad H locs ls hC hP hS hl
theorem X.putIN {v : Int32} {host : String} (hc : xcl ci C T N ty) (hs : μ.2.2.2.2[i]? = some (.inr (ci, sl))) (hk : k0 < N) (hsl : sl[k0]? = some (.inr false)) (hlink : Cond.fieldLinkNest μ.1.cls idx (T k0).1 (T k0).2.1 (T k0).2.2.1 host ∈ xn) (hfin : (T k0).2.2.2 = false) (hty : ty k0 = .int) (hd : decode μ.2.1 pc = .ok (.putfield idx, 3)) (k : X μ d R (pc + 3) L st (xu f i k0 v) g) : X μ d R pc L (.int v :: .ref i :: st) f g := by
  intro p l e s m args below meth c D ct ad H locs ls hC hP hS hl
  obtain ⟨hx, hb, hml, hr, hlk, hown, hts, hK, hI, hO⟩ := id hC
  refine va_putN (v := .int v) hx hb hts hc.2.1 ty hc.2.2.1 hc.2.2.2 hown hK.1 hP (xw_D hI) hS i (xw_at hs) hc.1 k0 hk (va_Nw.use rfl (hK.2 _ hlink)) (fun _ h9 => h9) hfin ((hc.2.2.1 k0 hk).trans (congrArg some hty)) rfl rfl (by have := (List.getElem?_eq_some_iff.mp hsl).1; simpa using this) hd (fun H locs hP hD hS => ?_)
  rw [xw_setI hs hsl] at hP
  exact k p l e s m args below meth c D ct ad H locs ls hC hP hS hl

theorem X.putL {v : Int64} (hc : xcl ci C T N ty) (hs : μ.2.2.2.2[i]? = some (.inr (ci, sl))) (hk : k0 < N) (hsl : sl[k0]? = some (.inr true)) (hlink : Cond.fieldLink μ.1.cls idx (T k0).1 (T k0).2.1 (T k0).2.2.1 ∈ xg) (hfin : (T k0).2.2.2 = false) (hty : ty k0 = .long) (hd : decode μ.2.1 pc = .ok (.putfield idx, 3)) (k : X μ d R (pc + 3) L st f (xu g i k0 v)) : X μ d R pc L (.long v :: .ref i :: st) f g := by
  intro p l e s m args below meth c D ct ad H locs ls hC hP hS hl
  obtain ⟨hx, hb, hml, hr, hlk, hown, hts, hK, hI, hO⟩ := id hC
  refine va_put (v := .long v) hx hb hts hc.2.1 ty hc.2.2.1 hc.2.2.2 hown hK.1 hP (xw_D hI) hS i (xw_at hs) hc.1 k0 hk (hts _ hlink) (fun _ h9 => h9) hfin ((hc.2.2.1 k0 hk).trans (congrArg some hty)) rfl rfl (by have := (List.getElem?_eq_some_iff.mp hsl).1; simpa using this) hd (fun H locs hP hD hS => ?_)
  rw [xw_setL hs hsl] at hP
  exact k p l e s m args below meth c D ct ad H locs ls hC hP hS hl
theorem X.putLN {v : Int64} {host : String} (hc : xcl ci C T N ty) (hs : μ.2.2.2.2[i]? = some (.inr (ci, sl))) (hk : k0 < N) (hsl : sl[k0]? = some (.inr true)) (hlink : Cond.fieldLinkNest μ.1.cls idx (T k0).1 (T k0).2.1 (T k0).2.2.1 host ∈ xn) (hfin : (T k0).2.2.2 = false) (hty : ty k0 = .long) (hd : decode μ.2.1 pc = .ok (.putfield idx, 3)) (k : X μ d R (pc + 3) L st f (xu g i k0 v)) : X μ d R pc L (.long v :: .ref i :: st) f g := by
  intro p l e s m args below meth c D ct ad H locs ls hC hP hS hl
  obtain ⟨hx, hb, hml, hr, hlk, hown, hts, hK, hI, hO⟩ := id hC
  refine va_putN (v := .long v) hx hb hts hc.2.1 ty hc.2.2.1 hc.2.2.2 hown hK.1 hP (xw_D hI) hS i (xw_at hs) hc.1 k0 hk (va_Nw.use rfl (hK.2 _ hlink)) (fun _ h9 => h9) hfin ((hc.2.2.1 k0 hk).trans (congrArg some hty)) rfl rfl (by have := (List.getElem?_eq_some_iff.mp hsl).1; simpa using this) hd (fun H locs hP hD hS => ?_)
  rw [xw_setL hs hsl] at hP
  exact k p l e s m args below meth c D ct ad H locs ls hC hP hS hl

abbrev xin (j : Int32) (n : Nat) : Prop := ¬ (j < 0 ∨ n ≤ j.toNatClampNeg)
theorem X.iald {j : Int32} (hs : μ.2.2.2.2[i]? = some (.inl (false, n))) (hin : xin j n) (hd : decode μ.2.1 pc = .ok (.iaload, 1)) (k : X μ d R (pc + 1) L (.int (f i j.toNatClampNeg) :: st) f g) : X μ d R pc L (.int j :: .ref i :: st) f g := by
  intro p l e s m args below meth c D ct ad H locs ls hC hP hS hl
  obtain ⟨hx, hb, hml, hr, hlk, hown, hts, hK, hI, hO⟩ := id hC
  exact va_iald hx hb hK.1 hP i 0 (xw_at hs) rfl hin hd (k p l e s m args below meth c D ct ad H locs ls hC hP hS hl)
theorem X.zald {j : Int32} (hs : μ.2.2.2.2[i]? = some (.inl (true, n))) (hin : xin j n) (hd : decode μ.2.1 pc = .ok (.baload, 1)) (k : X μ d R (pc + 1) L (.int (f i j.toNatClampNeg) :: st) f g) : X μ d R pc L (.int j :: .ref i :: st) f g := by
  intro p l e s m args below meth c D ct ad H locs ls hC hP hS hl
  obtain ⟨hx, hb, hml, hr, hlk, hown, hts, hK, hI, hO⟩ := id hC
  exact va_zald hx hb hK.1 hP i 1 (xw_at hs) rfl hin hd (k p l e s m args below meth c D ct ad H locs ls hC hP hS hl)
theorem X.iast {j v : Int32} (hs : μ.2.2.2.2[i]? = some (.inl (false, n))) (hin : xin j n) (hd : decode μ.2.1 pc = .ok (.iastore, 1)) (k : X μ d R (pc + 1) L st (xu f i j.toNatClampNeg v) g) : X μ d R pc L (.int v :: .int j :: .ref i :: st) f g := by
  intro p l e s m args below meth c D ct ad H locs ls hC hP hS hl
  obtain ⟨hx, hb, hml, hr, hlk, hown, hts, hK, hI, hO⟩ := id hC
  refine va_iast hx hb hK.1 hP (xw_D hI) hS i 0 (xw_at hs) rfl hin hd (fun H locs hP hD hS => ?_)
  rw [xw_setA hs, xu_xrow] at hP
  exact k p l e s m args below meth c D ct ad H locs ls hC hP hS hl
theorem X.zast {j v : Int32} (hs : μ.2.2.2.2[i]? = some (.inl (true, n))) (hin : xin j n) (hv : vp_nar .boolean v = v) (hd : decode μ.2.1 pc = .ok (.bastore, 1)) (k : X μ d R (pc + 1) L st (xu f i j.toNatClampNeg v) g) : X μ d R pc L (.int v :: .int j :: .ref i :: st) f g := by
  intro p l e s m args below meth c D ct ad H locs ls hC hP hS hl
  obtain ⟨hx, hb, hml, hr, hlk, hown, hts, hK, hI, hO⟩ := id hC
  refine va_zast hx hb hK.1 hP (xw_D hI) hS i 1 (xw_at hs) rfl hin hd (fun H locs hP hD hS => ?_)
  rw [hv, xw_setA hs, xu_xrow] at hP
  exact k p l e s m args below meth c D ct ad H locs ls hC hP hS hl
theorem X.alen {z : Bool} {v : Int32} (hs : μ.2.2.2.2[i]? = some (.inl (z, n))) (hv : Int32.ofNat n = v) (hd : decode μ.2.1 pc = .ok (.arraylength, 1)) (k : X μ d R (pc + 1) L (.int v :: st) f g) : X μ d R pc L (.ref i :: st) f g := by
  intro p l e s m args below meth c D ct ad H locs ls hC hP hS hl
  obtain ⟨hx, hb, hml, hr, hlk, hown, hts, hK, hI, hO⟩ := id hC
  cases z with
  | false => exact va_alen hx hb hK.1 hP i 0 (xw_at hs) (ty := .int) rfl hv hd (k p l e s m args below meth c D ct ad H locs ls hC hP hS hl)
  | true => exact va_alen hx hb hK.1 hP i 1 (xw_at hs) (ty := .boolean) rfl hv hd (k p l e s m args below meth c D ct ad H locs ls hC hP hS hl)
theorem X.copy {i0 n0 n1 : Nat} {sp dp len : Int32} (hlink : Cond.methodLink μ.1.cls idx arraycopyName ∈ xg) (hnat : Cond.native arraycopyName ∈ xg) (hstat : Cond.static arraycopyName ∈ xg) (hini : Cond.initialized "java/lang/System" ∈ xg)
    (hs0 : μ.2.2.2.2[i0]? = some (.inl (false, n0))) (hs1 : μ.2.2.2.2[i]? = some (.inl (false, n1))) (h1 : ¬ sp < 0) (h2 : ¬ dp < 0) (h3 : ¬ len < 0) (h4 : sp.toNatClampNeg + len.toNatClampNeg ≤ n0) (h5 : dp.toNatClampNeg + len.toNatClampNeg ≤ n1) (hfr : 1 ≤ d) (hcat : (st.map fun v => v.category).sum ≤ 8)
    (hd : decode μ.2.1 pc = .ok (.invokestatic idx, 3)) (k : X μ d R (pc + 3) L st (xrow f i (va_cpy (f i0) (f i) sp.toNatClampNeg dp.toNatClampNeg len.toNatClampNeg)) g) : X μ d R pc L (.int len :: .int dp :: .ref i :: .int sp :: .ref i0 :: st) f g := by
  intro p l e s m args below meth c D ct ad H locs ls hC hP hS hl
  obtain ⟨hx, hb, hml, hr, hlk, hown, hts, hK, hI, hO⟩ := id hC
  have hcat2 : ((st.map (xt ad)).map fun v => v.category).sum ≤ 8 := by
    rw [List.map_map]
    have : ((fun v : Value => v.category) ∘ xt ad) = fun v => v.category := by funext v; exact xt_cat ad v
    rw [this]; exact hcat
  have hw : nativeFrameWords "java/lang/System" "arraycopy" 5 + 11 ≤ 40 := by decide
  refine va_copyi hx hb (hml.trans hl.1.symm) hown (hts _ hlink) (hts _ hnat) (hts _ hstat) (hts _ hini) hK.1 hP (xw_D hI) hS i0 i 0 0 (xw_at hs0) (xw_at hs1) (ty := .int) rfl rfl rfl h1 h2 h3 h4 h5 (fun _ _ => rfl) hfr (by show _ ≤ 64 * d; omega) hd (fun H locs hP hD hS => ?_)
  rw [xw_setA hs1] at hP
  exact k p l e s m args below meth c D ct ad H locs ls hC hP hS hl
theorem X.ldcw {v : Int32} (hd : decode μ.2.1 pc = .ok (.ldc_w idx, 3)) (hc : Cond.constant μ.1.cls idx v ∈ xg) (k : X μ d R (pc + 3) L (.int v :: st) f g) : X μ d R pc L st f g := by
  intro p l e s m args below meth c D ct ad H locs ls hC hP hS hl
  obtain ⟨hx, hb, hml, hr, hlk, hown, hts, hK, hI, hO⟩ := id hC
  exact lv_ldcw hx hb hown (hts _ hc) hd (k p l e s m args below meth c D ct ad H locs ls hC hP hS hl)
theorem xcat {ad : Nat → Nat} (hcat : (st.map fun v => v.category).sum ≤ 8) : ((st.map (xt ad)).map fun v => v.category).sum ≤ 8 := by
  rw [List.map_map]
  have : ((fun v : Value => v.category) ∘ xt ad) = fun v => v.category := by funext v; exact xt_cat ad v
  rw [this]; exact hcat
theorem X.max {x y : Int32} (hlink : Cond.methodLink μ.1.cls idx Lib.Math.max.name ∈ xg) (hstat : Cond.static Lib.Math.max.name ∈ xg) (hini : Cond.initialized "java/lang/Math" ∈ xg) (hcode : Cond.code Lib.Math.max.name Lib.Math.max.code 2 (some .int) ∈ xg) (hfr : 1 ≤ d) (hcat : (st.map fun v => v.category).sum ≤ 8) (hd : decode μ.2.1 pc = .ok (.invokestatic idx, 3)) (k : X μ d R (pc + 3) L (.int (if x < y then y else x) :: st) f g) : X μ d R pc L (.int y :: .int x :: st) f g := by
  intro p l e s m args below meth c D ct ad H locs ls hC hP hS hl
  obtain ⟨hx, hb, hml, hr, hlk, hown, hts, hK, hI, hO⟩ := id hC
  have hc2 := xcat (ad := ad) hcat
  exact va_mmax hx hb (hml.trans hl.1.symm) hown (hts _ hlink) (hts _ hstat) (hts _ hini) (hts _ hcode) hfr (by show _ ≤ 64 * d; omega) (Nat.zero_le _) (Nat.zero_le _) hd (k p l e s m args below meth c D ct ad H locs ls hC hP hS hl)
theorem X.min {x y : Int32} (hlink : Cond.methodLink μ.1.cls idx Lib.Math.min.name ∈ xg) (hstat : Cond.static Lib.Math.min.name ∈ xg) (hini : Cond.initialized "java/lang/Math" ∈ xg) (hcode : Cond.code Lib.Math.min.name Lib.Math.min.code 2 (some .int) ∈ xg) (hfr : 1 ≤ d) (hcat : (st.map fun v => v.category).sum ≤ 8) (hd : decode μ.2.1 pc = .ok (.invokestatic idx, 3)) (k : X μ d R (pc + 3) L (.int (if y < x then y else x) :: st) f g) : X μ d R pc L (.int y :: .int x :: st) f g := by
  intro p l e s m args below meth c D ct ad H locs ls hC hP hS hl
  obtain ⟨hx, hb, hml, hr, hlk, hown, hts, hK, hI, hO⟩ := id hC
  have hc2 := xcat (ad := ad) hcat
  exact va_mmin hx hb (hml.trans hl.1.symm) hown (hts _ hlink) (hts _ hstat) (hts _ hini) (hts _ hcode) hfr (by show _ ≤ 64 * d; omega) (Nat.zero_le _) (Nat.zero_le _) hd (k p l e s m args below meth c D ct ad H locs ls hC hP hS hl)
end XR2
/-! a method's contract -/
def xPc (sh : xS) (D : va_G) (ct : Bool → ClassId) (ad : Nat → Nat) (as : List Value) (f : xM) (g : xN) : Array Value → State → Prop := va_Pc (as.map (xt ad)) (fun U => xK D ct U ∧ xI ad sh.length ∧ xO (xA ad sh.length) U U.heap ∧ va_P D vwCl (xw ct ad sh f g) U.heap)
def XT (μ : xm) (d : Nat) (as : List Value) (f : xM) (g : xN) (R : xR) : Prop := ∀ (l : Launch) (D : va_G) (ct : Bool → ClassId) (ad : Nat → Nat), Met l μ.1 (.code μ.1 μ.2.1 μ.2.2.1 μ.2.2.2.1 :: xg) (xr d) (xPc μ.2.2.2.2 D ct ad as f g) (xQ D ct ad μ.2.2.2.2 R) 0 0 (xA ad μ.2.2.2.2.length)
def xent : List Value → List (Option Value)
  | [] => []
  | v :: t => if v.category = 2 then some v :: none :: xent t else some v :: xent t
theorem xent_at {ad : Nat → Nat} {v : Value} : ∀ {as : List Value} {i0 i : Nat}, (xent as)[i]? = some (some v) → (i0 + i, xt ad v) ∈ lv_args i0 (as.map (xt ad)) := by
  intro as
  induction as with
  | nil => intro i0 i h; simp [xent] at h
  | cons u t ih =>
    intro i0 i h
    simp only [xent] at h
    simp only [List.map_cons, lv_args, xt_cat, List.mem_cons]
    by_cases hu : u.category = 2
    · rw [if_pos hu] at h ⊢
      match i with
      | 0 => left; simp at h; rw [h]; rfl
      | 1 => simp at h
      | i + 2 =>
        right
        have := ih (i0 := i0 + 2) (i := i) (by simpa using h)
        rw [show i0 + (i + 2) = i0 + 2 + i by omega]; exact this
    · rw [if_neg hu] at h ⊢
      match i with
      | 0 => left; simp at h; rw [h]; rfl
      | i + 1 =>
        right
        have := ih (i0 := i0 + 1) (i := i) (by simpa using h)
        rw [show i0 + (i + 1) = i0 + 1 + i by omega]; exact this
theorem xsl_len {ad : Nat → Nat} : ∀ {as : List Value}, (lg_sl (as.map (xt ad))).length = (lg_sl as).length := by
  intro as
  induction as with
  | nil => rfl
  | cons v t ih =>
    simp only [lg_sl, List.map_cons, List.flatMap_cons, List.length_append, xt_cat] at ih ⊢
    rw [ih]
    by_cases h : v.category = 2 <;> simp [h]
theorem XT.of {μ : xm} {d : Nat} {as : List Value} {f : xM} {g : xN} {R : xR} {L : List (Option Value)} (L0 : List (Option Value)) (hy : plainName μ.1.cls = true) (hn : (lg_sl as).length ≤ μ.2.2.1) (hL0 : xent as = L0) (hL : xle L L0) (k : X μ d R 0 L [] f g) : XT μ d as f g R := by
  subst hL0
  intro l D ct ad
  refine Met.ofW (cc := μ.2.1) (maxL := μ.2.2.1) (ret := μ.2.2.2.1) hy rfl ?_
  intro p e s m args below meth c s₁ B hml hv
  obtain ⟨rfl, hK, hI, hO, hP⟩ := hv
  have hts := atoms_spec (ws := .code μ.1 μ.2.1 μ.2.2.1 μ.2.2.2.1 :: xg) B.pre
  have hl := lv_entry (as.map (xt ad)) (n := μ.2.2.1) (by rw [xsl_len]; exact hn)
  rw [lg_entry_eq]
  generalize (lg_sl (as.map (xt ad)) ++ List.replicate (μ.2.2.1 - (lg_sl (as.map (xt ad))).length) Slot.unset).toArray = ls at hl ⊢
  refine k p l e s m _ below meth c D ct ad s.heap [] ls ⟨B.exec, B.bytes, hml, B.returns, B.notSynchronized, findClass_of_methodNamed B.named, fun w hw => hts w (List.mem_cons_of_mem _ hw), hK, hI, hO⟩ hP va_S.rf (xl_le hL ⟨hl.1, hl.2.1, fun i v hi => ?_⟩)
  have := hl.2.2 _ (xent_at (ad := ad) (i0 := 0) hi)
  simpa using this
theorem xPc_blind {sh : xS} {D : va_G} {ct : Bool → ClassId} {ad : Nat → Nat} {as : List Value} {f : xM} {g : xN} : FrameBlind (xPc sh D ct ad as f g) := by
  intro a U g1 mk q
  obtain ⟨q0, qK, qI, ⟨t, qZ, qT⟩, qP⟩ := q
  exact ⟨q0, qK.calling, qI, ⟨t, va_Z.moved (u := U) (U := U.calling g1 mk a) (Vm.Alike.refl U.vm) qZ, va_T.moved (u := U) (U := U.calling g1 mk a) (Vm.Alike.refl U.vm) qT⟩, qP⟩
theorem xPc_at {sh : xS} {D : va_G} {ct : Bool → ClassId} {ad : Nat → Nat} {as : List Value} {f : xM} {g : xN} {s U : State} {H : Heap} {locs : List Loc} (hK : xK D ct s) (hI : xI ad sh.length) (hO : xO (xA ad sh.length) s s.heap) (hP : va_P D vwCl (xw ct ad sh f g) H) (hS : va_S (xA ad sh.length) s.heap H locs) (hU : U.heap = H) (hW : s.WarmedH U.vm) : xPc sh D ct ad as f g (as.map (xt ad)).toArray U := by
  subst hU
  obtain ⟨t, hZ, hT⟩ := hO
  exact ⟨rfl, hK.moved hW, hI, ⟨t, va_Z.moved hW.alike (hZ.kept hS.2.1), va_T.moved hW.alike (hT.kept hS.2.1)⟩, hP⟩
section XCALL
variable {p : Program} {l : Launch} {e : Env} {Ro : Room} {s : State} {m : MethodId} {args : Array Value} {below : List Frame} {meth : Method} {c : Code} {H : Heap} {locs : List Loc} {Q : State → Prop}
theorem x_call {D : va_G} {ct : Bool → ClassId} {ad : Nat → Nat} {sh : xS} {R' : xR} {a : Array Value} {pc : Nat} {ls : Array Slot} {st0 rest : List Value} (hr : va_Run p l e Ro s m args below meth c H locs 0 0 0 0 (F0 m pc ls st0) rest (xQ D ct ad sh R' a) (xA ad sh.length)) (hS : va_S (xA ad sh.length) s.heap H locs)
    (kk : ∀ (H1 : Heap) (locs1 : List Loc), va_P D vwCl (xw ct ad sh R'.2.1 R'.2.2) H1 → va_S (xA ad sh.length) s.heap H1 locs1 → W p l e Ro s m args below meth c H1 locs1 0 0 Q (F0 m (pc + 3) ls ((R'.1.map (xt ad)).toList ++ rest))) : W p l e Ro s m args below meth c H locs 0 0 Q (F0 m pc ls st0) := by
  intro T hT X
  obtain ⟨v, st₀, t, T', L, h0, X', hL, e1, e2, ⟨⟨hv, hP⟩, hz, hk⟩, st⟩ := hr T hT X
  cases hv
  rw [h0] at hz hk
  obtain ⟨t2, a1, b1⟩ := kk T'.heap (locs ++ L) (by rw [e1]; exact hP)
    ⟨Nat.le_trans hS.1 (by rw [e1]; exact hz), fun q h1 h2 => by rw [e1, hk q (Nat.lt_of_lt_of_le h1 hS.1) h2]; exact hS.2.1 q h1 h2, fun q hq => by
      rcases List.mem_append.mp hq with h | h
      · exact hS.2.2 q h
      · exact hL q h⟩ T' rfl X'
  exact ⟨t2, st t2 a1, b1⟩
end XCALL
theorem xret_map {ad : Nat → Nat} {r : Option Value} {st : List Value} : ((r.toList ++ st).map (xt ad)) = (r.map (xt ad)).toList ++ st.map (xt ad) := by cases r <;> simp
/-- the words of a callee -/
def xcv (μ : xm) (n : Nat) : Prop := Cond.instanceMethod μ.1 ∈ xg ∧ Cond.selects μ.1.cls μ.1 μ.1 ∈ xg ∧ Cond.initialized μ.1.cls ∈ xg ∧ Cond.code μ.1 μ.2.1 μ.2.2.1 μ.2.2.2.1 ∈ xg ∧ μ.2.2.1 ≤ 40 ∧ (μ.1.cls ≠ "java/lang/invoke/MethodHandle" ∧ μ.1.cls ≠ "java/lang/invoke/VarHandle" ∧ (parseMethodDescriptor μ.1.desc).map (fun d => d.parameters.length) = some n)
def xcs (μ : xm) (n : Nat) : Prop := Cond.static μ.1 ∈ xg ∧ Cond.initialized μ.1.cls ∈ xg ∧ Cond.code μ.1 μ.2.1 μ.2.2.1 μ.2.2.2.1 ∈ xg ∧ μ.2.2.1 ≤ 40 ∧ (μ.1.cls ≠ "java/lang/invoke/MethodHandle" ∧ μ.1.cls ≠ "java/lang/invoke/VarHandle" ∧ (parseMethodDescriptor μ.1.desc).map (fun d => d.parameters.length) = some n)
theorem xcv_of {μ : xm} {n : Nat} (a b c e : Nat) (h : lw_tbl[a]? = some (Cond.instanceMethod μ.1) ∧ lw_tbl[b]? = some (Cond.selects μ.1.cls μ.1 μ.1) ∧ lw_tbl[c]? = some (Cond.initialized μ.1.cls) ∧ lw_tbl[e]? = some (Cond.code μ.1 μ.2.1 μ.2.2.1 μ.2.2.2.1)) (h2 : μ.2.2.1 ≤ 40 ∧ (μ.1.cls ≠ "java/lang/invoke/MethodHandle" ∧ μ.1.cls ≠ "java/lang/invoke/VarHandle" ∧ (parseMethodDescriptor μ.1.desc).map (fun d => d.parameters.length) = some n)) : xcv μ n :=
  ⟨xg_in a h.1 rfl, xg_in b h.2.1 rfl, xg_in c h.2.2.1 rfl, xg_in e h.2.2.2 rfl, h2⟩
theorem xcs_of {μ : xm} {n : Nat} (a c e : Nat) (h : lw_tbl[a]? = some (Cond.static μ.1) ∧ lw_tbl[c]? = some (Cond.initialized μ.1.cls) ∧ lw_tbl[e]? = some (Cond.code μ.1 μ.2.1 μ.2.2.1 μ.2.2.2.1)) (h2 : μ.2.2.1 ≤ 40 ∧ (μ.1.cls ≠ "java/lang/invoke/MethodHandle" ∧ μ.1.cls ≠ "java/lang/invoke/VarHandle" ∧ (parseMethodDescriptor μ.1.desc).map (fun d => d.parameters.length) = some n)) : xcs μ n :=
  ⟨xg_in a h.1 rfl, xg_in c h.2.1 rfl, xg_in e h.2.2 rfl, h2⟩
section XR3
variable {μ μ' : xm} {d d' : Nat} {R : xR} {pc : Nat} {L : List (Option Value)} {st st0 st1 As : List Value} {f f' : xM} {g g' : xN} {i ci N idx n : Nat} {C : String} {T : u_T} {ty : Nat → FieldType} {sl : List (Nat ⊕ Bool)} {r : Option Value}
theorem X.callV (hM : XT μ' d' (.ref i :: As) f g (r, f', g')) (hd' : d' + 1 ≤ d) (hcw : xcv μ' n) (hsh : μ'.2.2.2.2 = μ.2.2.2.2) (hlink : Cond.methodLink μ.1.cls idx μ'.1 ∈ xg) (hs : μ.2.2.2.2[i]? = some (.inr (ci, sl))) (hcl : xcl ci μ'.1.cls T N ty) (hlen : As.length = n) (hst : st0 = As.reverse ++ .ref i :: st) (hst1 : r.toList ++ st = st1) (hcat : (st.map fun v => v.category).sum ≤ 8) (hd : decode μ.2.1 pc = .ok (.invokevirtual idx, 3)) (k : X μ d R (pc + 3) L st1 f' g') : X μ d R pc L st0 f g := by
  intro p l e s m args below meth c D ct ad H locs ls hC hP hS hl
  obtain ⟨hx, hb, hml, hr, hlk, hown, hts, hK, hI, hO⟩ := id hC
  obtain ⟨h1, h2, h3, h4, h5, h6, h7, h8⟩ := hcw
  have hM1 := hM l D ct ad
  rw [hsh] at hM1
  subst hst
  subst hst1
  refine x_call (va_runV (As := As.map (xt ad)) (rest := st.map (xt ad)) (Ts := xg) (C := μ'.1.cls) ⟨hx, hb, hml, hown, hts⟩ hM1 (cwV n hts (fun w hw => ?_) rfl rfl rfl ⟨rfl, h6, h7, h8⟩ ⟨hd', by show 8 + (μ'.2.2.1 + 11) + 64 * d' ≤ 64 * d; omega⟩) ⟨xPc_blind, va_recv hK.1 hP hcl.1 (xw_at hs), fun U hU hW => xPc_at hK hI hO hP hS hU hW⟩ rfl (by simpa using hlen) hl.1 (by simp [xt]) (lv_room (xcat hcat)) hd ⟨Nat.zero_le _, Nat.zero_le _⟩) hS (fun H1 locs1 hP1 hS1 => ?_)
  · simp only [wsV, List.mem_append, List.mem_cons, List.not_mem_nil, or_false] at hw
    rcases hw with (rfl | rfl | rfl | rfl) | rfl | hw
    · exact ⟨hlink, xg_good hlink⟩
    · exact ⟨h1, xg_good h1⟩
    · exact ⟨h2, xg_good h2⟩
    · exact ⟨h3, xg_good h3⟩
    · exact ⟨h4, xg_good h4⟩
    · exact ⟨hw, xg_good hw⟩
  · rw [← xret_map]
    exact k p l e s m args below meth c D ct ad H1 locs1 ls hC hP1 hS1 hl
theorem X.callVN {host : String} (hM : XT μ' d' (.ref i :: As) f g (r, f', g')) (hd' : d' + 1 ≤ d) (hcw : xcv μ' n) (hsh : μ'.2.2.2.2 = μ.2.2.2.2) (hlink : Cond.methodLinkNest μ.1.cls idx μ'.1 host ∈ xn) (hs : μ.2.2.2.2[i]? = some (.inr (ci, sl))) (hcl : xcl ci μ'.1.cls T N ty) (hlen : As.length = n) (hst : st0 = As.reverse ++ .ref i :: st) (hst1 : r.toList ++ st = st1) (hcat : (st.map fun v => v.category).sum ≤ 8) (hd : decode μ.2.1 pc = .ok (.invokevirtual idx, 3)) (k : X μ d R (pc + 3) L st1 f' g') : X μ d R pc L st0 f g := by
  intro p l e s m args below meth c D ct ad H locs ls hC hP hS hl
  obtain ⟨hx, hb, hml, hr, hlk, hown, hts, hK, hI, hO⟩ := id hC
  obtain ⟨h1, h2, h3, h4, h5, h6, h7, h8⟩ := hcw
  have hM1 := hM l D ct ad
  rw [hsh] at hM1
  subst hst
  subst hst1
  refine x_call (va_runVN (As := As.map (xt ad)) (rest := st.map (xt ad)) (Ts := xg) (C := μ'.1.cls) ⟨hx, hb, hml, hown, hts⟩ hM1 ⟨va_cnB n hts (xg_goodIn h4) rfl rfl rfl (hK.2 _ hlink) (hts _ h3) ⟨h6, h7, h8⟩ ⟨hd', by show 8 + (μ'.2.2.1 + 11) + 64 * d' ≤ 64 * d; omega⟩, hts _ h1, hts _ h2⟩ ⟨xPc_blind, va_recv hK.1 hP hcl.1 (xw_at hs), fun U hU hW => xPc_at hK hI hO hP hS hU hW⟩ rfl (by simpa using hlen) hl.1 (by simp [xt]) (lv_room (xcat hcat)) hd ⟨Nat.zero_le _, Nat.zero_le _⟩) hS (fun H1 locs1 hP1 hS1 => ?_)
  rw [← xret_map]
  exact k p l e s m args below meth c D ct ad H1 locs1 ls hC hP1 hS1 hl
theorem X.callS (hM : XT μ' d' As f g (r, f', g')) (hd' : d' + 1 ≤ d) (hcw : xcs μ' n) (hsh : μ'.2.2.2.2 = μ.2.2.2.2) (hlink : Cond.methodLink μ.1.cls idx μ'.1 ∈ xg) (hlen : As.length = n) (hst : st0 = As.reverse ++ st) (hst1 : r.toList ++ st = st1) (hcat : (st.map fun v => v.category).sum ≤ 8) (hd : decode μ.2.1 pc = .ok (.invokestatic idx, 3)) (k : X μ d R (pc + 3) L st1 f' g') : X μ d R pc L st0 f g := by
  intro p l e s m args below meth c D ct ad H locs ls hC hP hS hl
  obtain ⟨hx, hb, hml, hr, hlk, hown, hts, hK, hI, hO⟩ := id hC
  obtain ⟨h1, h3, h4, h5, h6, h7, h8⟩ := hcw
  have hM1 := hM l D ct ad
  rw [hsh] at hM1
  subst hst
  subst hst1
  refine x_call (va_runS (As := As.map (xt ad)) (rest := st.map (xt ad)) (Ts := xg) ⟨hx, hb, hml, hown, hts⟩ hM1 (va_cwS n hts (fun w hw => ?_) rfl rfl rfl ⟨h6, h7, h8⟩ ⟨hd', by show 8 + (μ'.2.2.1 + 11) + 64 * d' ≤ 64 * d; omega⟩) ⟨xPc_blind, fun U hU hW => xPc_at hK hI hO hP hS hU hW⟩ rfl (by simpa using hlen) hl.1 (by simp) (lv_room (xcat hcat)) hd ⟨Nat.zero_le _, Nat.zero_le _⟩) hS (fun H1 locs1 hP1 hS1 => ?_)
  · simp only [va_wsS, List.mem_append, List.mem_cons, List.not_mem_nil, or_false] at hw
    rcases hw with (rfl | rfl | rfl) | rfl | hw
    · exact ⟨hlink, xg_good hlink⟩
    · exact ⟨h1, xg_good h1⟩
    · exact ⟨h3, xg_good h3⟩
    · exact ⟨h4, xg_good h4⟩
    · exact ⟨hw, xg_good hw⟩
  · rw [← xret_map]
    exact k p l e s m args below meth c D ct ad H1 locs1 ls hC hP1 hS1 hl
theorem X.callSN {host : String} (hM : XT μ' d' As f g (r, f', g')) (hd' : d' + 1 ≤ d) (hcw : xcs μ' n) (hsh : μ'.2.2.2.2 = μ.2.2.2.2) (hlink : Cond.methodLinkNest μ.1.cls idx μ'.1 host ∈ xn) (hlen : As.length = n) (hst : st0 = As.reverse ++ st) (hst1 : r.toList ++ st = st1) (hcat : (st.map fun v => v.category).sum ≤ 8) (hd : decode μ.2.1 pc = .ok (.invokestatic idx, 3)) (k : X μ d R (pc + 3) L st1 f' g') : X μ d R pc L st0 f g := by
  intro p l e s m args below meth c D ct ad H locs ls hC hP hS hl
  obtain ⟨hx, hb, hml, hr, hlk, hown, hts, hK, hI, hO⟩ := id hC
  obtain ⟨h1, h3, h4, h5, h6, h7, h8⟩ := hcw
  have hM1 := hM l D ct ad
  rw [hsh] at hM1
  subst hst
  subst hst1
  refine x_call (va_runSN (As := As.map (xt ad)) (rest := st.map (xt ad)) (Ts := xg) ⟨hx, hb, hml, hown, hts⟩ hM1 ⟨va_cnB n hts (xg_goodIn h4) rfl rfl rfl (hK.2 _ hlink) (hts _ h3) ⟨h6, h7, h8⟩ ⟨hd', by show 8 + (μ'.2.2.1 + 11) + 64 * d' ≤ 64 * d; omega⟩, hts _ h1, trivial⟩ ⟨xPc_blind, fun U hU hW => xPc_at hK hI hO hP hS hU hW⟩ rfl (by simpa using hlen) hl.1 (by simp) (lv_room (xcat hcat)) hd ⟨Nat.zero_le _, Nat.zero_le _⟩) hS (fun H1 locs1 hP1 hS1 => ?_)
  rw [← xret_map]
  exact k p l e s m args below meth c D ct ad H1 locs1 ls hC hP1 hS1 hl
end XR3
theorem xle_e {u : List (Option Value)} : xle [] u := trivial
theorem xle_c {v : Value} {t u : List (Option Value)} (h : xle t u) : xle (some v :: t) (some v :: u) := ⟨rfl, h⟩
theorem xle_n {o : Option Value} {t u : List (Option Value)} (h : xle t u) : xle (none :: t) (o :: u) := h
theorem xle_z {t : List (Option Value)} (h : xle t []) : xle (none :: t) [] := h
abbrev xcok (sp dp len : Int32) (n0 n1 : Nat) : Prop := ¬ sp < 0 ∧ ¬ dp < 0 ∧ ¬ len < 0 ∧ sp.toNatClampNeg + len.toNatClampNeg ≤ n0 ∧ dp.toNatClampNeg + len.toNatClampNeg ≤ n1
abbrev xz (v : Int32) : Prop := v = 0 ∨ v = 1
theorem xz_n {v : Int32} (h : xz v) : narrow .boolean (.int v) = .int v := by rcases h with rfl | rfl <;> rfl
section XR4
variable {μ : xm} {d : Nat} {R : xR} {pc : Nat} {L : List (Option Value)} {st : List Value} {f : xM} {g : xN} {i idx n m : Nat}
theorem X.ialdK {j : Int32} (hs : μ.2.2.2.2[i]? = some (.inl (false, n))) (hin : xin j n) (hj : j.toNatClampNeg = m) (hd : decode μ.2.1 pc = .ok (.iaload, 1)) (k : X μ d R (pc + 1) L (.int (f i m) :: st) f g) : X μ d R pc L (.int j :: .ref i :: st) f g := by
  subst hj; exact X.iald hs hin hd k
theorem X.zaldK {j : Int32} (hs : μ.2.2.2.2[i]? = some (.inl (true, n))) (hin : xin j n) (hj : j.toNatClampNeg = m) (hd : decode μ.2.1 pc = .ok (.baload, 1)) (k : X μ d R (pc + 1) L (.int (f i m) :: st) f g) : X μ d R pc L (.int j :: .ref i :: st) f g := by
  subst hj; exact X.zald hs hin hd k
theorem X.iastK {j v : Int32} (hs : μ.2.2.2.2[i]? = some (.inl (false, n))) (hin : xin j n) (hj : j.toNatClampNeg = m) (hd : decode μ.2.1 pc = .ok (.iastore, 1)) (k : X μ d R (pc + 1) L st (xu f i m v) g) : X μ d R pc L (.int v :: .int j :: .ref i :: st) f g := by
  subst hj; exact X.iast hs hin hd k
theorem X.zastK {j v : Int32} (hs : μ.2.2.2.2[i]? = some (.inl (true, n))) (hin : xin j n) (hj : j.toNatClampNeg = m) (hv : vp_nar .boolean v = v) (hd : decode μ.2.1 pc = .ok (.bastore, 1)) (k : X μ d R (pc + 1) L st (xu f i m v) g) : X μ d R pc L (.int v :: .int j :: .ref i :: st) f g := by
  subst hj; exact X.zast hs hin hv hd k
theorem X.ordLen (hlink : Cond.fieldLink μ.1.cls idx "ErrataColumn$Odds" "ORDERS" "[I" ∈ xg) (hd : decode μ.2.1 pc = .ok (.getstatic idx, 3)) (hd2 : decode μ.2.1 (pc + 3) = .ok (.arraylength, 1)) (k : X μ d R (pc + 3 + 1) L (.int 4 :: st) f g) : X μ d R pc L st f g := by
  intro p l e s m args below meth c D ct ad H locs ls hC hP hS hl
  obtain ⟨hx, hb, hml, hr, hlk, hown, hts, hK, hI, hO⟩ := id hC
  obtain ⟨t, hZ, hT⟩ := hO
  refine va_gets hx hb hZ hS hown (hts _ hlink) (fun _ h9 => h9) hd ?_
  exact va_tlen hx hb hT hS (v := 4) rfl hd2 (k p l e s m args below meth c D ct ad H locs ls hC hP hS hl)
theorem X.ordAt {k0 : Fin 4} {x : Int32} (hlink : Cond.fieldLink μ.1.cls idx "ErrataColumn$Odds" "ORDERS" "[I" ∈ xg) (hd : decode μ.2.1 pc = .ok (.getstatic idx, 3)) (hd2 : decode μ.2.1 (pc + 3) = .ok (.iload_n k0, 1)) (hi : (k0 : Nat) = i) (hl0 : L[i]? = some (some (.int x))) (hin : xin x 4) (hd3 : decode μ.2.1 (pc + 3 + 1) = .ok (.iaload, 1)) (k : X μ d R (pc + 3 + 1 + 1) L (.int (xord x.toNatClampNeg) :: st) f g) : X μ d R pc L st f g := by
  intro p l e s m args below meth c D ct ad H locs ls hC hP hS hl
  obtain ⟨hx, hb, hml, hr, hlk, hown, hts, hK, hI, hO⟩ := id hC
  obtain ⟨t, hZ, hT⟩ := hO
  refine va_gets hx hb hZ hS hown (hts _ hlink) (fun _ h9 => h9) hd ?_
  refine lv_iload_n hx hb hd2 hi (hl.2.2 i _ hl0) ?_
  exact va_ti hx hb hT hS hin (v := .int (xord x.toNatClampNeg)) rfl hd3 (k p l e s m args below meth c D ct ad H locs ls hC hP hS hl)
end XR4
def xordersOf (n : Int32) : Int32 := if n < 0 then 1 else if (4 : Int32) ≤ n then 1 else xord n.toNatClampNeg
theorem xbind {α β : Type} {o : Option α} {k : α → Option β} {r : β} (h : o.bind k = some r) : ∃ q, o = some q ∧ k q = some r := by
  cases o with
  | none => cases h
  | some q => exact ⟨q, rfl, h⟩
/-- beyond a switch -/
theorem xsw_out {x : Int32} {lo hi : Int} (h : ∀ j : Int, lo ≤ j → j ≤ hi → x ≠ Int32.ofInt j) : x.toInt < lo ∨ hi < x.toInt := by
  by_cases h1 : x.toInt < lo
  · exact Or.inl h1
  · by_cases h2 : hi < x.toInt
    · exact Or.inr h2
    · exact absurd (Int32.ofInt_toInt x).symm (h _ (by omega) (by omega))
