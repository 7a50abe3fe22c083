
/-! ===== the abstract machine: a fixed shape of cells, its ints and longs as two functions; X: the method comes to its end with a given answer and given memory ===== -/
def xg : List Cond := lw_tbl.filter goodWord
def xnb : Cond → Bool
  | .fieldLinkNest .. => true
  | .methodLinkNest .. => true
  | _ => false
def xn : List Cond := lw_tbl.filter xnb
theorem xg_in {w : Cond} (i : Nat) (h : lw_tbl[i]? = some w) (hg : goodWord w = true) : w ∈ xg := List.mem_filter.mpr ⟨List.mem_of_getElem? h, hg⟩
theorem xn_in {w : Cond} (i : Nat) (h : lw_tbl[i]? = some w) (hg : xnb w = true) : w ∈ xn := List.mem_filter.mpr ⟨List.mem_of_getElem? h, hg⟩
theorem xg_good {w : Cond} (h : w ∈ xg) : (w.onTables && w.keeps) = true ∨ ∃ ty, w = .arrayClass ty := good_of_word (List.mem_filter.mp h).2
theorem xg_tbl {w : Cond} (h : w ∈ xg) : w ∈ lw_tbl := (List.mem_filter.mp h).1
theorem xg_goodIn {b : Cond} (hb : b ∈ xg) : GoodIn xg (b :: xg) := fun w hw => by
  rcases List.mem_cons.mp hw with rfl | h
  · exact ⟨hb, xg_good hb⟩
  · exact ⟨h, xg_good h⟩
abbrev xM : Type := Nat → Nat → Int32
abbrev xN : Type := Nat → Nat → Int64
def xu {α : Type} (f : Nat → Nat → α) (i k : Nat) (v : α) : Nat → Nat → α := fun a b => if a = i ∧ b = k then v else f a b
def xrow {α : Type} (f : Nat → Nat → α) (i : Nat) (h : Nat → α) : Nat → Nat → α := fun a => if a = i then h else f a
theorem xu_ne {α : Type} {f : Nat → Nat → α} {i k j : Nat} {v : α} (h : j ≠ i) : xu f i k v j = f j := by funext b; simp [xu, h]
theorem xrow_ne {α : Type} {f : Nat → Nat → α} {i j : Nat} {r : Nat → α} (h : j ≠ i) : xrow f i r j = f j := by simp [xrow, h]
theorem xrow_eq {α : Type} {f : Nat → Nat → α} {i : Nat} {r : Nat → α} : xrow f i r i = r := by simp [xrow]
theorem xu_row {f : xM} {i k : Nat} {v : Int32} : xu f i k v i = upd (f i) k v := by funext b; simp [xu, upd]
abbrev xSc : Type := (Bool × Nat) ⊕ (Nat × List (Nat ⊕ Bool))
abbrev xS : Type := List xSc
def xv (ad : Nat → Nat) (f : xM) (g : xN) (i k : Nat) : Nat ⊕ Bool → Value
  | .inl j => .ref (ad j)
  | .inr false => .int (f i k)
  | .inr true => .long (g i k)
def xe (ct : Bool → ClassId) (ad : Nat → Nat) (f : xM) (g : xN) (i : Nat) : xSc → va_E
  | .inl q => .inl (ct q.1, q.2, .inl (f i))
  | .inr q => .inr (q.1, q.2.mapIdx (fun k t => xv ad f g i k t))
def xw (ct : Bool → ClassId) (ad : Nat → Nat) (sh : xS) (f : xM) (g : xN) : va_W := sh.mapIdx (fun i c => (ad i, xe ct ad f g i c))
section XW
variable {ct : Bool → ClassId} {ad : Nat → Nat} {sh : xS} {f f' : xM} {g g' : xN} {i k ci n : Nat} {sl : List (Nat ⊕ Bool)} {z : Bool}
theorem xw_at {c : xSc} (h : sh[i]? = some c) : (xw ct ad sh f g)[i]? = some (ad i, xe ct ad f g i c) := by simp [xw, List.getElem?_mapIdx, h]
theorem xw_len : (xw ct ad sh f g).length = sh.length := by simp [xw]
theorem xw_of {q : Nat × va_E} (h : (xw ct ad sh f g)[i]? = some q) : ∃ c, sh[i]? = some c ∧ q = (ad i, xe ct ad f g i c) := by
  simp only [xw, List.getElem?_mapIdx] at h
  cases hc : sh[i]? with
  | none => rw [hc] at h; cases h
  | some c => rw [hc] at h; exact ⟨c, rfl, (Option.some.inj h).symm⟩
theorem xv_congr {j k : Nat} {t : Nat ⊕ Bool} (hf : f j k = f' j k) (hg : g j k = g' j k) : xv ad f g j k t = xv ad f' g' j k t := by
  rcases t with _ | b
  · rfl
  · cases b
    · simp only [xv, hf]
    · simp only [xv, hg]
theorem xe_congr {j : Nat} {c : xSc} (hf : f j = f' j) (hg : g j = g' j) : xe ct ad f g j c = xe ct ad f' g' j c := by
  rcases c with q | q
  · simp only [xe, hf]
  · simp only [xe]
    have : (fun k t => xv ad f g j k t) = (fun k t => xv ad f' g' j k t) := by
      funext k t
      exact xv_congr (by rw [hf]) (by rw [hg])
    rw [this]
theorem xw_set {e : va_E} (c : xSc) (h : sh[i]? = some c) (he : e = xe ct ad f' g' i c) (hf : ∀ j, j ≠ i → f' j = f j) (hg : ∀ j, j ≠ i → g' j = g j) : (xw ct ad sh f g).set i (ad i, e) = xw ct ad sh f' g' := by
  apply List.ext_getElem?
  intro j
  have hl : i < sh.length := (List.getElem?_eq_some_iff.mp h).1
  by_cases hj : i = j
  · subst hj
    rw [List.getElem?_set_self (by rw [xw_len]; exact hl), xw_at h, he]
  · rw [List.getElem?_set_ne hj]
    simp only [xw, List.getElem?_mapIdx]
    cases hc : sh[j]? with
    | none => rfl
    | some c2 => simp only [Option.map_some]; rw [xe_congr (hf j (Ne.symm hj)) (hg j (Ne.symm hj))]
theorem xw_setI {v : Int32} (h : sh[i]? = some (.inr (ci, sl))) (hk : sl[k]? = some (.inr false)) : (xw ct ad sh f g).set i (ad i, .inr (ci, (sl.mapIdx (fun k t => xv ad f g i k t)).set k (.int v))) = xw ct ad sh (xu f i k v) g := by
  refine xw_set _ h ?_ (fun j hj => xu_ne hj) (fun j _ => rfl)
  have hl : k < sl.length := (List.getElem?_eq_some_iff.mp hk).1
  simp only [xe]
  congr 2
  apply List.ext_getElem?
  intro j
  by_cases hj : k = j
  · subst hj
    rw [List.getElem?_set_self (by simpa using hl)]
    simp [List.getElem?_mapIdx, hk, xv, xu]
  · rw [List.getElem?_set_ne hj]
    simp only [List.getElem?_mapIdx]
    cases hc : sl[j]? with
    | none => rfl
    | some t => simp only [Option.map_some]; rw [xv_congr (f' := xu f i k v) (g' := g) (by simp [xu, Ne.symm hj]) rfl]
theorem xw_setL {v : Int64} (h : sh[i]? = some (.inr (ci, sl))) (hk : sl[k]? = some (.inr true)) : (xw ct ad sh f g).set i (ad i, .inr (ci, (sl.mapIdx (fun k t => xv ad f g i k t)).set k (.long v))) = xw ct ad sh f (xu g i k v) := by
  refine xw_set _ h ?_ (fun j _ => rfl) (fun j hj => xu_ne hj)
  have hl : k < sl.length := (List.getElem?_eq_some_iff.mp hk).1
  simp only [xe]
  congr 2
  apply List.ext_getElem?
  intro j
  by_cases hj : k = j
  · subst hj
    rw [List.getElem?_set_self (by simpa using hl)]
    simp [List.getElem?_mapIdx, hk, xv, xu]
  · rw [List.getElem?_set_ne hj]
    simp only [List.getElem?_mapIdx]
    cases hc : sl[j]? with
    | none => rfl
    | some t => simp only [Option.map_some]; rw [xv_congr (f' := f) (g' := xu g i k v) rfl (by simp [xu, Ne.symm hj])]
theorem xw_setA {r : Nat → Int32} (h : sh[i]? = some (.inl (z, n))) : (xw ct ad sh f g).set i (ad i, .inl (ct z, n, .inl r)) = xw ct ad sh (xrow f i r) g :=
  xw_set _ h (by simp only [xe, xrow_eq]) (fun j hj => xrow_ne hj) (fun j _ => rfl)
theorem xu_xrow {v : Int32} : xrow f i (upd (f i) k v) = xu f i k v := by
  funext a
  by_cases ha : a = i
  · subst ha; rw [xrow_eq, xu_row]
  · rw [xrow_ne ha, xu_ne ha]
def xA (ad : Nat → Nat) (n : Nat) : Nat → Prop := fun q => ∃ i, i < n ∧ ad i = q
def xI (ad : Nat → Nat) (n : Nat) : Prop := ∀ i j, i < n → j < n → ad i = ad j → i = j
theorem xw_D (h : xI ad sh.length) : va_D (xA ad sh.length) (xw ct ad sh f g) := by
  refine ⟨fun i j p q hp hq hpq => ?_, fun k q hq => ?_⟩
  · obtain ⟨c1, h1, rfl⟩ := xw_of hp
    obtain ⟨c2, h2, rfl⟩ := xw_of hq
    exact h i j (List.getElem?_eq_some_iff.mp h1).1 (List.getElem?_eq_some_iff.mp h2).1 hpq
  · obtain ⟨c1, h1, rfl⟩ := xw_of hq
    exact ⟨k, (List.getElem?_eq_some_iff.mp h1).1, rfl⟩
end XW
/-! values and locals -/
def xt (ad : Nat → Nat) : Value → Value
  | .ref i => .ref (ad i)
  | v => v
theorem xt_cat (ad : Nat → Nat) (v : Value) : (xt ad v).category = v.category := by cases v <;> rfl
def xl (ad : Nat → Nat) (ls : Array Slot) (nL : Nat) (L : List (Option Value)) : Prop := ls.size = nL ∧ lv_wf ls ∧ ∀ (i : Nat) (v : Value), L[i]? = some (some v) → ls[i]? = some (.val (xt ad v))
def xal (ad : Nat → Nat) : Nat → List (Option Value) → List (Nat × Value)
  | _, [] => []
  | i, none :: t => xal ad (i + 1) t
  | i, some v :: t => (i, xt ad v) :: xal ad (i + 1) t
theorem xal_mem {ad : Nat → Nat} {L : List (Option Value)} : ∀ {i : Nat} {q : Nat × Value}, q ∈ xal ad i L ↔ ∃ k v, L[k]? = some (some v) ∧ q = (i + k, xt ad v) := by
  induction L with
  | nil => intro i q; simp [xal]
  | cons o t ih =>
    intro i q
    have step : (∃ k v, t[k]? = some (some v) ∧ q = (i + 1 + k, xt ad v)) ↔ ∃ k v, 0 < k ∧ (o :: t)[k]? = some (some v) ∧ q = (i + k, xt ad v) := by
      constructor
      · rintro ⟨k, v, h1, h2⟩
        exact ⟨k + 1, v, by omega, by simpa using h1, by rw [h2]; congr 1; omega⟩
      · rintro ⟨k, v, h0, h1, h2⟩
        obtain ⟨k, rfl⟩ : ∃ j, k = j + 1 := ⟨k - 1, by omega⟩
        exact ⟨k, v, by simpa using h1, by rw [h2]; congr 1; omega⟩
    cases o with
    | none =>
      simp only [xal]
      rw [ih, step]
      constructor
      · rintro ⟨k, v, h0, h1, h2⟩; exact ⟨k, v, h1, h2⟩
      · rintro ⟨k, v, h1, h2⟩
        cases k with
        | zero => simp at h1
        | succ k => exact ⟨k + 1, v, by omega, h1, h2⟩
    | some u =>
      simp only [xal, List.mem_cons]
      rw [ih, step]
      constructor
      · rintro (h | ⟨k, v, h0, h1, h2⟩)
        · exact ⟨0, u, rfl, by simpa using h⟩
        · exact ⟨k, v, h1, h2⟩
      · rintro ⟨k, v, h1, h2⟩
        cases k with
        | zero => left; simp at h1; rw [h2, h1]; rfl
        | succ k => right; exact ⟨k + 1, v, by omega, h1, h2⟩
theorem xl_has {ad : Nat → Nat} {ls : Array Slot} {nL : Nat} {L : List (Option Value)} (h : xl ad ls nL L) : lv_has ls nL (xal ad 0 L) := by
  refine ⟨h.1, h.2.1, fun q hq => ?_⟩
  obtain ⟨k, v, h1, rfl⟩ := xal_mem.mp hq
  simpa using h.2.2 k v h1
def xkl : Option Value → Option Value
  | some (.long _) => none
  | some (.double _) => none
  | o => o
def xst1 : List (Option Value) → Nat → Value → List (Option Value)
  | [], _, _ => []
  | _ :: t, 0, v => some v :: t
  | o :: t, i + 1, v => (if i = 0 then xkl o else o) :: xst1 t i v
def xst2 : List (Option Value) → Nat → Value → List (Option Value)
  | [], _, _ => []
  | [_], 0, v => [some v]
  | _ :: _ :: t, 0, v => some v :: none :: t
  | o :: t, i + 1, v => (if i = 0 then xkl o else o) :: xst2 t i v
theorem xkl_some {o : Option Value} {u : Value} (h : xkl o = some u) : o = some u ∧ ¬ u.category = 2 := by
  cases o with
  | none => simp [xkl] at h
  | some v => cases v <;> simp [xkl] at h <;> (subst h; simp [Value.category])
theorem xst1_at {v u : Value} : ∀ {L : List (Option Value)} {i j : Nat}, (xst1 L i v)[j]? = some (some u) → (j = i ∧ u = v) ∨ (j ≠ i ∧ L[j]? = some (some u) ∧ ¬ (j + 1 = i ∧ u.category = 2)) := by
  intro L
  induction L with
  | nil => intro i j h; simp [xst1] at h
  | cons o t ih =>
    intro i j h
    cases i with
    | zero =>
      cases j with
      | zero => left; simp [xst1] at h; exact ⟨rfl, h.symm⟩
      | succ j => right; simp [xst1] at h; exact ⟨by omega, by simpa using h, by omega⟩
    | succ i =>
      cases j with
      | zero =>
        right
        simp only [xst1, List.getElem?_cons_zero, Option.some.injEq] at h
        by_cases hi : i = 0
        · rw [if_pos hi] at h
          obtain ⟨h1, h2⟩ := xkl_some h
          exact ⟨by omega, by simp [h1], fun q => h2 q.2⟩
        · rw [if_neg hi] at h
          exact ⟨by omega, by simp [h], fun q => hi (by omega)⟩
      | succ j =>
        simp only [xst1, List.getElem?_cons_succ] at h
        rcases ih h with ⟨h1, h2⟩ | ⟨h1, h2, h3⟩
        · left; exact ⟨by omega, h2⟩
        · right; exact ⟨by omega, by simpa using h2, fun q => h3 ⟨by omega, q.2⟩⟩
theorem xst2_at {v u : Value} : ∀ {L : List (Option Value)} {i j : Nat}, (xst2 L i v)[j]? = some (some u) → (j = i ∧ u = v) ∨ (j ≠ i ∧ j ≠ i + 1 ∧ L[j]? = some (some u) ∧ ¬ (j + 1 = i ∧ u.category = 2)) := by
  intro L
  induction L with
  | nil => intro i j h; simp [xst2] at h
  | cons o t ih =>
    intro i j h
    cases i with
    | zero =>
      cases t with
      | nil =>
        cases j with
        | zero => left; simp [xst2] at h; exact ⟨rfl, h.symm⟩
        | succ j => simp [xst2] at h
      | cons o2 t =>
        match j with
        | 0 => left; simp [xst2] at h; exact ⟨rfl, h.symm⟩
        | 1 => simp [xst2] at h
        | j + 2 => right; simp [xst2] at h; exact ⟨by omega, by omega, by simpa using h, by omega⟩
    | succ i =>
      cases j with
      | zero =>
        right
        simp only [xst2, List.getElem?_cons_zero, Option.some.injEq] at h
        by_cases hi : i = 0
        · rw [if_pos hi] at h
          obtain ⟨h1, h2⟩ := xkl_some h
          exact ⟨by omega, by omega, by simp [h1], fun q => h2 q.2⟩
        · rw [if_neg hi] at h
          exact ⟨by omega, by omega, by simp [h], fun q => hi (by omega)⟩
      | succ j =>
        simp only [xst2, List.getElem?_cons_succ] at h
        rcases ih h with ⟨h1, h2⟩ | ⟨h1, h2, h3, h4⟩
        · left; exact ⟨by omega, h2⟩
        · right; exact ⟨by omega, by omega, by simpa using h3, fun q => h4 ⟨by omega, q.2⟩⟩
theorem xl_st1 {ad : Nat → Nat} {ls' : Array Slot} {nL i : Nat} {L : List (Option Value)} {v v' : Value} (hv : v' = xt ad v) (h : lv_has ls' nL ((i, v') :: (xal ad 0 L).filter (fun q => !(q.1 == i) && !(q.1 + 1 == i && q.2.category == 2)))) : xl ad ls' nL (xst1 L i v) := by
  refine ⟨h.1, h.2.1, fun j u hj => ?_⟩
  rcases xst1_at hj with ⟨rfl, rfl⟩ | ⟨h1, h2, h3⟩
  · rw [← hv]; exact h.2.2 (j, v') (List.mem_cons_self)
  · refine h.2.2 (j, xt ad u) (List.mem_cons_of_mem _ (List.mem_filter.mpr ⟨xal_mem.mpr ⟨j, u, h2, by simp⟩, ?_⟩))
    simp only [Bool.and_eq_true, Bool.not_eq_true', beq_eq_false_iff_ne, ne_eq, Bool.and_eq_false_iff, xt_cat]
    refine ⟨h1, ?_⟩
    by_cases hq : j + 1 = i
    · right; exact fun q => h3 ⟨hq, q⟩
    · left; exact hq
theorem xl_st2 {ad : Nat → Nat} {ls' : Array Slot} {nL i : Nat} {L : List (Option Value)} {v v' : Value} (hv : v' = xt ad v) (h : lv_has ls' nL ((i, v') :: (xal ad 0 L).filter (fun q => !(q.1 == i) && (!(q.1 == i + 1) && !(q.1 + 1 == i && q.2.category == 2))))) : xl ad ls' nL (xst2 L i v) := by
  refine ⟨h.1, h.2.1, fun j u hj => ?_⟩
  rcases xst2_at hj with ⟨rfl, rfl⟩ | ⟨h1, h2, h3, h4⟩
  · rw [← hv]; exact h.2.2 (j, v') (List.mem_cons_self)
  · refine h.2.2 (j, xt ad u) (List.mem_cons_of_mem _ (List.mem_filter.mpr ⟨xal_mem.mpr ⟨j, u, h3, by simp⟩, ?_⟩))
    simp only [Bool.and_eq_true, Bool.not_eq_true', beq_eq_false_iff_ne, ne_eq, Bool.and_eq_false_iff, xt_cat]
    refine ⟨h1, h2, ?_⟩
    by_cases hq : j + 1 = i
    · right; exact fun q => h4 ⟨hq, q⟩
    · left; exact hq
/-- fewer locals known -/
def xle : List (Option Value) → List (Option Value) → Prop
  | [], _ => True
  | none :: t, [] => xle t []
  | none :: t, _ :: u => xle t u
  | some _ :: _, [] => False
  | some v :: t, o :: u => o = some v ∧ xle t u
theorem xle_at {v : Value} : ∀ {L L' : List (Option Value)} {i : Nat}, xle L' L → L'[i]? = some (some v) → L[i]? = some (some v) := by
  intro L L'
  induction L' generalizing L with
  | nil => intro i _ h; simp at h
  | cons o t ih =>
    intro i hx h
    cases o with
    | none =>
      cases L with
      | nil =>
        cases i with
        | zero => simp at h
        | succ i => have := ih (L := []) (i := i) hx (by simpa using h); simp at this
      | cons o2 u =>
        cases i with
        | zero => simp at h
        | succ i => simpa using ih (L := u) (i := i) hx (by simpa using h)
    | some w =>
      cases L with
      | nil => exact hx.elim
      | cons o2 u =>
        cases i with
        | zero => simp at h ⊢; rw [← h]; exact hx.1
        | succ i => simpa using ih (L := u) (i := i) hx.2 (by simpa using h)
theorem xl_le {ad : Nat → Nat} {ls : Array Slot} {nL : Nat} {L L' : List (Option Value)} (hx : xle L' L) (h : xl ad ls nL L) : xl ad ls nL L' := ⟨h.1, h.2.1, fun i v hi => h.2.2 i v (xle_at hx hi)⟩
def xord : Nat → Int32
  | 0 => 1
  | 1 => 1
  | 2 => 2
  | _ => 6
def xO (A : Nat → Prop) (U : State) (H : Heap) : Prop := ∃ t, va_Z "ErrataColumn$Odds" "ORDERS" "[I" (.ref t) A U H ∧ va_T .int t 4 (fun j => .int (xord j)) A U H
def xK (D : va_G) (ct : Bool → ClassId) (U : State) : Prop := va_K D vwCl [(ct false, .int), (ct true, .boolean)] U ∧ ∀ w ∈ xn, va_Nw w U
theorem xn_nest {w : Cond} (h : w ∈ xn) : xnb w = true := (List.mem_filter.mp h).2
theorem xn_tab {w : Cond} (h : w ∈ xn) : w.onTables = true := by
  have h1 := xn_nest h
  cases w <;> first | rfl | (simp [xnb] at h1)
theorem xK.moved {D : va_G} {ct : Bool → ClassId} {s U : State} (hW : s.WarmedH U.vm) (h : xK D ct s) : xK D ct U := by
  refine ⟨va_K.moved hW.alike h.1, fun w hw => ?_⟩
  have h1 := xn_nest hw
  have h2 := h.2 w hw
  cases w with
  | fieldLinkNest a i b n d hh => exact va_Nw.warmF hW h2
  | methodLinkNest a i x hh => exact va_Nw.warmM hW h2
  | _ => simp [xnb] at h1
theorem xK.calling {D : va_G} {ct : Bool → ClassId} {U : State} {g : JFrame} {mk : MethodId} {a : Array Value} (h : xK D ct U) : xK D ct (U.calling g mk a) :=
  ⟨va_K.moved (u := U) (U := U.calling g mk a) (Vm.Alike.refl U.vm) h.1, fun w hw => va_Nw.same (xn_tab hw) (u := U) (U := U.calling g mk a) rfl (h.2 w hw)⟩
/-- a method: name, code, locals, answer's type, the shape of the world -/
abbrev xm : Type := MethodName × ByteArray × Nat × Option FieldType × xS
def xr (d : Nat) : Room := { frames := d, cells := 0, slots := 0, locals := 64 * d }
abbrev xR : Type := Option Value × xM × xN
def xQ (D : va_G) (ct : Bool → ClassId) (ad : Nat → Nat) (sh : xS) (R : xR) : Array Value → State → Outcome → State → Prop := fun _ st oc t =>
  (oc = .returned (R.1.map (xt ad)) ∧ va_P D vwCl (xw ct ad sh R.2.1 R.2.2) t.heap) ∧ va_F (xA ad sh.length) st t
def xC (μ : xm) (p : Program) (s : State) (m : MethodId) (args : Array Value) (meth : Method) (c : Code) (D : va_G) (ct : Bool → ClassId) (ad : Nat → Nat) : Prop :=
  p.tables.exec = Jvm.exec ∧ c.code = μ.2.1 ∧ c.maxLocals = μ.2.2.1 ∧ meth.sig.returnType = μ.2.2.2.1 ∧ meth.locks = false ∧ s.vm.findClass μ.1.cls = some m.cls ∧ (∀ w ∈ xg, w.before args s = true) ∧ xK D ct s ∧ xI ad μ.2.2.2.2.length ∧ xO (xA ad μ.2.2.2.2.length) s s.heap
def X (μ : xm) (d : Nat) (R : xR) (pc : Nat) (L : List (Option Value)) (st : List Value) (f : xM) (g : xN) : Prop :=
  ∀ (p : Program) (l : Launch) (e : Env) (s : State) (m : MethodId) (args : Array Value) (below : List Frame) (meth : Method) (c : Code) (D : va_G) (ct : Bool → ClassId) (ad : Nat → Nat) (H : Heap) (locs : List Loc) (ls : Array Slot),
    xC μ p s m args meth c D ct ad → va_P D vwCl (xw ct ad μ.2.2.2.2 f g) H → va_S (xA ad μ.2.2.2.2.length) s.heap H locs → xl ad ls μ.2.2.1 L →
    W p l e (xr d) s m args below meth c H locs 0 0 (MQ below (xQ D ct ad μ.2.2.2.2 R) args s 0 0 (xA ad μ.2.2.2.2.length)) (F0 m pc ls (st.map (xt ad)))
section XR
variable {μ : xm} {d : Nat} {R : xR} {pc : Nat} {L : List (Option Value)} {st : List Value} {f : xM} {g : xN}
theorem X.weaken {L' : List (Option Value)} (hx : xle L' L) (k : X μ d R pc L' st f g) : X μ d R pc L st f g := by
  intro p l e s m args below meth c D ct ad H locs ls hC hP hS hl
  exact k p l e s m args below meth c D ct ad H locs ls hC hP hS (xl_le hx hl)

theorem X.iconst {n : Int} {v : Int32} (hd : decode μ.2.1 pc = .ok (.iconst n, 1)) (hv : Int32.ofInt n = v) (k : X μ d R (pc + 1) L (.int v :: st) f g) : X μ d R pc L st f g := by
  intro p l e s m args below meth c D ct ad H locs ls hC hP hS hl
  obtain ⟨hx, hb, hml, hr, hlk, hown, hts, hK, hI, hO⟩ := id hC
  exact lv_iconst hx hb hd hv (k p l e s m args below meth c D ct ad H locs ls hC hP hS hl)

theorem X.bipush {n : Int} {v : Int32} (hd : decode μ.2.1 pc = .ok (.bipush n, 2)) (hv : (Int8.ofInt n).toInt32 = v) (k : X μ d R (pc + 2) L (.int v :: st) f g) : X μ d R pc L st f g := by
  intro p l e s m args below meth c D ct ad H locs ls hC hP hS hl
  obtain ⟨hx, hb, hml, hr, hlk, hown, hts, hK, hI, hO⟩ := id hC
  exact lv_bipush hx hb hd hv (k p l e s m args below meth c D ct ad H locs ls hC hP hS hl)

theorem X.sipush {n : Int} {v : Int32} (hd : decode μ.2.1 pc = .ok (.sipush n, 3)) (hv : (Int16.ofInt n).toInt32 = v) (k : X μ d R (pc + 3) L (.int v :: st) f g) : X μ d R pc L st f g := by
  intro p l e s m args below meth c D ct ad H locs ls hC hP hS hl
  obtain ⟨hx, hb, hml, hr, hlk, hown, hts, hK, hI, hO⟩ := id hC
  exact lv_sipush hx hb hd hv (k p l e s m args below meth c D ct ad H locs ls hC hP hS hl)

theorem X.lconst {n : Fin 2} {v : Int64} (hd : decode μ.2.1 pc = .ok (.lconst n, 1)) (hv : Int64.ofNat (n : Nat) = v) (k : X μ d R (pc + 1) L (.long v :: st) f g) : X μ d R pc L st f g := by
  intro p l e s m args below meth c D ct ad H locs ls hC hP hS hl
  obtain ⟨hx, hb, hml, hr, hlk, hown, hts, hK, hI, hO⟩ := id hC
  exact lv_lconst hx hb hd hv (k p l e s m args below meth c D ct ad H locs ls hC hP hS hl)

theorem X.iload_n {k0 : Fin 4} {i : Nat} {x : Int32} (hd : decode μ.2.1 pc = .ok (.iload_n k0, 1)) (hi : (k0 : Nat) = i) (hl0 : L[i]? = some (some (.int x))) (k : X μ d R (pc + 1) L (.int x :: st) f g) : X μ d R pc L st f g := by
  intro p l e s m args below meth c D ct ad H locs ls hC hP hS hl
  obtain ⟨hx, hb, hml, hr, hlk, hown, hts, hK, hI, hO⟩ := id hC
  exact lv_iload_n hx hb hd hi (hl.2.2 i _ hl0) (k p l e s m args below meth c D ct ad H locs ls hC hP hS hl)

theorem X.iload {i : Nat} {x : Int32} (hd : decode μ.2.1 pc = .ok (.iload i, 2)) (hl0 : L[i]? = some (some (.int x))) (k : X μ d R (pc + 2) L (.int x :: st) f g) : X μ d R pc L st f g := by
  intro p l e s m args below meth c D ct ad H locs ls hC hP hS hl
  obtain ⟨hx, hb, hml, hr, hlk, hown, hts, hK, hI, hO⟩ := id hC
  exact lv_iload hx hb hd (hl.2.2 i _ hl0) (k p l e s m args below meth c D ct ad H locs ls hC hP hS hl)

theorem X.lload_n {k0 : Fin 4} {i : Nat} {x : Int64} (hd : decode μ.2.1 pc = .ok (.lload_n k0, 1)) (hi : (k0 : Nat) = i) (hl0 : L[i]? = some (some (.long x))) (k : X μ d R (pc + 1) L (.long x :: st) f g) : X μ d R pc L st f g := by
  intro p l e s m args below meth c D ct ad H locs ls hC hP hS hl
  obtain ⟨hx, hb, hml, hr, hlk, hown, hts, hK, hI, hO⟩ := id hC
  exact lv_lload_n hx hb hd hi (hl.2.2 i _ hl0) (k p l e s m args below meth c D ct ad H locs ls hC hP hS hl)

theorem X.lload {i : Nat} {x : Int64} (hd : decode μ.2.1 pc = .ok (.lload i, 2)) (hl0 : L[i]? = some (some (.long x))) (k : X μ d R (pc + 2) L (.long x :: st) f g) : X μ d R pc L st f g := by
  intro p l e s m args below meth c D ct ad H locs ls hC hP hS hl
  obtain ⟨hx, hb, hml, hr, hlk, hown, hts, hK, hI, hO⟩ := id hC
  exact lv_lload hx hb hd (hl.2.2 i _ hl0) (k p l e s m args below meth c D ct ad H locs ls hC hP hS hl)

theorem X.aload_n {k0 : Fin 4} {i : Nat} {x : Nat} (hd : decode μ.2.1 pc = .ok (.aload_n k0, 1)) (hi : (k0 : Nat) = i) (hl0 : L[i]? = some (some (.ref x))) (k : X μ d R (pc + 1) L (.ref x :: st) f g) : X μ d R pc L st f g := by
  intro p l e s m args below meth c D ct ad H locs ls hC hP hS hl
  obtain ⟨hx, hb, hml, hr, hlk, hown, hts, hK, hI, hO⟩ := id hC
  exact lv_aload_n hx hb hd hi (hl.2.2 i _ hl0) (k p l e s m args below meth c D ct ad H locs ls hC hP hS hl)

theorem X.aload {i : Nat} {x : Nat} (hd : decode μ.2.1 pc = .ok (.aload i, 2)) (hl0 : L[i]? = some (some (.ref x))) (k : X μ d R (pc + 2) L (.ref x :: st) f g) : X μ d R pc L st f g := by
  intro p l e s m args below meth c D ct ad H locs ls hC hP hS hl
  obtain ⟨hx, hb, hml, hr, hlk, hown, hts, hK, hI, hO⟩ := id hC
  exact lv_aload hx hb hd (hl.2.2 i _ hl0) (k p l e s m args below meth c D ct ad H locs ls hC hP hS hl)

theorem X.istore_n {k0 : Fin 4} {i : Nat} {x : Int32} {L' : List (Option Value)} (hd : decode μ.2.1 pc = .ok (.istore_n k0, 1)) (hi : (k0 : Nat) = i) (hn : i < μ.2.2.1) (hL : xst1 L i (.int x) = L') (k : X μ d R (pc + 1) L' st f g) : X μ d R pc L (.int x :: st) f g := by
  intro p l e s m args below meth c D ct ad H locs ls hC hP hS hl
  obtain ⟨hx, hb, hml, hr, hlk, hown, hts, hK, hI, hO⟩ := id hC
  subst hL
  exact lv_istore_n hx hb hd hi (xl_has hl) hn rfl (fun ls' hl' => k p l e s m args below meth c D ct ad H locs ls' hC hP hS (xl_st1 rfl hl'))

theorem X.istore {i : Nat} {x : Int32} {L' : List (Option Value)} (hd : decode μ.2.1 pc = .ok (.istore i, 2)) (hn : i < μ.2.2.1) (hL : xst1 L i (.int x) = L') (k : X μ d R (pc + 2) L' st f g) : X μ d R pc L (.int x :: st) f g := by
  intro p l e s m args below meth c D ct ad H locs ls hC hP hS hl
  obtain ⟨hx, hb, hml, hr, hlk, hown, hts, hK, hI, hO⟩ := id hC
  subst hL
  exact lv_istore hx hb hd (xl_has hl) hn rfl (fun ls' hl' => k p l e s m args below meth c D ct ad H locs ls' hC hP hS (xl_st1 rfl hl'))

theorem X.astore_n {k0 : Fin 4} {i : Nat} {x : Nat} {L' : List (Option Value)} (hd : decode μ.2.1 pc = .ok (.astore_n k0, 1)) (hi : (k0 : Nat) = i) (hn : i < μ.2.2.1) (hL : xst1 L i (.ref x) = L') (k : X μ d R (pc + 1) L' st f g) : X μ d R pc L (.ref x :: st) f g := by
  intro p l e s m args below meth c D ct ad H locs ls hC hP hS hl
  obtain ⟨hx, hb, hml, hr, hlk, hown, hts, hK, hI, hO⟩ := id hC
  subst hL
  exact lv_astore_n hx hb hd hi (xl_has hl) hn rfl (fun ls' hl' => k p l e s m args below meth c D ct ad H locs ls' hC hP hS (xl_st1 rfl hl'))

theorem X.astore {i : Nat} {x : Nat} {L' : List (Option Value)} (hd : decode μ.2.1 pc = .ok (.astore i, 2)) (hn : i < μ.2.2.1) (hL : xst1 L i (.ref x) = L') (k : X μ d R (pc + 2) L' st f g) : X μ d R pc L (.ref x :: st) f g := by
  intro p l e s m args below meth c D ct ad H locs ls hC hP hS hl
  obtain ⟨hx, hb, hml, hr, hlk, hown, hts, hK, hI, hO⟩ := id hC
  subst hL
  exact lv_astore hx hb hd (xl_has hl) hn rfl (fun ls' hl' => k p l e s m args below meth c D ct ad H locs ls' hC hP hS (xl_st1 rfl hl'))

theorem X.lstore_n {k0 : Fin 4} {i : Nat} {x : Int64} {L' : List (Option Value)} (hd : decode μ.2.1 pc = .ok (.lstore_n k0, 1)) (hi : (k0 : Nat) = i) (hn : i + 1 < μ.2.2.1) (hL : xst2 L i (.long x) = L') (k : X μ d R (pc + 1) L' st f g) : X μ d R pc L (.long x :: st) f g := by
  intro p l e s m args below meth c D ct ad H locs ls hC hP hS hl
  obtain ⟨hx, hb, hml, hr, hlk, hown, hts, hK, hI, hO⟩ := id hC
  subst hL
  exact lv_lstore_n hx hb hd hi (xl_has hl) hn rfl (fun ls' hl' => k p l e s m args below meth c D ct ad H locs ls' hC hP hS (xl_st2 rfl hl'))

theorem X.lstore {i : Nat} {x : Int64} {L' : List (Option Value)} (hd : decode μ.2.1 pc = .ok (.lstore i, 2)) (hn : i + 1 < μ.2.2.1) (hL : xst2 L i (.long x) = L') (k : X μ d R (pc + 2) L' st f g) : X μ d R pc L (.long x :: st) f g := by
  intro p l e s m args below meth c D ct ad H locs ls hC hP hS hl
  obtain ⟨hx, hb, hml, hr, hlk, hown, hts, hK, hI, hO⟩ := id hC
  subst hL
  exact lv_lstore hx hb hd (xl_has hl) hn rfl (fun ls' hl' => k p l e s m args below meth c D ct ad H locs ls' hC hP hS (xl_st2 rfl hl'))

theorem X.iinc {i : Nat} {n : Int} {x v : Int32} {L' : List (Option Value)} (hd : decode μ.2.1 pc = .ok (.iinc i n, 3)) (hl0 : L[i]? = some (some (.int x))) (hv : x + Int32.ofInt n = v) (hn : i < μ.2.2.1) (hL : xst1 L i (.int v) = L') (k : X μ d R (pc + 3) L' st f g) : X μ d R pc L st f g := by
  intro p l e s m args below meth c D ct ad H locs ls hC hP hS hl
  obtain ⟨hx, hb, hml, hr, hlk, hown, hts, hK, hI, hO⟩ := id hC
  subst hL
  obtain ⟨kk, hkk⟩ := List.getElem?_of_mem (xal_mem.mpr ⟨i, _, hl0, rfl⟩ : (0 + i, xt ad (.int x)) ∈ xal ad 0 L)
  rw [Nat.zero_add] at hkk
  exact lv_iinc hx hb hd (xl_has hl) hkk hv hn rfl (fun ls' hl' => k p l e s m args below meth c D ct ad H locs ls' hC hP hS (xl_st1 rfl hl'))

theorem X.iadd {x y : Int32} (hd : decode μ.2.1 pc = .ok (.iadd, 1)) (k : X μ d R (pc + 1) L (.int (x + y) :: st) f g) : X μ d R pc L (.int y :: .int x :: st) f g := by
  intro p l e s m args below meth c D ct ad H locs ls hC hP hS hl
  obtain ⟨hx, hb, hml, hr, hlk, hown, hts, hK, hI, hO⟩ := id hC
  exact lv_iadd hx hb hd (k p l e s m args below meth c D ct ad H locs ls hC hP hS hl)

theorem X.isub {x y : Int32} (hd : decode μ.2.1 pc = .ok (.isub, 1)) (k : X μ d R (pc + 1) L (.int (x - y) :: st) f g) : X μ d R pc L (.int y :: .int x :: st) f g := by
  intro p l e s m args below meth c D ct ad H locs ls hC hP hS hl
  obtain ⟨hx, hb, hml, hr, hlk, hown, hts, hK, hI, hO⟩ := id hC
  exact lv_isub hx hb hd (k p l e s m args below meth c D ct ad H locs ls hC hP hS hl)

theorem X.imul {x y : Int32} (hd : decode μ.2.1 pc = .ok (.imul, 1)) (k : X μ d R (pc + 1) L (.int (x * y) :: st) f g) : X μ d R pc L (.int y :: .int x :: st) f g := by
  intro p l e s m args below meth c D ct ad H locs ls hC hP hS hl
  obtain ⟨hx, hb, hml, hr, hlk, hown, hts, hK, hI, hO⟩ := id hC
  exact lv_imul hx hb hd (k p l e s m args below meth c D ct ad H locs ls hC hP hS hl)

theorem X.iand {x y : Int32} (hd : decode μ.2.1 pc = .ok (.iand, 1)) (k : X μ d R (pc + 1) L (.int (x &&& y) :: st) f g) : X μ d R pc L (.int y :: .int x :: st) f g := by
  intro p l e s m args below meth c D ct ad H locs ls hC hP hS hl
  obtain ⟨hx, hb, hml, hr, hlk, hown, hts, hK, hI, hO⟩ := id hC
  exact lv_iand hx hb hd (k p l e s m args below meth c D ct ad H locs ls hC hP hS hl)

theorem X.ior {x y : Int32} (hd : decode μ.2.1 pc = .ok (.ior, 1)) (k : X μ d R (pc + 1) L (.int (x ||| y) :: st) f g) : X μ d R pc L (.int y :: .int x :: st) f g := by
  intro p l e s m args below meth c D ct ad H locs ls hC hP hS hl
  obtain ⟨hx, hb, hml, hr, hlk, hown, hts, hK, hI, hO⟩ := id hC
  exact lv_ior hx hb hd (k p l e s m args below meth c D ct ad H locs ls hC hP hS hl)

theorem X.ixor {x y : Int32} (hd : decode μ.2.1 pc = .ok (.ixor, 1)) (k : X μ d R (pc + 1) L (.int (x ^^^ y) :: st) f g) : X μ d R pc L (.int y :: .int x :: st) f g := by
  intro p l e s m args below meth c D ct ad H locs ls hC hP hS hl
  obtain ⟨hx, hb, hml, hr, hlk, hown, hts, hK, hI, hO⟩ := id hC
  exact lv_ixor hx hb hd (k p l e s m args below meth c D ct ad H locs ls hC hP hS hl)

theorem X.ishl {x y : Int32} (hd : decode μ.2.1 pc = .ok (.ishl, 1)) (k : X μ d R (pc + 1) L (.int (x <<< (y &&& 31)) :: st) f g) : X μ d R pc L (.int y :: .int x :: st) f g := by
  intro p l e s m args below meth c D ct ad H locs ls hC hP hS hl
  obtain ⟨hx, hb, hml, hr, hlk, hown, hts, hK, hI, hO⟩ := id hC
  exact lv_ishl hx hb hd (k p l e s m args below meth c D ct ad H locs ls hC hP hS hl)

theorem X.ishr {x y : Int32} (hd : decode μ.2.1 pc = .ok (.ishr, 1)) (k : X μ d R (pc + 1) L (.int (x >>> (y &&& 31)) :: st) f g) : X μ d R pc L (.int y :: .int x :: st) f g := by
  intro p l e s m args below meth c D ct ad H locs ls hC hP hS hl
  obtain ⟨hx, hb, hml, hr, hlk, hown, hts, hK, hI, hO⟩ := id hC
  exact lv_ishr hx hb hd (k p l e s m args below meth c D ct ad H locs ls hC hP hS hl)

theorem X.ladd {x y : Int64} (hd : decode μ.2.1 pc = .ok (.ladd, 1)) (k : X μ d R (pc + 1) L (.long (x + y) :: st) f g) : X μ d R pc L (.long y :: .long x :: st) f g := by
  intro p l e s m args below meth c D ct ad H locs ls hC hP hS hl
  obtain ⟨hx, hb, hml, hr, hlk, hown, hts, hK, hI, hO⟩ := id hC
  exact lv_ladd hx hb hd (k p l e s m args below meth c D ct ad H locs ls hC hP hS hl)

theorem X.lsub {x y : Int64} (hd : decode μ.2.1 pc = .ok (.lsub, 1)) (k : X μ d R (pc + 1) L (.long (x - y) :: st) f g) : X μ d R pc L (.long y :: .long x :: st) f g := by
  intro p l e s m args below meth c D ct ad H locs ls hC hP hS hl
  obtain ⟨hx, hb, hml, hr, hlk, hown, hts, hK, hI, hO⟩ := id hC
  exact lv_lsub hx hb hd (k p l e s m args below meth c D ct ad H locs ls hC hP hS hl)

theorem X.lmul {x y : Int64} (hd : decode μ.2.1 pc = .ok (.lmul, 1)) (k : X μ d R (pc + 1) L (.long (x * y) :: st) f g) : X μ d R pc L (.long y :: .long x :: st) f g := by
  intro p l e s m args below meth c D ct ad H locs ls hC hP hS hl
  obtain ⟨hx, hb, hml, hr, hlk, hown, hts, hK, hI, hO⟩ := id hC
  exact lv_lmul hx hb hd (k p l e s m args below meth c D ct ad H locs ls hC hP hS hl)

theorem X.land {x y : Int64} (hd : decode μ.2.1 pc = .ok (.land, 1)) (k : X μ d R (pc + 1) L (.long (x &&& y) :: st) f g) : X μ d R pc L (.long y :: .long x :: st) f g := by
  intro p l e s m args below meth c D ct ad H locs ls hC hP hS hl
  obtain ⟨hx, hb, hml, hr, hlk, hown, hts, hK, hI, hO⟩ := id hC
  exact lv_land hx hb hd (k p l e s m args below meth c D ct ad H locs ls hC hP hS hl)

theorem X.lor {x y : Int64} (hd : decode μ.2.1 pc = .ok (.lor, 1)) (k : X μ d R (pc + 1) L (.long (x ||| y) :: st) f g) : X μ d R pc L (.long y :: .long x :: st) f g := by
  intro p l e s m args below meth c D ct ad H locs ls hC hP hS hl
  obtain ⟨hx, hb, hml, hr, hlk, hown, hts, hK, hI, hO⟩ := id hC
  exact lv_lor hx hb hd (k p l e s m args below meth c D ct ad H locs ls hC hP hS hl)

theorem X.idiv {x y : Int32} (hd : decode μ.2.1 pc = .ok (.idiv, 1)) (hne : ¬ y = 0) (k : X μ d R (pc + 1) L (.int (x / y) :: st) f g) : X μ d R pc L (.int y :: .int x :: st) f g := by
  intro p l e s m args below meth c D ct ad H locs ls hC hP hS hl
  obtain ⟨hx, hb, hml, hr, hlk, hown, hts, hK, hI, hO⟩ := id hC
  exact lv_idiv hx hb hd hne (k p l e s m args below meth c D ct ad H locs ls hC hP hS hl)

theorem X.irem {x y : Int32} (hd : decode μ.2.1 pc = .ok (.irem, 1)) (hne : ¬ y = 0) (k : X μ d R (pc + 1) L (.int (x - x / y * y) :: st) f g) : X μ d R pc L (.int y :: .int x :: st) f g := by
  intro p l e s m args below meth c D ct ad H locs ls hC hP hS hl
  obtain ⟨hx, hb, hml, hr, hlk, hown, hts, hK, hI, hO⟩ := id hC
  exact lv_irem hx hb hd hne (k p l e s m args below meth c D ct ad H locs ls hC hP hS hl)

theorem X.ldiv {x y : Int64} (hd : decode μ.2.1 pc = .ok (.ldiv, 1)) (hne : ¬ y = 0) (k : X μ d R (pc + 1) L (.long (x / y) :: st) f g) : X μ d R pc L (.long y :: .long x :: st) f g := by
  intro p l e s m args below meth c D ct ad H locs ls hC hP hS hl
  obtain ⟨hx, hb, hml, hr, hlk, hown, hts, hK, hI, hO⟩ := id hC
  exact lv_ldiv hx hb hd hne (k p l e s m args below meth c D ct ad H locs ls hC hP hS hl)

theorem X.lrem {x y : Int64} (hd : decode μ.2.1 pc = .ok (.lrem, 1)) (hne : ¬ y = 0) (k : X μ d R (pc + 1) L (.long (x - x / y * y) :: st) f g) : X μ d R pc L (.long y :: .long x :: st) f g := by
  intro p l e s m args below meth c D ct ad H locs ls hC hP hS hl
  obtain ⟨hx, hb, hml, hr, hlk, hown, hts, hK, hI, hO⟩ := id hC
  exact lv_lrem hx hb hd hne (k p l e s m args below meth c D ct ad H locs ls hC hP hS hl)

theorem X.ineg {x : Int32} (hd : decode μ.2.1 pc = .ok (.ineg, 1)) (k : X μ d R (pc + 1) L (.int (-x) :: st) f g) : X μ d R pc L (.int x :: st) f g := by
  intro p l e s m args below meth c D ct ad H locs ls hC hP hS hl
  obtain ⟨hx, hb, hml, hr, hlk, hown, hts, hK, hI, hO⟩ := id hC
  exact lv_ineg hx hb hd (k p l e s m args below meth c D ct ad H locs ls hC hP hS hl)

theorem X.i2l {x : Int32} (hd : decode μ.2.1 pc = .ok (.i2l, 1)) (k : X μ d R (pc + 1) L (.long x.toInt64 :: st) f g) : X μ d R pc L (.int x :: st) f g := by
  intro p l e s m args below meth c D ct ad H locs ls hC hP hS hl
  obtain ⟨hx, hb, hml, hr, hlk, hown, hts, hK, hI, hO⟩ := id hC
  exact lv_i2l hx hb hd rfl (k p l e s m args below meth c D ct ad H locs ls hC hP hS hl)

theorem X.l2i {x : Int64} (hd : decode μ.2.1 pc = .ok (.l2i, 1)) (k : X μ d R (pc + 1) L (.int x.toInt32 :: st) f g) : X μ d R pc L (.long x :: st) f g := by
  intro p l e s m args below meth c D ct ad H locs ls hC hP hS hl
  obtain ⟨hx, hb, hml, hr, hlk, hown, hts, hK, hI, hO⟩ := id hC
  exact lv_l2i hx hb hd rfl (k p l e s m args below meth c D ct ad H locs ls hC hP hS hl)

theorem X.iushr {x y : Int32} (hd : decode μ.2.1 pc = .ok (.iushr, 1)) (k : X μ d R (pc + 1) L (.int (x.toUInt32 >>> (y.toUInt32 &&& Int32.toUInt32 31)).toInt32 :: st) f g) : X μ d R pc L (.int y :: .int x :: st) f g := by
  intro p l e s m args below meth c D ct ad H locs ls hC hP hS hl
  obtain ⟨hx, hb, hml, hr, hlk, hown, hts, hK, hI, hO⟩ := id hC
  exact lv_iushr hx hb hd rfl (k p l e s m args below meth c D ct ad H locs ls hC hP hS hl)

theorem X.lushr {x : Int64} {y : Int32} (hd : decode μ.2.1 pc = .ok (.lushr, 1)) (k : X μ d R (pc + 1) L (.long (x.toUInt64 >>> (y.toInt64.toUInt64 &&& Int64.toUInt64 63)).toInt64 :: st) f g) : X μ d R pc L (.int y :: .long x :: st) f g := by
  intro p l e s m args below meth c D ct ad H locs ls hC hP hS hl
  obtain ⟨hx, hb, hml, hr, hlk, hown, hts, hK, hI, hO⟩ := id hC
  exact lv_lushr hx hb hd rfl (k p l e s m args below meth c D ct ad H locs ls hC hP hS hl)

theorem X.lshl {x : Int64} {y : Int32} (hd : decode μ.2.1 pc = .ok (.lshl, 1)) (k : X μ d R (pc + 1) L (.long (x <<< (y.toInt64 &&& 63)) :: st) f g) : X μ d R pc L (.int y :: .long x :: st) f g := by
  intro p l e s m args below meth c D ct ad H locs ls hC hP hS hl
  obtain ⟨hx, hb, hml, hr, hlk, hown, hts, hK, hI, hO⟩ := id hC
  exact lv_lshl hx hb hd rfl (k p l e s m args below meth c D ct ad H locs ls hC hP hS hl)

theorem X.lcmp {x y : Int64} (hd : decode μ.2.1 pc = .ok (.lcmp, 1)) (k : X μ d R (pc + 1) L (.int (lg_cmp x y) :: st) f g) : X μ d R pc L (.long y :: .long x :: st) f g := by
  intro p l e s m args below meth c D ct ad H locs ls hC hP hS hl
  obtain ⟨hx, hb, hml, hr, hlk, hown, hts, hK, hI, hO⟩ := id hC
  exact W.lcmp hx hb hd (k p l e s m args below meth c D ct ad H locs ls hC hP hS hl)

theorem X.dup {v : Value} (hd : decode μ.2.1 pc = .ok (.dup, 1)) (hv : v.category = 1) (k : X μ d R (pc + 1) L (v :: v :: st) f g) : X μ d R pc L (v :: st) f g := by
  intro p l e s m args below meth c D ct ad H locs ls hC hP hS hl
  obtain ⟨hx, hb, hml, hr, hlk, hown, hts, hK, hI, hO⟩ := id hC
  exact lv_dup hx hb hd ((xt_cat ad v).trans hv) (k p l e s m args below meth c D ct ad H locs ls hC hP hS hl)

theorem X.dup2 {v u : Value} (hd : decode μ.2.1 pc = .ok (.dup2, 1)) (hv : v.category = 1) (hu : u.category = 1) (k : X μ d R (pc + 1) L (v :: u :: v :: u :: st) f g) : X μ d R pc L (v :: u :: st) f g := by
  intro p l e s m args below meth c D ct ad H locs ls hC hP hS hl
  obtain ⟨hx, hb, hml, hr, hlk, hown, hts, hK, hI, hO⟩ := id hC
  exact lv_dup2_11 hx hb hd ((xt_cat ad v).trans hv) ((xt_cat ad u).trans hu) (k p l e s m args below meth c D ct ad H locs ls hC hP hS hl)

theorem X.pop {v : Value} (hd : decode μ.2.1 pc = .ok (.pop, 1)) (hv : v.category = 1) (k : X μ d R (pc + 1) L st f g) : X μ d R pc L (v :: st) f g := by
  intro p l e s m args below meth c D ct ad H locs ls hC hP hS hl
  obtain ⟨hx, hb, hml, hr, hlk, hown, hts, hK, hI, hO⟩ := id hC
  exact lv_pop hx hb hd ((xt_cat ad v).trans hv) (k p l e s m args below meth c D ct ad H locs ls hC hP hS hl)

theorem X.goto {off : Int} {tgt : Nat} (hd : decode μ.2.1 pc = .ok (.goto off, 3)) (ht : (pc : Int) + off = (tgt : Int)) (k : X μ d R tgt L st f g) : X μ d R pc L st f g := by
  intro p l e s m args below meth c D ct ad H locs ls hC hP hS hl
  obtain ⟨hx, hb, hml, hr, hlk, hown, hts, hK, hI, hO⟩ := id hC
  exact lv_goto hx hb hd ht (k p l e s m args below meth c D ct ad H locs ls hC hP hS hl)

theorem X.ldc {index : Nat} {v : Int32} (hd : decode μ.2.1 pc = .ok (.ldc index, 2)) (hc : Cond.constant μ.1.cls index v ∈ xg) (k : X μ d R (pc + 2) L (.int v :: st) f g) : X μ d R pc L st f g := by
  intro p l e s m args below meth c D ct ad H locs ls hC hP hS hl
  obtain ⟨hx, hb, hml, hr, hlk, hown, hts, hK, hI, hO⟩ := id hC
  exact lv_ldc hx hb hown (hts _ hc) hd (k p l e s m args below meth c D ct ad H locs ls hC hP hS hl)

theorem X.ldc2 {index : Nat} {v : Int64} (hd : decode μ.2.1 pc = .ok (.ldc2_w index, 3)) (hc : Cond.constantLong μ.1.cls index v ∈ xg) (k : X μ d R (pc + 3) L (.long v :: st) f g) : X μ d R pc L st f g := by
  intro p l e s m args below meth c D ct ad H locs ls hC hP hS hl
  obtain ⟨hx, hb, hml, hr, hlk, hown, hts, hK, hI, hO⟩ := id hC
  exact lv_ldc2 hx hb hown (hts _ hc) hd (k p l e s m args below meth c D ct ad H locs ls hC hP hS hl)

theorem X.if_eq {x : Int32} {off : Int} {tgt : Nat} (hd : decode μ.2.1 pc = .ok (.ifCond .eq off, 3)) (ht : (pc : Int) + off = (tgt : Int)) (kt : x = 0 → X μ d R tgt L st f g) (kf : ¬ x = 0 → X μ d R (pc + 3) L st f g) : X μ d R pc L (.int x :: st) f g := by
  intro p l e s m args below meth c D ct ad H locs ls hC hP hS hl
  obtain ⟨hx, hb, hml, hr, hlk, hown, hts, hK, hI, hO⟩ := id hC
  exact lv_if_eq hx hb hd ht (fun q => kt q p l e s m args below meth c D ct ad H locs ls hC hP hS hl) (fun q => kf q p l e s m args below meth c D ct ad H locs ls hC hP hS hl)

theorem X.icmp_eq {x y : Int32} {off : Int} {tgt : Nat} (hd : decode μ.2.1 pc = .ok (.if_icmp .eq off, 3)) (ht : (pc : Int) + off = (tgt : Int)) (kt : x = y → X μ d R tgt L st f g) (kf : ¬ x = y → X μ d R (pc + 3) L st f g) : X μ d R pc L (.int y :: .int x :: st) f g := by
  intro p l e s m args below meth c D ct ad H locs ls hC hP hS hl
  obtain ⟨hx, hb, hml, hr, hlk, hown, hts, hK, hI, hO⟩ := id hC
  exact lv_icmp_eq hx hb hd ht (fun q => kt q p l e s m args below meth c D ct ad H locs ls hC hP hS hl) (fun q => kf q p l e s m args below meth c D ct ad H locs ls hC hP hS hl)

theorem X.if_ne {x : Int32} {off : Int} {tgt : Nat} (hd : decode μ.2.1 pc = .ok (.ifCond .ne off, 3)) (ht : (pc : Int) + off = (tgt : Int)) (kt : ¬ x = 0 → X μ d R tgt L st f g) (kf : x = 0 → X μ d R (pc + 3) L st f g) : X μ d R pc L (.int x :: st) f g := by
  intro p l e s m args below meth c D ct ad H locs ls hC hP hS hl
  obtain ⟨hx, hb, hml, hr, hlk, hown, hts, hK, hI, hO⟩ := id hC
  exact lv_if_ne hx hb hd ht (fun q => kt q p l e s m args below meth c D ct ad H locs ls hC hP hS hl) (fun q => kf q p l e s m args below meth c D ct ad H locs ls hC hP hS hl)

theorem X.icmp_ne {x y : Int32} {off : Int} {tgt : Nat} (hd : decode μ.2.1 pc = .ok (.if_icmp .ne off, 3)) (ht : (pc : Int) + off = (tgt : Int)) (kt : ¬ x = y → X μ d R tgt L st f g) (kf : x = y → X μ d R (pc + 3) L st f g) : X μ d R pc L (.int y :: .int x :: st) f g := by
  intro p l e s m args below meth c D ct ad H locs ls hC hP hS hl
  obtain ⟨hx, hb, hml, hr, hlk, hown, hts, hK, hI, hO⟩ := id hC
  exact lv_icmp_ne hx hb hd ht (fun q => kt q p l e s m args below meth c D ct ad H locs ls hC hP hS hl) (fun q => kf q p l e s m args below meth c D ct ad H locs ls hC hP hS hl)

theorem X.if_lt {x : Int32} {off : Int} {tgt : Nat} (hd : decode μ.2.1 pc = .ok (.ifCond .lt off, 3)) (ht : (pc : Int) + off = (tgt : Int)) (kt : x < 0 → X μ d R tgt L st f g) (kf : ¬ x < 0 → X μ d R (pc + 3) L st f g) : X μ d R pc L (.int x :: st) f g := by
  intro p l e s m args below meth c D ct ad H locs ls hC hP hS hl
  obtain ⟨hx, hb, hml, hr, hlk, hown, hts, hK, hI, hO⟩ := id hC
  exact lv_if_lt hx hb hd ht (fun q => kt q p l e s m args below meth c D ct ad H locs ls hC hP hS hl) (fun q => kf q p l e s m args below meth c D ct ad H locs ls hC hP hS hl)

theorem X.icmp_lt {x y : Int32} {off : Int} {tgt : Nat} (hd : decode μ.2.1 pc = .ok (.if_icmp .lt off, 3)) (ht : (pc : Int) + off = (tgt : Int)) (kt : x < y → X μ d R tgt L st f g) (kf : ¬ x < y → X μ d R (pc + 3) L st f g) : X μ d R pc L (.int y :: .int x :: st) f g := by
  intro p l e s m args below meth c D ct ad H locs ls hC hP hS hl
  obtain ⟨hx, hb, hml, hr, hlk, hown, hts, hK, hI, hO⟩ := id hC
  exact lv_icmp_lt hx hb hd ht (fun q => kt q p l e s m args below meth c D ct ad H locs ls hC hP hS hl) (fun q => kf q p l e s m args below meth c D ct ad H locs ls hC hP hS hl)

theorem X.if_ge {x : Int32} {off : Int} {tgt : Nat} (hd : decode μ.2.1 pc = .ok (.ifCond .ge off, 3)) (ht : (pc : Int) + off = (tgt : Int)) (kt : 0 ≤ x → X μ d R tgt L st f g) (kf : ¬ 0 ≤ x → X μ d R (pc + 3) L st f g) : X μ d R pc L (.int x :: st) f g := by
  intro p l e s m args below meth c D ct ad H locs ls hC hP hS hl
  obtain ⟨hx, hb, hml, hr, hlk, hown, hts, hK, hI, hO⟩ := id hC
  exact lv_if_ge hx hb hd ht (fun q => kt q p l e s m args below meth c D ct ad H locs ls hC hP hS hl) (fun q => kf q p l e s m args below meth c D ct ad H locs ls hC hP hS hl)

theorem X.icmp_ge {x y : Int32} {off : Int} {tgt : Nat} (hd : decode μ.2.1 pc = .ok (.if_icmp .ge off, 3)) (ht : (pc : Int) + off = (tgt : Int)) (kt : y ≤ x → X μ d R tgt L st f g) (kf : ¬ y ≤ x → X μ d R (pc + 3) L st f g) : X μ d R pc L (.int y :: .int x :: st) f g := by
  intro p l e s m args below meth c D ct ad H locs ls hC hP hS hl
  obtain ⟨hx, hb, hml, hr, hlk, hown, hts, hK, hI, hO⟩ := id hC
  exact lv_icmp_ge hx hb hd ht (fun q => kt q p l e s m args below meth c D ct ad H locs ls hC hP hS hl) (fun q => kf q p l e s m args below meth c D ct ad H locs ls hC hP hS hl)

theorem X.if_gt {x : Int32} {off : Int} {tgt : Nat} (hd : decode μ.2.1 pc = .ok (.ifCond .gt off, 3)) (ht : (pc : Int) + off = (tgt : Int)) (kt : 0 < x → X μ d R tgt L st f g) (kf : ¬ 0 < x → X μ d R (pc + 3) L st f g) : X μ d R pc L (.int x :: st) f g := by
  intro p l e s m args below meth c D ct ad H locs ls hC hP hS hl
  obtain ⟨hx, hb, hml, hr, hlk, hown, hts, hK, hI, hO⟩ := id hC
  exact lv_if_gt hx hb hd ht (fun q => kt q p l e s m args below meth c D ct ad H locs ls hC hP hS hl) (fun q => kf q p l e s m args below meth c D ct ad H locs ls hC hP hS hl)

theorem X.icmp_gt {x y : Int32} {off : Int} {tgt : Nat} (hd : decode μ.2.1 pc = .ok (.if_icmp .gt off, 3)) (ht : (pc : Int) + off = (tgt : Int)) (kt : y < x → X μ d R tgt L st f g) (kf : ¬ y < x → X μ d R (pc + 3) L st f g) : X μ d R pc L (.int y :: .int x :: st) f g := by
  intro p l e s m args below meth c D ct ad H locs ls hC hP hS hl
  obtain ⟨hx, hb, hml, hr, hlk, hown, hts, hK, hI, hO⟩ := id hC
  exact lv_icmp_gt hx hb hd ht (fun q => kt q p l e s m args below meth c D ct ad H locs ls hC hP hS hl) (fun q => kf q p l e s m args below meth c D ct ad H locs ls hC hP hS hl)

theorem X.if_le {x : Int32} {off : Int} {tgt : Nat} (hd : decode μ.2.1 pc = .ok (.ifCond .le off, 3)) (ht : (pc : Int) + off = (tgt : Int)) (kt : x ≤ 0 → X μ d R tgt L st f g) (kf : ¬ x ≤ 0 → X μ d R (pc + 3) L st f g) : X μ d R pc L (.int x :: st) f g := by
  intro p l e s m args below meth c D ct ad H locs ls hC hP hS hl
  obtain ⟨hx, hb, hml, hr, hlk, hown, hts, hK, hI, hO⟩ := id hC
  exact lv_if_le hx hb hd ht (fun q => kt q p l e s m args below meth c D ct ad H locs ls hC hP hS hl) (fun q => kf q p l e s m args below meth c D ct ad H locs ls hC hP hS hl)

theorem X.icmp_le {x y : Int32} {off : Int} {tgt : Nat} (hd : decode μ.2.1 pc = .ok (.if_icmp .le off, 3)) (ht : (pc : Int) + off = (tgt : Int)) (kt : x ≤ y → X μ d R tgt L st f g) (kf : ¬ x ≤ y → X μ d R (pc + 3) L st f g) : X μ d R pc L (.int y :: .int x :: st) f g := by
  intro p l e s m args below meth c D ct ad H locs ls hC hP hS hl
  obtain ⟨hx, hb, hml, hr, hlk, hown, hts, hK, hI, hO⟩ := id hC
  exact lv_icmp_le hx hb hd ht (fun q => kt q p l e s m args below meth c D ct ad H locs ls hC hP hS hl) (fun q => kf q p l e s m args below meth c D ct ad H locs ls hC hP hS hl)

theorem X.swIn {dflt lo hi : Int} {offs : Array Int} {len : Nat} {x v : Int32} {off : Int} {tgt : Nat} (hd : decode μ.2.1 pc = .ok (.tableswitch dflt lo hi offs, len)) (hv : x = v) (h1 : ¬ v.toInt < lo) (h2 : ¬ hi < v.toInt) (ho : offs[(v.toInt - lo).toNat]? = some off) (ht : (pc : Int) + off = (tgt : Int)) (k : X μ d R tgt L st f g) : X μ d R pc L (.int x :: st) f g := by
  intro p l e s m args below meth c D ct ad H locs ls hC hP hS hl
  obtain ⟨hx, hb, hml, hr, hlk, hown, hts, hK, hI, hO⟩ := id hC
  subst hv
  exact lv_tableIn hx hb hd h1 h2 ho ht (k p l e s m args below meth c D ct ad H locs ls hC hP hS hl)
theorem X.swOut {dflt lo hi : Int} {offs : Array Int} {len : Nat} {x : Int32} {tgt : Nat} (hd : decode μ.2.1 pc = .ok (.tableswitch dflt lo hi offs, len)) (h1 : x.toInt < lo ∨ hi < x.toInt) (ht : (pc : Int) + dflt = (tgt : Int)) (k : X μ d R tgt L st f g) : X μ d R pc L (.int x :: st) f g := by
  intro p l e s m args below meth c D ct ad H locs ls hC hP hS hl
  obtain ⟨hx, hb, hml, hr, hlk, hown, hts, hK, hI, hO⟩ := id hC
  exact lv_tableOut hx hb hd h1 ht (k p l e s m args below meth c D ct ad H locs ls hC hP hS hl)

theorem X.iret {v : Int32} (hd : decode μ.2.1 pc = .ok (.ireturn, 1)) (hret : μ.2.2.2.1 = some .int) (hR : R = (some (.int v), f, g)) : X μ d R pc L [.int v] f g := by
  intro p l e s m args below meth c D ct ad H locs ls hC hP hS hl
  obtain ⟨hx, hb, hml, hr, hlk, hown, hts, hK, hI, hO⟩ := id hC
  subst hR
  exact W.iret (v := v) hx hb (hr.trans hret) (fun t ht hW => ⟨⟨rfl, by rw [ht]; exact hP⟩, hS.F ht⟩) hS.2.2 hd (hlocks := hlk)
theorem X.zret {v : Int32} (hd : decode μ.2.1 pc = .ok (.ireturn, 1)) (hret : μ.2.2.2.1 = some .boolean) (hv : narrow .boolean (.int v) = .int v) (hR : R = (some (.int v), f, g)) : X μ d R pc L [.int v] f g := by
  intro p l e s m args below meth c D ct ad H locs ls hC hP hS hl
  obtain ⟨hx, hb, hml, hr, hlk, hown, hts, hK, hI, hO⟩ := id hC
  subst hR
  exact W.zret (v := v) hx hb (hr.trans hret) hv (fun t ht hW => ⟨⟨rfl, by rw [ht]; exact hP⟩, hS.F ht⟩) hS.2.2 hd (hlocks := hlk)
theorem X.lret {v : Int64} (hd : decode μ.2.1 pc = .ok (.lreturn, 1)) (hret : μ.2.2.2.1 = some .long) (hR : R = (some (.long v), f, g)) : X μ d R pc L [.long v] f g := by
  intro p l e s m args below meth c D ct ad H locs ls hC hP hS hl
  obtain ⟨hx, hb, hml, hr, hlk, hown, hts, hK, hI, hO⟩ := id hC
  subst hR
  exact W.lret (v := v) hx hb (hr.trans hret) (fun t ht hW => ⟨⟨rfl, by rw [ht]; exact hP⟩, hS.F ht⟩) hS.2.2 hd (hlocks := hlk)
theorem X.vret (hd : decode μ.2.1 pc = .ok (.return_, 1)) (hret : μ.2.2.2.1 = none) (hR : R = (none, f, g)) : X μ d R pc L [] f g := by
  intro p l e s m args below meth c D ct ad H locs ls hC hP hS hl
  obtain ⟨hx, hb, hml, hr, hlk, hown, hts, hK, hI, hO⟩ := id hC
  subst hR
  exact W.vret hx hb (hr.trans hret) (fun t ht hW => ⟨⟨rfl, by rw [ht]; exact hP⟩, hS.F ht⟩) hS.2.2 hd (hlocks := hlk)
end XR
