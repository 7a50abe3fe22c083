/-! ===== what holds between the class's memory (f, g) and the reference's (h, k) after n calls ===== -/
/-- two pages: SAID, THE DAY, KINDS of c compositors, what r readers believe; names of w letters -/
def pgR (w c r : Nat) (u v : Nat → Int32) : Prop := (∃ s, s < 4 ^ w ∧ u 0 = nI s ∧ v 0 = nI s) ∧ u 1 = v 1 ∧ (∀ i, i < c → ∃ q, q < 4 ∧ u (2 + i) = nI q ∧ v (2 + i) = nI q) ∧ (∀ i, i < r → ∃ q, q < 4 ^ w ∧ u (5 + i) = nI q ∧ v (5 + i) = nI q)
def rT (f h : xM) : Prop := ∃ (tl : Nat) (tx : Nat → Nat), tl ≤ 40 ∧ f 1 4 = nI tl ∧ h 0 2 = nI tl ∧ ∀ j, j < tl → tx j < 256 ∧ f 13 j = nI (tx j) ∧ h 1 j = nI (tx j)
def rP (w c r t : Nat) (f h : xM) : Prop := 1 ≤ w ∧ w ≤ 5 ∧ c ≤ 3 ∧ r ≤ 4 ∧ t < 4 ^ w ∧ f 10 0 = nI w ∧ h 0 4 = nI w ∧ f 2 6 = nI t ∧ h 0 5 = nI t ∧ f 2 4 = nI c ∧ h 0 6 = nI c ∧ f 2 5 = nI r ∧ h 0 7 = nI r
def rD (r : Nat) (f h : xM) : Prop := ∀ j, j < r → ∃ pe le : Nat, 1 ≤ pe ∧ pe ≤ 4 ∧ le < pe ∧ f 17 j = nI pe ∧ h 2 j = nI pe ∧ f 18 j = nI le ∧ h 3 j = nI le
def rA (n w c r a A : Nat) (f h : xM) : Prop := a ≤ 14 ∧ a ≤ A ∧ A ≤ n ∧ f 3 2 = nI a ∧ f 3 1 = nI A ∧ h 0 21 = nI a ∧ ∀ i, i < a → pgR w c r (fun j => f 21 (9 * ((A - a + i) % 14) + j)) (fun j => h 9 (9 * i + j))
def rK (w c r : Nat) (b0 b1 : Bool) (f h : xM) : Prop := f 0 9 = nI ((if b0 then 1 else 0) + (if b1 then 2 else 0)) ∧ h 11 0 = (if b0 then 1 else 0) ∧ h 11 1 = (if b1 then 1 else 0) ∧ (b0 = true → pgR w c r (f 20) (h 10)) ∧ (b1 = true → pgR w c r (fun j => f 20 (9 + j)) (fun j => h 10 (9 + j)))
def Rel (n : Nat) (f : xM) (g : xN) (h : xM) (k : xN) : Prop := ∃ (w c r t a A : Nat) (b0 b1 : Bool), rT f h ∧ rP w c r t f h ∧ rD r f h ∧ pgR w c r (f 19) (h 7) ∧ rA n w c r a A f h ∧ rK w c r b0 b1 f h ∧ g 0 10 = k 0 24
def fC0 : xM := fun a b => if a = 10 ∧ b = 0 then 1 else 0
def fM0 : xM := fun a b => if a = 0 ∧ b = 4 then 1 else 0
def g00 : xN := fun _ _ => 0
theorem Rel_0 : Rel 0 fC0 g00 fM0 g00 := by
  refine ⟨1, 0, 0, 0, 0, 0, false, false, ⟨0, fun _ => 0, by omega, rfl, rfl, fun j hj => by omega⟩, ⟨by omega, by omega, by omega, by omega, by omega, rfl, rfl, rfl, rfl, rfl, rfl, rfl, rfl⟩, fun j hj => by omega, ⟨⟨0, by omega, rfl, rfl⟩, rfl, fun i hi => by omega, fun i hi => by omega⟩, ⟨by omega, by omega, by omega, rfl, rfl, rfl, fun i hi => by omega⟩, ⟨rfl, rfl, rfl, (fun h => absurd h (by decide)), (fun h => absurd h (by decide))⟩, rfl⟩
