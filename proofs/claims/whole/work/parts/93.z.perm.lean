def xsl (ad : Nat → Nat) (f : xM) (g : xN) (i : Nat) : Nat → List (Nat ⊕ Bool) → List Value
  | _, [] => []
  | k, t :: r => xv ad f g i k t :: xsl ad f g i (k + 1) r
theorem xsl_eq {ad : Nat → Nat} {f : xM} {g : xN} {i : Nat} : ∀ (sl : List (Nat ⊕ Bool)) (k0 : Nat), sl.mapIdx (fun k t => xv ad f g i (k0 + k) t) = xsl ad f g i k0 sl := by
  intro sl
  induction sl with
  | nil => intro k0; rfl
  | cons t r ih =>
    intro k0
    rw [List.mapIdx_cons, xsl, Nat.add_zero, ← ih (k0 + 1)]
    congr 1
    congr 1
    funext k t2
    rw [show k0 + (k + 1) = k0 + 1 + k by omega]
def xer (ct : Bool → ClassId) (ad : Nat → Nat) (f : xM) (g : xN) (i : Nat) : xSc → va_E
  | .inl q => .inl (ct q.1, q.2, .inl (f i))
  | .inr q => .inr (q.1, xsl ad f g i 0 q.2)
theorem xer_eq {ct : Bool → ClassId} {ad : Nat → Nat} {f : xM} {g : xN} {i : Nat} (c : xSc) : xe ct ad f g i c = xer ct ad f g i c := by
  rcases c with q | q
  · rfl
  · simp only [xe, xer]
    rw [← xsl_eq]
    simp only [Nat.zero_add]
def xwr (ct : Bool → ClassId) (ad : Nat → Nat) (f : xM) (g : xN) : Nat → xS → va_W
  | _, [] => []
  | i, c :: t => (ad i, xer ct ad f g i c) :: xwr ct ad f g (i + 1) t
theorem xwr_eq0 {ct : Bool → ClassId} {ad : Nat → Nat} {f : xM} {g : xN} : ∀ (sh : xS) (i0 : Nat), sh.mapIdx (fun i c => (ad (i0 + i), xe ct ad f g (i0 + i) c)) = xwr ct ad f g i0 sh := by
  intro sh
  induction sh with
  | nil => intro i0; rfl
  | cons c t ih =>
    intro i0
    rw [List.mapIdx_cons, xwr, Nat.add_zero, ← ih (i0 + 1), xer_eq]
    congr 1
    congr 1
    funext i c2
    rw [show i0 + (i + 1) = i0 + 1 + i by omega]
theorem xwr_eq {ct : Bool → ClassId} {ad : Nat → Nat} {sh : xS} {f : xM} {g : xN} : xw ct ad sh f g = xwr ct ad f g 0 sh := by
  rw [← xwr_eq0]
  simp only [Nat.zero_add, xw]
set_option maxRecDepth 100000 in
set_option maxHeartbeats 2000000 in
theorem z_perm1 (ct : Bool → ClassId) (u0 u1 u2 u3 u4 u5 u6 u7 u8 u9 u10 u11 u12 u13 u14 u15 u16 u17 u18 u19 u20 u21 u22 u23 u24 u25 u26 u27 w0 w1 w2 w3 w4 w5 w6 w7 w8 w9 w10 w11 w12 w13 w14 : Nat) : [0, 1, 6, 12, 15, 17, 19, 21, 24, 26, 7, 8, 13, 2, 3, 4, 5, 10, 11, 9, 16, 14, 18, 20, 22, 23, 25, 27, 28, 29, 30, 31, 32, 33, 34, 35, 36, 37, 38, 39, 40, 41, 42].filterMap (fun i => ([(u0, .inr (11, [.ref u1, .ref u6, .ref u12, .ref u15, .ref u17, .ref u19, .ref u21, .ref u24, .ref u26, .int (0 : Int32), .long (0 : Int64)])), (u1, .inr (10, [.ref u2, .ref u3, .ref u4, .ref u5, .int (0 : Int32), .int 0, .int 0, .int 0, .int 0, .int 0, .int 0, .int 0])), (u2, .inl (ct false, 40, .inl (fun _ => 0))), (u3, .inl (ct false, 3, .inl (fun _ => 0))), (u4, .inl (ct false, 4, .inl (fun _ => 0))), (u5, .inl (ct false, 4, .inl (fun _ => 0))), (u6, .inr (6, [.ref u7, .ref u8, .ref u10, .ref u11, .int (0 : Int32), .int (0 : Int32), .int (0 : Int32)])), (u7, .inr (8, [.int (1 : Int32)])), (u8, .inr (9, [.ref u9])), (u9, .inl (ct false, 9, .inl (fun _ => 0))), (u10, .inl (ct false, 4, .inl (fun _ => 0))), (u11, .inl (ct false, 4, .inl (fun _ => 0))), (u12, .inr (3, [.ref u13, .int (0 : Int32), .int (0 : Int32)])), (u13, .inr (7, [.ref u14])), (u14, .inl (ct false, 126, .inl (fun _ => 0))), (u15, .inr (7, [.ref u16])), (u16, .inl (ct false, 18, .inl (fun _ => 0))), (u17, .inr (5, [.ref u18, .int (0 : Int32)])), (u18, .inl (ct false, 4, .inl (fun _ => 0))), (u19, .inr (4, [.ref u20, .int 0, .int 0])), (u20, .inl (ct false, 4, .inl (fun _ => 0))), (u21, .inr (0, [.ref u22, .ref u23, .int 0, .int 0, .int 0])), (u22, .inl (ct true, 1024, .inl (fun _ => 0))), (u23, .inl (ct false, 1024, .inl (fun _ => 0))), (u24, .inr (1, [.ref u25, .int 0])), (u25, .inl (ct false, 9, .inl (fun _ => 0))), (u26, .inr (2, [.ref u27, .int 0, .int 0])), (u27, .inl (ct false, 3, .inl (fun _ => 0))), (w0, .inr (12, [.int 0, .ref w1, .int 0, .int 0, .int (1 : Int32), .int 0, .int 0, .int 0, .ref w2, .ref w3, .int 0, .int 0, .int 0, .int 0, .int 0, .ref w4, .ref w5, .ref w6, .ref w7, .ref w8, .ref w9, .int 0, .ref w10, .ref w11, .long 0, .int 0, .int 0, .int 0, .int 0, .int 0, .ref w12, .int 0, .ref w13, .ref w14])), (w1, .inl (ct false, 40, .inl (fun _ => 0))), (w2, .inl (ct false, 4, .inl (fun _ => 0))), (w3, .inl (ct false, 4, .inl (fun _ => 0))), (w4, .inl (ct false, 3, .inl (fun _ => 0))), (w5, .inl (ct false, 4, .inl (fun _ => 0))), (w6, .inl (ct false, 4, .inl (fun _ => 0))), (w7, .inl (ct false, 9, .inl (fun _ => 0))), (w8, .inl (ct false, 9, .inl (fun _ => 0))), (w9, .inl (ct false, 126, .inl (fun _ => 0))), (w10, .inl (ct false, 18, .inl (fun _ => 0))), (w11, .inl (ct true, 2, .inl (fun _ => 0))), (w12, .inl (ct false, 1024, .inl (fun _ => 0))), (w13, .inl (ct false, 8, .inl (fun _ => 0))), (w14, .inl (ct false, 1026, .inl (fun _ => 0)))] : va_W)[i]?) = (xw ct (fun i => [u0, u1, u6, u12, u15, u17, u19, u21, u24, u26, u7, u8, u13, u2, u3, u4, u5, u10, u11, u9, u16, u14, u18, u20, u22, u23, u25, u27].getD i 0) shC fC0 g00 ++ xw ct (fun i => [w0, w1, w2, w3, w4, w5, w6, w7, w8, w9, w10, w11, w12, w13, w14].getD i 0) shM fM0 g00) := by
  rw [xwr_eq, xwr_eq]
  rfl
set_option maxRecDepth 100000 in
set_option maxHeartbeats 2000000 in
theorem z_perm2 (ct : Bool → ClassId) (u0 u1 u2 u3 u4 u5 u6 u7 u8 u9 u10 u11 u12 u13 u14 u15 u16 u17 u18 u19 u20 u21 u22 u23 u24 u25 u26 u27 w0 w1 w2 w3 w4 w5 w6 w7 w8 w9 w10 w11 w12 w13 w14 : Nat) : [0, 1, 6, 12, 15, 17, 19, 21, 24, 26, 7, 8, 13, 2, 3, 4, 5, 10, 11, 9, 16, 14, 18, 20, 22, 23, 25, 27, 28, 29, 30, 31, 32, 33, 34, 35, 36, 37, 38, 39, 40, 41, 42].map (fun i => ([(u0, .inr (11, [.ref u1, .ref u6, .ref u12, .ref u15, .ref u17, .ref u19, .ref u21, .ref u24, .ref u26, .int (0 : Int32), .long (0 : Int64)])), (u1, .inr (10, [.ref u2, .ref u3, .ref u4, .ref u5, .int (0 : Int32), .int 0, .int 0, .int 0, .int 0, .int 0, .int 0, .int 0])), (u2, .inl (ct false, 40, .inl (fun _ => 0))), (u3, .inl (ct false, 3, .inl (fun _ => 0))), (u4, .inl (ct false, 4, .inl (fun _ => 0))), (u5, .inl (ct false, 4, .inl (fun _ => 0))), (u6, .inr (6, [.ref u7, .ref u8, .ref u10, .ref u11, .int (0 : Int32), .int (0 : Int32), .int (0 : Int32)])), (u7, .inr (8, [.int (1 : Int32)])), (u8, .inr (9, [.ref u9])), (u9, .inl (ct false, 9, .inl (fun _ => 0))), (u10, .inl (ct false, 4, .inl (fun _ => 0))), (u11, .inl (ct false, 4, .inl (fun _ => 0))), (u12, .inr (3, [.ref u13, .int (0 : Int32), .int (0 : Int32)])), (u13, .inr (7, [.ref u14])), (u14, .inl (ct false, 126, .inl (fun _ => 0))), (u15, .inr (7, [.ref u16])), (u16, .inl (ct false, 18, .inl (fun _ => 0))), (u17, .inr (5, [.ref u18, .int (0 : Int32)])), (u18, .inl (ct false, 4, .inl (fun _ => 0))), (u19, .inr (4, [.ref u20, .int 0, .int 0])), (u20, .inl (ct false, 4, .inl (fun _ => 0))), (u21, .inr (0, [.ref u22, .ref u23, .int 0, .int 0, .int 0])), (u22, .inl (ct true, 1024, .inl (fun _ => 0))), (u23, .inl (ct false, 1024, .inl (fun _ => 0))), (u24, .inr (1, [.ref u25, .int 0])), (u25, .inl (ct false, 9, .inl (fun _ => 0))), (u26, .inr (2, [.ref u27, .int 0, .int 0])), (u27, .inl (ct false, 3, .inl (fun _ => 0))), (w0, .inr (12, [.int 0, .ref w1, .int 0, .int 0, .int (1 : Int32), .int 0, .int 0, .int 0, .ref w2, .ref w3, .int 0, .int 0, .int 0, .int 0, .int 0, .ref w4, .ref w5, .ref w6, .ref w7, .ref w8, .ref w9, .int 0, .ref w10, .ref w11, .long 0, .int 0, .int 0, .int 0, .int 0, .int 0, .ref w12, .int 0, .ref w13, .ref w14])), (w1, .inl (ct false, 40, .inl (fun _ => 0))), (w2, .inl (ct false, 4, .inl (fun _ => 0))), (w3, .inl (ct false, 4, .inl (fun _ => 0))), (w4, .inl (ct false, 3, .inl (fun _ => 0))), (w5, .inl (ct false, 4, .inl (fun _ => 0))), (w6, .inl (ct false, 4, .inl (fun _ => 0))), (w7, .inl (ct false, 9, .inl (fun _ => 0))), (w8, .inl (ct false, 9, .inl (fun _ => 0))), (w9, .inl (ct false, 126, .inl (fun _ => 0))), (w10, .inl (ct false, 18, .inl (fun _ => 0))), (w11, .inl (ct true, 2, .inl (fun _ => 0))), (w12, .inl (ct false, 1024, .inl (fun _ => 0))), (w13, .inl (ct false, 8, .inl (fun _ => 0))), (w14, .inl (ct false, 1026, .inl (fun _ => 0)))] : va_W)[i]?) = (xw ct (fun i => [u0, u1, u6, u12, u15, u17, u19, u21, u24, u26, u7, u8, u13, u2, u3, u4, u5, u10, u11, u9, u16, u14, u18, u20, u22, u23, u25, u27].getD i 0) shC fC0 g00 ++ xw ct (fun i => [w0, w1, w2, w3, w4, w5, w6, w7, w8, w9, w10, w11, w12, w13, w14].getD i 0) shM fM0 g00).map some := by
  rw [xwr_eq, xwr_eq]
  rfl
