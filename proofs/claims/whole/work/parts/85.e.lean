theorem e_write {n : Nat} {f : xM} {g : xN} {h : xM} {k : xN} (hn : n ≤ 100) (hR : Rel n f g h k) (v1 : Int32) : ∃ (F : Nat) (a : Int32 × xM) (b : Int32 × xM), pX11_write v1 f = some a ∧ pX12_write v1 h = some b ∧ a.1 = b.1 ∧ Rel (n + 1) a.2 g b.2 k := by
  sorry
theorem e_wipe {n : Nat} {f : xM} {g : xN} {h : xM} {k : xN} (hn : n ≤ 100) (hR : Rel n f g h k) : ∃ (F : Nat) (a : Int32 × xM) (b : Int32 × xM), pX11_wipe f = a ∧ pX12_wipe h = b ∧ a.1 = b.1 ∧ Rel (n + 1) a.2 g b.2 k := by
  sorry
theorem e_fault {n : Nat} {f : xM} {g : xN} {h : xM} {k : xN} (hn : n ≤ 100) (hR : Rel n f g h k) : ∃ (F : Nat) (a : Int32 × xM) (b : Int32 × xM), pX11_fault F f = some a ∧ pX12_fault F h = some b ∧ a.1 = b.1 ∧ Rel (n + 1) a.2 g b.2 k := by
  sorry
theorem e_paper {n : Nat} {f : xM} {g : xN} {h : xM} {k : xN} (hn : n ≤ 100) (hR : Rel n f g h k) : ∃ (F : Nat) (a : Int32 × xM) (b : Int32 × xM), pX11_paper F f = some a ∧ pX12_paper F h = some b ∧ a.1 = b.1 ∧ Rel (n + 1) a.2 g b.2 k := by
  sorry
theorem e_about {n : Nat} {f : xM} {g : xN} {h : xM} {k : xN} (hn : n ≤ 100) (hR : Rel n f g h k) (v1 : Int32) : ∃ (F : Nat) (a : Int32) (b : Int32 × xM), pX11_about F f v1 = some a ∧ pX12_about F v1 h = some b ∧ a = b.1 ∧ Rel (n + 1) f g b.2 k := by
  sorry
theorem e_kind {n : Nat} {f : xM} {g : xN} {h : xM} {k : xN} (hn : n ≤ 100) (hR : Rel n f g h k) (v1 : Int32) : ∃ (F : Nat) (a : Int32) (b : Int32 × xM), pX11_kind f v1 = some a ∧ pX12_kind v1 h = some b ∧ a = b.1 ∧ Rel (n + 1) f g b.2 k := by
  sorry
theorem e_reader {n : Nat} {f : xM} {g : xN} {h : xM} {k : xN} (hn : n ≤ 100) (hR : Rel n f g h k) (v1 : Int32) (v2 : Int32) : ∃ (F : Nat) (a : Int32) (b : Int32 × xM), pX11_reader F f v1 v2 = some a ∧ pX12_reader F v1 v2 h = some b ∧ a = b.1 ∧ Rel (n + 1) f g b.2 k := by
  sorry
theorem e_print {n : Nat} {f : xM} {g : xN} {h : xM} {k : xN} (hn : n ≤ 100) (hR : Rel n f g h k) (v1 : Int32) (v2 : Int32) (v3 : Int32) : ∃ (F : Nat) (a : Int32 × xM) (b : Int32 × xM), pX11_print F v1 v2 v3 f = some a ∧ pX12_print F v1 v2 v3 h = some b ∧ a.1 = b.1 ∧ Rel (n + 1) a.2 g b.2 k := by
  sorry
theorem e_quiet {n : Nat} {f : xM} {g : xN} {h : xM} {k : xN} (hn : n ≤ 100) (hR : Rel n f g h k) : ∃ (F : Nat) (a : Int32 × xM) (b : Int32 × xM), pX11_quiet f = some a ∧ pX12_quiet F h = some b ∧ a.1 = b.1 ∧ Rel (n + 1) a.2 g b.2 k := by
  sorry
theorem e_tell {n : Nat} {f : xM} {g : xN} {h : xM} {k : xN} (hn : n ≤ 100) (hR : Rel n f g h k) (v1 : Int32) (v2 : Int32) : ∃ (F : Nat) (a : Int32 × xM) (b : Int32 × xM), pX11_tell F v1 v2 f = some a ∧ pX12_tell F v1 v2 h = some b ∧ a.1 = b.1 ∧ Rel (n + 1) a.2 g b.2 k := by
  sorry
theorem e_learn {n : Nat} {f : xM} {g : xN} {h : xM} {k : xN} (hn : n ≤ 100) (hR : Rel n f g h k) (v1 : Int32) (v2 : Int32) : ∃ (F : Nat) (a : Int32 × xM) (b : Int32 × xM), pX11_learn v1 v2 f = some a ∧ pX12_learn F v1 v2 h = some b ∧ a.1 = b.1 ∧ Rel (n + 1) a.2 g b.2 k := by
  sorry
theorem e_undo {n : Nat} {f : xM} {g : xN} {h : xM} {k : xN} (hn : n ≤ 100) (hR : Rel n f g h k) : ∃ (F : Nat) (a : Int32 × xM) (b : Int32 × xM), pX11_undo f = some a ∧ pX12_undo F h = some b ∧ a.1 = b.1 ∧ Rel (n + 1) a.2 g b.2 k := by
  sorry
theorem e_after {n : Nat} {f : xM} {g : xN} {h : xM} {k : xN} (hn : n ≤ 100) (hR : Rel n f g h k) (v1 : Int32) (v2 : Int32) (v3 : Int64) : ∃ (F : Nat) (a : Int32 × xM) (b : Int32 × xM), pX11_after F v1 v2 v3 f = some a ∧ pX12_after F v1 v2 v3 h = some b ∧ a.1 = b.1 ∧ Rel (n + 1) a.2 g b.2 k := by
  sorry
theorem e_righted {n : Nat} {f : xM} {g : xN} {h : xM} {k : xN} (hn : n ≤ 100) (hR : Rel n f g h k) (v1 : Int32) : ∃ (F : Nat) (a : Int32 × xM) (b : Int32 × xM), pX11_righted F v1 f = some a ∧ pX12_righted F v1 h = some b ∧ a.1 = b.1 ∧ Rel (n + 1) a.2 g b.2 k := by
  sorry
theorem e_allRighted {n : Nat} {f : xM} {g : xN} {h : xM} {k : xN} (hn : n ≤ 100) (hR : Rel n f g h k) (v1 : Int32) : ∃ (F : Nat) (a : Int32 × xM) (b : Int32 × xM), pX11_allRighted F v1 f = some a ∧ pX12_allRighted F v1 h = some b ∧ a.1 = b.1 ∧ Rel (n + 1) a.2 g b.2 k := by
  sorry
theorem e_ring {n : Nat} {f : xM} {g : xN} {h : xM} {k : xN} (hn : n ≤ 100) (hR : Rel n f g h k) (v1 : Int32) (v2 : Int64) (v4 : Int32) : ∃ (F : Nat) (a : Int32 × xM) (b : Int32 × xM), pX11_ring F v1 v2 v4 f = some a ∧ pX12_ring F v1 v2 v4 h = some b ∧ a.1 = b.1 ∧ Rel (n + 1) a.2 g b.2 k := by
  sorry
theorem e_first {n : Nat} {f : xM} {g : xN} {h : xM} {k : xN} (hn : n ≤ 100) (hR : Rel n f g h k) (v1 : Int32) (v2 : Int64) (v4 : Int32) : ∃ (F : Nat) (a : Int32 × xM) (b : Int32 × xM), pX11_first F v1 v2 v4 f = some a ∧ pX12_first F v1 v2 v4 h = some b ∧ a.1 = b.1 ∧ Rel (n + 1) a.2 g b.2 k := by
  sorry
theorem e_who {n : Nat} {f : xM} {g : xN} {h : xM} {k : xN} (hn : n ≤ 100) (hR : Rel n f g h k) (v1 : Int32) (v2 : Int32) (v3 : Int32) (v4 : Int32) : ∃ (F : Nat) (a : Int32) (b : Int32 × xM), pX11_who F f v1 v2 v3 v4 = some a ∧ pX12_who F v1 v2 v3 v4 h = some b ∧ a = b.1 ∧ Rel (n + 1) f g b.2 k := by
  sorry
theorem e_code {n : Nat} {f : xM} {g : xN} {h : xM} {k : xN} (hn : n ≤ 100) (hR : Rel n f g h k) (v1 : Int32) : ∃ (F : Nat) (a : Int32 × xM) (b : Int32 × xM), pX11_code F v1 f = some a ∧ pX12_code F v1 h = some b ∧ a.1 = b.1 ∧ Rel (n + 1) a.2 g b.2 k := by
  sorry
theorem e_codeName {n : Nat} {f : xM} {g : xN} {h : xM} {k : xN} (hn : n ≤ 100) (hR : Rel n f g h k) (v1 : Int32) (v2 : Int32) : ∃ (F : Nat) (a : Int32 × xM) (b : Int32 × xM), pX11_codeName F v1 v2 f = some a ∧ pX12_codeName F v1 v2 h = some b ∧ a.1 = b.1 ∧ Rel (n + 1) a.2 g b.2 k := by
  sorry
theorem e_rests {n : Nat} {f : xM} {g : xN} {h : xM} {k : xN} (hn : n ≤ 100) (hR : Rel n f g h k) (v1 : Int32) (v2 : Int32) (v3 : Int32) (v4 : Int32) (v5 : Int32) : ∃ (F : Nat) (a : Int32 × xM) (b : Int32 × xM), pX11_rests F v1 v2 v3 v4 v5 f = some a ∧ pX12_rests F v1 v2 v3 v4 v5 h = some b ∧ a.1 = b.1 ∧ Rel (n + 1) a.2 g b.2 k := by
  sorry
theorem e_chance {n : Nat} {f : xM} {g : xN} {h : xM} {k : xN} (hn : n ≤ 100) (hR : Rel n f g h k) (v1 : Int32) (v2 : Int32) (v3 : Int32) (v4 : Int32) : ∃ (F : Nat) (a : Int32) (b : Int32 × xM), pX11_chance F f v1 v2 v3 v4 = some a ∧ pX12_chance F v1 v2 v3 v4 h = some b ∧ a = b.1 ∧ Rel (n + 1) f g b.2 k := by
  sorry
theorem e_share {n : Nat} {f : xM} {g : xN} {h : xM} {k : xN} (hn : n ≤ 100) (hR : Rel n f g h k) (v1 : Int32) (v2 : Int32) : ∃ (F : Nat) (a : Int32 × xM) (b : Int32 × xM), pX11_share F v1 v2 f = some a ∧ pX12_share F v1 v2 h = some b ∧ a.1 = b.1 ∧ Rel (n + 1) a.2 g b.2 k := by
  sorry
theorem e_seed {n : Nat} {f : xM} {g : xN} {h : xM} {k : xN} (hn : n ≤ 100) (hR : Rel n f g h k) (v1 : Int64) : ∃ (F : Nat) (a : Int64 × xN) (b : Int64 × xM × xN), pX11_seed v1 g = a ∧ pX12_seed v1 h k = b ∧ a.1 = b.1 ∧ Rel (n + 1) f a.2 b.2.1 b.2.2 := by
  sorry
theorem e_years {n : Nat} {f : xM} {g : xN} {h : xM} {k : xN} (hn : n ≤ 100) (hR : Rel n f g h k) (v1 : Int32) : ∃ (F : Nat) (a : Int32 × xN) (b : Int32 × xM × xN), pX11_years F f v1 g = some a ∧ pX12_years F v1 h k = some b ∧ a.1 = b.1 ∧ Rel (n + 1) f a.2 b.2.1 b.2.2 := by
  sorry
theorem e_keep {n : Nat} {f : xM} {g : xN} {h : xM} {k : xN} (hn : n ≤ 100) (hR : Rel n f g h k) (v1 : Int32) : ∃ (F : Nat) (a : Int32 × xM) (b : Int32 × xM), pX11_keep v1 f = some a ∧ pX12_keep F v1 h = some b ∧ a.1 = b.1 ∧ Rel (n + 1) a.2 g b.2 k := by
  sorry
theorem e_again {n : Nat} {f : xM} {g : xN} {h : xM} {k : xN} (hn : n ≤ 100) (hR : Rel n f g h k) (v1 : Int32) : ∃ (F : Nat) (a : Int32 × xM) (b : Int32 × xM), pX11_again v1 f = some a ∧ pX12_again F v1 h = some b ∧ a.1 = b.1 ∧ Rel (n + 1) a.2 g b.2 k := by
  sorry
