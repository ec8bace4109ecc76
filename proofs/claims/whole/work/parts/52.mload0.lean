/-! Loading, as numbers. -/
theorem next_full {b h lo hi : Nat} {σ : KT} (hw : kWf0 b h lo hi σ) {s : Int32} (hs : s ≤ 0) : tNext σ s = -1 := by
  rcases next_spec hw.1 (s := s) with h1 | ⟨g, a, h1, h2, h3, h4, h5, h6, h7, h8⟩
  · exact h1
  · obtain ⟨z, z1, z2, z3⟩ := (hw.2.2.2.2.1 g h1).1
    rw [z3] at h8
    exact absurd (Int32.le_trans h8 hs) (nI_nle z1 (by omega))
theorem board_2 {σ : KT} {g c l : Nat} (hz : tZ σ 13 g = nI l) (hl : l < 100) : tZ (boardT σ g c) 2 c = tZ σ 2 c + tZ σ 10 g := by
  rw [tZ_boardT hz hl]; simp
theorem board_4 {σ : KT} {g c l : Nat} (hz : tZ σ 13 g = nI l) (hl : l < 100) : tZ (boardT σ g c) 4 c = tZ σ 4 c + tZ σ 10 g := by
  rw [tZ_boardT hz hl]; simp
theorem board_0 {σ : KT} {g c l j : Nat} (hz : tZ σ 13 g = nI l) (hl : l < 100) : tZ (boardT σ g c) 0 j = tZ σ 0 j := by
  rw [tZ_boardT hz hl]; simp
/-- the chair's riders fit, and at least one came with each group -/
theorem load_fit {b h c : Nat} {σ : KT} (hw : kWf0 b h 0 h σ) (hc : c < tC σ) {r z : Nat} (hr : tZ σ 2 c = nI r) (hz : tZ σ 0 c = nI z) (hrz : r ≤ z) (hz6 : z ≤ 6) {g a : Nat} (hg : g < tG σ) (ha : a < tL σ) (hlane : tZ σ 13 g = nI a) (hfit : tZ σ 10 g ≤ tZ σ 0 c - tZ σ 2 c) : ∃ y, 1 ≤ y ∧ tZ σ 10 g = nI y ∧ r + y ≤ z ∧ tZ (boardT σ g c) 2 c = nI (r + y) := by
  obtain ⟨y, y1, y2, y3⟩ := (hw.2.2.2.2.1 g hg).1
  have hb2 := hw.1.1.2.1
  rw [hr, hz, nI_subn hrz, y3, Int32.le_iff_toInt_le, nI_toInt (by omega), nI_toInt (by omega)] at hfit
  refine ⟨y, y1, y3, by omega, ?_⟩
  rw [board_2 hlane (by omega), hr, y3, nI_add]
