/-! The reference: what writing does. -/
/-- the array that holds a field -/
def mF (k : Nat) : Nat := if k = 10 then 1 else if k = 11 then 4 else if k = 12 then 22 else if k = 15 then 10 else if k = 16 then 11 else if k = 17 then 12 else if k = 19 then 15 else if k = 20 then 16 else if k = 21 then 17 else 99
section MPUT
variable {D : KI → Nat → Int32} {P : Nat} {σ : KT}
theorem mArr_put (h : mArr P D σ) (k i : Nat) (v : Int32) (hk : mF k ≠ 99) : mArr P (kput D (8, P, k) i v) (tset σ (mF k) i v) := by
  obtain ⟨h9, h10, h11, h12, h13, h14, hg⟩ := h
  have hkk : k = 10 ∨ k = 11 ∨ k = 12 ∨ k = 15 ∨ k = 16 ∨ k = 17 ∨ k = 19 ∨ k = 20 ∨ k = 21 := by
    refine Classical.byContradiction fun z => hk ?_
    simp only [not_or] at z
    simp [mF, z]
  have key : ∀ (k' f' j : Nat), (k' = 10 ∧ f' = 1 ∨ k' = 11 ∧ f' = 4 ∨ k' = 12 ∧ f' = 22 ∨ k' = 15 ∧ f' = 10 ∨ k' = 16 ∧ f' = 11 ∨ k' = 17 ∧ f' = 12 ∨ k' = 19 ∧ f' = 15 ∨ k' = 20 ∧ f' = 16 ∨ k' = 21 ∧ f' = 17) → D (8, P, k') j = tZ σ f' j → kput D (8, P, k) i v (8, P, k') j = zup (tZ σ) (mF k) i v f' j := by
    intro k' f' j hf he
    have hif : (k' = k) ↔ (f' = mF k) := by
      rcases hkk with rfl | rfl | rfl | rfl | rfl | rfl | rfl | rfl | rfl <;> simp only [mF, Nat.reduceEqDiff, if_true, if_false] <;> omega
    by_cases hc : k' = k ∧ j = i
    · obtain ⟨a, b⟩ := hc
      have := hif.mp a
      simp [kput, zup, a, b, this]
    · have n1 : ¬ ((8, P, k') = (8, P, k) ∧ j = i) := by simpa using hc
      have n2 : ¬ (f' = mF k ∧ j = i) := fun z => hc ⟨hif.mpr z.1, z.2⟩
      simp only [kput, zup, n1, n2, if_false]
      exact he
  have oth : ∀ (k' j : Nat), (k' = 9 ∨ k' = 13 ∨ k' = 14 ∨ k' = 18) → kput D (8, P, k) i v (8, P, k') j = D (8, P, k') j := by
    intro k' j hk'
    have : ¬ ((8, P, k') = (8, P, k) ∧ j = i) := by
      simp only [Prod.mk.injEq, true_and]; omega
    simp only [kput, this, if_false]
  have m13 : ∀ g, tZ (tset σ (mF k) i v) 13 g = tZ σ 13 g := fun g => zup_ne (by rcases hkk with rfl | rfl | rfl | rfl | rfl | rfl | rfl | rfl | rfl <;> decide)
  have m14 : ∀ g, tZ (tset σ (mF k) i v) 14 g = tZ σ 14 g := fun g => zup_ne (by rcases hkk with rfl | rfl | rfl | rfl | rfl | rfl | rfl | rfl | rfl <;> decide)
  refine ⟨fun j x hx => by rw [oth 9 j (by omega)]; exact h9 j x hx, fun c hc => key 10 1 c (by omega) (h10 c hc), fun c hc => key 11 4 c (by omega) (h11 c hc), fun l hl => key 12 22 l (by omega) (h12 l hl), fun l hl => by rw [oth 13 l (by omega)]; exact h13 l hl, fun l hl j x hx => by rw [oth 14 _ (by omega)]; exact h14 l hl j x hx, fun g hgg => ?_⟩
  obtain ⟨a, b, c, d, e, f, p, q⟩ := hg g hgg
  exact ⟨key 15 10 g (by omega) a, key 16 11 g (by omega) b, key 17 12 g (by omega) c, key 19 15 g (by omega) d, key 20 16 g (by omega) e, key 21 17 g (by omega) f, fun z => by rw [oth 18 g (by omega), m13]; rw [m13] at z; exact p z, fun z => by rw [oth 18 g (by omega), m14]; rw [m14] at z; exact q z⟩
theorem mArr_sc (h : mArr P D σ) (j : Nat) (v : Int32) : mArr P (kput D (6, P, 0) j v) σ := by
  have e : ∀ k i, kput D (6, P, 0) j v (8, P, k) i = D (8, P, k) i := fun k i => by simp [kput]
  obtain ⟨h9, h10, h11, h12, h13, h14, hg⟩ := h
  refine ⟨fun j x hx => by rw [e]; exact h9 j x hx, fun c hc => by rw [e]; exact h10 c hc, fun c hc => by rw [e]; exact h11 c hc, fun c hc => by rw [e]; exact h12 c hc, fun c hc => by rw [e]; exact h13 c hc, fun l hl j x hx => by rw [e]; exact h14 l hl j x hx, fun g hgg => ?_⟩
  have := hg g hgg
  simp only [mGr, e] at this ⊢
  exact this
/-- fields that no array holds -/
theorem mArr_free (h : mArr P D σ) (f i : Nat) (v : Int32) (hf : f = 2 ∨ f = 3 ∨ f = 0 ∨ 38 ≤ f) : mArr P D (tset σ f i v) := by
  obtain ⟨h9, h10, h11, h12, h13, h14, hg⟩ := h
  have e : ∀ f' j, f' ≠ 2 → f' ≠ 3 → f' ≠ 0 → f' < 38 → zup (tZ σ) f i v f' j = tZ σ f' j := fun f' j a b c d => zup_ne (by omega)
  refine ⟨h9, fun c hc => by rw [tZ_tset, e 1 c (by decide) (by decide) (by decide) (by decide)]; exact h10 c hc, fun c hc => by rw [tZ_tset, e 4 c (by decide) (by decide) (by decide) (by decide)]; exact h11 c hc, fun c hc => by rw [tZ_tset, e 22 c (by decide) (by decide) (by decide) (by decide)]; exact h12 c hc, h13, h14, fun g hgg => ?_⟩
  have := hg g hgg
  simp only [mGr, tZ_tset] at this ⊢
  rw [e 10 g (by decide) (by decide) (by decide) (by decide), e 11 g (by decide) (by decide) (by decide) (by decide), e 12 g (by decide) (by decide) (by decide) (by decide), e 13 g (by decide) (by decide) (by decide) (by decide), e 14 g (by decide) (by decide) (by decide) (by decide), e 15 g (by decide) (by decide) (by decide) (by decide), e 16 g (by decide) (by decide) (by decide) (by decide), e 17 g (by decide) (by decide) (by decide) (by decide)]
  exact this
/-- lane or chair of a group forgotten -/
theorem mArr_m1 (h : mArr P D σ) (f i : Nat) (hf : f = 13 ∨ f = 14) : mArr P D (tset σ f i (-1)) := by
  obtain ⟨h9, h10, h11, h12, h13, h14, hg⟩ := h
  have e : ∀ f' j, f' ≠ 13 → f' ≠ 14 → zup (tZ σ) f i (-1) f' j = tZ σ f' j := fun f' j a b => zup_ne (by omega)
  have e2 : ∀ f' j, zup (tZ σ) f i (-1) f' j ≠ -1 → zup (tZ σ) f i (-1) f' j = tZ σ f' j := by
    intro f' j hz
    by_cases hc : f' = f ∧ j = i
    · exact absurd (by simp [zup, hc]) hz
    · simp only [zup, hc, if_false]
  refine ⟨h9, fun c hc => by rw [tZ_tset, e 1 c (by decide) (by decide)]; exact h10 c hc, fun c hc => by rw [tZ_tset, e 4 c (by decide) (by decide)]; exact h11 c hc, fun c hc => by rw [tZ_tset, e 22 c (by decide) (by decide)]; exact h12 c hc, h13, h14, fun g hgg => ?_⟩
  obtain ⟨a, b, c, d, e', f', p, q⟩ := hg g hgg
  refine ⟨by rw [tZ_tset, e 10 g (by decide) (by decide)]; exact a, by rw [tZ_tset, e 11 g (by decide) (by decide)]; exact b, by rw [tZ_tset, e 12 g (by decide) (by decide)]; exact c, by rw [tZ_tset, e 15 g (by decide) (by decide)]; exact d, by rw [tZ_tset, e 16 g (by decide) (by decide)]; exact e', by rw [tZ_tset, e 17 g (by decide) (by decide)]; exact f', fun z => ?_, fun z => ?_⟩
  · rw [tZ_tset] at z ⊢
    have z2 := e2 13 g z
    rw [z2] at z ⊢
    exact p z
  · rw [tZ_tset] at z ⊢
    have z2 := e2 14 g z
    rw [z2] at z ⊢
    exact q z
/-- lane (13) or chair (14) of a group written, the other being none -/
theorem mArr_at (h : mArr P D σ) (f f2 g0 : Nat) (v : Int32) (hf : f = 13 ∧ f2 = 14 ∨ f = 14 ∧ f2 = 13) (hz : tZ σ f2 g0 = -1) : mArr P (kput D (8, P, 18) g0 v) (tset σ f g0 v) := by
  obtain ⟨h9, h10, h11, h12, h13, h14, hg⟩ := h
  have e : ∀ f' j, f' ≠ 13 → f' ≠ 14 → zup (tZ σ) f g0 v f' j = tZ σ f' j := fun f' j a b => zup_ne (by omega)
  have o : ∀ k j, k ≠ 18 → kput D (8, P, 18) g0 v (8, P, k) j = D (8, P, k) j := fun k j hk => by simp [kput, hk]
  refine ⟨fun j x hx => by rw [o 9 j (by decide)]; exact h9 j x hx, fun c hc => by rw [o 10 c (by decide), tZ_tset, e 1 c (by decide) (by decide)]; exact h10 c hc, fun c hc => by rw [o 11 c (by decide), tZ_tset, e 4 c (by decide) (by decide)]; exact h11 c hc, fun c hc => by rw [o 12 c (by decide), tZ_tset, e 22 c (by decide) (by decide)]; exact h12 c hc, fun l hl => by rw [o 13 l (by decide)]; exact h13 l hl, fun l hl j x hx => by rw [o 14 _ (by decide)]; exact h14 l hl j x hx, fun g hgg => ?_⟩
  obtain ⟨a, b, c, d, e', f', p, q⟩ := hg g hgg
  refine ⟨by rw [o 15 g (by decide), tZ_tset, e 10 g (by decide) (by decide)]; exact a, by rw [o 16 g (by decide), tZ_tset, e 11 g (by decide) (by decide)]; exact b, by rw [o 17 g (by decide), tZ_tset, e 12 g (by decide) (by decide)]; exact c, by rw [o 19 g (by decide), tZ_tset, e 15 g (by decide) (by decide)]; exact d, by rw [o 20 g (by decide), tZ_tset, e 16 g (by decide) (by decide)]; exact e', by rw [o 21 g (by decide), tZ_tset, e 17 g (by decide) (by decide)]; exact f', ?_⟩
  rw [tZ_tset]
  by_cases hg0 : g = g0
  · subst hg0
    have k1 : kput D (8, P, 18) g v (8, P, 18) g = v := by simp [kput]
    rw [k1]
    rcases hf with ⟨rfl, rfl⟩ | ⟨rfl, rfl⟩
    · exact ⟨fun _ => zup_eq.symm, fun z => absurd ((zup_ne (by decide)).trans hz) z⟩
    · exact ⟨fun z => absurd ((zup_ne (by decide)).trans hz) z, fun _ => zup_eq.symm⟩
  · have k1 : kput D (8, P, 18) g0 v (8, P, 18) g = D (8, P, 18) g := by simp [kput, hg0]
    rw [k1, zup_ne2 hg0, zup_ne2 hg0]
    exact ⟨p, q⟩
end MPUT
