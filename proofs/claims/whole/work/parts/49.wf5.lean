/-! Well-formedness under boarding. -/
/-- the fields after boarding g, from lane l, on chair c -/
theorem tZ_boardT {σ : KT} {g c l : Nat} (hz : tZ σ 13 g = nI l) (hl : l < 100) (f j : Nat) : tZ (boardT σ g c) f j =
    if f = 4 ∧ j = c then tZ σ 4 c + tZ σ 10 g else if f = 3 ∧ j = c then tZ σ 3 c + 1 else if f = 2 ∧ j = c then tZ σ 2 c + tZ σ 10 g else if f = 14 ∧ j = g then nI c else if f = 12 ∧ j = g then 1 else if f = 13 ∧ j = g then -1 else if f = 40 ∧ j = 0 then behind σ (nI l) else if f = 22 ∧ j = l then tZ σ 22 l + tZ σ 10 g else tZ σ f j := by
  simp only [boardT, hz, nI_clamp (show l < 2 ^ 31 by omega), tZ_tset, tQ_tset, tS_tset, tC_tset, tL_tset, tG_tset, tZ_tsetQ, tQ_tsetQ, tS_tsetQ, tC_tsetQ, tL_tsetQ, tG_tsetQ, tZ_tsetS, tQ_tsetS, tS_tsetS, tC_tsetS, tL_tsetS, tG_tsetS, tZ_tMod, tQ_tMod, tS_tMod, tC_tMod, tL_tMod, tG_tMod, tZ_tcnt, tQ_tcnt, tS_tcnt, tC_tcnt, tL_tcnt, tG_tcnt, tZ_takeOut, zup, Nat.reduceEqDiff, false_and, if_false, and_true, and_false]
theorem tQ_boardT {σ : KT} {g c l : Nat} (hz : tZ σ 13 g = nI l) (hl : l < 100) : tQ (boardT σ g c) = qup (tQ σ) l ((tQ σ l).filter (fun a => decide (a ≠ g))) := by
  have : tQ (boardT σ g c) = tQ (takeOut (tset (tset σ 22 (tZ σ 13 g).toNatClampNeg (tZ σ 22 (tZ σ 13 g).toNatClampNeg + tZ σ 10 g)) 40 0 (behind σ (tZ σ 13 g))) g) := rfl
  rw [this, tQ_takeOut (l := l) (by rw [tZ_ne (by decide), tZ_ne (by decide)]; exact hz) hl]
  rfl
theorem kWf0.board {b h : Nat} {σ : KT} (hw : kWf0 b h 0 h σ) {g c l : Nat} (hg : g < tG σ) (hc : c < tC σ) (hl : l < tL σ) (hz : tZ σ 13 g = nI l) (hp : tZ σ 1 c = nI 0) : kWf0 b h 0 h (boardT σ g c) := by
  have hS := hw.1.board (c := c) hg hl hz
  obtain ⟨w1, w2, ⟨ha, hb, hh⟩, w4, w5, w6, w7⟩ := hw
  obtain ⟨bC, bL, bG, -⟩ := w1.1
  have hZ := tZ_boardT (c := c) hz (show l < 100 by omega)
  have hQ := tQ_boardT (c := c) hz (show l < 100 by omega)
  have tCe : tC (boardT σ g c) = tC σ := tC_takeOut
  have tLe : tL (boardT σ g c) = tL σ := tL_takeOut
  have tGe : tG (boardT σ g c) = tG σ := tG_boardT
  have tSe : tS (boardT σ g c) = tS σ := tS_takeOut
  have h14 : tZ σ 14 g = -1 := by
    rcases (w5 g hg).2 with ⟨-, a, -⟩ | ⟨-, a, -⟩ | ⟨-, a, -⟩
    · exact a
    · rw [a] at hz; exact absurd hz.symm (nI_m1 (by omega))
    · rw [a] at hz; exact absurd hz.symm (nI_m1 (by omega))
  generalize boardT σ g c = τ at *
  have same : ∀ f j, (f = 0 ∨ f = 1 ∨ f = 10 ∨ f = 21 ∨ f = 38 ∨ f = 41) → tZ τ f j = tZ σ f j := by
    intro f j hf
    rw [hZ, if_neg (by omega), if_neg (by omega), if_neg (by omega), if_neg (by omega), if_neg (by omega), if_neg (by omega), if_neg (by omega), if_neg (by omega)]
  have z14 : ∀ j, tZ τ 14 j = if j = g then nI c else tZ σ 14 j := fun j => by rw [hZ]; simp
  have z12 : ∀ j, tZ τ 12 j = if j = g then 1 else tZ σ 12 j := fun j => by rw [hZ]; simp
  have z13 : ∀ j, tZ τ 13 j = if j = g then -1 else tZ σ 13 j := fun j => by rw [hZ]; simp
  have z2 : ∀ j, tZ τ 2 j = if j = c then tZ σ 2 j + tZ σ 10 g else tZ σ 2 j := fun j => by
    rw [hZ]
    by_cases hj : j = c
    · subst hj; simp
    · simp [hj]
  have z3 : ∀ j, tZ τ 3 j = if j = c then tZ σ 3 j + 1 else tZ σ 3 j := fun j => by
    rw [hZ]
    by_cases hj : j = c
    · subst hj; simp
    · simp [hj]
  have z4 : ∀ j, j ≠ c → tZ τ 4 j = tZ σ 4 j := fun j hj => by rw [hZ]; simp [hj]
  have z22 : ∀ j, j ≠ l → tZ τ 22 j = tZ σ 22 j := fun j hj => by rw [hZ]; simp [hj]
  refine ⟨hS, by rw [same 41 0 (by decide)]; exact w2, ⟨ha, hb, by rw [same 38 0 (by decide)]; exact hh⟩, fun x hx => ?_, fun x hx => ?_, ⟨fun x hx1 hx2 => ?_, fun a ha1 ha2 => ?_⟩, fun a ha => ?_⟩
  · rw [tCe] at hx
    obtain ⟨c1, c2, c3, c4, c5, c6⟩ := w4 x hx
    refine ⟨by rw [same 0 x (by decide)]; exact c1, ?_, ?_, by rw [tSe, same 1 x (by decide)]; exact c4, fun y hy hyz => ?_, fun y hy hne hyz => ?_⟩
    · rw [z2]
      by_cases hxc : x = c
      · subst hxc
        rw [if_pos rfl, c2]
        unfold onC
        rw [tGe]
        refine (isum_upd (i := g) _ hg (fun j hj => ?_)).symm
        rw [z14, same 10 j (by decide)]
        by_cases hjg : j = g
        · subst hjg
          rw [if_pos rfl, if_pos rfl, if_pos rfl, if_neg (by rw [h14]; exact fun z => nI_m1 (show x < 2 ^ 31 by omega) z.symm), Int32.zero_add]
        · rw [if_neg hjg, if_neg hjg]
      · rw [if_neg hxc, c2]
        unfold onC
        rw [tGe]
        refine isum_congr _ (fun j hj => ?_)
        rw [z14, same 10 j (by decide)]
        by_cases hjg : j = g
        · subst hjg
          rw [if_pos rfl, if_neg (by rw [h14]; exact fun z => nI_m1 (show x < 2 ^ 31 by omega) z.symm), if_neg (fun z => hxc ((nI_eq (by omega) (by omega)).mp z).symm)]
        · rw [if_neg hjg]
    · rw [z3]
      by_cases hxc : x = c
      · subst hxc
        rw [if_pos rfl, c3]
        unfold onN
        rw [tGe]
        refine (isum_upd (i := g) _ hg (fun j hj => ?_)).symm
        rw [z14]
        by_cases hjg : j = g
        · subst hjg
          rw [if_pos rfl, if_pos rfl, if_pos rfl, if_neg (by rw [h14]; exact fun z => nI_m1 (show x < 2 ^ 31 by omega) z.symm), Int32.zero_add]
        · rw [if_neg hjg, if_neg hjg]
      · rw [if_neg hxc, c3]
        unfold onN
        rw [tGe]
        refine isum_congr _ (fun j hj => ?_)
        rw [z14]
        by_cases hjg : j = g
        · subst hjg
          rw [if_pos rfl, if_neg (by rw [h14]; exact fun z => nI_m1 (show x < 2 ^ 31 by omega) z.symm), if_neg (fun z => hxc ((nI_eq (by omega) (by omega)).mp z).symm)]
        · rw [if_neg hjg]
    · rw [tGe] at hy
      rw [z14] at hyz
      rw [same 1 x (by decide)]
      by_cases hyg : y = g
      · rw [if_pos hyg] at hyz
        have hxc : c = x := (nI_eq (by omega) (by omega)).mp hyz
        subst hxc
        exact ⟨0, Nat.le_refl _, by omega, hp⟩
      · rw [if_neg hyg] at hyz
        exact c5 y hy hyz
    · rw [tCe] at hy
      rw [same 1 x (by decide)] at hyz ⊢
      rw [same 1 y (by decide)]
      exact c6 y hy hne hyz
  · rw [tGe] at hx
    obtain ⟨g1, g2⟩ := w5 x hx
    refine ⟨by rw [same 10 x (by decide)]; exact g1, ?_⟩
    rw [z12, z13, z14, tCe, tLe]
    by_cases hxg : x = g
    · rw [if_pos hxg, if_pos hxg, if_pos hxg]
      exact Or.inr (Or.inl ⟨rfl, rfl, c, hc, rfl⟩)
    · rw [if_neg hxg, if_neg hxg, if_neg hxg, hQ]
      rcases g2 with ⟨a1, a2, a, a3, a4, a5⟩ | k | k
      · refine Or.inl ⟨a1, a2, a, a3, a4, ?_⟩
        by_cases hal : a = l
        · subst hal
          rw [qup_eq, List.mem_filter]
          exact ⟨a5, by simpa using hxg⟩
        · rw [qup_ne hal]; exact a5
      · exact Or.inr (Or.inl k)
      · exact Or.inr (Or.inr k)
  · rw [tCe] at hx1
    have hxc : x ≠ c := by omega
    obtain ⟨a1, a2, a3, a4⟩ := w6.1 x hx1 hx2
    exact ⟨by rw [same 1 x (by decide)]; exact a1, by rw [z2, if_neg hxc]; exact a2, by rw [z3, if_neg hxc]; exact a3, by rw [z4 x hxc]; exact a4⟩
  · rw [tLe] at ha1
    have hal : a ≠ l := by omega
    rw [same 21 a (by decide), z22 a hal, hQ, qup_ne hal]
    exact w6.2 a ha1 ha2
  · rw [tLe] at ha
    rw [same 21 a (by decide)]
    exact w7 a ha
