/-! Well-formedness under unloading. -/
theorem isum_zero {f : Nat → Int32} : ∀ (n : Nat), (∀ i, i < n → f i = 0) → isum f n = 0
  | 0, _ => rfl
  | n + 1, h => by
    simp only [isum]
    rw [isum_zero n (fun i hi => h i (by omega)), h n (by omega)]
    rfl
theorem kWf0.unload {b h : Nat} {σ : KT} (hw : kWf0 b h 1 (h + 1) σ) : kWf0 b h 1 h (tUnload σ) := by
  have hS := hw.1.unload
  obtain ⟨h1, h2, ⟨ha, hb, hc⟩, h4, h5, h6, h7⟩ := hw
  obtain ⟨bC, bL, bG, -⟩ := h1.1
  rcases chairAt_spec h1.1 (p := tZ σ 38 0) with ⟨n1, n2⟩ | ⟨c, hcc, s1, s2, s3, s4⟩
  · unfold tUnload at hS ⊢
    rw [if_pos n1] at hS ⊢
    refine ⟨h1, h2, ⟨ha, hb, hc⟩, fun x hx => ?_, h5, h6, h7⟩
    obtain ⟨c1, c2, c3, c4, c5, c6⟩ := h4 x hx
    refine ⟨c1, c2, c3, c4, fun g hg hz => ?_, c6⟩
    obtain ⟨p, p1, p2, p3⟩ := c5 g hg hz
    refine ⟨p, p1, ?_, p3⟩
    rcases Nat.lt_or_ge p h with hlt | hge
    · exact hlt
    · have : p = h := by omega
      exact absurd (by rw [p3, this, hc]) (n2 x hx)
  · unfold tUnload at hS ⊢
    rw [if_neg s2, s3, s1] at hS ⊢
    have z14 : ∀ g, g < tG σ → tZ (unlTo σ (nI c) (tG σ)) 14 g = if tZ σ 14 g = nI c then -1 else tZ σ 14 g := by
      intro g hg
      unfold unlTo
      rw [tZ_tMod]
      by_cases hz : tZ σ 14 g = nI c
      · rw [if_pos hz]
        exact if_pos ⟨Or.inr (Or.inl rfl), hg, hz⟩
      · rw [if_neg hz]
        exact if_neg (fun z => hz z.2.2)
    have z12 : ∀ g, g < tG σ → tZ (unlTo σ (nI c) (tG σ)) 12 g = if tZ σ 14 g = nI c then 2 else tZ σ 12 g := by
      intro g hg
      unfold unlTo
      rw [tZ_tMod]
      by_cases hz : tZ σ 14 g = nI c
      · rw [if_pos hz]
        exact if_pos ⟨Or.inl rfl, hg, hz⟩
      · rw [if_neg hz]
        exact if_neg (fun z => hz z.2.2)
    have hm1 : ∀ x, x < tC σ → ¬ (-1 : Int32) = nI x := fun x hx z => nI_m1 (show x < 2 ^ 31 by omega) z.symm
    have u : ∀ f j, f ≠ 2 → f ≠ 3 → f ≠ 12 → f ≠ 14 → f ≠ 16 → tZ (tset (tset (unlTo σ (nI c) (tG σ)) 2 c 0) 3 c 0) f j = tZ σ f j := by
      intro f j a1 a2 a3 a4 a5
      rw [tZ_ne a2, tZ_ne a1, unl_f ⟨a3, a4, a5⟩]
    have u14 : ∀ g, g < tG σ → tZ (tset (tset (unlTo σ (nI c) (tG σ)) 2 c 0) 3 c 0) 14 g = if tZ σ 14 g = nI c then -1 else tZ σ 14 g := by
      intro g hg
      rw [tZ_ne (by decide), tZ_ne (by decide), z14 g hg]
    have u12 : ∀ g, g < tG σ → tZ (tset (tset (unlTo σ (nI c) (tG σ)) 2 c 0) 3 c 0) 12 g = if tZ σ 14 g = nI c then 2 else tZ σ 12 g := by
      intro g hg
      rw [tZ_ne (by decide), tZ_ne (by decide), z12 g hg]
    have u2 : ∀ x, tZ (tset (tset (unlTo σ (nI c) (tG σ)) 2 c 0) 3 c 0) 2 x = if x = c then 0 else tZ σ 2 x := by
      intro x
      rw [tZ_ne (by decide), tZ_tset]
      by_cases hx : x = c
      · subst hx; rw [if_pos rfl, zup_eq]
      · rw [if_neg hx, zup_ne2 hx, unl_f (by decide)]
    have u3 : ∀ x, tZ (tset (tset (unlTo σ (nI c) (tG σ)) 2 c 0) 3 c 0) 3 x = if x = c then 0 else tZ σ 3 x := by
      intro x
      rw [tZ_tset]
      by_cases hx : x = c
      · subst hx; rw [if_pos rfl, zup_eq]
      · rw [if_neg hx, zup_ne2 hx, tZ_ne (by decide), unl_f (by decide)]
    have v := fun (f j : Nat) (a : f = 0 ∨ f = 1 ∨ f = 4 ∨ f = 10 ∨ f = 13 ∨ f = 21 ∨ f = 22 ∨ f = 38 ∨ f = 41) => u f j (by omega) (by omega) (by omega) (by omega) (by omega)
    generalize hσ' : tset (tset (unlTo σ (nI c) (tG σ)) 2 c 0) 3 c 0 = τ at *
    have tCe : tC τ = tC σ := by rw [← hσ']; rfl
    have tLe : tL τ = tL σ := by rw [← hσ']; rfl
    have tGe : tG τ = tG σ := by rw [← hσ']; rfl
    have tSe : tS τ = tS σ := by rw [← hσ']; rfl
    have tQe : tQ τ = tQ σ := by rw [← hσ']; rfl
    refine ⟨hS, by rw [v 41 0 (by decide)]; exact h2, ⟨ha, hb, by rw [v 38 0 (by decide)]; exact hc⟩, fun x hx => ?_, fun g hg => ?_, ⟨fun x hx1 hx2 => ?_, fun l hl1 hl2 => ?_⟩, fun l hl => ?_⟩
    · rw [tCe] at hx
      obtain ⟨c1, c2, c3, c4, c5, c6⟩ := h4 x hx
      refine ⟨by rw [v 0 x (by decide)]; exact c1, ?_, ?_, ?_, fun g hg hz => ?_, fun c2' hc2 hne hz => ?_⟩
      · rw [u2]
        unfold onC
        rw [tGe]
        by_cases hxc : x = c
        · rw [if_pos hxc]
          refine (isum_zero _ (fun g hg => if_neg ?_)).symm
          rw [u14 g hg]
          subst hxc
          by_cases hz : tZ σ 14 g = nI x
          · rw [if_pos hz]; exact hm1 x hx
          · rw [if_neg hz]; exact hz
        · rw [if_neg hxc, c2]
          unfold onC
          refine isum_congr _ (fun g hg => ?_)
          rw [u14 g hg, v 10 g (by decide)]
          by_cases hz : tZ σ 14 g = nI c
          · have : ¬ tZ σ 14 g = nI x := fun w => hxc ((nI_eq (by omega) (by omega)).mp (w.symm.trans hz))
            rw [if_neg this, if_pos hz, if_neg (hm1 x hx)]
          · rw [if_neg hz]
      · rw [u3]
        unfold onN
        rw [tGe]
        by_cases hxc : x = c
        · rw [if_pos hxc]
          refine (isum_zero _ (fun g hg => if_neg ?_)).symm
          rw [u14 g hg]
          subst hxc
          by_cases hz : tZ σ 14 g = nI x
          · rw [if_pos hz]; exact hm1 x hx
          · rw [if_neg hz]; exact hz
        · rw [if_neg hxc, c3]
          unfold onN
          refine isum_congr _ (fun g hg => ?_)
          rw [u14 g hg]
          by_cases hz : tZ σ 14 g = nI c
          · have : ¬ tZ σ 14 g = nI x := fun w => hxc ((nI_eq (by omega) (by omega)).mp (w.symm.trans hz))
            rw [if_neg this, if_pos hz, if_neg (hm1 x hx)]
          · rw [if_neg hz]
      · rw [tSe, v 1 x (by decide)]; exact c4
      · rw [tGe] at hg
        rw [u14 g hg] at hz
        rw [v 1 x (by decide)]
        by_cases hzc : tZ σ 14 g = nI c
        · rw [if_pos hzc] at hz
          exact absurd hz (hm1 x hx)
        · rw [if_neg hzc] at hz
          obtain ⟨p, p1, p2, p3⟩ := c5 g hg hz
          refine ⟨p, p1, ?_, p3⟩
          have hxc : x ≠ c := fun w => hzc (by rw [hz, w])
          rcases Nat.lt_or_ge p h with hlt | hge
          · exact hlt
          · have hp : p = h := by omega
            have hne : tZ σ 1 x ≠ -1 := by rw [p3]; exact nI_m1 (by omega)
            exact absurd (by rw [p3, s4, hp, hc]) (c6 c hcc (Ne.symm hxc) hne)
      · rw [v 1 x (by decide)] at hz ⊢
        rw [v 1 c2' (by decide)]
        exact c6 c2' (by rw [tCe] at hc2; exact hc2) hne hz
    · rw [tGe] at hg
      obtain ⟨g1, g2⟩ := h5 g hg
      refine ⟨by rw [v 10 g (by decide)]; exact g1, ?_⟩
      rw [u12 g hg, u14 g hg, v 13 g (by decide), tCe, tLe, tQe]
      by_cases hz : tZ σ 14 g = nI c
      · rw [if_pos hz, if_pos hz]
        rcases g2 with ⟨-, k, -⟩ | ⟨-, k, -⟩ | ⟨-, -, k⟩
        · exact absurd (k.symm.trans hz) (hm1 c hcc)
        · exact Or.inr (Or.inr ⟨Or.inl rfl, k, rfl⟩)
        · exact absurd (k.symm.trans hz) (hm1 c hcc)
      · rw [if_neg hz, if_neg hz]
        exact g2
    · rw [tCe] at hx1
      have hxc : ¬ x = c := by omega
      obtain ⟨a1, a2, a3, a4⟩ := h6.1 x hx1 hx2
      exact ⟨by rw [v 1 x (by decide)]; exact a1, by rw [u2, if_neg hxc]; exact a2, by rw [u3, if_neg hxc]; exact a3, by rw [v 4 x (by decide)]; exact a4⟩
    · rw [tLe] at hl1
      rw [v 21 l (by decide), v 22 l (by decide), tQe]
      exact h6.2 l hl1 hl2
    · rw [tLe] at hl
      rw [v 21 l (by decide)]
      exact h7 l hl
