/-! Well-formedness under the exchange at the valley. -/
theorem wf_place {b h lo hi : Nat} {σ τ : KT} (hw : kWf0 b h lo hi σ) (hS : kS τ) {c : Nat} (hcc : c < tC σ) (hno : ∀ g, g < tG σ → tZ σ 14 g ≠ nI c) (tCe : tC τ = tC σ) (tLe : tL τ = tL σ) (tGe : tG τ = tG σ) (tQe : tQ τ = tQ σ) (hZ : ∀ f j, f ≠ 1 → tZ τ f j = tZ σ f j) (h1 : ∀ j, j ≠ c → tZ τ 1 j = tZ σ 1 j) (hin : ∀ j, j ≠ c → (j ∈ tS τ ↔ j ∈ tS σ))
    (hpl : (c ∈ tS τ ∧ tZ τ 1 c = -1) ∨ (c ∉ tS τ ∧ tZ τ 1 c = nI 0 ∧ 1 ≤ h ∧ ∀ x, x < tC σ → x ≠ c → tZ σ 1 x ≠ 0)) : kWf0 b h lo hi τ := by
  obtain ⟨w1, w2, w3, w4, w5, w6, w7⟩ := hw
  have e14 := fun j => hZ 14 j (by decide)
  have e10 := fun j => hZ 10 j (by decide)
  have e12 := fun j => hZ 12 j (by decide)
  have e13 := fun j => hZ 13 j (by decide)
  refine ⟨hS, by rw [hZ 41 0 (by decide)]; exact w2, by rw [hZ 38 0 (by decide)]; exact w3, fun x hx => ?_, fun g hg => ?_, ⟨fun x hx1 hx2 => ?_, fun l hl1 hl2 => ?_⟩, fun l hl => ?_⟩
  · rw [tCe] at hx
    obtain ⟨c1, c2, c3, c4, c5, c6⟩ := w4 x hx
    refine ⟨by rw [hZ 0 x (by decide)]; exact c1, ?_, ?_, ?_, fun g hg hz => ?_, fun y hy hne hz => ?_⟩
    · rw [hZ 2 x (by decide), c2]
      simp only [onC, e14, e10, tGe]
    · rw [hZ 3 x (by decide), c3]
      simp only [onN, e14, tGe]
    · by_cases hxc : x = c
      · subst hxc
        rcases hpl with ⟨a, b⟩ | ⟨a, b, d, -⟩
        · exact Or.inl ⟨a, b⟩
        · exact Or.inr ⟨a, 0, by omega, b⟩
      · rw [hin x hxc, h1 x hxc]
        exact c4
    · rw [e14] at hz
      rw [tGe] at hg
      have hxc : x ≠ c := fun w => hno g hg (by rw [hz, w])
      rw [h1 x hxc]
      exact c5 g hg hz
    · rw [tCe] at hy
      by_cases hxc : x = c
      · subst hxc
        rcases hpl with ⟨a, b⟩ | ⟨a, b, d, e⟩
        · exact absurd b hz
        · rw [b, h1 y hne]
          exact e y hy hne
      · rw [h1 x hxc] at hz ⊢
        by_cases hyc : y = c
        · subst hyc
          rcases hpl with ⟨a, b⟩ | ⟨a, b, d, e⟩
          · rw [b]; exact fun w => hz w.symm
          · rw [b]; exact fun w => e x hx hxc w.symm
        · rw [h1 y hyc]
          exact c6 y hy hne hz
  · rw [tGe] at hg
    have := w5 g hg
    simp only [gOK, e10, e12, e13, e14, tCe, tLe, tQe] at this ⊢
    exact this
  · rw [tCe] at hx1
    obtain ⟨a1, a2, a3, a4⟩ := w6.1 x hx1 hx2
    exact ⟨by rw [h1 x (by omega)]; exact a1, by rw [hZ 2 x (by decide)]; exact a2, by rw [hZ 3 x (by decide)]; exact a3, by rw [hZ 4 x (by decide)]; exact a4⟩
  · rw [tLe] at hl1
    rw [hZ 21 l (by decide), hZ 22 l (by decide), tQe]
    exact w6.2 l hl1 hl2
  · rw [tLe] at hl
    rw [hZ 21 l (by decide)]
    exact w7 l hl
theorem kWf0.exch {b h : Nat} {σ : KT} (hw : kWf0 b h 1 h σ) : kWf0 b h 1 h (tExch σ) := by
  have hS := hw.1.exch
  have hb := hw.1.1
  have hh := hw.2.2.1.1
  unfold tExch at hS ⊢
  by_cases hA : tZ σ 39 0 < tOnRope σ ∧ tChairAt σ 0 ≠ -1
  · rw [if_pos hA] at hS ⊢
    rcases chairAt_spec hb (p := 0) with ⟨n1, -⟩ | ⟨c, hcc, s1, s2, s3, s4⟩
    · exact absurd n1 hA.2
    · rw [s3] at hS ⊢
      have hno : ∀ g, g < tG σ → tZ σ 14 g ≠ nI c := by
        intro g hg hz
        obtain ⟨p, p1, p2, p3⟩ := (hw.2.2.2.1 c hcc).2.2.2.2.1 g hg hz
        have hh2 := hw.2.2.1.2.1
        have : nI p = nI 0 := by rw [← p3, s4]; rfl
        have := (nI_eq (by omega) (by decide)).mp this
        omega
      refine wf_place hw hS hcc hno rfl rfl rfl rfl (fun f j hf => zup_ne hf) (fun j hj => zup_ne2 hj) (fun j hj => ?_) (Or.inl ⟨?_, zup_eq⟩)
      · rw [tS_tsetS]
        simp [hj]
      · rw [tS_tsetS]
        simp
  · rw [if_neg hA] at hS ⊢
    by_cases hB : tOnRope σ < tZ σ 39 0 ∧ tChairAt σ 0 = -1
    · rw [if_pos hB] at hS ⊢
      cases e : tS σ with
      | nil => exact hw
      | cons c r =>
        rw [e] at hS
        simp only [] at hS ⊢
        have hm : c ∈ tS σ := by rw [e]; simp
        have hcc : c < tC σ := hb.2.2.2.1 c hm
        have hno : ∀ g, g < tG σ → tZ σ 14 g ≠ nI c := by
          intro g hg hz
          obtain ⟨p, p1, p2, p3⟩ := (hw.2.2.2.1 c hcc).2.2.2.2.1 g hg hz
          have hh2 := hw.2.2.1.2.1
          have := hw.1.2.2.2.2.2 c hm
          rw [p3] at this
          exact nI_m1 (by omega) this
        rcases chairAt_spec hb (p := 0) with ⟨n1, n2⟩ | ⟨c2, hc2, s1, s2, s3, s4⟩
        · refine wf_place hw hS hcc hno rfl rfl rfl rfl (fun f j hf => zup_ne hf) (fun j hj => zup_ne2 hj) (fun j hj => ?_) (Or.inr ⟨?_, zup_eq, by omega, fun x hx _ => n2 x hx⟩)
          · rw [tS_tset, tS_tsetS, e, List.mem_filter]
            simp [hj]
          · rw [tS_tset, tS_tsetS, List.mem_filter]
            simp
        · exact absurd hB.2 s2
    · rw [if_neg hB] at hS ⊢
      exact hw
