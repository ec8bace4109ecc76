/-! Well-formedness under loading and a whole step. -/
theorem kWf0.weak {b h lo hi lo2 : Nat} {σ : KT} (hw : kWf0 b h lo hi σ) (hl : lo2 ≤ lo) : kWf0 b h lo2 hi σ := by
  obtain ⟨w1, w2, w3, w4, w5, w6, w7⟩ := hw
  refine ⟨w1, w2, w3, fun c hc => ?_, w5, w6, w7⟩
  obtain ⟨c1, c2, c3, c4, c5, c6⟩ := w4 c hc
  exact ⟨c1, c2, c3, c4, fun g hg hz => by
    obtain ⟨p, p1, p2, p3⟩ := c5 g hg hz
    exact ⟨p, by omega, p2, p3⟩, c6⟩
theorem tC_boardT {σ : KT} {g c : Nat} : tC (boardT σ g c) = tC σ := tC_takeOut
theorem kWf0.loads {b h c : Nat} : ∀ (k : Nat) (σ : KT) (n : Nat), kWf0 b h 0 h σ → c < tC σ → tZ σ 1 c = nI 0 → kWf0 b h 0 h (loadT c k σ n).1
  | 0, _, _, hw, _, _ => hw
  | k + 1, σ, n, hw, hc, hp => by
    simp only [loadT]
    split
    · exact hw
    · next hne =>
      rcases next_spec hw.1 (s := tZ σ 0 c - tZ σ 2 c) with h1 | ⟨g, a, h1, h2, h3, h4, h5, h6, h7, h8⟩
      · exact absurd h1 hne
      · rw [h7]
        have hb2 := hw.1.1.2.1
        refine kWf0.loads k _ _ (hw.board h1 hc h2 h4 hp) (by rw [tC_boardT]; exact hc) ?_
        rw [tZ_boardT h4 (by omega), if_neg (by omega), if_neg (by omega), if_neg (by omega), if_neg (by omega), if_neg (by omega), if_neg (by omega), if_neg (by omega), if_neg (by omega)]
        exact hp
theorem kWf0.load {b h : Nat} {σ : KT} (hw : kWf0 b h 1 h σ) : kWf0 b h 0 h (tLoad σ) := by
  have hw0 := hw.weak (Nat.zero_le 1)
  unfold tLoad
  rcases chairAt_spec hw.1.1 (p := 0) with ⟨n1, -⟩ | ⟨c, hcc, s1, s2, s3, s4⟩
  · rw [if_pos n1]
    exact hw0
  · rw [if_neg s2, s3]
    unfold tLoadAt
    have := kWf0.loads (c := c) 6 σ 0 hw0 hcc s4
    split
    · exact this
    · exact this.free (by decide)
theorem kWf0.half {b h : Nat} {σ : KT} (hw : kWf0 b h 0 h σ) : kWf0 b h 0 h (tHalfStep σ) := by
  unfold tHalfStep tMove tStand
  split
  · split
    · exact (hw.free (by decide)).cool _
    · exact hw.free (by decide)
  · exact hw.move.unload.exch.load
theorem step_eq {σ : KT} : tStep σ = tset (impTo (tHalfStep σ) (tG σ)) 41 0 (tZ (impTo (tHalfStep σ) (tG σ)) 41 0 + 1) := by
  unfold tStep
  rw [(same_imp _).2.2.2 41 0 (by decide), same_half.2.2.2 41 0 (by decide)]
theorem kWf0.step {b h : Nat} {σ : KT} (hw : kWf0 b h 0 h σ) : kWf0 (b + 1) h 0 h (tStep σ) := by
  rw [step_eq]
  exact (hw.half.imp _ (by rw [tG_tHalfStep]; exact Nat.le_refl _)).tick
theorem kWf0.steps {h : Nat} : ∀ (n b : Nat) (σ : KT), kWf0 b h 0 h σ → kWf0 (b + n) h 0 h (tSteps n σ)
  | 0, _, _, hw => hw
  | n + 1, b, σ, hw => by
    have := kWf0.steps n (b + 1) (tStep σ) hw.step
    rw [show b + (n + 1) = b + 1 + n by omega]
    exact this
/-- who comes up: the riders of the chair at the top are the groups on it -/
theorem up_sum {b h : Nat} {σ : KT} (hw : kWf0 b h 1 (h + 1) σ) {c : Nat} (hc : c < tC σ) : tZ σ 2 c = isum (fun g => if tZ σ 12 g = 1 ∧ tZ σ 14 g = nI c then tZ σ 10 g else 0) (tG σ) := by
  obtain ⟨w1, w2, w3, w4, w5, w6, w7⟩ := hw
  obtain ⟨bC, -⟩ := w1.1
  rw [(w4 c hc).2.1]
  refine isum_congr _ (fun g hg => ?_)
  by_cases hz : tZ σ 14 g = nI c
  · have h1 : tZ σ 12 g = 1 := by
      rcases (w5 g hg).2 with ⟨-, a, -⟩ | ⟨a, -⟩ | ⟨-, -, a⟩
      · rw [a] at hz; exact absurd hz.symm (nI_m1 (by omega))
      · exact a
      · rw [a] at hz; exact absurd hz.symm (nI_m1 (by omega))
    rw [if_pos hz, if_pos ⟨h1, hz⟩]
  · rw [if_neg hz, if_neg (fun z => hz z.2)]
