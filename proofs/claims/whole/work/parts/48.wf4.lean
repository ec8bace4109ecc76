/-! Well-formedness under sending away and the impatient. -/
theorem wf_queues {b h lo hi : Nat} {σ τ : KT} (hw : kWf0 b h lo hi σ) (hS : kS τ) {g l : Nat} (hl : l < tL σ) (tCe : tC τ = tC σ) (tLe : tL τ = tL σ) (tGe : tG τ = tG σ) (tSe : tS τ = tS σ) (hZ : ∀ f j, f ≠ 12 → f ≠ 13 → tZ τ f j = tZ σ f j) (h12 : ∀ j, j ≠ g → tZ τ 12 j = tZ σ 12 j) (h13 : ∀ j, j ≠ g → tZ τ 13 j = tZ σ 13 j) (hq : ∀ a, a ≠ l → tQ τ a = tQ σ a) (hq2 : ∀ x, x ≠ g → x ∈ tQ σ l → x ∈ tQ τ l) (hg : g < tG σ → gOK τ g) : kWf0 b h lo hi τ := by
  obtain ⟨w1, w2, w3, w4, w5, w6, w7⟩ := hw
  have e0 := fun j => hZ 0 j (by decide) (by decide)
  have e1 := fun j => hZ 1 j (by decide) (by decide)
  have e2 := fun j => hZ 2 j (by decide) (by decide)
  have e3 := fun j => hZ 3 j (by decide) (by decide)
  have e4 := fun j => hZ 4 j (by decide) (by decide)
  have e10 := fun j => hZ 10 j (by decide) (by decide)
  have e14 := fun j => hZ 14 j (by decide) (by decide)
  have e21 := fun j => hZ 21 j (by decide) (by decide)
  have e22 := fun j => hZ 22 j (by decide) (by decide)
  refine ⟨hS, by rw [hZ 41 0 (by decide) (by decide)]; exact w2, by rw [hZ 38 0 (by decide) (by decide)]; exact w3, fun x hx => ?_, fun x hx => ?_, ⟨fun x hx1 hx2 => ?_, fun a ha1 ha2 => ?_⟩, fun a ha => ?_⟩
  · rw [tCe] at hx
    have := w4 x hx
    simp only [cOK, onC, onN, e0, e1, e2, e3, e10, e14, tCe, tSe, tGe] at this ⊢
    exact this
  · rw [tGe] at hx
    by_cases hxg : x = g
    · subst hxg; exact hg hx
    · obtain ⟨g1, g2⟩ := w5 x hx
      refine ⟨by rw [e10]; exact g1, ?_⟩
      rw [h12 x hxg, h13 x hxg, e14, tCe, tLe]
      rcases g2 with ⟨a1, a2, a, a3, a4, a5⟩ | k | k
      · refine Or.inl ⟨a1, a2, a, a3, a4, ?_⟩
        by_cases hal : a = l
        · subst hal; exact hq2 x hxg a5
        · rw [hq a hal]; exact a5
      · exact Or.inr (Or.inl k)
      · exact Or.inr (Or.inr k)
  · rw [tCe] at hx1
    rw [e1, e2, e3, e4]
    exact w6.1 x hx1 hx2
  · rw [tLe] at ha1
    rw [e21, e22, hq a (by omega)]
    exact w6.2 a ha1 ha2
  · rw [tLe] at ha
    rw [e21]
    exact w7 a ha
/-- a waiting group: where it waits -/
theorem gOK_wait {σ : KT} {g : Nat} (h : gOK σ g) (hz : tZ σ 12 g = 0) : tZ σ 14 g = -1 ∧ ∃ l, l < tL σ ∧ tZ σ 13 g = nI l ∧ g ∈ tQ σ l := by
  rcases h.2 with ⟨-, a, b⟩ | ⟨a, -⟩ | ⟨a | a, -⟩
  · exact ⟨a, b⟩
  · rw [hz] at a; exact absurd a (by decide)
  · rw [hz] at a; exact absurd a (by decide)
  · rw [hz] at a; exact absurd a (by decide)
theorem tQ_takeOut {σ : KT} {g l : Nat} (hz : tZ σ 13 g = nI l) (hl : l < 100) : tQ (takeOut σ g) = qup (tQ σ) l ((tQ σ l).filter (fun a => decide (a ≠ g))) := by
  rw [takeOut_some hz hl]; rfl
theorem kWf0.send {b h lo hi : Nat} {σ : KT} (hw : kWf0 b h lo hi σ) {g : Nat} (hg : g < tG σ) (hz : tZ σ 12 g = 0) : kWf0 b h lo hi (sendT σ g) := by
  have hS := hw.1.send hg
  obtain ⟨h14, l, hl, h13, hm⟩ := gOK_wait (hw.2.2.2.2.1 g hg) hz
  have hb2 := hw.1.1.2.1
  have hQ : tQ (sendT σ g) = qup (tQ σ) l ((tQ σ l).filter (fun a => decide (a ≠ g))) := tQ_takeOut h13 (by omega)
  have hZ : tZ (sendT σ g) = zup (zup (tZ σ) 13 g (-1)) 12 g 3 := by
    unfold sendT
    rw [tZ_tset, tZ_takeOut]
  refine wf_queues hw hS (g := g) hl tC_takeOut tL_takeOut tG_takeOut tS_takeOut (fun f j a c => by rw [hZ, zup_ne a, zup_ne c]) (fun j hj => by rw [hZ, zup_ne2 hj, zup_ne2 hj]) (fun j hj => by rw [hZ, zup_ne2 hj, zup_ne2 hj]) (fun a ha => by rw [hQ, qup_ne ha]) (fun x hx hxm => ?_) (fun _ => ⟨?_, Or.inr (Or.inr ⟨Or.inr ?_, ?_, ?_⟩)⟩)
  · rw [hQ, qup_eq, List.mem_filter]
    exact ⟨hxm, by simpa using hx⟩
  · rw [hZ, zup_ne (by decide), zup_ne (by decide)]
    exact (hw.2.2.2.2.1 g hg).1
  · rw [hZ, zup_eq]
  · rw [hZ, zup_ne (by decide), zup_eq]
  · rw [hZ, zup_ne (by decide), zup_ne (by decide)]
    exact h14
theorem kWf0.imp {b h lo hi : Nat} {σ : KT} (hw : kWf0 b h lo hi σ) : ∀ n, n ≤ tG σ → kWf0 b h lo hi (impTo σ n)
  | 0, _ => hw
  | n + 1, hn => by
    have ih := hw.imp n (by omega)
    simp only [impTo]
    split
    · next hc => exact ih.send (by rw [tG_impTo]; omega) hc.1
    · exact ih
theorem kWf0.tick {b h lo hi : Nat} {σ : KT} (hw : kWf0 b h lo hi σ) : kWf0 (b + 1) h lo hi (tset σ 41 0 (tZ σ 41 0 + 1)) := by
  obtain ⟨w1, ⟨s, hs, hse⟩, w3, w4, w5, w6, w7⟩ := hw
  have e : ∀ f j, f ≠ 41 → tZ (tset σ 41 0 (tZ σ 41 0 + 1)) f j = tZ σ f j := fun f j hf => tZ_ne hf
  have e0 := fun j => e 0 j (by decide)
  have e1 := fun j => e 1 j (by decide)
  have e2 := fun j => e 2 j (by decide)
  have e3 := fun j => e 3 j (by decide)
  have e4 := fun j => e 4 j (by decide)
  have e10 := fun j => e 10 j (by decide)
  have e12 := fun j => e 12 j (by decide)
  have e13 := fun j => e 13 j (by decide)
  have e14 := fun j => e 14 j (by decide)
  have e21 := fun j => e 21 j (by decide)
  have e22 := fun j => e 22 j (by decide)
  refine ⟨w1.setf (by decide) (by decide) (by decide), ⟨s + 1, by omega, ?_⟩, by rw [e 38 0 (by decide)]; exact w3, fun x hx => ?_, fun g hg => ?_, ?_, fun l hl => by rw [e21]; exact w7 l hl⟩
  · rw [tZ_tset, zup_eq, hse, nI_1]
  · have := w4 x hx
    simp only [cOK, onC, onN, e0, e1, e2, e3, e10, e14, tC_tset, tS_tset, tG_tset] at this ⊢
    exact this
  · have := w5 g hg
    simp only [gOK, e10, e12, e13, e14, tC_tset, tL_tset, tQ_tset] at this ⊢
    exact this
  · simp only [fresh, e1, e2, e3, e4, e21, e22, tC_tset, tL_tset, tQ_tset] at w6 ⊢
    exact w6
