/-! Well-formedness under the public calls. -/
theorem kWf0.rejoin {b h lo hi : Nat} {σ : KT} (hw : kWf0 b h lo hi σ) {g l : Nat} (hg : g < tG σ) (hl : l < tL σ) (h13 : tZ σ 13 g = -1) (h14 : tZ σ 14 g = -1) : kWf0 b h lo hi (putT (tset σ 12 g 0) g l) := by
  have h13' : tZ (tset σ 12 g 0) 13 g = -1 := (tZ_ne (by decide)).trans h13
  have hS : kS (putT (tset σ 12 g 0) g l) := (hw.1.setf (f := 12) (i := g) (v := 0) (by decide) (by decide) (by decide)).put hg hl h13'
  have hZ : tZ (putT (tset σ 12 g 0) g l) = zup (zup (tZ σ) 12 g 0) 13 g (nI l) := rfl
  have hQ : tQ (putT (tset σ 12 g 0) g l) = qup (tQ σ) l (tQ σ l ++ [g]) := rfl
  refine wf_queues hw hS (g := g) hl rfl rfl rfl rfl (fun f j a c => by rw [hZ, zup_ne c, zup_ne a]) (fun j hj => by rw [hZ, zup_ne2 hj, zup_ne2 hj]) (fun j hj => by rw [hZ, zup_ne2 hj, zup_ne2 hj]) (fun a ha => by rw [hQ, qup_ne ha]) (fun x hx hxm => ?_) (fun _ => ⟨?_, Or.inl ⟨?_, ?_, l, hl, ?_, ?_⟩⟩)
  · rw [hQ, qup_eq]
    exact List.mem_append_left _ hxm
  · rw [hZ, zup_ne (by decide), zup_ne (by decide)]
    exact (hw.2.2.2.2.1 g hg).1
  · rw [hZ, zup_ne (by decide), zup_eq]
  · rw [hZ, zup_ne (by decide), zup_ne (by decide)]
    exact h14
  · rw [hZ, zup_eq]
  · rw [hQ, qup_eq]
    simp
theorem zup_zup {Z : Nat → Nat → Int32} {f i : Nat} {v w : Int32} : zup (zup Z f i v) f i w = zup Z f i w := by
  funext a c
  simp only [zup]
  split <;> rfl
theorem change_eq {σ : KT} {g l : Nat} (hz : tZ σ 12 g = 0) : putT (tset (sendT σ g) 12 g 0) g l = putT (takeOut σ g) g l := by
  have e : tset (sendT σ g) 12 g 0 = takeOut σ g := by
    have h1 : tset (sendT σ g) 12 g 0 = tset (takeOut σ g) 12 g 0 := by
      show ((takeOut σ g).1, zup (zup (tZ (takeOut σ g)) 12 g 3) 12 g 0, (takeOut σ g).2.2.1, (takeOut σ g).2.2.2) = ((takeOut σ g).1, zup (tZ (takeOut σ g)) 12 g 0, (takeOut σ g).2.2.1, (takeOut σ g).2.2.2)
      rw [zup_zup]
    rw [h1]
    exact tset_self (by rw [tZ_takeOut, zup_ne (by decide)]; exact hz)
  rw [e]
theorem kWf0.change {b h lo hi : Nat} {σ : KT} (hw : kWf0 b h lo hi σ) {g l : Nat} (hg : g < tG σ) (hl : l < tL σ) (hz : tZ σ 12 g = 0) : kWf0 b h lo hi (putT (takeOut σ g) g l) := by
  rw [← change_eq hz]
  refine (hw.send hg hz).rejoin (by rw [tG_sendT]; exact hg) (by rw [show tL (sendT σ g) = tL σ from tL_takeOut]; exact hl) ?_ ?_
  · show zup (tZ (takeOut σ g)) 12 g 3 13 g = -1
    rw [zup_ne (by decide), tZ_takeOut, zup_eq]
  · show zup (tZ (takeOut σ g)) 12 g 3 14 g = -1
    rw [zup_ne (by decide), tZ_takeOut, zup_ne (by decide)]
    exact (gOK_wait (hw.2.2.2.2.1 g hg) hz).1
theorem mkGroup_old {σ : KT} {l : Nat} {a b : Int32} {f x : Nat} (hx : x ≠ tG σ) : tZ (mkGroup σ l a b) f x = tZ σ f x := by
  show zup (tZ (startT σ (tG σ) a b (tZ σ 41 0))) 13 (tG σ) (nI l) f x = _
  rw [zup_ne2 hx]
  simp only [startT, tZ_tset, tQ_tset, tS_tset, tC_tset, tL_tset, tG_tset, tZ_tsetQ, tQ_tsetQ, tS_tsetQ, tC_tsetQ, tL_tsetQ, tG_tsetQ, tZ_tsetS, tQ_tsetS, tS_tsetS, tC_tsetS, tL_tsetS, tG_tsetS, tZ_tMod, tQ_tMod, tS_tMod, tC_tMod, tL_tMod, tG_tMod, tZ_tcnt, tQ_tcnt, tS_tcnt, tC_tcnt, tL_tcnt, tG_tcnt]
  rw [zup_ne2 hx, zup_ne2 hx, zup_ne2 hx, zup_ne2 hx, zup_ne2 hx, zup_ne2 hx, zup_ne2 hx, zup_ne2 hx]
theorem mkGroup_new {σ : KT} {l : Nat} {a b : Int32} : tZ (mkGroup σ l a b) 10 (tG σ) = a ∧ tZ (mkGroup σ l a b) 12 (tG σ) = 0 ∧ tZ (mkGroup σ l a b) 13 (tG σ) = nI l ∧ tZ (mkGroup σ l a b) 14 (tG σ) = -1 := by
  have e : tZ (mkGroup σ l a b) = zup (tZ (startT σ (tG σ) a b (tZ σ 41 0))) 13 (tG σ) (nI l) := rfl
  rw [e]
  refine ⟨?_, ?_, zup_eq, ?_⟩ <;> (rw [zup_ne (by decide)]; simp [startT, tZ_tset, tQ_tset, tS_tset, tC_tset, tL_tset, tG_tset, tZ_tsetQ, tQ_tsetQ, tS_tsetQ, tC_tsetQ, tL_tsetQ, tG_tsetQ, tZ_tsetS, tQ_tsetS, tS_tsetS, tC_tsetS, tL_tsetS, tG_tsetS, tZ_tMod, tQ_tMod, tS_tMod, tC_tMod, tL_tMod, tG_tMod, tZ_tcnt, tQ_tcnt, tS_tcnt, tC_tcnt, tL_tcnt, tG_tcnt, zup])
theorem kWf0.newGroup {b h lo hi : Nat} {σ : KT} (hw : kWf0 b h lo hi σ) (hlt : tG σ < 91) {l : Nat} (hl : l < tL σ) {y : Nat} (hy1 : 1 ≤ y) (hy6 : y ≤ 6) (p : Int32) : kWf0 b h lo hi (mkGroup σ l (nI y) p) := by
  have hS := hw.1.newGroup hlt hl (nI y) p
  obtain ⟨w1, w2, w3, w4, w5, w6, w7⟩ := hw
  have bC := w1.1.1
  have e : ∀ f j, f < 10 ∨ 17 < f → tZ (mkGroup σ l (nI y) p) f j = tZ σ f j := fun f j hf => mkGroup_f hf
  have eo : ∀ f x, x ≠ tG σ → tZ (mkGroup σ l (nI y) p) f x = tZ σ f x := fun f x hx => mkGroup_old hx
  obtain ⟨n10, n12, n13, n14⟩ := mkGroup_new (σ := σ) (l := l) (a := nI y) (b := p)
  have eC : tC (mkGroup σ l (nI y) p) = tC σ := rfl
  have eL : tL (mkGroup σ l (nI y) p) = tL σ := rfl
  have eG : tG (mkGroup σ l (nI y) p) = tG σ + 1 := rfl
  have eS : tS (mkGroup σ l (nI y) p) = tS σ := rfl
  have eQ : tQ (mkGroup σ l (nI y) p) = qup (tQ σ) l (tQ σ l ++ [tG σ]) := rfl
  generalize mkGroup σ l (nI y) p = τ at *
  refine ⟨hS, by rw [e 41 0 (by decide)]; exact w2, by rw [e 38 0 (by decide)]; exact w3, fun x hx => ?_, fun g hg => ?_, ⟨fun x hx1 hx2 => ?_, fun a ha1 ha2 => ?_⟩, fun a ha => ?_⟩
  · rw [eC] at hx
    obtain ⟨c1, c2, c3, c4, c5, c6⟩ := w4 x hx
    have hm : ¬ tZ τ 14 (tG σ) = nI x := by rw [n14]; exact fun z => nI_m1 (by omega) z.symm
    refine ⟨by rw [e 0 x (by decide)]; exact c1, ?_, ?_, ?_, fun g hg hz => ?_, fun c2' hc2 hne hz => ?_⟩
    · rw [e 2 x (by decide), c2]
      unfold onC
      rw [eG]
      simp only [isum]
      rw [if_neg hm, Int32.add_zero]
      exact (isum_congr _ (fun g hg => by rw [eo 14 g (by omega), eo 10 g (by omega)])).symm
    · rw [e 3 x (by decide), c3]
      unfold onN
      rw [eG]
      simp only [isum]
      rw [if_neg hm, Int32.add_zero]
      exact (isum_congr _ (fun g hg => by rw [eo 14 g (by omega)])).symm
    · rw [eS, e 1 x (by decide)]; exact c4
    · by_cases hgg : g = tG σ
      · rw [hgg] at hz; exact absurd hz hm
      · rw [eo 14 g hgg] at hz
        rw [e 1 x (by decide)]
        exact c5 g (by rw [eG] at hg; omega) hz
    · rw [e 1 x (by decide)] at hz ⊢
      rw [e 1 c2' (by decide)]
      exact c6 c2' (by rw [eC] at hc2; exact hc2) hne hz
  · by_cases hgg : g = tG σ
    · subst hgg
      refine ⟨⟨y, hy1, hy6, n10⟩, Or.inl ⟨n12, n14, l, by rw [eL]; exact hl, n13, ?_⟩⟩
      rw [eQ, qup_eq]; simp
    · obtain ⟨g1, g2⟩ := w5 g (by rw [eG] at hg; omega)
      refine ⟨by rw [eo 10 g hgg]; exact g1, ?_⟩
      rw [eo 12 g hgg, eo 13 g hgg, eo 14 g hgg, eC, eL]
      rcases g2 with ⟨a1, a2, a, a3, a4, a5⟩ | k | k
      · refine Or.inl ⟨a1, a2, a, a3, a4, ?_⟩
        rw [eQ]
        by_cases hal : a = l
        · subst hal; rw [qup_eq]; exact List.mem_append_left _ a5
        · rw [qup_ne hal]; exact a5
      · exact Or.inr (Or.inl k)
      · exact Or.inr (Or.inr k)
  · rw [eC] at hx1
    rw [e 1 x (by decide), e 2 x (by decide), e 3 x (by decide), e 4 x (by decide)]
    exact w6.1 x hx1 hx2
  · rw [eL] at ha1
    rw [e 21 a (by decide), e 22 a (by decide), eQ, qup_ne (by omega)]
    exact w6.2 a ha1 ha2
  · rw [eL] at ha
    rw [e 21 a (by decide)]
    exact w7 a ha
theorem kWf0.newLane {b h lo hi : Nat} {σ : KT} (hw : kWf0 b h lo hi σ) (hlt : tL σ < 4) : kWf0 b h lo hi (mkLane σ) := by
  have hf := hw.2.2.2.2.2.1.2 (tL σ) (Nat.le_refl _) hlt
  have hS := hw.1.newLane hlt hf.2.2
  obtain ⟨w1, w2, w3, w4, w5, w6, w7⟩ := hw
  refine ⟨hS, w2, w3, w4, fun g hg => ?_, ⟨w6.1, fun a ha1 ha2 => w6.2 a (by have : tL σ + 1 ≤ a := ha1; omega) ha2⟩, fun a ha => ?_⟩
  · obtain ⟨g1, g2⟩ := w5 g hg
    refine ⟨g1, ?_⟩
    rcases g2 with ⟨a1, a2, a, a3, a4, a5⟩ | k | k
    · exact Or.inl ⟨a1, a2, a, (by show a < tL σ + 1; omega), a4, a5⟩
    · exact Or.inr (Or.inl k)
    · exact Or.inr (Or.inr k)
  · have ha' : a < tL σ + 1 := ha
    by_cases hal : a = tL σ
    · subst hal; exact Or.inl hf.1
    · exact w7 a (by omega)
theorem kWf0.newChair {b h lo hi : Nat} {σ : KT} (hw : kWf0 b h lo hi σ) (hlt : tC σ < 20) {z : Nat} (hz1 : 1 ≤ z) (hz6 : z ≤ 6) : kWf0 b h lo hi (mkChair σ (nI z)) := by
  have hf := hw.2.2.2.2.2.1.1 (tC σ) (Nat.le_refl _) hlt
  have hS := hw.1.newChair hlt hf.1 (nI z)
  obtain ⟨w1, w2, w3, w4, w5, w6, w7⟩ := hw
  have bG := w1.1.2.2.1
  have e : ∀ f j, f ≠ 0 → tZ (mkChair σ (nI z)) f j = tZ σ f j := fun f j hf => zup_ne hf
  have e0 : ∀ j, j ≠ tC σ → tZ (mkChair σ (nI z)) 0 j = tZ σ 0 j := fun j hj => zup_ne2 hj
  have e0' : tZ (mkChair σ (nI z)) 0 (tC σ) = nI z := zup_eq
  have eC : tC (mkChair σ (nI z)) = tC σ + 1 := rfl
  have eL : tL (mkChair σ (nI z)) = tL σ := rfl
  have eG : tG (mkChair σ (nI z)) = tG σ := rfl
  have eS : tS (mkChair σ (nI z)) = tS σ ++ [tC σ] := rfl
  have eQ : tQ (mkChair σ (nI z)) = tQ σ := rfl
  have hno : ∀ g, g < tG σ → tZ σ 14 g ≠ nI (tC σ) := by
    intro g hg hz
    rcases (w5 g hg).2 with ⟨-, a, -⟩ | ⟨-, -, c, hc, a⟩ | ⟨-, -, a⟩
    · rw [a] at hz; exact nI_m1 (by omega) hz.symm
    · rw [a] at hz
      have := (nI_eq (by omega) (by omega)).mp hz
      omega
    · rw [a] at hz; exact nI_m1 (by omega) hz.symm
  generalize mkChair σ (nI z) = τ at *
  have eoC : ∀ x, onC τ x = onC σ x := fun x => by
    unfold onC
    rw [eG]
    exact isum_congr _ (fun g _ => by rw [e 14 g (by decide), e 10 g (by decide)])
  have eoN : ∀ x, onN τ x = onN σ x := fun x => by
    unfold onN
    rw [eG]
    exact isum_congr _ (fun g _ => by rw [e 14 g (by decide)])
  refine ⟨hS, by rw [e 41 0 (by decide)]; exact w2, by rw [e 38 0 (by decide)]; exact w3, fun x hx => ?_, fun g hg => ?_, ⟨fun x hx1 hx2 => ?_, fun a ha1 ha2 => ?_⟩, fun a ha => ?_⟩
  · by_cases hxc : x = tC σ
    · subst hxc
      refine ⟨⟨z, hz1, hz6, e0'⟩, ?_, ?_, Or.inl ⟨?_, ?_⟩, fun g hg hz => ?_, fun y hy hne hz => ?_⟩
      · rw [e 2 _ (by decide), hf.2.1, eoC]
        exact (isum_zero _ (fun g hg => if_neg (hno g hg))).symm
      · rw [e 3 _ (by decide), hf.2.2.1, eoN]
        exact (isum_zero _ (fun g hg => if_neg (hno g hg))).symm
      · rw [eS]; simp
      · rw [e 1 _ (by decide)]; exact hf.1
      · rw [e 14 g (by decide)] at hz
        exact absurd hz (hno g (by rw [← eG]; exact hg))
      · rw [e 1 _ (by decide)] at hz
        exact absurd hf.1 hz
    · have hx' : x < tC σ := by rw [eC] at hx; omega
      obtain ⟨c1, c2, c3, c4, c5, c6⟩ := w4 x hx'
      refine ⟨by rw [e0 x hxc]; exact c1, by rw [e 2 _ (by decide), eoC]; exact c2, by rw [e 3 _ (by decide), eoN]; exact c3, ?_, fun g hg hz => ?_, fun y hy hne hz => ?_⟩
      · rw [eS, e 1 _ (by decide)]
        rcases c4 with ⟨a, b⟩ | ⟨a, b⟩
        · exact Or.inl ⟨List.mem_append_left _ a, b⟩
        · refine Or.inr ⟨fun z => ?_, b⟩
          rcases List.mem_append.mp z with z | z
          · exact a z
          · exact hxc (by simpa using z)
      · rw [e 14 g (by decide)] at hz
        rw [e 1 _ (by decide)]
        exact c5 g (by rw [← eG]; exact hg) hz
      · rw [e 1 x (by decide)] at hz ⊢
        rw [e 1 y (by decide)]
        by_cases hyc : y = tC σ
        · rw [hyc, hf.1]; exact fun z => hz z.symm
        · exact c6 y (by rw [eC] at hy; omega) hne hz
  · have hg' : g < tG σ := by rw [← eG]; exact hg
    obtain ⟨g1, g2⟩ := w5 g hg'
    refine ⟨by rw [e 10 g (by decide)]; exact g1, ?_⟩
    rw [e 12 g (by decide), e 13 g (by decide), e 14 g (by decide), eC, eL, eQ]
    rcases g2 with k | ⟨a1, a2, c, a3, a4⟩ | k
    · exact Or.inl k
    · exact Or.inr (Or.inl ⟨a1, a2, c, by omega, a4⟩)
    · exact Or.inr (Or.inr k)
  · rw [eC] at hx1
    rw [e 1 x (by decide), e 2 x (by decide), e 3 x (by decide), e 4 x (by decide)]
    exact w6.1 x (by omega) hx2
  · rw [eL] at ha1
    rw [e 21 a (by decide), e 22 a (by decide), eQ]
    exact w6.2 a ha1 ha2
  · rw [eL] at ha
    rw [e 21 a (by decide)]
    exact w7 a ha
theorem all_shed {σ : KT} (hs : kS σ) (h0 : tOnRope σ = 0) {c : Nat} (hc : c < tC σ) : c ∈ tS σ := by
  have h1 := hs.slen
  have h2 := hs.1.1
  have e : tOnRope σ = nI (tC σ - (tS σ).length) := nI_subn h1
  rw [e] at h0
  have h3 := (nI_eq (b := 0) (by omega) (by decide)).mp h0
  refine Classical.byContradiction fun hn => ?_
  have := nodup_len (tC σ) (c :: tS σ) (List.nodup_cons.mpr ⟨hn, hs.2.2.2.2.1⟩) (fun x hx => by
    rcases List.mem_cons.mp hx with r | r
    · rw [r]; exact hc
    · exact hs.1.2.2.2.1 x r)
  simp only [List.length_cons] at this
  omega
theorem kWf0.stretch {b h : Nat} {σ : KT} (hw : kWf0 b h 0 h σ) (h0 : tOnRope σ = 0) {n : Nat} (hn2 : 2 ≤ n) (hn : n ≤ 12) : kWf0 b n 0 n (tset σ 38 0 (nI n)) := by
  obtain ⟨w1, w2, w3, w4, w5, w6, w7⟩ := hw
  have e : ∀ f j, f ≠ 38 → tZ (tset σ 38 0 (nI n)) f j = tZ σ f j := fun f j hf => tZ_ne hf
  have e0 := fun j => e 0 j (by decide)
  have e1 := fun j => e 1 j (by decide)
  have e2 := fun j => e 2 j (by decide)
  have e3 := fun j => e 3 j (by decide)
  have e4 := fun j => e 4 j (by decide)
  have e10 := fun j => e 10 j (by decide)
  have e12 := fun j => e 12 j (by decide)
  have e13 := fun j => e 13 j (by decide)
  have e14 := fun j => e 14 j (by decide)
  have e21 := fun j => e 21 j (by decide)
  have e22 := fun j => e 22 j (by decide)
  refine ⟨w1.setf (by decide) (by decide) (by decide), by rw [e 41 0 (by decide)]; exact w2, ⟨hn2, hn, by rw [tZ_tset, zup_eq]⟩, fun x hx => ?_, fun g hg => ?_, ?_, fun l hl => by rw [e21]; exact w7 l hl⟩
  · have hx' : x < tC σ := hx
    have hin := all_shed w1 h0 hx'
    have hm1 := w1.2.2.2.2.2 x hin
    obtain ⟨c1, c2, c3, c4, c5, c6⟩ := w4 x hx'
    refine ⟨by rw [e0]; exact c1, by rw [e2]; simp only [onC, e14, e10, tG_tset]; exact c2, by rw [e3]; simp only [onN, e14, tG_tset]; exact c3, Or.inl ⟨hin, by rw [e1]; exact hm1⟩, fun g hg hz => ?_, fun y hy hne hz => ?_⟩
    · rw [e14] at hz
      obtain ⟨p, p1, p2, p3⟩ := c5 g hg hz
      have := w3.2.1
      rw [hm1] at p3
      exact absurd p3.symm (nI_m1 (by omega))
    · rw [e1] at hz
      exact absurd hm1 hz
  · have := w5 g hg
    simp only [gOK, e10, e12, e13, e14, tC_tset, tL_tset, tQ_tset] at this ⊢
    exact this
  · simp only [fresh, e1, e2, e3, e4, e21, e22, tC_tset, tL_tset, tQ_tset] at w6 ⊢
    exact w6
theorem kWf0.shut {b h lo hi : Nat} {σ : KT} (hw : kWf0 b h lo hi σ) {l : Nat} (hl : l < tL σ) {v : Int32} (hv : v = 0 ∨ v = 1) : kWf0 b h lo hi (tset σ 21 l v) := by
  obtain ⟨w1, w2, w3, w4, w5, w6, w7⟩ := hw
  have e : ∀ f j, f ≠ 21 → tZ (tset σ 21 l v) f j = tZ σ f j := fun f j hf => tZ_ne hf
  have e0 := fun j => e 0 j (by decide)
  have e1 := fun j => e 1 j (by decide)
  have e2 := fun j => e 2 j (by decide)
  have e3 := fun j => e 3 j (by decide)
  have e4 := fun j => e 4 j (by decide)
  have e10 := fun j => e 10 j (by decide)
  have e12 := fun j => e 12 j (by decide)
  have e13 := fun j => e 13 j (by decide)
  have e14 := fun j => e 14 j (by decide)
  have e22 := fun j => e 22 j (by decide)
  refine ⟨w1.setf (by decide) (by decide) (by decide), by rw [e 41 0 (by decide)]; exact w2, by rw [e 38 0 (by decide)]; exact w3, fun x hx => ?_, fun g hg => ?_, ⟨?_, fun a ha1 ha2 => ?_⟩, fun a ha => ?_⟩
  · have := w4 x hx
    simp only [cOK, onC, onN, e0, e1, e2, e3, e10, e14, tC_tset, tS_tset, tG_tset] at this ⊢
    exact this
  · have := w5 g hg
    simp only [gOK, e10, e12, e13, e14, tC_tset, tL_tset, tQ_tset] at this ⊢
    exact this
  · have := w6.1
    simp only [e1, e2, e3, e4, tC_tset] at this ⊢
    exact this
  · have ha1' : tL σ ≤ a := ha1
    rw [tZ_tset, zup_ne2 (by omega), ← tZ_tset (f := 21) (i := l) (v := v), e22]
    exact w6.2 a ha1' ha2
  · by_cases hal : a = l
    · subst hal; rw [tZ_tset, zup_eq]; exact hv
    · rw [tZ_tset, zup_ne2 hal]; exact w7 a ha
