/-! What the document keeps true of a lift, beyond safety. -/
/-- a group: waiting in its lane's queue, riding on a chair, or done -/
def gOK (σ : KT) (g : Nat) : Prop :=
  (∃ z, 1 ≤ z ∧ z ≤ 6 ∧ tZ σ 10 g = nI z) ∧
  ((tZ σ 12 g = 0 ∧ tZ σ 14 g = -1 ∧ ∃ l, l < tL σ ∧ tZ σ 13 g = nI l ∧ g ∈ tQ σ l) ∨
   (tZ σ 12 g = 1 ∧ tZ σ 13 g = -1 ∧ ∃ c, c < tC σ ∧ tZ σ 14 g = nI c) ∨
   ((tZ σ 12 g = 2 ∨ tZ σ 12 g = 3) ∧ tZ σ 13 g = -1 ∧ tZ σ 14 g = -1))
def onC (σ : KT) (c : Nat) : Int32 := isum (fun g => if tZ σ 14 g = nI c then tZ σ 10 g else 0) (tG σ)
def onN (σ : KT) (c : Nat) : Int32 := isum (fun g => if tZ σ 14 g = nI c then 1 else 0) (tG σ)
/-- a chair; one with riders has a place from lo on, below hi -/
def cOK (σ : KT) (h lo hi c : Nat) : Prop :=
  (∃ z, 1 ≤ z ∧ z ≤ 6 ∧ tZ σ 0 c = nI z) ∧ tZ σ 2 c = onC σ c ∧ tZ σ 3 c = onN σ c ∧
  ((c ∈ tS σ ∧ tZ σ 1 c = -1) ∨ (c ∉ tS σ ∧ ∃ p, p < 2 * h ∧ tZ σ 1 c = nI p)) ∧
  (∀ g, g < tG σ → tZ σ 14 g = nI c → ∃ p, lo ≤ p ∧ p < hi ∧ tZ σ 1 c = nI p) ∧
  ∀ c2, c2 < tC σ → c2 ≠ c → tZ σ 1 c ≠ -1 → tZ σ 1 c2 ≠ tZ σ 1 c
def fresh (σ : KT) : Prop := (∀ c, tC σ ≤ c → c < 20 → tZ σ 1 c = -1 ∧ tZ σ 2 c = 0 ∧ tZ σ 3 c = 0 ∧ tZ σ 4 c = 0) ∧ ∀ l, tL σ ≤ l → l < 4 → tZ σ 21 l = 0 ∧ tZ σ 22 l = 0 ∧ tQ σ l = []
/-- b bounds the step's number -/
def kWf0 (b h lo hi : Nat) (σ : KT) : Prop :=
  kS σ ∧ (∃ s, s ≤ b ∧ tZ σ 41 0 = nI s) ∧ (2 ≤ h ∧ h ≤ 12 ∧ tZ σ 38 0 = nI h) ∧ (∀ c, c < tC σ → cOK σ h lo hi c) ∧ (∀ g, g < tG σ → gOK σ g) ∧ fresh σ ∧ ∀ l, l < tL σ → tZ σ 21 l = 0 ∨ tZ σ 21 l = 1
def kWf (b : Nat) (σ : KT) : Prop := ∃ h, kWf0 b h 0 h σ
theorem kWf0.qOK {b h lo hi : Nat} {σ : KT} (hw : kWf0 b h lo hi σ) : qOK σ := by
  intro l hl
  by_cases hlt : l < tL σ
  · have h1 := hw.1.qlen hlt
    have h2 := hw.1.1.2.2.1
    omega
  · rw [(hw.2.2.2.2.2.1.2 l (by omega) hl).2.2]
    simp
/-- fields that nothing here speaks of -/
theorem kWf0.mod {b h lo hi : Nat} {σ : KT} (hw : kWf0 b h lo hi σ) {Z : Nat → Nat → Int32} (e : ∀ f j, f < 5 ∨ f = 10 ∨ f = 12 ∨ f = 13 ∨ f = 14 ∨ f = 21 ∨ f = 22 ∨ f = 38 ∨ f = 40 ∨ f = 41 → Z f j = tZ σ f j) : kWf0 b h lo hi (tMod σ Z) := by
  have e0 := fun j => e 0 j (by decide)
  have e1 := fun j => e 1 j (by decide)
  have e2 := fun j => e 2 j (by decide)
  have e3 := fun j => e 3 j (by decide)
  have e4 := fun j => e 4 j (by decide)
  have e10 := fun j => e 10 j (by decide)
  have e12 := fun j => e 12 j (by decide)
  have e13 := fun j => e 13 j (by decide)
  have e14 := fun j => e 14 j (by decide)
  have e21 := fun j => e 21 j (by decide)
  have e22 := fun j => e 22 j (by decide)
  obtain ⟨h1, h2, h3, h4, h5, h6, h7⟩ := hw
  refine ⟨h1.mod (fun c _ => e1 c) (fun g => e13 g) (e 40 0 (by decide)), by rw [tZ_tMod, e 41 0 (by decide)]; exact h2, by rw [tZ_tMod, e 38 0 (by decide)]; exact h3, fun x hx => ?_, fun g hg => ?_, ?_, fun l hl => ?_⟩
  · have := h4 x hx
    simp only [cOK, onC, onN, tZ_tMod, e0, e1, e2, e3, e10, e14, tC_tMod, tS_tMod, tG_tMod] at this ⊢
    exact this
  · have := h5 g hg
    simp only [gOK, tZ_tMod, e10, e12, e13, e14, tC_tMod, tL_tMod, tQ_tMod] at this ⊢
    exact this
  · simp only [fresh, tZ_tMod, e1, e2, e3, e4, e21, e22, tC_tMod, tL_tMod, tQ_tMod] at h6 ⊢
    exact h6
  · rw [tZ_tMod, e21]
    exact h7 l hl
theorem kWf0.free {b h lo hi : Nat} {σ : KT} (hw : kWf0 b h lo hi σ) {f i : Nat} {v : Int32} (hf : f = 11 ∨ f = 15 ∨ f = 16 ∨ f = 17 ∨ f = 39 ∨ f = 42 ∨ f = 43 ∨ f = 50) : kWf0 b h lo hi (tset σ f i v) := by
  rw [tset_mod]
  exact hw.mod (fun f' j hf' => zup_ne (by omega))
theorem kWf0.cool {b h lo hi : Nat} {σ : KT} (hw : kWf0 b h lo hi σ) (n : Nat) : kWf0 b h lo hi (coolTo σ n) :=
  hw.mod (fun f j hf => if_neg (fun z => by have := z.1; omega))
theorem mvT_nat {h p : Nat} (hh : h ≤ 12) (hp : p < 2 * h) : mvT (nI h) (nI p) = nI (if p + 1 < 2 * h then p + 1 else 0) := by
  unfold mvT
  rw [nI_1, show (2 : Int32) = nI 2 from rfl, nI_mul]
  by_cases hc : p + 1 < 2 * h
  · rw [if_pos hc, if_pos (nI_lt hc (by omega))]
  · rw [if_neg hc, if_neg (fun z => hc (nI_ltr (by omega) (by omega) z))]
    rfl
theorem kWf0.move {b h : Nat} {σ : KT} (hw : kWf0 b h 0 h σ) : kWf0 b h 1 (h + 1) (moveTo σ (tC σ)) := by
  obtain ⟨h1, h2, ⟨ha, hb, hc⟩, h4, h5, h6, h7⟩ := hw
  have e : ∀ f j, f ≠ 1 → tZ (moveTo σ (tC σ)) f j = tZ σ f j := fun f j hf => move_f hf
  have in1 : ∀ c, c < tC σ → tZ σ 1 c = -1 → tZ (moveTo σ (tC σ)) 1 c = -1 := fun c _ hz => (if_neg (fun z => z.2.2 hz)).trans hz
  have in2 : ∀ c p, c < tC σ → p < 2 * h → tZ σ 1 c = nI p → tZ (moveTo σ (tC σ)) 1 c = nI (if p + 1 < 2 * h then p + 1 else 0) := by
    intro c p hcc hp hz
    have hne : tZ σ 1 c ≠ -1 := by rw [hz]; exact nI_m1 (by omega)
    have : tZ (moveTo σ (tC σ)) 1 c = mvT (tZ σ 38 0) (tZ σ 1 c) := if_pos ⟨rfl, hcc, hne⟩
    rw [this, hc, hz, mvT_nat hb hp]
  have e0 := fun j => e 0 j (by decide)
  have e2 := fun j => e 2 j (by decide)
  have e3 := fun j => e 3 j (by decide)
  have e4 := fun j => e 4 j (by decide)
  have e10 := fun j => e 10 j (by decide)
  have e12 := fun j => e 12 j (by decide)
  have e13 := fun j => e 13 j (by decide)
  have e14 := fun j => e 14 j (by decide)
  have e21 := fun j => e 21 j (by decide)
  have e22 := fun j => e 22 j (by decide)
  refine ⟨h1.move _, by rw [e 41 0 (by decide)]; exact h2, ⟨ha, hb, by rw [e 38 0 (by decide)]; exact hc⟩, fun c hcc => ?_, fun g hg => ?_, ?_, fun l hl => by rw [e21]; exact h7 l hl⟩
  · obtain ⟨c1, c2, c3, c4, c5, c6⟩ := h4 c hcc
    refine ⟨by rw [e0]; exact c1, ?_, ?_, ?_, fun g hg hz => ?_, fun c2' hc2 hne hz => ?_⟩
    · rw [e2]; simp only [onC, e14, e10]; exact c2
    · rw [e3]; simp only [onN, e14]; exact c3
    · rcases c4 with ⟨s1, s2⟩ | ⟨s1, p, s2, s3⟩
      · exact Or.inl ⟨s1, in1 c hcc s2⟩
      · exact Or.inr ⟨s1, _, by split <;> omega, in2 c p hcc s2 s3⟩
    · rw [e14] at hz
      obtain ⟨p, -, p2, p3⟩ := c5 g hg hz
      refine ⟨p + 1, by omega, by omega, ?_⟩
      rw [in2 c p hcc (by omega) p3, if_pos (by omega)]
    · rcases c4 with ⟨s1, s2⟩ | ⟨s1, p, s2, s3⟩
      · exact absurd (in1 c hcc s2) hz
      · have hne0 : tZ σ 1 c ≠ -1 := by rw [s3]; exact nI_m1 (by omega)
        have hd := c6 c2' hc2 hne hne0
        rw [in2 c p hcc s2 s3]
        rcases (h4 c2' hc2).2.2.2.1 with ⟨t1, t2⟩ | ⟨t1, q, t2, t3⟩
        · rw [in1 c2' hc2 t2]
          exact fun z => nI_m1 (by split <;> omega) z.symm
        · rw [in2 c2' q hc2 t2 t3]
          intro z
          have z2 := (nI_eq (by split <;> omega) (by split <;> omega)).mp z
          have hpq : q ≠ p := fun w => hd (by rw [t3, s3, w])
          split at z2 <;> split at z2 <;> omega
  · have := h5 g hg
    simp only [gOK, e10, e12, e13, e14] at this ⊢
    exact this
  · obtain ⟨f1, f2⟩ := h6
    refine ⟨fun c hc1 hc2 => ?_, fun l hl1 hl2 => ?_⟩
    · obtain ⟨a1, a2, a3, a4⟩ := f1 c hc1 hc2
      exact ⟨(if_neg (fun z => absurd z.2.1 (by have : tC σ ≤ c := hc1; omega))).trans a1, by rw [e2]; exact a2, by rw [e3]; exact a3, by rw [e4]; exact a4⟩
    · rw [e21, e22]
      exact f2 l hl1 hl2
