/-! What the document keeps true of a lift, beyond safety. -/
/-- a group: waiting in its lane's queue, riding on a chair, or done -/
def gOK (σ : KT) (g : Nat) : Prop :=
  (∃ z, 1 ≤ z ∧ z ≤ 6 ∧ tZ σ 10 g = nI z) ∧
  ((tZ σ 12 g = 0 ∧ tZ σ 14 g = -1 ∧ ∃ l, l < tL σ ∧ tZ σ 13 g = nI l ∧ g ∈ tQ σ l) ∨
   (tZ σ 12 g = 1 ∧ tZ σ 13 g = -1 ∧ ∃ c, c < tC σ ∧ tZ σ 14 g = nI c) ∨
   ((tZ σ 12 g = 2 ∨ tZ σ 12 g = 3) ∧ tZ σ 13 g = -1 ∧ tZ σ 14 g = -1))
def onC (σ : KT) (c : Nat) : Int32 := isum (fun g => if tZ σ 14 g = nI c then tZ σ 10 g else 0) (tG σ)
def onN (σ : KT) (c : Nat) : Int32 := isum (fun g => if tZ σ 14 g = nI c then 1 else 0) (tG σ)
def cOK (σ : KT) (h c : Nat) : Prop :=
  (∃ z, 1 ≤ z ∧ z ≤ 6 ∧ tZ σ 0 c = nI z) ∧ tZ σ 2 c = onC σ c ∧ tZ σ 3 c = onN σ c ∧
  ((c ∈ tS σ ∧ tZ σ 1 c = -1) ∨ (c ∉ tS σ ∧ ∃ p, p < 2 * h ∧ tZ σ 1 c = nI p)) ∧
  (∀ g, g < tG σ → tZ σ 14 g = nI c → ∃ p, p < h ∧ tZ σ 1 c = nI p) ∧
  ∀ c2, c2 < tC σ → c2 ≠ c → tZ σ 1 c ≠ -1 → tZ σ 1 c2 ≠ tZ σ 1 c
def fresh (σ : KT) : Prop := (∀ c, tC σ ≤ c → c < 20 → tZ σ 1 c = -1 ∧ tZ σ 2 c = 0 ∧ tZ σ 3 c = 0 ∧ tZ σ 4 c = 0) ∧ ∀ l, tL σ ≤ l → l < 4 → tZ σ 21 l = 0 ∧ tZ σ 22 l = 0 ∧ tQ σ l = []
/-- b bounds the step's number -/
def kWf (b : Nat) (σ : KT) : Prop :=
  kS σ ∧ (∃ s, s ≤ b ∧ tZ σ 41 0 = nI s) ∧ (∃ h, 2 ≤ h ∧ h ≤ 12 ∧ tZ σ 38 0 = nI h ∧ ∀ c, c < tC σ → cOK σ h c) ∧ (∀ g, g < tG σ → gOK σ g) ∧ fresh σ ∧ ∀ l, l < tL σ → tZ σ 21 l = 0 ∨ tZ σ 21 l = 1
theorem kWf.qOK {b : Nat} {σ : KT} (h : kWf b σ) : qOK σ := by
  intro l hl
  by_cases hlt : l < tL σ
  · have h1 := h.1.qlen hlt
    have h2 := h.1.1.2.2.1
    omega
  · rw [(h.2.2.2.2.1.2 l (by omega) hl).2.2]
    simp
/-- a field that nothing here speaks of -/
theorem kWf.free {b : Nat} {σ : KT} (h : kWf b σ) {f i : Nat} {v : Int32} (hf : f = 11 ∨ f = 15 ∨ f = 16 ∨ f = 17 ∨ f = 39 ∨ f = 42 ∨ f = 43 ∨ f = 50) : kWf b (tset σ f i v) := by
  have e : ∀ f' j, f' ≠ 11 → f' ≠ 15 → f' ≠ 16 → f' ≠ 17 → f' ≠ 39 → f' ≠ 42 → f' ≠ 43 → f' ≠ 50 → tZ (tset σ f i v) f' j = tZ σ f' j := fun f' j a b c d e g h i => zup_ne (by omega)
  have e0 := fun j => e 0 j (by decide) (by decide) (by decide) (by decide) (by decide) (by decide) (by decide) (by decide)
  have e1 := fun j => e 1 j (by decide) (by decide) (by decide) (by decide) (by decide) (by decide) (by decide) (by decide)
  have e2 := fun j => e 2 j (by decide) (by decide) (by decide) (by decide) (by decide) (by decide) (by decide) (by decide)
  have e3 := fun j => e 3 j (by decide) (by decide) (by decide) (by decide) (by decide) (by decide) (by decide) (by decide)
  have e4 := fun j => e 4 j (by decide) (by decide) (by decide) (by decide) (by decide) (by decide) (by decide) (by decide)
  have e10 := fun j => e 10 j (by decide) (by decide) (by decide) (by decide) (by decide) (by decide) (by decide) (by decide)
  have e12 := fun j => e 12 j (by decide) (by decide) (by decide) (by decide) (by decide) (by decide) (by decide) (by decide)
  have e13 := fun j => e 13 j (by decide) (by decide) (by decide) (by decide) (by decide) (by decide) (by decide) (by decide)
  have e14 := fun j => e 14 j (by decide) (by decide) (by decide) (by decide) (by decide) (by decide) (by decide) (by decide)
  have e21 := fun j => e 21 j (by decide) (by decide) (by decide) (by decide) (by decide) (by decide) (by decide) (by decide)
  have e22 := fun j => e 22 j (by decide) (by decide) (by decide) (by decide) (by decide) (by decide) (by decide) (by decide)
  have e38 := fun j => e 38 j (by decide) (by decide) (by decide) (by decide) (by decide) (by decide) (by decide) (by decide)
  have e41 := fun j => e 41 j (by decide) (by decide) (by decide) (by decide) (by decide) (by decide) (by decide) (by decide)
  obtain ⟨h1, h2, h3, h4, h5, h6⟩ := h
  refine ⟨h1.setf (by omega) (by omega) (by omega), by rw [e41]; exact h2, ?_, ?_, ?_, ?_⟩
  · obtain ⟨hh, a, b, c, d⟩ := h3
    refine ⟨hh, a, b, by rw [e38]; exact c, fun x hx => ?_⟩
    have := d x hx
    simp only [cOK, onC, onN, e0, e1, e2, e3, e10, e14, tC_tset, tS_tset, tG_tset] at this ⊢
    exact this
  · intro g hg
    have := h4 g hg
    simp only [gOK, e10, e12, e13, e14, tC_tset, tL_tset, tQ_tset] at this ⊢
    exact this
  · simp only [fresh, e1, e2, e3, e4, e21, e22, tC_tset, tL_tset, tQ_tset] at h5 ⊢
    exact h5
  · intro l hl
    rw [e21]
    exact h6 l hl
