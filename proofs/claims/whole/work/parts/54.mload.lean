/-! The reference: loading. -/
theorem wf_empty0 {b h : Nat} {σ : KT} (hw : kWf0 b h 1 h σ) {c : Nat} (hc : c < tC σ) (hp : tZ σ 1 c = nI 0) : tZ σ 2 c = 0 := by
  have hh := hw.2.2.1.2.1
  obtain ⟨-, c2, -, -, c5, -⟩ := hw.2.2.2.1 c hc
  rw [c2]
  refine isum_zero _ (fun g hg => if_neg (fun z => ?_))
  obtain ⟨p, p1, p2, p3⟩ := c5 g hg z
  have := (nI_eq (by omega) (by decide)).mp (p3.symm.trans hp)
  omega
theorem loadT_stop {c k n : Nat} {σ : KT} (h : tNext σ (tZ σ 0 c - tZ σ 2 c) = -1) : loadT c k σ n = (σ, n) := by
  cases k with
  | zero => rfl
  | succ k => simp only [loadT]; rw [if_pos h]
theorem loadT_go {c k n g : Nat} {σ : KT} (h : tNext σ (tZ σ 0 c - tZ σ 2 c) = nI g) (hg : g < 2 ^ 31) : loadT c (k + 1) σ n = loadT c k (boardT σ g c) (n + 1) := by
  simp only [loadT]
  rw [if_neg (by rw [h]; exact nI_m1 hg), h, nI_clamp hg]
/-- the chair's count put back: what the reference holds while it loads -/
def held (σ : KT) (c : Nat) (t0 : Int32) : KT := tset σ 4 c t0
theorem held_taken {σ τ : KT} {c : Nat} (h : ∀ j, j < tC σ → tZ (held τ c (tZ σ 4 c)) 4 j = tZ σ 4 j) (hC : tC τ = tC σ) : tTaken (held τ c (tZ σ 4 c)) = tTaken σ := by
  unfold tTaken
  rw [show tC (held τ c (tZ σ 4 c)) = tC σ from hC]
  exact isum_congr _ h
theorem mSt_congr {P : Nat} {D : KI → Nat → Int32} {σ τ : KT} (h : mSt P D σ) (hC : tC τ = tC σ) (hG : tG τ = tG σ) (hS : tS τ = tS σ) (hQ : tQ τ = tQ σ) (hZ : ∀ f j, f ≠ 2 → f ≠ 3 → tZ τ f j = tZ σ f j) : mSt P D τ := by
  have e := fun f j (a : f ≠ 2 ∧ f ≠ 3) => hZ f j a.1 a.2
  have e1 := fun j => e 1 j (by decide)
  have e4 := fun j => e 4 j (by decide)
  have e10 := fun j => e 10 j (by decide)
  have e11 := fun j => e 11 j (by decide)
  have e12 := fun j => e 12 j (by decide)
  have e13 := fun j => e 13 j (by decide)
  have e14 := fun j => e 14 j (by decide)
  have e15 := fun j => e 15 j (by decide)
  have e16 := fun j => e 16 j (by decide)
  have e17 := fun j => e 17 j (by decide)
  have e22 := fun j => e 22 j (by decide)
  have e39 := fun j => e 39 j (by decide)
  have e40 := fun j => e 40 j (by decide)
  have e41 := fun j => e 41 j (by decide)
  have e42 := fun j => e 42 j (by decide)
  have e43 := fun j => e 43 j (by decide)
  simp only [mSt, mSc, mArr, mGr, tCold, tTaken, hC, hG, hS, hQ, e1, e4, e10, e11, e12, e13, e14, e15, e16, e17, e22, e39, e40, e41, e42, e43] at h ⊢
  exact h
theorem mArr_congr {P : Nat} {D : KI → Nat → Int32} {σ τ : KT} (h : mArr P D σ) (hC : tC τ = tC σ) (hG : tG τ = tG σ) (hS : tS τ = tS σ) (hQ : tQ τ = tQ σ) (hZ : ∀ f j, f ≠ 2 → f ≠ 3 → f < 38 → tZ τ f j = tZ σ f j) : mArr P D τ := by
  have e := fun f j (a : f ≠ 2 ∧ f ≠ 3 ∧ f < 38) => hZ f j a.1 a.2.1 a.2.2
  have e1 := fun j => e 1 j (by decide)
  have e4 := fun j => e 4 j (by decide)
  have e10 := fun j => e 10 j (by decide)
  have e11 := fun j => e 11 j (by decide)
  have e12 := fun j => e 12 j (by decide)
  have e13 := fun j => e 13 j (by decide)
  have e14 := fun j => e 14 j (by decide)
  have e15 := fun j => e 15 j (by decide)
  have e16 := fun j => e 16 j (by decide)
  have e17 := fun j => e 17 j (by decide)
  have e22 := fun j => e 22 j (by decide)
  simp only [mArr, mGr, hC, hG, hS, hQ, e1, e4, e10, e11, e12, e13, e14, e15, e16, e17, e22] at h ⊢
  exact h
theorem tC_held {τ : KT} {c : Nat} {v : Int32} : tC (held τ c v) = tC τ := rfl
theorem tG_held {τ : KT} {c : Nat} {v : Int32} : tG (held τ c v) = tG τ := rfl
theorem tS_held {τ : KT} {c : Nat} {v : Int32} : tS (held τ c v) = tS τ := rfl
theorem tQ_held {τ : KT} {c : Nat} {v : Int32} : tQ (held τ c v) = tQ τ := rfl
theorem tZ_held {τ : KT} {c : Nat} {v : Int32} : tZ (held τ c v) = zup (tZ τ) 4 c v := rfl
theorem tS_boardT {σ : KT} {g c : Nat} : tS (boardT σ g c) = tS σ := tS_takeOut
