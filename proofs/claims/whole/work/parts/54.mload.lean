/-! The reference: loading. -/
theorem wf_empty0 {b h : Nat} {σ : KT} (hw : kWf0 b h 1 h σ) {c : Nat} (hc : c < tC σ) (hp : tZ σ 1 c = nI 0) : tZ σ 2 c = 0 := by
  have hh := hw.2.2.1.2.1
  obtain ⟨-, c2, -, -, c5, -⟩ := hw.2.2.2.1 c hc
  rw [c2]
  refine isum_zero _ (fun g hg => if_neg (fun z => ?_))
  obtain ⟨p, p1, p2, p3⟩ := c5 g hg z
  have := (nI_eq (by omega) (by decide)).mp (p3.symm.trans hp)
  omega
theorem loadT_stop {c k n : Nat} {σ : KT} (h : tNext σ (tZ σ 0 c - tZ σ 2 c) = -1) : loadT c k σ n = (σ, n) := by
  cases k with
  | zero => rfl
  | succ k => simp only [loadT]; rw [if_pos h]
theorem loadT_go {c k n g : Nat} {σ : KT} (h : tNext σ (tZ σ 0 c - tZ σ 2 c) = nI g) (hg : g < 2 ^ 31) : loadT c (k + 1) σ n = loadT c k (boardT σ g c) (n + 1) := by
  simp only [loadT]
  rw [if_neg (by rw [h]; exact nI_m1 hg), h, nI_clamp hg]
/-- the chair's count put back: what the reference holds while it loads -/
def held (σ : KT) (c : Nat) (t0 : Int32) : KT := tset σ 4 c t0
theorem held_taken {σ τ : KT} {c : Nat} (h : ∀ j, j < tC σ → tZ (held τ c (tZ σ 4 c)) 4 j = tZ σ 4 j) (hC : tC τ = tC σ) : tTaken (held τ c (tZ σ 4 c)) = tTaken σ := by
  unfold tTaken
  rw [show tC (held τ c (tZ σ 4 c)) = tC σ from hC]
  exact isum_congr _ h
