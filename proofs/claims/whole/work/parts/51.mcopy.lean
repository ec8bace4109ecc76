/-! The reference: one array copied. -/
section MCOPY
variable {D : KI → Nat → Int32} {G : KI → Nat → Int64}
theorem m_copy {k : Nat} (h1 : 9 ≤ k) (h2 : k ≤ 21) : SpQ mX6_copy 0 0 [kR (some (6, 3, 0)), kR (some (8, 2, k)), kR (some (8, 3, k))] (km D G) (fun v M' => v = none ∧ ∃ D', M' = km D' G ∧ (∀ j, j < kN8 2 k → D' (8, 3, k) j = D (8, 2, k) j) ∧ ∀ a, a ≠ (8, 3, k) → D' a = D a) := by
  refine SpQ_of (own := 6) (ini := false) (by decide +kernel) rfl (by decide) (Nat.le_of_ble_eq_true rfl) ?_
  intro X hC hE hL0
  have l2 : kLive (8, 2, k) := mLive8 (Or.inl rfl) h1 h2
  have l3 : kLive (8, 3, k) := mLive8 (Or.inr rfl) h1 h2
  have hn : kN8 2 k ≤ 364 := by
    rw [kN8_P (Or.inl rfl)]
    split
    · omega
    · split
      · omega
      · split <;> omega
  have hn3 : kN8 3 k = kN8 2 k := by rw [kN8_P (Or.inl rfl), kN8_P (Or.inr rfl)]
  have hc : (Int32.ofNat (kN8 2 k)).toNatClampNeg = kN8 2 k := nI_clamp (by omega)
  have hp : ¬ Int32.ofNat (kN8 2 k) < 0 := nI_pos (by omega)
  refine kwX6_copy_0 hC hE ?_
  simp only [kbX6_copy_0, mX6_copy, kblk, kstp, kent, kpad, kget, kst1, kst2, kc2, cond_false, cond_true, kfv, kfit, kOkf, kputv, kputD, kputG, kcpy, kcat, kRR, kNN, true_and, and_true, if_true, if_false, if_pos, Nat.reduceAdd, Nat.reduceEqDiff, Nat.reduceLeDiff, Nat.reduceLT, reduceIte, Prod.mk.injEq, eq_self, false_and, and_false, reduceCtorEq, Nat.reduceSub, List.reverse_cons, List.reverse_nil, List.nil_append, List.cons_append, Option.toList_some, Option.toList_none, not_true_eq_false, not_false_eq_true, l2, l3, cl0, nl0, kroom, hc, hp, hn3, Nat.zero_add, Nat.le_refl, Nat.reduceLeDiff]
  refine ⟨by decide, ?_⟩
  refine ⟨⟨rfl, _, rfl, fun j hj => ?_, fun a ha => ?_⟩, trivial, Nat.le_refl _, Nat.le_refl _⟩
  · simp only [kset, if_true, va_cpy, Nat.zero_le, true_and, Nat.zero_add, hj, Nat.sub_zero]
  · funext j
    simp [kset, ha]
end MCOPY
