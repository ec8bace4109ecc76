/-! Remainders of numbers. -/
theorem irem_nat {a b : Nat} (ha : a < 2 ^ 31) (hb : b < 2 ^ 31) (h0 : 0 < b) : nI a - nI a / nI b * nI b = nI (a % b) := by
  have hd : nI a / nI b = nI (a / b) := by
    rw [← Int32.toInt_inj, Int32.toInt_div_of_ne_right _ _ (nI_m1 hb), nI_toInt ha, nI_toInt hb, nI_toInt (Nat.lt_of_le_of_lt (Nat.div_le_self a b) ha)]
    exact (Int.ofNat_tdiv a b).symm
  rw [hd, nI_mul, nI_subn (Nat.div_mul_le_self a b)]
  congr 1
  have := Nat.div_add_mod a b
  rw [Nat.mul_comm] at this
  omega
theorem nI_nz {b : Nat} (hb : b < 2 ^ 31) (h0 : 0 < b) : ¬ nI b = 0 := fun z => by
  have := (nI_eq (b := 0) hb (by decide)).mp z
  omega
/-- the lane behind, as a remainder -/
theorem behind_mod {σ : KT} {l : Nat} (hL : tL σ ≤ 4) (hl : l < tL σ) : behind σ (nI l) = nI ((l + 1) % tL σ) := by
  unfold behind
  rw [nI_1]
  by_cases h : l + 1 < tL σ
  · rw [if_pos (nI_lt h (by omega)), Nat.mod_eq_of_lt h]
  · rw [if_neg (fun z => h (nI_ltr (by omega) (by omega) z))]
    have : l + 1 = tL σ := by omega
    rw [this, Nat.mod_self]
    rfl
