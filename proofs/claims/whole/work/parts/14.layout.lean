/-! THE LAYOUT: which cells there are once both sides stand. Parts: 0 the lift, 1 the trial lift, 2 and 3 the reference's two states, 4 the reference, 9 the rest. -/
def kRR : KI → Nat → Option KI
  | (5, _, _), 0 => some (3, 0, 0)
  | (5, _, _), 1 => some (3, 1, 0)
  | (3, L, _), 0 => some (8, L, 0)
  | (3, L, _), 1 => some (9, L, 0)
  | (3, L, _), 2 => some (11, L, 0)
  | (3, L, _), 3 => some (10, L, 0)
  | (3, L, _), 4 => some (4, L, 0)
  | (2, L, l), 0 => some (4, L, l + 1)
  | (4, L, k), 0 => some (8, L, k + 1)
  | (9, L, _), c => if c < 20 then some (0, L, c) else none
  | (10, L, _), c => if c < 91 then some (1, L, c) else none
  | (11, L, _), c => if c < 4 then some (2, L, c) else none
  | (7, _, _), 4 => some (8, 4, 0)
  | (7, _, _), 5 => some (8, 4, 1)
  | (7, _, _), 6 => some (8, 4, 2)
  | (7, _, _), 7 => some (6, 2, 0)
  | (7, _, _), 8 => some (6, 3, 0)
  | (6, P, _), 9 => some (8, P, 9)
  | (6, P, _), 10 => some (8, P, 10)
  | (6, P, _), 11 => some (8, P, 11)
  | (6, P, _), 12 => some (8, P, 12)
  | (6, P, _), 13 => some (8, P, 13)
  | (6, P, _), 14 => some (8, P, 14)
  | (6, P, _), 15 => some (8, P, 15)
  | (6, P, _), 16 => some (8, P, 16)
  | (6, P, _), 17 => some (8, P, 17)
  | (6, P, _), 18 => some (8, P, 18)
  | (6, P, _), 19 => some (8, P, 19)
  | (6, P, _), 20 => some (8, P, 20)
  | (6, P, _), 21 => some (8, P, 21)
  | (6, _, _), 22 => some (7, 4, 0)
  | _, _ => none
def kN8 (L k : Nat) : Nat := if L < 2 then (if k = 0 then 24 else if k = 1 then 20 else 91) else if L = 4 then (if k = 0 then 20 else if k = 1 then 4 else 24) else if k < 12 then 20 else if k < 14 then 4 else if k = 14 then 364 else 91
def kNN : KI → Nat
  | (8, L, k) => kN8 L k
  | (9, _, _) => 20
  | (10, _, _) => 91
  | (11, _, _) => 4
  | (12, _, _) => 1
  | _ => 0
def kLive : KI → Prop
  | (0, L, c) => L < 2 ∧ c < 20
  | (1, L, c) => L < 2 ∧ c < 91
  | (2, L, c) => L < 2 ∧ c < 4
  | (3, L, c) => L < 2 ∧ c = 0
  | (4, L, c) => L < 2 ∧ c < 5
  | (5, a, b) => a = 9 ∧ b = 0
  | (6, P, b) => (P = 2 ∨ P = 3) ∧ b = 0
  | (7, a, b) => a = 4 ∧ b = 0
  | (8, L, k) => (L < 2 ∧ k < 6) ∨ ((L = 2 ∨ L = 3) ∧ 9 ≤ k ∧ k ≤ 21) ∨ (L = 4 ∧ k < 3)
  | (9, L, c) => L < 2 ∧ c = 0
  | (10, L, c) => L < 2 ∧ c = 0
  | (11, L, c) => L < 2 ∧ c = 0
  | (12, a, b) => a = 9 ∧ b = 0
  | _ => False
/-- the memory once both sides stand: only its ints and longs move -/
abbrev km (D : KI → Nat → Int32) (G : KI → Nat → Int64) : KM := (kLive, kRR, D, G, kNN)
theorem km_live {D : KI → Nat → Int32} {G : KI → Nat → Int64} {i : KI} (h : kLive i) : (km D G).1 i := h
theorem kN_wind {L : Nat} (h : L < 2) : kN8 L 0 = 24 := by simp [kN8, h]
theorem kN_shed {L : Nat} (h : L < 2) : kN8 L 1 = 20 := by simp [kN8, h]
theorem kN_lane {L : Nat} (h : L < 2) (k : Nat) : kN8 L (k + 2) = 91 := by simp [kN8, h]
theorem kRR_live : ∀ (i : KI) (j : Nat) (r : KI), kLive i → kRR i j = some r → kLive r := by
  intro i j r hi hr
  unfold kRR at hr
  split at hr <;> (try split at hr) <;> cases hr <;> simp_all [kLive] <;> omega
