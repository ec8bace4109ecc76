/-! The constructor of a lift. -/
def kE (i : KI) (M M' : KM) : Prop := (M'.1 i ↔ M.1 i) ∧ M'.2.1 i = M.2.1 i ∧ M'.2.2.1 i = M.2.2.1 i ∧ M'.2.2.2.1 i = M.2.2.2.1 i ∧ M'.2.2.2.2 i = M.2.2.2.2 i
theorem kE.rf {i : KI} {M : KM} : kE i M M := ⟨Iff.rfl, rfl, rfl, rfl, rfl⟩
theorem kE.tr {i : KI} {M M1 M2 : KM} (h : kE i M M1) (h2 : kE i M1 M2) : kE i M M2 := by
  obtain ⟨a, b, c, d, e⟩ := h
  obtain ⟨a2, b2, c2, d2, e2⟩ := h2
  exact ⟨a2.trans a, b2.trans b, c2.trans c, d2.trans d, e2.trans e⟩
theorem kE.new {i : KI} {M M1 : KM} (h : kE i M M1) {x : KI} {n : Nat} (hi : i ≠ x) : kE i M (knew M1 x n) := h.tr (kO_new i hi)
theorem kE.putD {i : KI} {M M1 : KM} (h : kE i M M1) {x : KI} {j : Nat} {v : Int32} (hi : i ≠ x) : kE i M (kputD M1 x j v) := h.tr (kO_D i hi)
theorem kE.putR {i : KI} {M M1 : KM} (h : kE i M M1) {x : KI} {j : Nat} {v : Option KI} (hi : i ≠ x) : kE i M (kputR M1 x j v) := h.tr (kO_R i hi)
theorem kat.new {M : KM} {x i : KI} {r : Nat → Option KI} {z : Nat → Int32} {n n2 : Nat} (h : kat M i r z n) (hi : i ≠ x) : kat (knew M x n2) i r z n := h.o hi kO_new
theorem kat.putD {M : KM} {x i : KI} {r : Nat → Option KI} {z : Nat → Int32} {n j : Nat} {v : Int32} (h : kat M i r z n) (hi : i ≠ x) : kat (kputD M x j v) i r z n := h.o hi kO_D
theorem kat.putR {M : KM} {x i : KI} {r : Nat → Option KI} {z : Nat → Int32} {n j : Nat} {v : Option KI} (h : kat M i r z n) (hi : i ≠ x) : kat (kputR M x j v) i r z n := h.o hi kO_R
/-- a lift's cells so far: nc chairs, nl lanes, ng groups -/
def kLv (nc nl ng : Nat) (i : KI) : Prop := (i.1 = 0 ∧ i.2.2 < nc) ∨ (i.1 = 1 ∧ i.2.2 < ng) ∨ (i.1 = 2 ∧ i.2.2 < nl) ∨ (i.1 = 3 ∧ i.2.2 = 0) ∨ (i.1 = 4 ∧ i.2.2 < nl + 1) ∨ (i.1 = 8 ∧ i.2.2 < nl + 2) ∨ ((i.1 = 9 ∨ i.1 = 10 ∨ i.1 = 11) ∧ i.2.2 = 0)
def kRf (nc nl ng : Nat) (i : KI) (j : Nat) : Option KI := if i.1 = 9 then (if j < nc then some (0, i.2.1, j) else none) else if i.1 = 10 then (if j < ng then some (1, i.2.1, j) else none) else if i.1 = 11 then (if j < nl then some (2, i.2.1, j) else none) else kRR i j
def kZv (i : KI) (j : Nat) : Int32 := if i.1 = 0 ∧ j = 1 then -1 else if i.1 = 3 ∧ j = 8 then 6 else 0
def bInv (M : KM) (L nc nl ng : Nat) (M' : KM) : Prop := (∀ i : KI, i.2.1 ≠ L → kE i M M') ∧ ∀ i : KI, i.2.1 = L → (M'.1 i ↔ kLv nc nl ng i) ∧ (kLv nc nl ng i → M'.2.1 i = kRf nc nl ng i ∧ M'.2.2.1 i = kZv i ∧ M'.2.2.2.2 i = kNN i)
theorem bInv.at {M M' : KM} {L nc nl ng : Nat} (h : bInv M L nc nl ng M') {i : KI} (hi : i.2.1 = L) (hl : kLv nc nl ng i) : kat M' i (kRf nc nl ng i) (kZv i) (kNN i) := ⟨(h.2 i hi).1.mpr hl, ((h.2 i hi).2 hl).1, ((h.2 i hi).2 hl).2.1, ((h.2 i hi).2 hl).2.2⟩
theorem kat.inv {M : KM} {i : KI} {r r' : Nat → Option KI} {z z' : Nat → Int32} {n n' : Nat} {P : Prop} (h : kat M i r z n) (hP : P) (hr : r = r') (hz : z = z') (hn : n = n') : (M.1 i ↔ P) ∧ (P → M.2.1 i = r' ∧ M.2.2.1 i = z' ∧ M.2.2.2.2 i = n') := ⟨⟨fun _ => hP, fun _ => h.1⟩, fun _ => ⟨h.2.1.trans hr, h.2.2.1.trans hz, h.2.2.2.trans hn⟩⟩
theorem neK {a b L c d : Nat} (h : a ≠ b ∨ c ≠ d) : ((a, L, c) : KI) ≠ (b, L, d) := fun z => by
  simp only [Prod.mk.injEq, true_and] at z
  omega
theorem neL {i : KI} {L k c : Nat} (h : i.2.1 ≠ L) : i ≠ (k, L, c) := fun z => h (by rw [z])
theorem bInv.chair {M M' : KM} {L nc nl ng : Nat} (h : bInv M L nc nl ng M') : bInv M L (nc + 1) nl ng (kputR (kputD (knew M' (0, L, nc) 0) (0, L, nc) 1 (-1)) (9, L, 0) nc (some (0, L, nc))) := by
  refine ⟨fun i hi => (((h.1 i hi).new (neL hi)).putD (neL hi)).putR (neL hi), fun i hi => ?_⟩
  by_cases e1 : i = (0, L, nc)
  · subst e1
    refine ((kat_new (M := M') (i := (0, L, nc)) (n := 0)).D (j := 1) (v := -1)).putR (neK (Or.inl (by decide))) |>.inv (Or.inl ⟨rfl, Nat.lt_succ_self _⟩) ?_ ?_ rfl
    · funext b; simp [kRf, kRR]
    · funext b; simp [kZv]
  · by_cases e2 : i = (9, L, 0)
    · subst e2
      have hl : kLv nc nl ng (9, L, 0) := by simp [kLv]
      refine (((h.at rfl hl).new (neK (Or.inl (by decide)))).putD (neK (Or.inl (by decide)))).R.inv (by simp [kLv]) ?_ ?_ rfl
      · funext b
        simp only [kRf, if_true]
        by_cases hb : b = nc
        · rw [if_pos hb, if_pos (by omega), hb]
        · rw [if_neg hb]
          by_cases hb2 : b < nc
          · rw [if_pos hb2, if_pos (by omega)]
          · rw [if_neg hb2, if_neg (by omega)]
      · rfl
    · obtain ⟨a, b, c, d, e⟩ := ((kE.rf (i := i) (M := M')).new (x := (0, L, nc)) (n := 0) e1).putD (x := (0, L, nc)) (j := 1) (v := -1) e1 |>.putR (x := (9, L, 0)) (j := nc) (v := some (0, L, nc)) e2
      obtain ⟨p, q⟩ := h.2 i hi
      obtain ⟨k, l, m⟩ := i
      subst hi
      have hiff : kLv (nc + 1) nl ng (k, l, m) ↔ kLv nc nl ng (k, l, m) := by
        simp only [Prod.mk.injEq, true_and, not_and] at e1
        simp only [kLv]
        constructor
        · rintro (⟨x, y⟩ | w)
          · exact Or.inl ⟨x, by have := e1 x; omega⟩
          · exact Or.inr w
        · rintro (⟨x, y⟩ | w)
          · exact Or.inl ⟨x, by omega⟩
          · exact Or.inr w
      refine ⟨a.trans (p.trans hiff.symm), fun w => ?_⟩
      obtain ⟨q1, q2, q3⟩ := q (hiff.mp w)
      refine ⟨b.trans (q1.trans ?_), c.trans q2, e.trans q3⟩
      have h9 : ¬ k = 9 := fun z => by
        subst z
        have := hiff.mp w
        simp only [kLv] at this
        exact e2 (by have : m = 0 := by omega
                     rw [this])
      funext j
      simp only [kRf, h9, if_false]
theorem bInv.group {M M' : KM} {L nc nl ng : Nat} (h : bInv M L nc nl ng M') : bInv M L nc nl (ng + 1) (kputR (knew M' (1, L, ng) 0) (10, L, 0) ng (some (1, L, ng))) := by
  refine ⟨fun i hi => ((h.1 i hi).new (neL hi)).putR (neL hi), fun i hi => ?_⟩
  by_cases e1 : i = (1, L, ng)
  · subst e1
    refine (kat_new (M := M') (i := (1, L, ng)) (n := 0)).putR (neK (Or.inl (by decide))) |>.inv (Or.inr (Or.inl ⟨rfl, Nat.lt_succ_self _⟩)) ?_ ?_ rfl
    · funext b; simp [kRf, kRR]
    · funext b; simp [kZv]
  · by_cases e2 : i = (10, L, 0)
    · subst e2
      have hl : kLv nc nl ng (10, L, 0) := by simp [kLv]
      refine ((h.at rfl hl).new (neK (Or.inl (by decide)))).R.inv (by simp [kLv]) ?_ ?_ rfl
      · funext b
        simp only [kRf, Nat.reduceEqDiff, if_false, if_true]
        by_cases hb : b = ng
        · rw [if_pos hb, if_pos (by omega), hb]
        · rw [if_neg hb]
          by_cases hb2 : b < ng
          · rw [if_pos hb2, if_pos (by omega)]
          · rw [if_neg hb2, if_neg (by omega)]
      · rfl
    · obtain ⟨a, b, c, d, e⟩ := (kE.rf (i := i) (M := M')).new (x := (1, L, ng)) (n := 0) e1 |>.putR (x := (10, L, 0)) (j := ng) (v := some (1, L, ng)) e2
      obtain ⟨p, q⟩ := h.2 i hi
      obtain ⟨k, l, m⟩ := i
      subst hi
      have hiff : kLv nc nl (ng + 1) (k, l, m) ↔ kLv nc nl ng (k, l, m) := by
        simp only [Prod.mk.injEq, true_and, not_and] at e1
        simp only [kLv]
        constructor
        · rintro (w | ⟨x, y⟩ | w)
          · exact Or.inl w
          · exact Or.inr (Or.inl ⟨x, by have := e1 x; omega⟩)
          · exact Or.inr (Or.inr w)
        · rintro (w | ⟨x, y⟩ | w)
          · exact Or.inl w
          · exact Or.inr (Or.inl ⟨x, by omega⟩)
          · exact Or.inr (Or.inr w)
      refine ⟨a.trans (p.trans hiff.symm), fun w => ?_⟩
      obtain ⟨q1, q2, q3⟩ := q (hiff.mp w)
      refine ⟨b.trans (q1.trans ?_), c.trans q2, e.trans q3⟩
      have h9 : ¬ k = 10 := fun z => by
        subst z
        have := hiff.mp w
        simp only [kLv] at this
        exact e2 (by have : m = 0 := by omega
                     rw [this])
      funext j
      simp only [kRf, h9, if_false]
theorem bInv.lane {M M' : KM} {L nc nl ng : Nat} (hL : L < 2) (h : bInv M L nc nl ng M') : bInv M L nc (nl + 1) ng (kputR (kputR (kputR (knew (knew (knew M' (2, L, nl) 0) (4, L, nl + 1) 0) (8, L, nl + 2) 91) (4, L, nl + 1) 0 (some (8, L, nl + 2))) (2, L, nl) 0 (some (4, L, nl + 1))) (11, L, 0) nl (some (2, L, nl))) := by
  refine ⟨fun i hi => ((((((h.1 i hi).new (neL hi)).new (neL hi)).new (neL hi)).putR (neL hi)).putR (neL hi)).putR (neL hi), fun i hi => ?_⟩
  by_cases e1 : i = (2, L, nl)
  · subst e1
    refine ((((((kat_new (M := M') (i := (2, L, nl)) (n := 0)).new (x := (4, L, nl + 1)) (n2 := 0) (neK (Or.inl (by decide)))).new (x := (8, L, nl + 2)) (n2 := 91) (neK (Or.inl (by decide)))).putR (neK (Or.inl (by decide)))).R).putR (neK (Or.inl (by decide)))).inv (Or.inr (Or.inr (Or.inl ⟨rfl, Nat.lt_succ_self _⟩))) ?_ ?_ rfl
    · funext b
      cases b with
      | zero => simp [kRf, kRR]
      | succ b => simp [kRf, kRR]
    · funext b; simp [kZv]
  by_cases e4 : i = (4, L, nl + 1)
  · subst e4
    refine (((((kat_new (M := knew M' (2, L, nl) 0) (i := (4, L, nl + 1)) (n := 0)).new (x := (8, L, nl + 2)) (n2 := 91) (neK (Or.inl (by decide)))).R).putR (neK (Or.inl (by decide)))).putR (neK (Or.inl (by decide)))).inv (Or.inr (Or.inr (Or.inr (Or.inr (Or.inl ⟨rfl, by show nl + 1 < nl + 1 + 1; omega⟩))))) ?_ ?_ rfl
    · funext b
      cases b with
      | zero => simp [kRf, kRR]
      | succ b => simp [kRf, kRR]
    · funext b; simp [kZv]
  by_cases e8 : i = (8, L, nl + 2)
  · subst e8
    refine ((((kat_new (M := knew (knew M' (2, L, nl) 0) (4, L, nl + 1) 0) (i := (8, L, nl + 2)) (n := 91)).putR (neK (Or.inl (by decide)))).putR (neK (Or.inl (by decide)))).putR (neK (Or.inl (by decide)))).inv (Or.inr (Or.inr (Or.inr (Or.inr (Or.inr (Or.inl ⟨rfl, by show nl + 2 < nl + 1 + 2; omega⟩)))))) ?_ ?_ ?_
    · funext b; simp [kRf, kRR]
    · funext b; simp [kZv]
    · simp [kNN, kN8, hL]
  by_cases e2 : i = (11, L, 0)
  · subst e2
    have hl : kLv nc nl ng (11, L, 0) := by simp [kLv]
    refine ((((((h.at rfl hl).new (neK (Or.inl (by decide)))).new (neK (Or.inl (by decide)))).new (neK (Or.inl (by decide)))).putR (neK (Or.inl (by decide)))).putR (neK (Or.inl (by decide)))).R.inv (by simp [kLv]) ?_ ?_ rfl
    · funext b
      simp only [kRf, Nat.reduceEqDiff, if_false, if_true]
      by_cases hb : b = nl
      · rw [if_pos hb, if_pos (by omega), hb]
      · rw [if_neg hb]
        by_cases hb2 : b < nl
        · rw [if_pos hb2, if_pos (by omega)]
        · rw [if_neg hb2, if_neg (by omega)]
    · rfl
  · obtain ⟨a, b, c, d, e⟩ := ((((((kE.rf (i := i) (M := M')).new (x := (2, L, nl)) (n := 0) e1).new (x := (4, L, nl + 1)) (n := 0) e4).new (x := (8, L, nl + 2)) (n := 91) e8).putR (x := (4, L, nl + 1)) (j := 0) (v := some (8, L, nl + 2)) e4).putR (x := (2, L, nl)) (j := 0) (v := some (4, L, nl + 1)) e1).putR (x := (11, L, 0)) (j := nl) (v := some (2, L, nl)) e2
    obtain ⟨p, q⟩ := h.2 i hi
    obtain ⟨k, l, m⟩ := i
    subst hi
    have hiff : kLv nc (nl + 1) ng (k, l, m) ↔ kLv nc nl ng (k, l, m) := by
      simp only [Prod.mk.injEq, true_and, not_and] at e1 e4 e8
      simp only [kLv]
      constructor
      · rintro (w | w | ⟨x, y⟩ | w | ⟨x, y⟩ | ⟨x, y⟩ | w)
        · exact Or.inl w
        · exact Or.inr (Or.inl w)
        · exact Or.inr (Or.inr (Or.inl ⟨x, by have := e1 x; omega⟩))
        · exact Or.inr (Or.inr (Or.inr (Or.inl w)))
        · exact Or.inr (Or.inr (Or.inr (Or.inr (Or.inl ⟨x, by have := e4 x; omega⟩))))
        · exact Or.inr (Or.inr (Or.inr (Or.inr (Or.inr (Or.inl ⟨x, by have := e8 x; omega⟩)))))
        · exact Or.inr (Or.inr (Or.inr (Or.inr (Or.inr (Or.inr w)))))
      · rintro (w | w | ⟨x, y⟩ | w | ⟨x, y⟩ | ⟨x, y⟩ | w)
        · exact Or.inl w
        · exact Or.inr (Or.inl w)
        · exact Or.inr (Or.inr (Or.inl ⟨x, by omega⟩))
        · exact Or.inr (Or.inr (Or.inr (Or.inl w)))
        · exact Or.inr (Or.inr (Or.inr (Or.inr (Or.inl ⟨x, by omega⟩))))
        · exact Or.inr (Or.inr (Or.inr (Or.inr (Or.inr (Or.inl ⟨x, by omega⟩)))))
        · exact Or.inr (Or.inr (Or.inr (Or.inr (Or.inr (Or.inr w)))))
    refine ⟨a.trans (p.trans hiff.symm), fun w => ?_⟩
    obtain ⟨q1, q2, q3⟩ := q (hiff.mp w)
    refine ⟨b.trans (q1.trans ?_), c.trans q2, e.trans q3⟩
    have h9 : ¬ k = 11 := fun z => by
      subst z
      have := hiff.mp w
      simp only [kLv] at this
      exact e2 (by have : m = 0 := by omega
                   rw [this])
    funext j
    simp only [kRf, h9, if_false]
