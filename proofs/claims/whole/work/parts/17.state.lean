/-! THE MATHEMATICAL STATE of a lift: counts, fields, queues, shed. Field numbers: chairs 0 seats, 1 place, 2 riders, 3 groups, 4 taken; groups 10 size, 11 patience, 12 state, 13 lane, 14 chair, 15 joined, 16 up, 17 colder; lanes 21 shut, 22 taken; 38 half, 39 wanted, 40 turn, 41 step, 42 stood, 43 loadings (place 0); 50 the winds. -/
abbrev KT : Type := (Nat × Nat × Nat) × (Nat → Nat → Int32) × (Nat → List Nat) × List Nat
def tC (σ : KT) : Nat := σ.1.1
def tL (σ : KT) : Nat := σ.1.2.1
def tG (σ : KT) : Nat := σ.1.2.2
def tZ (σ : KT) : Nat → Nat → Int32 := σ.2.1
def tQ (σ : KT) : Nat → List Nat := σ.2.2.1
def tS (σ : KT) : List Nat := σ.2.2.2
def zup (Z : Nat → Nat → Int32) (f i : Nat) (v : Int32) : Nat → Nat → Int32 := fun a b => if a = f ∧ b = i then v else Z a b
def qup (q : Nat → List Nat) (l : Nat) (xs : List Nat) : Nat → List Nat := fun a => if a = l then xs else q a
def tset (σ : KT) (f i : Nat) (v : Int32) : KT := (σ.1, zup σ.2.1 f i v, σ.2.2.1, σ.2.2.2)
def tsetQ (σ : KT) (l : Nat) (xs : List Nat) : KT := (σ.1, σ.2.1, qup σ.2.2.1 l xs, σ.2.2.2)
def tsetS (σ : KT) (xs : List Nat) : KT := (σ.1, σ.2.1, σ.2.2.1, xs)
abbrev tMod0 : Unit := ()
def tMod (σ : KT) (Z : Nat → Nat → Int32) : KT := (σ.1, Z, σ.2.2)
def tcnt (σ : KT) (a b c : Nat) : KT := ((a, b, c), σ.2)
theorem tZ_tset {σ : KT} {f i : Nat} {v : Int32} : tZ (tset σ f i v) = zup (tZ σ) f i v := rfl
theorem tQ_tset {σ : KT} {f i : Nat} {v : Int32} : tQ (tset σ f i v) = tQ σ := rfl
theorem tS_tset {σ : KT} {f i : Nat} {v : Int32} : tS (tset σ f i v) = tS σ := rfl
theorem tC_tset {σ : KT} {f i : Nat} {v : Int32} : tC (tset σ f i v) = tC σ := rfl
theorem tL_tset {σ : KT} {f i : Nat} {v : Int32} : tL (tset σ f i v) = tL σ := rfl
theorem tG_tset {σ : KT} {f i : Nat} {v : Int32} : tG (tset σ f i v) = tG σ := rfl
theorem tZ_tsetQ {σ : KT} {l : Nat} {xs : List Nat} : tZ (tsetQ σ l xs) = tZ σ := rfl
theorem tQ_tsetQ {σ : KT} {l : Nat} {xs : List Nat} : tQ (tsetQ σ l xs) = qup (tQ σ) l xs := rfl
theorem tS_tsetQ {σ : KT} {l : Nat} {xs : List Nat} : tS (tsetQ σ l xs) = tS σ := rfl
theorem tC_tsetQ {σ : KT} {l : Nat} {xs : List Nat} : tC (tsetQ σ l xs) = tC σ := rfl
theorem tL_tsetQ {σ : KT} {l : Nat} {xs : List Nat} : tL (tsetQ σ l xs) = tL σ := rfl
theorem tG_tsetQ {σ : KT} {l : Nat} {xs : List Nat} : tG (tsetQ σ l xs) = tG σ := rfl
theorem tZ_tsetS {σ : KT} {xs : List Nat} : tZ (tsetS σ xs) = tZ σ := rfl
theorem tQ_tsetS {σ : KT} {xs : List Nat} : tQ (tsetS σ xs) = tQ σ := rfl
theorem tS_tsetS {σ : KT} {xs : List Nat} : tS (tsetS σ xs) = xs := rfl
theorem tC_tsetS {σ : KT} {xs : List Nat} : tC (tsetS σ xs) = tC σ := rfl
theorem tL_tsetS {σ : KT} {xs : List Nat} : tL (tsetS σ xs) = tL σ := rfl
theorem tG_tsetS {σ : KT} {xs : List Nat} : tG (tsetS σ xs) = tG σ := rfl
theorem tZ_tMod {σ : KT} {Z : Nat → Nat → Int32} : tZ (tMod σ Z) = Z := rfl
theorem tQ_tMod {σ : KT} {Z : Nat → Nat → Int32} : tQ (tMod σ Z) = tQ σ := rfl
theorem tS_tMod {σ : KT} {Z : Nat → Nat → Int32} : tS (tMod σ Z) = tS σ := rfl
theorem tC_tMod {σ : KT} {Z : Nat → Nat → Int32} : tC (tMod σ Z) = tC σ := rfl
theorem tL_tMod {σ : KT} {Z : Nat → Nat → Int32} : tL (tMod σ Z) = tL σ := rfl
theorem tG_tMod {σ : KT} {Z : Nat → Nat → Int32} : tG (tMod σ Z) = tG σ := rfl
theorem tZ_tcnt {σ : KT} {a b c : Nat} : tZ (tcnt σ a b c) = tZ σ := rfl
theorem tQ_tcnt {σ : KT} {a b c : Nat} : tQ (tcnt σ a b c) = tQ σ := rfl
theorem tS_tcnt {σ : KT} {a b c : Nat} : tS (tcnt σ a b c) = tS σ := rfl
theorem tC_tcnt {σ : KT} {a b c : Nat} : tC (tcnt σ a b c) = a := rfl
theorem tL_tcnt {σ : KT} {a b c : Nat} : tL (tcnt σ a b c) = b := rfl
theorem tG_tcnt {σ : KT} {a b c : Nat} : tG (tcnt σ a b c) = c := rfl
theorem zup_ne {Z : Nat → Nat → Int32} {f i a b : Nat} {v : Int32} (h : a ≠ f) : zup Z f i v a b = Z a b := by simp [zup, h]
theorem zup_ne2 {Z : Nat → Nat → Int32} {f i a b : Nat} {v : Int32} (h : b ≠ i) : zup Z f i v a b = Z a b := by simp [zup, h]
theorem zup_eq {Z : Nat → Nat → Int32} {f i : Nat} {v : Int32} : zup Z f i v f i = v := by simp [zup]
theorem qup_eq {q : Nat → List Nat} {l : Nat} {xs : List Nat} : qup q l xs l = xs := by simp [qup]
theorem qup_ne {q : Nat → List Nat} {l a : Nat} {xs : List Nat} (h : a ≠ l) : qup q l xs a = q a := by simp [qup, h]
/-- up to its count; for the real lift (part 0) all that are built -/
def lim (L n m : Nat) : Nat := if L = 0 then m else n
theorem lim_of {L n m i : Nat} (h : i < n) (hn : n ≤ m) : i < lim L n m := by
  unfold lim
  split <;> omega
/-- the lift of part L holds σ -/
def kOld (L : Nat) (D : KI → Nat → Int32) (σ : KT) (nC nL nG : Nat) : Prop :=
  (D (3, L, 0) 5 = nI (tC σ) ∧ D (3, L, 0) 6 = nI (tL σ) ∧ D (3, L, 0) 7 = nI (tG σ)) ∧
  (∀ j, 8 ≤ j → j ≤ 13 → D (3, L, 0) j = tZ σ (30 + j) 0) ∧
  (∀ c, c < nC → ∀ j, j < 5 → D (0, L, c) j = tZ σ j c) ∧
  (∀ g, g < nG → ∀ j, j < 8 → D (1, L, g) j = tZ σ (10 + j) g) ∧
  (∀ l, l < nL → ∀ j, 1 ≤ j → j ≤ 2 → D (2, L, l) j = tZ σ (20 + j) l) ∧
  (∀ t, t < 24 → D (8, L, 0) t = tZ σ 50 t) ∧
  rowRep D L 0 (tS σ) ∧ ∀ l, l < nL → rowRep D L (l + 1) (tQ σ l)
def kRep (L : Nat) (D : KI → Nat → Int32) (σ : KT) : Prop := (tC σ ≤ 20 ∧ tL σ ≤ 4 ∧ tG σ ≤ 91) ∧ kOld L D σ (lim L (tC σ) 20) (lim L (tL σ) 4) (lim L (tG σ) 91)
theorem kRep.old {L : Nat} {D : KI → Nat → Int32} {σ : KT} (h : kRep L D σ) : kOld L D σ (tC σ) (tL σ) (tG σ) := by
  obtain ⟨⟨b1, b2, b3⟩, h1, h2, h3, h4, h5, h6, h7, h8⟩ := h
  exact ⟨h1, h2, fun c hc => h3 c (lim_of hc b1), fun c hc => h4 c (lim_of hc b3), fun c hc => h5 c (lim_of hc b2), h6, h7, fun c hc => h8 c (lim_of hc b2)⟩
def kOff (L : Nat) (D' D : KI → Nat → Int32) : Prop := ∀ i : KI, i.2.1 ≠ L → D' i = D i
theorem kOff.refl {L : Nat} {D : KI → Nat → Int32} : kOff L D D := fun _ _ => rfl
theorem kOff.trans {L : Nat} {D1 D2 D3 : KI → Nat → Int32} (h1 : kOff L D1 D2) (h2 : kOff L D2 D3) : kOff L D1 D3 := fun i hi => (h1 i hi).trans (h2 i hi)
theorem kOff.put {L a b j : Nat} {D : KI → Nat → Int32} {v : Int32} : kOff L (kput D (a, L, b) j v) D := by
  intro i hi
  funext k
  have : i ≠ (a, L, b) := fun z => hi (by rw [z])
  simp [kput, this]
theorem kOff.row {L k : Nat} {D D' : KI → Nat → Int32} (h : rowOff D' D L k) : kOff L D' D := by
  intro i hi
  exact h i (fun z => hi (by rw [z])) (fun z => hi (by rw [z]))
/-- how many there may be, and that numbers in rows are numbers of things -/
def kB (σ : KT) : Prop := tC σ ≤ 20 ∧ tL σ ≤ 4 ∧ tG σ ≤ 91 ∧ (∀ x ∈ tS σ, x < tC σ) ∧ ∀ l, l < tL σ → ∀ x ∈ tQ σ l, x < tG σ
theorem rowRep.keep {D D' : KI → Nat → Int32} {L k : Nat} {xs : List Nat} (h : rowRep D L k xs) (h1 : D' (4, L, k) 1 = D (4, L, k) 1) (h2 : ∀ i, i < xs.length → D' (8, L, k + 1) i = D (8, L, k + 1) i) : rowRep D' L k xs :=
  ⟨h1.trans h.1, fun i x hx => (h2 i (List.getElem?_eq_some_iff.mp hx).1).trans (h.2 i x hx)⟩
theorem rep_put {L : Nat} {D : KI → Nat → Int32} {σ : KT} (h : kRep L D σ) (a n j f i : Nat) (v : Int32)
    (hloc : (a = 0 ∧ j < 5 ∧ f = j ∧ i = n) ∨ (a = 1 ∧ j < 8 ∧ f = 10 + j ∧ i = n) ∨ (a = 2 ∧ 1 ≤ j ∧ j ≤ 2 ∧ f = 20 + j ∧ i = n) ∨ (a = 3 ∧ n = 0 ∧ 8 ≤ j ∧ j ≤ 13 ∧ f = 30 + j ∧ i = 0) ∨ (a = 8 ∧ n = 0 ∧ f = 50 ∧ i = j)) : kRep L (kput D (a, L, n) j v) (tset σ f i v) := by
  obtain ⟨bb, ⟨h1, h2, h3⟩, h4, h5, h6, h7, h8, h9, h10⟩ := h
  have key : ∀ (a' n' j' f' i' : Nat), ((a' = 0 ∧ j' < 5 ∧ f' = j' ∧ i' = n') ∨ (a' = 1 ∧ j' < 8 ∧ f' = 10 + j' ∧ i' = n') ∨ (a' = 2 ∧ 1 ≤ j' ∧ j' ≤ 2 ∧ f' = 20 + j' ∧ i' = n') ∨ (a' = 3 ∧ n' = 0 ∧ 8 ≤ j' ∧ j' ≤ 13 ∧ f' = 30 + j' ∧ i' = 0) ∨ (a' = 8 ∧ n' = 0 ∧ f' = 50 ∧ i' = j')) → D (a', L, n') j' = tZ σ f' i' → kput D (a, L, n) j v (a', L, n') j' = zup (tZ σ) f i v f' i' := by
    intro a' n' j' f' i' hl' he
    by_cases hc : a' = a ∧ n' = n ∧ j' = j
    · obtain ⟨rfl, rfl, rfl⟩ := hc
      have : f' = f ∧ i' = i := by omega
      simp [kput, zup, this]
    · have h1 : ¬ ((a', L, n') = (a, L, n) ∧ j' = j) := by
        intro z
        simp only [Prod.mk.injEq, true_and] at z
        exact hc ⟨z.1.1, z.1.2, z.2⟩
      have h2 : ¬ (f' = f ∧ i' = i) := by omega
      simp only [kput, zup, h1, h2, if_false]
      exact he
  have row : ∀ k xs, rowRep D L k xs → rowRep (kput D (a, L, n) j v) L k xs := by
    intro k xs hx
    refine hx.keep ?_ (fun i' _ => ?_)
    · have : ¬ ((4, L, k) = (a, L, n) ∧ 1 = j) := by
        simp only [Prod.mk.injEq, true_and]; omega
      simp only [kput, this, if_false]
    · have : ¬ ((8, L, k + 1) = (a, L, n) ∧ i' = j) := by
        simp only [Prod.mk.injEq, true_and]; omega
      simp only [kput, this, if_false]
  have cnt : ∀ j', 5 ≤ j' → j' ≤ 7 → kput D (a, L, n) j v (3, L, 0) j' = D (3, L, 0) j' := by
    intro j' a1 a2
    have : ¬ ((3, L, 0) = (a, L, n) ∧ j' = j) := by
      simp only [Prod.mk.injEq, true_and]; omega
    simp only [kput, this, if_false]
  refine ⟨bb, ⟨(cnt 5 (by omega) (by omega)).trans h1, (cnt 6 (by omega) (by omega)).trans h2, (cnt 7 (by omega) (by omega)).trans h3⟩, fun j' a1 a2 => ?_, fun c hc j' hj => ?_, fun c hc j' hj => ?_, fun c hc j' hj hj2 => ?_, fun t ht => ?_, row _ _ h9, fun l hl => row _ _ (h10 l hl)⟩
  · exact key 3 0 j' (30 + j') 0 (by omega) (h4 j' a1 a2)
  · exact key 0 c j' j' c (by omega) (h5 c hc j' hj)
  · exact key 1 c j' (10 + j') c (by omega) (h6 c hc j' hj)
  · exact key 2 c j' (20 + j') c (by omega) (h7 c hc j' hj hj2)
  · exact key 8 0 t 50 t (by omega) (h8 t ht)
theorem rep_chair {L : Nat} {D : KI → Nat → Int32} {σ : KT} (h : kRep L D σ) (c j : Nat) (v : Int32) (hj : j < 5) : kRep L (kput D (0, L, c) j v) (tset σ j c v) := rep_put h 0 c j j c v (by omega)
theorem rep_group {L : Nat} {D : KI → Nat → Int32} {σ : KT} (h : kRep L D σ) (g j : Nat) (v : Int32) (hj : j < 8) : kRep L (kput D (1, L, g) j v) (tset σ (10 + j) g v) := rep_put h 1 g j (10 + j) g v (by omega)
theorem rep_lane {L : Nat} {D : KI → Nat → Int32} {σ : KT} (h : kRep L D σ) (l j : Nat) (v : Int32) (h1 : 1 ≤ j) (hj : j ≤ 2) : kRep L (kput D (2, L, l) j v) (tset σ (20 + j) l v) := rep_put h 2 l j (20 + j) l v (by omega)
theorem rep_scal {L : Nat} {D : KI → Nat → Int32} {σ : KT} (h : kRep L D σ) (j : Nat) (v : Int32) (h1 : 8 ≤ j) (hj : j ≤ 13) : kRep L (kput D (3, L, 0) j v) (tset σ (30 + j) 0 v) := rep_put h 3 0 j (30 + j) 0 v (by omega)
theorem rep_wind {L : Nat} {D : KI → Nat → Int32} {σ : KT} (h : kRep L D σ) (t : Nat) (v : Int32) : kRep L (kput D (8, L, 0) t v) (tset σ 50 t v) := rep_put h 8 0 t 50 t v (by omega)
theorem rep_rowoff {L k : Nat} {D D' : KI → Nat → Int32} (ho : rowOff D' D L k) : (D' (3, L, 0) = D (3, L, 0)) ∧ (∀ c, D' (0, L, c) = D (0, L, c)) ∧ (∀ c, D' (1, L, c) = D (1, L, c)) ∧ (∀ c, D' (2, L, c) = D (2, L, c)) ∧ D' (8, L, 0) = D (8, L, 0) ∧ ∀ k2 xs, k2 ≠ k → rowRep D L k2 xs → rowRep D' L k2 xs := by
  refine ⟨ho _ (by simp) (by simp), fun c => ho _ (by simp) (by simp), fun c => ho _ (by simp) (by simp), fun c => ho _ (by simp) (by simp), ho _ (by simp) (by simp), fun k2 xs hk hx => ?_⟩
  have e1 : D' (4, L, k2) = D (4, L, k2) := ho _ (by simp [hk]) (by simp)
  have e2 : D' (8, L, k2 + 1) = D (8, L, k2 + 1) := ho _ (by simp) (by simp [hk])
  exact hx.keep (by rw [e1]) (fun i _ => by rw [e2])
theorem rep_shed {L : Nat} {D D' : KI → Nat → Int32} {σ : KT} {xs : List Nat} (h : kRep L D σ) (ho : rowOff D' D L 0) (hr : rowRep D' L 0 xs) : kRep L D' (tsetS σ xs) := by
  obtain ⟨bb, h123, h4, h5, h6, h7, h8, h9, h10⟩ := h
  obtain ⟨e1, e2, e3, e4, e5, e6⟩ := rep_rowoff ho
  refine ⟨bb, by rw [e1]; exact h123, fun j a b => by rw [e1]; exact h4 j a b, fun c hc j hj => by rw [e2]; exact h5 c hc j hj, fun c hc j hj => by rw [e3]; exact h6 c hc j hj, fun c hc j hj => by rw [e4]; exact h7 c hc j hj, fun t ht => by rw [e5]; exact h8 t ht, hr, fun l hl => e6 _ _ (by omega) (h10 l hl)⟩
theorem rep_queue {L l : Nat} {D D' : KI → Nat → Int32} {σ : KT} {xs : List Nat} (h : kRep L D σ) (ho : rowOff D' D L (l + 1)) (hr : rowRep D' L (l + 1) xs) : kRep L D' (tsetQ σ l xs) := by
  obtain ⟨bb, h123, h4, h5, h6, h7, h8, h9, h10⟩ := h
  obtain ⟨e1, e2, e3, e4, e5, e6⟩ := rep_rowoff ho
  refine ⟨bb, by rw [e1]; exact h123, fun j a b => by rw [e1]; exact h4 j a b, fun c hc j hj => by rw [e2]; exact h5 c hc j hj, fun c hc j hj => by rw [e3]; exact h6 c hc j hj, fun c hc j hj => by rw [e4]; exact h7 c hc j hj, fun t ht => by rw [e5]; exact h8 t ht, e6 _ _ (by omega) h9, fun a ha => ?_⟩
  by_cases hal : a = l
  · subst hal
    rw [tQ_tsetQ, qup_eq]
    exact hr
  · rw [tQ_tsetQ, qup_ne hal]
    exact e6 _ _ (by omega) (h10 a ha)
/-- a count grows; in the real lift all is there already -/
theorem rep_cnt {D : KI → Nat → Int32} {σ : KT} (h : kRep 0 D σ) (j n : Nat) (nC nL nG : Nat) (hn : (nC, nL, nG) = (if j = 5 then n else tC σ, if j = 6 then n else tL σ, if j = 7 then n else tG σ)) (hj : 5 ≤ j ∧ j ≤ 7) (hb : nC ≤ 20 ∧ nL ≤ 4 ∧ nG ≤ 91) :
    kRep 0 (kput D (3, 0, 0) j (nI n)) (tcnt σ nC nL nG) := by
  obtain ⟨bb, ⟨h1, h2, h3⟩, h4, h5, h6, h7, h8, h9, h10⟩ := h
  simp only [Prod.mk.injEq] at hn
  obtain ⟨n1, n2, n3⟩ := hn
  have row : ∀ k xs, rowRep D 0 k xs → rowRep (kput D (3, 0, 0) j (nI n)) 0 k xs := fun k xs hx => hx.keep (by simp [kput]) (fun i' _ => by simp [kput])
  refine ⟨hb, ⟨?_, ?_, ?_⟩, fun j' a b => ?_, fun c hc2 j' hj' => ?_, fun c hc2 j' hj' => ?_, fun c hc2 j' hj' hj2 => ?_, fun t ht => ?_, row _ _ h9, fun l hl2 => row _ _ (h10 l hl2)⟩
  · by_cases e : j = 5
    · subst e; simp [kput, n1, tC_tcnt, tL_tcnt, tG_tcnt]
    · have : ¬ (5 = j) := fun z => e z.symm
      simp [kput, this, n1, e, h1, tC_tcnt, tL_tcnt, tG_tcnt]
  · by_cases e : j = 6
    · subst e; simp [kput, n2, tC_tcnt, tL_tcnt, tG_tcnt]
    · have : ¬ (6 = j) := fun z => e z.symm
      simp [kput, this, n2, e, h2, tC_tcnt, tL_tcnt, tG_tcnt]
  · by_cases e : j = 7
    · subst e; simp [kput, n3, tC_tcnt, tL_tcnt, tG_tcnt]
    · have : ¬ (7 = j) := fun z => e z.symm
      simp [kput, this, n3, e, h3, tC_tcnt, tL_tcnt, tG_tcnt]
  · have : ¬ (j' = j) := by omega
    simp only [kput, this, and_false, if_false]
    exact h4 j' a b
  · simp only [kput, Prod.mk.injEq, Nat.reduceEqDiff, false_and, if_false]
    exact h5 c hc2 j' hj'
  · simp only [kput, Prod.mk.injEq, Nat.reduceEqDiff, false_and, if_false]
    exact h6 c hc2 j' hj'
  · simp only [kput, Prod.mk.injEq, Nat.reduceEqDiff, false_and, if_false]
    exact h7 c hc2 j' hj' hj2
  · simp only [kput, Prod.mk.injEq, Nat.reduceEqDiff, false_and, if_false]
    exact h8 t ht
/-! sums over the first n, as the loops make them -/
def isum (f : Nat → Int32) : Nat → Int32
  | 0 => 0
  | n + 1 => isum f n + f n
def tPeople (σ : KT) (s : Int32) : Int32 := isum (fun g => if tZ σ 12 g = s then tZ σ 10 g else 0) (tG σ)
def tInQueue (σ : KT) (l : Int32) : Int32 := isum (fun g => if tZ σ 13 g = l then tZ σ 10 g else 0) (tG σ)
def tCold (σ : KT) : Int32 := isum (fun g => tZ σ 10 g * tZ σ 17 g) (tG σ)
def tTaken (σ : KT) : Int32 := isum (fun c => tZ σ 4 c) (tC σ)
/-- the first chair at a place, -1 if there is none -/
def tAt (σ : KT) (p : Int32) : Nat → Nat → Int32
  | _, 0 => -1
  | i, n + 1 => if tZ σ 1 i = p then nI i else tAt σ p (i + 1) n
def tChairAt (σ : KT) (p : Int32) : Int32 := tAt σ p 0 (tC σ)
def tOnRope (σ : KT) : Int32 := nI (tC σ) - nI (tS σ).length
def tLaneFact (σ : KT) (l what : Nat) : Int32 := if what = 0 then nI (tQ σ l).length else if what = 1 then tInQueue σ (nI l) else if what = 2 then (if tZ σ 21 l = 0 then 0 else 1) else tZ σ 22 l
def tFact (σ : KT) (what : Nat) : Int32 :=
  if what = 0 then tZ σ 41 0 else if what = 1 then nI (tC σ) else if what = 2 then tOnRope σ else if what = 3 then nI (tL σ) else if what = 4 then nI (tG σ) else if what = 5 then tPeople σ 0 else if what = 6 then tPeople σ 1 else if what = 7 then tPeople σ 2 else if what = 8 then tPeople σ 3 else if what = 9 then tZ σ 42 0 else if what = 10 then tZ σ 40 0 else if what = 11 then tCold σ else tZ σ 38 0
