/-! What stands at the law's beginning. -/
theorem kl0 {L c : Nat} (h : c < 20) : kLv 20 4 91 (0, L, c) := Or.inl ⟨rfl, h⟩
theorem kl1 {L c : Nat} (h : c < 91) : kLv 20 4 91 (1, L, c) := Or.inr (Or.inl ⟨rfl, h⟩)
theorem kl2 {L c : Nat} (h : c < 4) : kLv 20 4 91 (2, L, c) := Or.inr (Or.inr (Or.inl ⟨rfl, h⟩))
theorem kl3 {L c : Nat} (h : c = 0) : kLv 20 4 91 (3, L, c) := Or.inr (Or.inr (Or.inr (Or.inl ⟨rfl, h⟩)))
theorem kl4 {L c : Nat} (h : c < 5) : kLv 20 4 91 (4, L, c) := Or.inr (Or.inr (Or.inr (Or.inr (Or.inl ⟨rfl, h⟩))))
theorem kl8 {L c : Nat} (h : c < 6) : kLv 20 4 91 (8, L, c) := Or.inr (Or.inr (Or.inr (Or.inr (Or.inr (Or.inl ⟨rfl, h⟩)))))
theorem kl9 {L c : Nat} (h : c = 0) : kLv 20 4 91 (9, L, c) := Or.inr (Or.inr (Or.inr (Or.inr (Or.inr (Or.inr ⟨Or.inl rfl, h⟩)))))
theorem kl10 {L c : Nat} (h : c = 0) : kLv 20 4 91 (10, L, c) := Or.inr (Or.inr (Or.inr (Or.inr (Or.inr (Or.inr ⟨Or.inr (Or.inl rfl), h⟩)))))
theorem kl11 {L c : Nat} (h : c = 0) : kLv 20 4 91 (11, L, c) := Or.inr (Or.inr (Or.inr (Or.inr (Or.inr (Or.inr ⟨Or.inr (Or.inr rfl), h⟩)))))
theorem all_made {M : KM} {z5 z12 : Nat → Int32} (l0 : liftOK 0 M) (l1 : liftOK 1 M) (h5 : kat M (5, 9, 0) (kRR (5, 9, 0)) z5 0) (h7 : topOK M) (s2 : stOK 2 M) (s3 : stOK 3 M) (h12 : kat M (12, 9, 0) (fun _ => none) z12 1) : KSub (km M.2.2.1 M.2.2.2.1) M := by
  have key : ∀ i : KI, kLive i → M.1 i ∧ M.2.1 i = kRR i ∧ M.2.2.2.2 i = kNN i := by
    have lift : ∀ i : KI, i.2.1 < 2 → kLv 20 4 91 i → M.1 i ∧ M.2.1 i = kRR i ∧ M.2.2.2.2 i = kNN i := by
      intro i hi hl
      have : i.2.1 = 0 ∨ i.2.1 = 1 := by omega
      rcases this with h | h
      · obtain ⟨a, b⟩ := l0 i h
        obtain ⟨b1, b2, b3⟩ := b hl
        exact ⟨a.mpr hl, b1, b3⟩
      · obtain ⟨a, b⟩ := l1 i h
        obtain ⟨b1, b2, b3⟩ := b hl
        exact ⟨a.mpr hl, b1, b3⟩
    intro i hi
    obtain ⟨k, p, q⟩ := i
    match k, hi with
    | 0, hi => exact lift _ hi.1 (kl0 hi.2)
    | 1, hi => exact lift _ hi.1 (kl1 hi.2)
    | 2, hi => exact lift _ hi.1 (kl2 hi.2)
    | 3, hi => exact lift _ hi.1 (kl3 hi.2)
    | 4, hi => exact lift _ hi.1 (kl4 hi.2)
    | 5, hi =>
      obtain ⟨rfl, rfl⟩ := hi
      exact ⟨h5.1, h5.2.1, h5.2.2.2⟩
    | 6, hi =>
      obtain ⟨hp, rfl⟩ := hi
      rcases hp with rfl | rfl
      · exact ⟨s2.1.1, s2.1.2.1, s2.1.2.2.2⟩
      · exact ⟨s3.1.1, s3.1.2.1, s3.1.2.2.2⟩
    | 7, hi =>
      obtain ⟨rfl, rfl⟩ := hi
      exact ⟨h7.1.1, h7.1.2.1, h7.1.2.2.2⟩
    | 8, hi =>
      rcases hi with ⟨h, h'⟩ | ⟨h | h, h', h''⟩ | ⟨h, h'⟩
      · exact lift _ h (kl8 h')
      · subst h
        have := s2.2.1 q h' h''
        exact ⟨this.1, this.2.1, this.2.2.2⟩
      · subst h
        have := s3.2.1 q h' h''
        exact ⟨this.1, this.2.1, this.2.2.2⟩
      · subst h
        have := h7.2 q h'
        exact ⟨this.1, this.2.1, this.2.2.2⟩
    | 9, hi => exact lift _ hi.1 (kl9 hi.2)
    | 10, hi => exact lift _ hi.1 (kl10 hi.2)
    | 11, hi => exact lift _ hi.1 (kl11 hi.2)
    | 12, hi =>
      obtain ⟨rfl, rfl⟩ := hi
      exact ⟨h12.1, h12.2.1, h12.2.2.2⟩
    | k + 13, hi => exact hi.elim
  intro i hi
  obtain ⟨a, b, c⟩ := key i hi
  exact ⟨a, fun j => (congrFun b j).symm, fun j => rfl, fun j => rfl, c.symm, fun j r hr => kRR_live i j r hi hr⟩
/-- the lift as it is made -/
def σ0 : KT := ((0, 0, 0), (fun f _ => if f = 1 then -1 else if f = 38 then 6 else 0), (fun _ => []), [])
theorem lift_D {M : KM} {L : Nat} (l : liftOK L M) {k c : Nat} (h : kLv 20 4 91 (k, L, c)) (j : Nat) : M.2.2.1 (k, L, c) j = kZv (k, L, c) j := by
  rw [((l (k, L, c) rfl).2 h).2.1]
theorem rep_0 {M : KM} (l0 : liftOK 0 M) : kRep 0 M.2.2.1 σ0 := by
  have d := fun (k c : Nat) (h : kLv 20 4 91 (k, 0, c)) (j : Nat) => lift_D l0 h j
  refine ⟨⟨by decide, by decide, by decide⟩, ⟨⟨?_, ?_, ?_⟩, fun j h1 h2 => ?_, fun c hc j hj => ?_, fun g hg j hj => ?_, fun l hl j h1 h2 => ?_, fun t ht => ?_, ⟨?_, fun i x hx => ?_⟩, fun l hl => ⟨?_, fun i x hx => ?_⟩⟩⟩
  · rw [d 3 0 (by simp [kLv])]; rfl
  · rw [d 3 0 (by simp [kLv])]; rfl
  · rw [d 3 0 (by simp [kLv])]; rfl
  · rw [d 3 0 (by simp [kLv])]
    have : j = 8 ∨ j = 9 ∨ j = 10 ∨ j = 11 ∨ j = 12 ∨ j = 13 := by omega
    rcases this with rfl | rfl | rfl | rfl | rfl | rfl <;> rfl
  · rw [d 0 c (kl0 hc)]
    have : j = 0 ∨ j = 1 ∨ j = 2 ∨ j = 3 ∨ j = 4 := by omega
    rcases this with rfl | rfl | rfl | rfl | rfl <;> rfl
  · rw [d 1 g (kl1 hg)]
    have : j = 0 ∨ j = 1 ∨ j = 2 ∨ j = 3 ∨ j = 4 ∨ j = 5 ∨ j = 6 ∨ j = 7 := by omega
    rcases this with rfl | rfl | rfl | rfl | rfl | rfl | rfl | rfl <;> rfl
  · rw [d 2 l (kl2 hl)]
    have : j = 1 ∨ j = 2 := by omega
    rcases this with rfl | rfl <;> rfl
  · rw [d 8 0 (by simp [kLv])]; rfl
  · rw [d 4 0 (by simp [kLv])]; rfl
  · simp [σ0, tS] at hx
  · rw [d 4 (l + 1) (kl4 (by have : l < 4 := hl; omega))]; rfl
  · simp [σ0, tQ] at hx
theorem top_0 {M : KM} (h7 : topOK M) : mTop M.2.2.1 σ0 := by
  have d7 : ∀ j, M.2.2.1 (7, 4, 0) j = if j = 1 then 6 else 0 := fun j => congrFun h7.1.2.2.1 j
  have d8 : ∀ k, k < 3 → ∀ j, M.2.2.1 (8, 4, k) j = 0 := fun k hk j => congrFun (h7.2 k hk).2.2.1 j
  refine ⟨⟨by rw [d7]; rfl, by rw [d7]; rfl, by rw [d7]; rfl⟩, fun c hc => absurd hc (by simp [σ0, tC]), fun l hl => by rw [d8 1 (by decide)]; rfl, fun t ht => by rw [d8 2 (by decide)]; rfl⟩
theorem st_0 {M : KM} (s2 : stOK 2 M) : mSt 2 M.2.2.1 σ0 := by
  have d6 : ∀ j, M.2.2.1 (6, 2, 0) j = 0 := fun j => congrFun s2.1.2.2.1 j
  have d8 : ∀ k, 9 ≤ k → k ≤ 21 → ∀ j, M.2.2.1 (8, 2, k) j = 0 := fun k h1 h2 j => congrFun (s2.2.1 k h1 h2).2.2.1 j
  refine ⟨⟨by rw [d6]; rfl, by rw [d6]; rfl, by rw [d6]; rfl, by rw [d6]; rfl, by rw [d6]; rfl, by rw [d6]; rfl, by rw [d6]; rfl, by rw [d6]; rfl, by rw [d6]; rfl⟩, fun i x hx => ?_, fun c hc => ?_, fun c hc => ?_, fun l hl => ?_, fun l hl => ?_, fun l hl i x hx => ?_, fun g hg => ?_⟩
  · simp [σ0, tS] at hx
  · exact absurd hc (by simp [σ0, tC])
  · rw [d8 11 (by decide) (by decide)]; rfl
  · rw [d8 12 (by decide) (by decide)]; rfl
  · rw [d8 13 (by decide) (by decide)]; rfl
  · simp [σ0, tQ] at hx
  · exact absurd hg (by simp [σ0, tG])
theorem wf_0 : kWf0 0 6 0 6 σ0 := by
  refine ⟨⟨⟨by decide, by decide, by decide, fun x hx => ?_, fun l hl => ?_⟩, ⟨0, rfl, Or.inr ⟨rfl, rfl⟩⟩, fun g hg => ?_, fun l hl => ?_, ?_, fun c hc => ?_⟩, ⟨0, Nat.le_refl _, rfl⟩, ⟨by decide, by decide, rfl⟩, fun c hc => ?_, fun g hg => ?_, ⟨fun c _ _ => ⟨rfl, rfl, rfl, rfl⟩, fun l _ _ => ⟨rfl, rfl, rfl⟩⟩, fun l hl => ?_⟩
  · simp [σ0, tS] at hx
  · exact absurd hl (by simp [σ0, tL])
  · exact absurd hg (by simp [σ0, tG])
  · exact absurd hl (by simp [σ0, tL])
  · simp [σ0, tS]
  · simp [σ0, tS] at hc
  · exact absurd hc (by simp [σ0, tC])
  · exact absurd hg (by simp [σ0, tG])
  · exact absurd hl (by simp [σ0, tL])
