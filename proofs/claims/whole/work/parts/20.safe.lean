/-! What keeps the machine from throwing by itself, and that steps keep it. -/
theorem nodup_len : ∀ (n : Nat) (xs : List Nat), xs.Nodup → (∀ x ∈ xs, x < n) → xs.length ≤ n
  | 0, [], _, _ => Nat.le_refl _
  | 0, a :: _, _, h => absurd (h a List.mem_cons_self) (by omega)
  | n + 1, xs, hn, h => by
    have h1 : (xs.filter (fun a => decide (a ≠ n))).length ≤ n := nodup_len n _ (List.Pairwise.sublist List.filter_sublist hn) (fun x hx => by
      rw [List.mem_filter] at hx
      have := h x hx.1
      have h2 : x ≠ n := by simpa using hx.2
      omega)
    have h2 : ∀ ys : List Nat, ys.Nodup → ys.length ≤ (ys.filter (fun a => decide (a ≠ n))).length + 1 := by
      intro ys
      induction ys with
      | nil => intro _; simp
      | cons a r ih =>
        intro hy
        rw [List.nodup_cons] at hy
        by_cases ha : a = n
        · subst ha
          have e : r.filter (fun x => decide (x ≠ a)) = r := List.filter_eq_self.mpr (fun x hx => by
            have : x ≠ a := fun z => hy.1 (z ▸ hx)
            simpa using this)
          rw [List.filter_cons_of_neg (by simp), e]
          simp
        · have := ih hy.2
          simp [ha]
          simpa using this
    have := h2 xs hn
    omega
def kTurn (σ : KT) : Prop := ∃ t, tZ σ 40 0 = nI t ∧ (t < tL σ ∨ (t = 0 ∧ tL σ = 0))
def kS (σ : KT) : Prop := kB σ ∧ kTurn σ ∧ (∀ g, g < tG σ → tZ σ 13 g = -1 ∨ ∃ l, l < tL σ ∧ tZ σ 13 g = nI l) ∧ (∀ l, l < tL σ → (tQ σ l).Nodup ∧ ∀ g ∈ tQ σ l, tZ σ 13 g = nI l) ∧ (tS σ).Nodup ∧ ∀ c ∈ tS σ, tZ σ 1 c = -1
theorem kS.qlen {σ : KT} (h : kS σ) {l : Nat} (hl : l < tL σ) : (tQ σ l).length ≤ tG σ := nodup_len _ _ (h.2.2.2.1 l hl).1 (h.1.2.2.2.2 l hl)
theorem kS.slen {σ : KT} (h : kS σ) : (tS σ).length ≤ tC σ := nodup_len _ _ h.2.2.2.2.1 h.1.2.2.2.1
theorem kS.mod {σ : KT} (h : kS σ) {Z : Nat → Nat → Int32} (h1 : ∀ c ∈ tS σ, Z 1 c = tZ σ 1 c) (h2 : ∀ g, Z 13 g = tZ σ 13 g) (h3 : Z 40 0 = tZ σ 40 0) : kS (tMod σ Z) := by
  obtain ⟨hb, ⟨t, ht, ht2⟩, h4, h5, h6, h7⟩ := h
  simp only [kS, kTurn, kB, tZ_tset, tQ_tset, tS_tset, tC_tset, tL_tset, tG_tset, tZ_tsetQ, tQ_tsetQ, tS_tsetQ, tC_tsetQ, tL_tsetQ, tG_tsetQ, tZ_tsetS, tQ_tsetS, tS_tsetS, tC_tsetS, tL_tsetS, tG_tsetS, tZ_tMod, tQ_tMod, tS_tMod, tC_tMod, tL_tMod, tG_tMod, tZ_tcnt, tQ_tcnt, tS_tcnt, tC_tcnt, tL_tcnt, tG_tcnt, h2, h3]
  exact ⟨hb, ⟨t, ht, ht2⟩, h4, h5, h6, fun c hc => (h1 c hc).trans (h7 c hc)⟩
theorem tset_mod {σ : KT} {f i : Nat} {v : Int32} : tset σ f i v = tMod σ (zup (tZ σ) f i v) := rfl
theorem kS.tset {σ : KT} (h : kS σ) {f i : Nat} {v : Int32} (h1 : f ≠ 1) (h2 : f ≠ 13) (h3 : f ≠ 40) : kS (tset σ f i v) := by
  rw [tset_mod]
  exact h.mod (fun c _ => zup_ne (Ne.symm h1)) (fun g => zup_ne (Ne.symm h2)) (zup_ne (Ne.symm h3))
theorem nI_m1 {n : Nat} (h : n < 2 ^ 31) : nI n ≠ -1 := by
  intro z
  have h1 := nI_toInt h
  rw [z] at h1
  have : (-1 : Int32).toInt = -1 := by decide
  omega
theorem zup_self {Z : Nat → Nat → Int32} {f i : Nat} {v : Int32} (h : Z f i = v) : zup Z f i v = Z := by
  funext a b
  simp only [zup]
  by_cases hab : a = f ∧ b = i
  · rw [if_pos hab, hab.1, hab.2]; exact h.symm
  · rw [if_neg hab]
theorem takeOut_none {σ : KT} {g : Nat} (hz : tZ σ 13 g = -1) : takeOut σ g = σ := by
  unfold takeOut
  rw [if_pos hz, tset_mod, zup_self hz]
  rfl
theorem takeOut_some {σ : KT} {g l : Nat} (hz : tZ σ 13 g = nI l) (hl : l < 100) : takeOut σ g = tset (tsetQ σ l ((tQ σ l).filter (fun a => decide (a ≠ g)))) 13 g (-1) := by
  unfold takeOut
  have hne : ¬ nI l = -1 := nI_m1 (by omega)
  rw [hz, if_neg hne, nI_clamp (by omega)]
theorem kS.take {σ : KT} (h : kS σ) {g : Nat} (hg : g < tG σ) : kS (takeOut σ g) := by
  by_cases hz : tZ σ 13 g = -1
  · rw [takeOut_none hz]; exact h
  · obtain ⟨hb, ht, h4, h5, h6, h7⟩ := h
    obtain ⟨l, hl, hlz⟩ := (h4 g hg).resolve_left hz
    have hb2 := hb.2.1
    rw [takeOut_some hlz (by omega)]
    have hq : ∀ a, a < tL σ → (∀ x, x ∈ qup (tQ σ) l ((tQ σ l).filter (fun a => decide (a ≠ g))) a → x ∈ tQ σ a ∧ x ≠ g) ∧ (qup (tQ σ) l ((tQ σ l).filter (fun a => decide (a ≠ g))) a).Nodup := by
      intro a ha
      by_cases hal : a = l
      · subst hal
        rw [qup_eq]
        refine ⟨fun x hx => ?_, List.Pairwise.sublist List.filter_sublist (h5 a ha).1⟩
        rw [List.mem_filter] at hx
        exact ⟨hx.1, by simpa using hx.2⟩
      · rw [qup_ne hal]
        refine ⟨fun x hx => ⟨hx, fun z => ?_⟩, (h5 a ha).1⟩
        subst z
        have := (h5 a ha).2 x hx
        rw [hlz] at this
        exact hal ((nI_eq (by omega) (by omega)).mp this).symm
    simp only [kS, kTurn, kB, tZ_tset, tQ_tset, tS_tset, tC_tset, tL_tset, tG_tset, tZ_tsetQ, tQ_tsetQ, tS_tsetQ, tC_tsetQ, tL_tsetQ, tG_tsetQ, tZ_tsetS, tQ_tsetS, tS_tsetS, tC_tsetS, tL_tsetS, tG_tsetS, tZ_tMod, tQ_tMod, tS_tMod, tC_tMod, tL_tMod, tG_tMod, tZ_tcnt, tQ_tcnt, tS_tcnt, tC_tcnt, tL_tcnt, tG_tcnt]
    refine ⟨⟨hb.1, hb.2.1, hb.2.2.1, hb.2.2.2.1, fun a ha x hx => hb.2.2.2.2 a ha x ((hq a ha).1 x hx).1⟩, ?_, fun x hx => ?_, fun a ha => ⟨(hq a ha).2, fun x hx => ?_⟩, h6, fun c hc => ?_⟩
    · obtain ⟨t, ht, ht2⟩ := ht
      exact ⟨t, by rw [zup_ne (by decide)]; exact ht, ht2⟩
    · by_cases hxg : x = g
      · left; rw [hxg, zup_eq]
      · rw [zup_ne2 hxg]
        exact h4 x hx
    · obtain ⟨h8, h9⟩ := (hq a ha).1 x hx
      rw [zup_ne2 h9]
      exact (h5 a ha).2 x h8
    · rw [zup_ne (by decide)]
      exact h7 c hc
theorem kS.put {σ : KT} (h : kS σ) {g l : Nat} (hg : g < tG σ) (hl : l < tL σ) (hz : tZ σ 13 g = -1) : kS (putT σ g l) := by
  obtain ⟨hb, ht, h4, h5, h6, h7⟩ := h
  have hb2 := hb.2.1
  have hnot : ∀ a, a < tL σ → g ∉ tQ σ a := fun a ha hm => nI_m1 (by omega) (((h5 a ha).2 g hm).symm.trans hz)
  have hq : ∀ a, a < tL σ → ∀ x, x ∈ qup (tQ σ) l (tQ σ l ++ [g]) a → x ∈ tQ σ a ∨ (x = g ∧ a = l) := by
    intro a ha x hx
    by_cases hal : a = l
    · subst hal
      rw [qup_eq] at hx
      rcases List.mem_append.mp hx with h8 | h8
      · exact Or.inl h8
      · exact Or.inr ⟨by simpa using h8, rfl⟩
    · rw [qup_ne hal] at hx
      exact Or.inl hx
  simp only [kS, kTurn, kB, putT, tZ_tset, tQ_tset, tS_tset, tC_tset, tL_tset, tG_tset, tZ_tsetQ, tQ_tsetQ, tS_tsetQ, tC_tsetQ, tL_tsetQ, tG_tsetQ, tZ_tsetS, tQ_tsetS, tS_tsetS, tC_tsetS, tL_tsetS, tG_tsetS, tZ_tMod, tQ_tMod, tS_tMod, tC_tMod, tL_tMod, tG_tMod, tZ_tcnt, tQ_tcnt, tS_tcnt, tC_tcnt, tL_tcnt, tG_tcnt]
  refine ⟨⟨hb.1, hb.2.1, hb.2.2.1, hb.2.2.2.1, fun a ha x hx => ?_⟩, ?_, fun x hx => ?_, fun a ha => ⟨?_, fun x hx => ?_⟩, h6, fun c hc => ?_⟩
  · rcases hq a ha x hx with h8 | ⟨rfl, -⟩
    · exact hb.2.2.2.2 a ha x h8
    · exact hg
  · obtain ⟨t, ht, ht2⟩ := ht
    exact ⟨t, by rw [zup_ne (by decide)]; exact ht, ht2⟩
  · by_cases hxg : x = g
    · right; exact ⟨l, hl, by rw [hxg, zup_eq]⟩
    · rw [zup_ne2 hxg]
      exact h4 x hx
  · by_cases hal : a = l
    · subst hal
      rw [qup_eq, List.nodup_append]
      refine ⟨(h5 a ha).1, by simp, fun x hx y hy => ?_⟩
      have : y = g := by simpa using hy
      subst this
      exact fun z => hnot a ha (z ▸ hx)
    · rw [qup_ne hal]
      exact (h5 a ha).1
  · rcases hq a ha x hx with h8 | ⟨rfl, rfl⟩
    · have hxg : x ≠ g := fun z => hnot a ha (z ▸ h8)
      rw [zup_ne2 hxg]
      exact (h5 a ha).2 x h8
    · rw [zup_eq]
  · rw [zup_ne (by decide)]
    exact h7 c hc
