/-! What keeps the machine from throwing by itself, and that steps keep it. -/
theorem nodup_len : ∀ (n : Nat) (xs : List Nat), xs.Nodup → (∀ x ∈ xs, x < n) → xs.length ≤ n
  | 0, [], _, _ => Nat.le_refl _
  | 0, a :: _, _, h => absurd (h a List.mem_cons_self) (by omega)
  | n + 1, xs, hn, h => by
    have h1 : (xs.filter (fun a => decide (a ≠ n))).length ≤ n := nodup_len n _ (List.Pairwise.sublist List.filter_sublist hn) (fun x hx => by
      rw [List.mem_filter] at hx
      have := h x hx.1
      have h2 : x ≠ n := by simpa using hx.2
      omega)
    have h2 : ∀ ys : List Nat, ys.Nodup → ys.length ≤ (ys.filter (fun a => decide (a ≠ n))).length + 1 := by
      intro ys
      induction ys with
      | nil => intro _; simp
      | cons a r ih =>
        intro hy
        rw [List.nodup_cons] at hy
        by_cases ha : a = n
        · subst ha
          have e : r.filter (fun x => decide (x ≠ a)) = r := List.filter_eq_self.mpr (fun x hx => by
            have : x ≠ a := fun z => hy.1 (z ▸ hx)
            simpa using this)
          rw [List.filter_cons_of_neg (by simp), e]
          simp
        · have := ih hy.2
          simp [ha]
          simpa using this
    have := h2 xs hn
    omega
def kTurn (σ : KT) : Prop := ∃ t, tZ σ 40 0 = nI t ∧ (t < tL σ ∨ (t = 0 ∧ tL σ = 0))
def kS (σ : KT) : Prop := kB σ ∧ kTurn σ ∧ (∀ g, g < tG σ → tZ σ 13 g = -1 ∨ ∃ l, l < tL σ ∧ tZ σ 13 g = nI l) ∧ (∀ l, l < tL σ → (tQ σ l).Nodup ∧ ∀ g ∈ tQ σ l, tZ σ 13 g = nI l) ∧ (tS σ).Nodup ∧ ∀ c ∈ tS σ, tZ σ 1 c = -1
theorem kS.qlen {σ : KT} (h : kS σ) {l : Nat} (hl : l < tL σ) : (tQ σ l).length ≤ tG σ := nodup_len _ _ (h.2.2.2.1 l hl).1 (h.1.2.2.2.2 l hl)
theorem kS.slen {σ : KT} (h : kS σ) : (tS σ).length ≤ tC σ := nodup_len _ _ h.2.2.2.2.1 h.1.2.2.2.1
theorem kS.mod {σ : KT} (h : kS σ) {Z : Nat → Nat → Int32} (h1 : ∀ c ∈ tS σ, Z 1 c = tZ σ 1 c) (h2 : ∀ g, Z 13 g = tZ σ 13 g) (h3 : Z 40 0 = tZ σ 40 0) : kS (tMod σ Z) := by
  obtain ⟨hb, ⟨t, ht, ht2⟩, h4, h5, h6, h7⟩ := h
  simp only [kS, kTurn, kB, tZ_tset, tQ_tset, tS_tset, tC_tset, tL_tset, tG_tset, tZ_tsetQ, tQ_tsetQ, tS_tsetQ, tC_tsetQ, tL_tsetQ, tG_tsetQ, tZ_tsetS, tQ_tsetS, tS_tsetS, tC_tsetS, tL_tsetS, tG_tsetS, tZ_tMod, tQ_tMod, tS_tMod, tC_tMod, tL_tMod, tG_tMod, tZ_tcnt, tQ_tcnt, tS_tcnt, tC_tcnt, tL_tcnt, tG_tcnt, h2, h3]
  exact ⟨hb, ⟨t, ht, ht2⟩, h4, h5, h6, fun c hc => (h1 c hc).trans (h7 c hc)⟩
theorem tset_mod {σ : KT} {f i : Nat} {v : Int32} : tset σ f i v = tMod σ (zup (tZ σ) f i v) := rfl
theorem kS.setf {σ : KT} (h : kS σ) {f i : Nat} {v : Int32} (h1 : f ≠ 1) (h2 : f ≠ 13) (h3 : f ≠ 40) : kS (tset σ f i v) := by
  rw [tset_mod]
  exact h.mod (fun c _ => zup_ne (Ne.symm h1)) (fun g => zup_ne (Ne.symm h2)) (zup_ne (Ne.symm h3))
theorem nI_ltr {a b : Nat} (ha : a < 2 ^ 31) (hb : b < 2 ^ 31) (h : nI a < nI b) : a < b := by
  rw [Int32.lt_iff_toInt_lt, nI_toInt ha, nI_toInt hb] at h
  omega
theorem nI_m1 {n : Nat} (h : n < 2 ^ 31) : nI n ≠ -1 := by
  intro z
  have h1 := nI_toInt h
  rw [z] at h1
  have : (-1 : Int32).toInt = -1 := by decide
  omega
theorem zup_self {Z : Nat → Nat → Int32} {f i : Nat} {v : Int32} (h : Z f i = v) : zup Z f i v = Z := by
  funext a b
  simp only [zup]
  by_cases hab : a = f ∧ b = i
  · rw [if_pos hab, hab.1, hab.2]; exact h.symm
  · rw [if_neg hab]
theorem takeOut_none {σ : KT} {g : Nat} (hz : tZ σ 13 g = -1) : takeOut σ g = σ := by
  unfold takeOut
  rw [if_pos hz, tset_mod, zup_self hz]
  rfl
theorem takeOut_some {σ : KT} {g l : Nat} (hz : tZ σ 13 g = nI l) (hl : l < 100) : takeOut σ g = tset (tsetQ σ l ((tQ σ l).filter (fun a => decide (a ≠ g)))) 13 g (-1) := by
  unfold takeOut
  have hne : ¬ nI l = -1 := nI_m1 (by omega)
  rw [hz, if_neg hne, nI_clamp (by omega)]
theorem kS.take {σ : KT} (h : kS σ) {g : Nat} (hg : g < tG σ) : kS (takeOut σ g) := by
  by_cases hz : tZ σ 13 g = -1
  · rw [takeOut_none hz]; exact h
  · obtain ⟨hb, ht, h4, h5, h6, h7⟩ := h
    obtain ⟨l, hl, hlz⟩ := (h4 g hg).resolve_left hz
    have hb2 := hb.2.1
    rw [takeOut_some hlz (by omega)]
    have hq : ∀ a, a < tL σ → (∀ x, x ∈ qup (tQ σ) l ((tQ σ l).filter (fun a => decide (a ≠ g))) a → x ∈ tQ σ a ∧ x ≠ g) ∧ (qup (tQ σ) l ((tQ σ l).filter (fun a => decide (a ≠ g))) a).Nodup := by
      intro a ha
      by_cases hal : a = l
      · subst hal
        rw [qup_eq]
        refine ⟨fun x hx => ?_, List.Pairwise.sublist List.filter_sublist (h5 a ha).1⟩
        rw [List.mem_filter] at hx
        exact ⟨hx.1, by simpa using hx.2⟩
      · rw [qup_ne hal]
        refine ⟨fun x hx => ⟨hx, fun z => ?_⟩, (h5 a ha).1⟩
        subst z
        have := (h5 a ha).2 x hx
        rw [hlz] at this
        exact hal ((nI_eq (by omega) (by omega)).mp this).symm
    simp only [kS, kTurn, kB, tZ_tset, tQ_tset, tS_tset, tC_tset, tL_tset, tG_tset, tZ_tsetQ, tQ_tsetQ, tS_tsetQ, tC_tsetQ, tL_tsetQ, tG_tsetQ, tZ_tsetS, tQ_tsetS, tS_tsetS, tC_tsetS, tL_tsetS, tG_tsetS, tZ_tMod, tQ_tMod, tS_tMod, tC_tMod, tL_tMod, tG_tMod, tZ_tcnt, tQ_tcnt, tS_tcnt, tC_tcnt, tL_tcnt, tG_tcnt]
    refine ⟨⟨hb.1, hb.2.1, hb.2.2.1, hb.2.2.2.1, fun a ha x hx => hb.2.2.2.2 a ha x ((hq a ha).1 x hx).1⟩, ?_, fun x hx => ?_, fun a ha => ⟨(hq a ha).2, fun x hx => ?_⟩, h6, fun c hc => ?_⟩
    · obtain ⟨t, ht, ht2⟩ := ht
      exact ⟨t, by rw [zup_ne (by decide)]; exact ht, ht2⟩
    · by_cases hxg : x = g
      · left; rw [hxg, zup_eq]
      · rw [zup_ne2 hxg]
        exact h4 x hx
    · obtain ⟨h8, h9⟩ := (hq a ha).1 x hx
      rw [zup_ne2 h9]
      exact (h5 a ha).2 x h8
    · rw [zup_ne (by decide)]
      exact h7 c hc
theorem kS.put {σ : KT} (h : kS σ) {g l : Nat} (hg : g < tG σ) (hl : l < tL σ) (hz : tZ σ 13 g = -1) : kS (putT σ g l) := by
  obtain ⟨hb, ht, h4, h5, h6, h7⟩ := h
  have hb2 := hb.2.1
  have hnot : ∀ a, a < tL σ → g ∉ tQ σ a := fun a ha hm => nI_m1 (by omega) (((h5 a ha).2 g hm).symm.trans hz)
  have hq : ∀ a, a < tL σ → ∀ x, x ∈ qup (tQ σ) l (tQ σ l ++ [g]) a → x ∈ tQ σ a ∨ (x = g ∧ a = l) := by
    intro a ha x hx
    by_cases hal : a = l
    · subst hal
      rw [qup_eq] at hx
      rcases List.mem_append.mp hx with h8 | h8
      · exact Or.inl h8
      · exact Or.inr ⟨by simpa using h8, rfl⟩
    · rw [qup_ne hal] at hx
      exact Or.inl hx
  simp only [kS, kTurn, kB, putT, tZ_tset, tQ_tset, tS_tset, tC_tset, tL_tset, tG_tset, tZ_tsetQ, tQ_tsetQ, tS_tsetQ, tC_tsetQ, tL_tsetQ, tG_tsetQ, tZ_tsetS, tQ_tsetS, tS_tsetS, tC_tsetS, tL_tsetS, tG_tsetS, tZ_tMod, tQ_tMod, tS_tMod, tC_tMod, tL_tMod, tG_tMod, tZ_tcnt, tQ_tcnt, tS_tcnt, tC_tcnt, tL_tcnt, tG_tcnt]
  refine ⟨⟨hb.1, hb.2.1, hb.2.2.1, hb.2.2.2.1, fun a ha x hx => ?_⟩, ?_, fun x hx => ?_, fun a ha => ⟨?_, fun x hx => ?_⟩, h6, fun c hc => ?_⟩
  · rcases hq a ha x hx with h8 | ⟨rfl, -⟩
    · exact hb.2.2.2.2 a ha x h8
    · exact hg
  · obtain ⟨t, ht, ht2⟩ := ht
    exact ⟨t, by rw [zup_ne (by decide)]; exact ht, ht2⟩
  · by_cases hxg : x = g
    · right; exact ⟨l, hl, by rw [hxg, zup_eq]⟩
    · rw [zup_ne2 hxg]
      exact h4 x hx
  · by_cases hal : a = l
    · subst hal
      rw [qup_eq, List.nodup_append]
      refine ⟨(h5 a ha).1, by simp, fun x hx y hy => ?_⟩
      have : y = g := by simpa using hy
      subst this
      exact fun z => hnot a ha (z ▸ hx)
    · rw [qup_ne hal]
      exact (h5 a ha).1
  · rcases hq a ha x hx with h8 | ⟨rfl, rfl⟩
    · have hxg : x ≠ g := fun z => hnot a ha (z ▸ h8)
      rw [zup_ne2 hxg]
      exact (h5 a ha).2 x h8
    · rw [zup_eq]
  · rw [zup_ne (by decide)]
    exact h7 c hc
theorem kS.cool {σ : KT} (h : kS σ) (n : Nat) : kS (coolTo σ n) :=
  h.mod (fun c _ => if_neg (fun z => absurd z.1 (by decide))) (fun g => if_neg (fun z => absurd z.1 (by decide))) (if_neg (fun z => absurd z.1 (by decide)))
theorem kS.move {σ : KT} (h : kS σ) (n : Nat) : kS (moveTo σ n) :=
  h.mod (fun c hc => if_neg (fun z => z.2.2 (h.2.2.2.2.2 c hc))) (fun g => if_neg (fun z => absurd z.1 (by decide))) (if_neg (fun z => absurd z.1 (by decide)))
theorem kS.unl {σ : KT} (h : kS σ) (t : Int32) (n : Nat) : kS (unlTo σ t n) :=
  h.mod (fun c hc => if_neg (fun z => absurd z.1 (by decide))) (fun g => if_neg (fun z => absurd z.1 (by decide))) (if_neg (fun z => absurd z.1 (by decide)))
theorem kS.unload {σ : KT} (h : kS σ) : kS (tUnload σ) := by
  unfold tUnload
  split
  · exact h
  · exact ((h.unl _ _).setf (by decide) (by decide) (by decide)).setf (by decide) (by decide) (by decide)
theorem tAt_spec {σ : KT} {p : Int32} : ∀ (n i : Nat), tAt σ p i n = -1 ∧ (∀ c, i ≤ c → c < i + n → tZ σ 1 c ≠ p) ∨ ∃ c, i ≤ c ∧ c < i + n ∧ tAt σ p i n = nI c ∧ tZ σ 1 c = p
  | 0, i => Or.inl ⟨rfl, fun c h1 h2 => by omega⟩
  | n + 1, i => by
    simp only [tAt]
    by_cases h : tZ σ 1 i = p
    · rw [if_pos h]
      exact Or.inr ⟨i, Nat.le_refl _, by omega, rfl, h⟩
    · rw [if_neg h]
      rcases tAt_spec n (i + 1) (p := p) (σ := σ) with ⟨h1, h2⟩ | ⟨c, h1, h2, h3, h4⟩
      · refine Or.inl ⟨h1, fun c a b z => ?_⟩
        by_cases hc : c = i
        · subst hc; exact h z
        · exact h2 c (by omega) (by omega) z
      · exact Or.inr ⟨c, by omega, by omega, h3, h4⟩
theorem chairAt_spec {σ : KT} {p : Int32} (h : kB σ) : tChairAt σ p = -1 ∧ (∀ c, c < tC σ → tZ σ 1 c ≠ p) ∨ ∃ c, c < tC σ ∧ tChairAt σ p = nI c ∧ tChairAt σ p ≠ -1 ∧ (tChairAt σ p).toNatClampNeg = c ∧ tZ σ 1 c = p := by
  have hb := h.1
  rcases tAt_spec (tC σ) 0 (σ := σ) (p := p) with ⟨h1, h2⟩ | ⟨c, h1, h2, h3, h4⟩
  · exact Or.inl ⟨h1, fun c hc => h2 c (Nat.zero_le _) (by omega)⟩
  · refine Or.inr ⟨c, by omega, h3, ?_, ?_, h4⟩
    · unfold tChairAt
      rw [h3]; exact nI_m1 (by omega)
    · unfold tChairAt
      rw [h3]; exact nI_clamp (by omega)
theorem kS.shedIn {σ : KT} (h : kS σ) {c : Nat} (hc : c < tC σ) (hz : tZ σ 1 c ≠ -1) : kS (tsetS (tset σ 1 c (-1)) (tS σ ++ [c])) := by
  obtain ⟨hb, ⟨t, ht, ht2⟩, h4, h5, h6, h7⟩ := h
  have hnot : c ∉ tS σ := fun hm => hz (h7 c hm)
  simp only [kS, kTurn, kB, tZ_tset, tQ_tset, tS_tset, tC_tset, tL_tset, tG_tset, tZ_tsetQ, tQ_tsetQ, tS_tsetQ, tC_tsetQ, tL_tsetQ, tG_tsetQ, tZ_tsetS, tQ_tsetS, tS_tsetS, tC_tsetS, tL_tsetS, tG_tsetS, tZ_tMod, tQ_tMod, tS_tMod, tC_tMod, tL_tMod, tG_tMod, tZ_tcnt, tQ_tcnt, tS_tcnt, tC_tcnt, tL_tcnt, tG_tcnt]
  refine ⟨⟨hb.1, hb.2.1, hb.2.2.1, fun x hx => ?_, hb.2.2.2.2⟩, ⟨t, by rw [zup_ne (by decide)]; exact ht, ht2⟩, fun g hg => by rw [zup_ne (by decide)]; exact h4 g hg, fun l hl => ⟨(h5 l hl).1, fun g hg => by rw [zup_ne (by decide)]; exact (h5 l hl).2 g hg⟩, ?_, fun x hx => ?_⟩
  · rcases List.mem_append.mp hx with h8 | h8
    · exact hb.2.2.2.1 x h8
    · have : x = c := by simpa using h8
      omega
  · rw [List.nodup_append]
    refine ⟨h6, by simp, fun x hx y hy => ?_⟩
    have : y = c := by simpa using hy
    subst this
    exact fun z => hnot (z ▸ hx)
  · by_cases hxc : x = c
    · rw [hxc, zup_eq]
    · rw [zup_ne2 hxc]
      rcases List.mem_append.mp hx with h8 | h8
      · exact h7 x h8
      · exact absurd (by simpa using h8) hxc
theorem kS.shedOut {σ : KT} (h : kS σ) {c : Nat} {p : Int32} : kS (tset (tsetS σ ((tS σ).filter (fun a => decide (a ≠ c)))) 1 c p) := by
  obtain ⟨hb, ⟨t, ht, ht2⟩, h4, h5, h6, h7⟩ := h
  have hq : ∀ x, x ∈ (tS σ).filter (fun a => decide (a ≠ c)) → x ∈ tS σ ∧ x ≠ c := by
    intro x hx
    rw [List.mem_filter] at hx
    exact ⟨hx.1, by simpa using hx.2⟩
  simp only [kS, kTurn, kB, tZ_tset, tQ_tset, tS_tset, tC_tset, tL_tset, tG_tset, tZ_tsetQ, tQ_tsetQ, tS_tsetQ, tC_tsetQ, tL_tsetQ, tG_tsetQ, tZ_tsetS, tQ_tsetS, tS_tsetS, tC_tsetS, tL_tsetS, tG_tsetS, tZ_tMod, tQ_tMod, tS_tMod, tC_tMod, tL_tMod, tG_tMod, tZ_tcnt, tQ_tcnt, tS_tcnt, tC_tcnt, tL_tcnt, tG_tcnt]
  refine ⟨⟨hb.1, hb.2.1, hb.2.2.1, fun x hx => hb.2.2.2.1 x (hq x hx).1, hb.2.2.2.2⟩, ⟨t, by rw [zup_ne (by decide)]; exact ht, ht2⟩, fun g hg => by rw [zup_ne (by decide)]; exact h4 g hg, fun l hl => ⟨(h5 l hl).1, fun g hg => by rw [zup_ne (by decide)]; exact (h5 l hl).2 g hg⟩, List.Pairwise.sublist List.filter_sublist h6, fun x hx => ?_⟩
  rw [zup_ne2 (hq x hx).2]
  exact h7 x (hq x hx).1
theorem kS.exch {σ : KT} (h : kS σ) : kS (tExch σ) := by
  unfold tExch
  split
  · next hc =>
    rcases chairAt_spec h.1 (p := 0) with ⟨h1, -⟩ | ⟨c, h1, h2, h3, h4, h5⟩
    · exact absurd h1 hc.2
    · rw [h4]
      exact h.shedIn h1 (by rw [h5]; decide)
  · split
    · cases e : tS σ with
      | nil => exact h
      | cons c r =>
        have := h.shedOut (c := c) (p := 0)
        rw [e] at this
        exact this
    · exact h
theorem kS.turn {σ : KT} (h : kS σ) {l : Nat} (hl : l < tL σ) : kS (tset σ 40 0 (behind σ (nI l))) := by
  obtain ⟨hb, ht, h4, h5, h6, h7⟩ := h
  have hb2 := hb.2.1
  simp only [kS, kTurn, kB, tZ_tset, tQ_tset, tS_tset, tC_tset, tL_tset, tG_tset, tZ_tsetQ, tQ_tsetQ, tS_tsetQ, tC_tsetQ, tL_tsetQ, tG_tsetQ, tZ_tsetS, tQ_tsetS, tS_tsetS, tC_tsetS, tL_tsetS, tG_tsetS, tZ_tMod, tQ_tMod, tS_tMod, tC_tMod, tL_tMod, tG_tMod, tZ_tcnt, tQ_tcnt, tS_tcnt, tC_tcnt, tL_tcnt, tG_tcnt]
  refine ⟨hb, ?_, fun g hg => by rw [zup_ne (by decide)]; exact h4 g hg, fun l hl => ⟨(h5 l hl).1, fun g hg => by rw [zup_ne (by decide)]; exact (h5 l hl).2 g hg⟩, h6, fun c hc => by rw [zup_ne (by decide)]; exact h7 c hc⟩
  rw [zup_eq]
  unfold behind
  rw [nI_1]
  by_cases hh : nI (l + 1) < nI (tL σ)
  · rw [if_pos hh]
    exact ⟨l + 1, rfl, Or.inl (nI_ltr (by omega) (by omega) hh)⟩
  · rw [if_neg hh]
    exact ⟨0, rfl, Or.inl (by omega)⟩
theorem gtb_spec {σ : KT} {s : Int32} (h : kS σ) : ∀ (n l : Nat), l < tL σ → gtb σ s n (nI l) = -1 ∨ ∃ g a, a < tL σ ∧ (tQ σ a).head? = some g ∧ gtb σ s n (nI l) = nI g ∧ tZ σ 10 g ≤ s
  | 0, _, _ => Or.inl rfl
  | n + 1, l, hl => by
    have hb2 := h.1.2.1
    have hbeh : ∃ b, b < tL σ ∧ behind σ (nI l) = nI b := by
      unfold behind
      rw [nI_1]
      by_cases hh : nI (l + 1) < nI (tL σ)
      · rw [if_pos hh]
        exact ⟨l + 1, nI_ltr (by omega) (by omega) hh, rfl⟩
      · rw [if_neg hh]
        exact ⟨0, by omega, rfl⟩
    obtain ⟨b, hb, hbe⟩ := hbeh
    simp only [gtb]
    rw [nI_clamp (by omega), hbe]
    cases e : (tQ σ l).head? with
    | none => exact gtb_spec h n b hb
    | some g =>
      simp only []
      by_cases hle : tZ σ 10 g ≤ s
      · rw [if_pos hle]
        exact Or.inr ⟨g, l, hl, e, rfl, hle⟩
      · rw [if_neg hle]
        exact gtb_spec h n b hb
theorem next_spec {σ : KT} {s : Int32} (h : kS σ) : tNext σ s = -1 ∨ ∃ g a, g < tG σ ∧ a < tL σ ∧ (tQ σ a).head? = some g ∧ tZ σ 13 g = nI a ∧ tNext σ s = nI g ∧ tNext σ s ≠ -1 ∧ (tNext σ s).toNatClampNeg = g ∧ tZ σ 10 g ≤ s := by
  obtain ⟨t, ht, ht2⟩ := h.2.1
  have hb := h.1
  unfold tNext
  rw [ht]
  rcases ht2 with hlt | ⟨h0, hl0⟩
  · rcases gtb_spec h (s := s) (tL σ) t hlt with h1 | ⟨g, a, h1, h2, h3, h4⟩
    · exact Or.inl h1
    · have hm : g ∈ tQ σ a := List.mem_of_head? h2
      have hg := hb.2.2.2.2 a h1 g hm
      have hg2 := hb.2.2.1
      exact Or.inr ⟨g, a, hg, h1, h2, (h.2.2.2.1 a h1).2 g hm, h3, by rw [h3]; exact nI_m1 (by omega), by rw [h3]; exact nI_clamp (by omega), h4⟩
  · rw [hl0]
    exact Or.inl rfl
theorem tC_takeOut {σ : KT} {g : Nat} : tC (takeOut σ g) = tC σ := by unfold takeOut; split <;> rfl
theorem tL_takeOut {σ : KT} {g : Nat} : tL (takeOut σ g) = tL σ := by unfold takeOut; split <;> rfl
theorem tG_takeOut {σ : KT} {g : Nat} : tG (takeOut σ g) = tG σ := by unfold takeOut; split <;> rfl
theorem tS_takeOut {σ : KT} {g : Nat} : tS (takeOut σ g) = tS σ := by unfold takeOut; split <;> rfl
theorem tZ_takeOut {σ : KT} {g : Nat} : tZ (takeOut σ g) = zup (tZ σ) 13 g (-1) := by unfold takeOut; split <;> rfl
theorem kS.board {σ : KT} (h : kS σ) {g l c : Nat} (hg : g < tG σ) (hl : l < tL σ) (hz : tZ σ 13 g = nI l) : kS (boardT σ g c) := by
  unfold boardT
  rw [hz]
  have h1 : kS (tset σ 22 (nI l).toNatClampNeg (tZ σ 22 (nI l).toNatClampNeg + tZ σ 10 g)) := h.setf (by decide) (by decide) (by decide)
  have h2 := (h1.turn hl).take hg
  exact ((((h2.setf (by decide) (by decide) (by decide)).setf (by decide) (by decide) (by decide)).setf (by decide) (by decide) (by decide)).setf (by decide) (by decide) (by decide)).setf (by decide) (by decide) (by decide)
theorem kS.loads {c : Nat} : ∀ (k : Nat) (σ : KT) (n : Nat), kS σ → kS (loadT c k σ n).1
  | 0, _, _, h => h
  | k + 1, σ, n, h => by
    simp only [loadT]
    split
    · exact h
    · next hne =>
      rcases next_spec h (s := tZ σ 0 c - tZ σ 2 c) with h1 | ⟨g, a, h1, h2, h3, h4, h5, h6, h7, h8⟩
      · exact absurd h1 hne
      · rw [h7]
        exact kS.loads k _ _ (h.board h1 h2 h4)
theorem kS.load {σ : KT} (h : kS σ) : kS (tLoad σ) := by
  unfold tLoad tLoadAt
  split
  · exact h
  · split
    · exact kS.loads _ _ _ h
    · exact (kS.loads _ _ _ h).setf (by decide) (by decide) (by decide)
theorem kS.send {σ : KT} (h : kS σ) {g : Nat} (hg : g < tG σ) : kS (sendT σ g) := (h.take hg).setf (by decide) (by decide) (by decide)
theorem tG_sendT {σ : KT} {g : Nat} : tG (sendT σ g) = tG σ := tG_takeOut
theorem tG_impTo {σ : KT} : ∀ n, tG (impTo σ n) = tG σ
  | 0 => rfl
  | n + 1 => by
    simp only [impTo]
    split
    · exact tG_sendT.trans (tG_impTo n)
    · exact tG_impTo n
theorem kS.imp {σ : KT} (h : kS σ) : ∀ n, n ≤ tG σ → kS (impTo σ n)
  | 0, _ => h
  | n + 1, hn => by
    simp only [impTo]
    split
    · exact (kS.imp h n (by omega)).send (by rw [tG_impTo]; omega)
    · exact kS.imp h n (by omega)
theorem kS.half {σ : KT} (h : kS σ) : kS (tHalfStep σ) := by
  unfold tHalfStep tMove
  have h1 : kS (tStand σ) := h.setf (by decide) (by decide) (by decide)
  split
  · split
    · exact h1.cool _
    · exact h1
  · exact ((h.move _).unload.exch).load
theorem tG_boardT {σ : KT} {g c : Nat} : tG (boardT σ g c) = tG σ := tG_takeOut
theorem tG_loadT {c : Nat} : ∀ (k : Nat) (σ : KT) (n : Nat), tG (loadT c k σ n).1 = tG σ
  | 0, _, _ => rfl
  | k + 1, σ, n => by
    simp only [loadT]
    split
    · rfl
    · exact (tG_loadT k _ _).trans tG_boardT
theorem tG_tLoad {σ : KT} : tG (tLoad σ) = tG σ := by
  unfold tLoad tLoadAt
  split
  · rfl
  · split
    · exact tG_loadT _ _ _
    · exact tG_loadT _ _ _
theorem tG_tExch {σ : KT} : tG (tExch σ) = tG σ := by
  unfold tExch
  split
  · rfl
  · split
    · split <;> rfl
    · rfl
theorem tG_tUnload {σ : KT} : tG (tUnload σ) = tG σ := by
  unfold tUnload
  split <;> rfl
theorem tG_tHalfStep {σ : KT} : tG (tHalfStep σ) = tG σ := by
  unfold tHalfStep tMove
  split
  · split <;> rfl
  · exact tG_tLoad.trans (tG_tExch.trans (tG_tUnload.trans rfl))
theorem kS.step {σ : KT} (h : kS σ) : kS (tStep σ) := (h.half.imp _ (by rw [tG_tHalfStep]; exact Nat.le_refl _)).setf (by decide) (by decide) (by decide)
