/-! What our numbered cells are on the machine's heap, and what reading and writing does. -/
def kRn : Nat → String
  | 0 => RX0
  | 1 => RX1
  | 2 => RX2
  | 3 => RX3
  | 4 => RX4
  | 5 => RX5
  | 6 => RX6
  | _ => RX7
def kT : Nat → u_T
  | 0 => TX0
  | 1 => TX1
  | 2 => TX2
  | 3 => TX3
  | 4 => TX4
  | 5 => TX5
  | 6 => TX6
  | _ => TX7
def kty : Nat → Nat → FieldType
  | 0 => tyX0
  | 1 => tyX1
  | 2 => tyX2
  | 3 => tyX3
  | 4 => tyX4
  | 5 => tyX5
  | 6 => tyX6
  | _ => tyX7
def kN : Nat → Nat
  | 0 => 5
  | 1 => 8
  | 2 => 3
  | 3 => 14
  | 4 => 2
  | 5 => 2
  | 6 => 23
  | _ => 9
theorem k8 {P : Nat → Prop} (h0 : P 0) (h1 : P 1) (h2 : P 2) (h3 : P 3) (h4 : P 4) (h5 : P 5) (h6 : P 6) (h7 : P 7) : ∀ c, c < 8 → P c := by
  intro c hc
  match c, hc with
  | 0, _ => exact h0
  | 1, _ => exact h1
  | 2, _ => exact h2
  | 3, _ => exact h3
  | 4, _ => exact h4
  | 5, _ => exact h5
  | 6, _ => exact h6
  | 7, _ => exact h7
  | c + 8, h => exact absurd h (by omega)
theorem kCl : ∀ c, c < 8 → vwCl[c]? = some (kRn c, kT c, kN c) := k8 rfl rfl rfl rfl rfl rfl rfl rfl
theorem kTy : ∀ c, c < 8 → ∀ k, k < kN c → parseFieldDescriptor (kT c k).2.2.1 = some (kty c k) := k8 tyX0_ok tyX1_ok tyX2_ok tyX3_ok tyX4_ok tyX5_ok tyX6_ok tyX7_ok
theorem kNm : ∀ c, c < 8 → ∀ a, a < kN c → ∀ b, b < kN c → a ≠ b → (kT c a).2.1 ≠ (kT c b).2.1 := k8 nmX0 nmX1 nmX2 nmX3 nmX4 nmX5 nmX6 nmX7
/-- the good words of the tables -/
def kGW : List Cond := lw_tbl.filter goodWord
theorem kGW_in {w : Cond} (h : w ∈ lw_tbl) (g : goodWord w = true) : w ∈ kGW := List.mem_filter.mpr ⟨h, g⟩
theorem kGW_all {ws : List Cond} (h : (ws.all fun w => decide (w ∈ lw_tbl) && goodWord w) = true) : ∀ w ∈ ws, w ∈ kGW := by
  intro w hw
  have h1 := List.all_eq_true.mp h w hw
  simp only [Bool.and_eq_true, decide_eq_true_eq] at h1
  exact kGW_in h1.1 h1.2
theorem kGW_good {ws : List Cond} (h : ∀ w ∈ ws, w ∈ kGW) : GoodIn kGW ws := fun w hw => ⟨h w hw, good_of_word (List.mem_filter.mp (h w hw)).2⟩
set_option maxRecDepth 100000 in
theorem kLay : ∀ c, c < 8 → ∀ w ∈ u_ws (kRn c) (kT c) (kN c), w ∈ kGW := k8 (kGW_all (by decide +kernel)) (kGW_all (by decide +kernel)) (kGW_all (by decide +kernel)) (kGW_all (by decide +kernel)) (kGW_all (by decide +kernel)) (kGW_all (by decide +kernel)) (kGW_all (by decide +kernel)) (kGW_all (by decide +kernel))
def kisref : FieldType → Bool
  | .object _ => true
  | .array _ => true
  | _ => false
def ktys (cA : Nat → ClassId) : List (ClassId × FieldType) := [(cA 0, .int), (cA 1, .object RX0), (cA 2, .object RX1), (cA 3, .object RX2), (cA 4, .long)]
def kv (ad : KI → Nat) : KV → Value
  | .inl x => .int x
  | .inr (.inl x) => .long x
  | .inr (.inr (.inl x)) => .double x
  | .inr (.inr (.inr r)) => va_rf (r.map ad)
def kslot (ad : KI → Nat) (M : KM) (i : KI) (j : Nat) : Value := bif kisref (kty i.1 j) then va_rf ((M.2.1 i j).map ad) else .int (M.2.2.1 i j)
def kobj (cA : Nat → ClassId) (ad : KI → Nat) (M : KM) (i : KI) : va_E :=
  if i.1 < 8 then .inr (i.1, (List.range (kN i.1)).map (kslot ad M i))
  else if i.1 = 8 then .inl (cA 0, M.2.2.2.2 i, .inl (M.2.2.1 i))
  else if i.1 = 12 then .inl (cA 4, M.2.2.2.2 i, .inr (.inl (M.2.2.2.1 i)))
  else .inl (cA (i.1 - 8), M.2.2.2.2 i, .inr (.inr (.inr (.inr (fun j => (M.2.1 i j).map ad)))))
def kws (cA : Nat → ClassId) (ad : KI → Nat) (M : KM) (Ls : List KI) : va_W := Ls.map (fun i => (ad i, kobj cA ad M i))
/-- the memory M lies in the heap H, its cells at ad -/
def KP (D : va_G) (cA : Nat → ClassId) (ad : KI → Nat) (A : Nat → Prop) (M : KM) (H : Heap) : Prop :=
  ∃ Ls : List KI, (∀ i, M.1 i ↔ i ∈ Ls) ∧ (∀ i j r, M.1 i → M.2.1 i j = some r → M.1 r) ∧ va_P D vwCl (kws cA ad M Ls) H ∧ va_D A (kws cA ad M Ls)
theorem kws_get {cA : Nat → ClassId} {ad : KI → Nat} {M : KM} {Ls : List KI} {k : Nat} {i : KI} (h : Ls[k]? = some i) : (kws cA ad M Ls)[k]? = some (ad i, kobj cA ad M i) := by
  simp [kws, h]
theorem kobj_c {cA : Nat → ClassId} {ad : KI → Nat} {M : KM} {i : KI} (h : i.1 < 8) : kobj cA ad M i = .inr (i.1, (List.range (kN i.1)).map (kslot ad M i)) := by simp [kobj, h]
theorem kobj_i {cA : Nat → ClassId} {ad : KI → Nat} {M : KM} {i : KI} (h : i.1 = 8) : kobj cA ad M i = .inl (cA 0, M.2.2.2.2 i, .inl (M.2.2.1 i)) := by simp [kobj, h]
theorem kobj_l {cA : Nat → ClassId} {ad : KI → Nat} {M : KM} {i : KI} (h : i.1 = 12) : kobj cA ad M i = .inl (cA 4, M.2.2.2.2 i, .inr (.inl (M.2.2.2.1 i))) := by simp [kobj, h]
theorem kobj_q {cA : Nat → ClassId} {ad : KI → Nat} {M : KM} {i : KI} (h : i.1 = 9 ∨ i.1 = 10 ∨ i.1 = 11) : kobj cA ad M i = .inl (cA (i.1 - 8), M.2.2.2.2 i, .inr (.inr (.inr (.inr (fun j => (M.2.1 i j).map ad))))) := by
  rcases h with h | h | h <;> simp [kobj, h]
theorem kobj_eq {cA : Nat → ClassId} {ad ad' : KI → Nat} {M M' : KM} {i : KI} (hR : ∀ j, (M.2.1 i j).map ad = (M'.2.1 i j).map ad') (hD : ∀ j, M.2.2.1 i j = M'.2.2.1 i j) (hG : ∀ j, M.2.2.2.1 i j = M'.2.2.2.1 i j) (hN : M.2.2.2.2 i = M'.2.2.2.2 i) : kobj cA ad M i = kobj cA ad' M' i := by
  have e1 : kslot ad M i = kslot ad' M' i := by funext j; simp only [kslot, hR, hD]
  have e2 : M.2.2.1 i = M'.2.2.1 i := funext hD
  have e3 : M.2.2.2.1 i = M'.2.2.2.1 i := funext hG
  have e4 : (fun j => (M.2.1 i j).map ad) = (fun j => (M'.2.1 i j).map ad') := funext hR
  simp only [kobj, e1, e2, e3, e4, hN]
theorem KP.get {D : va_G} {cA : Nat → ClassId} {ad : KI → Nat} {A : Nat → Prop} {M : KM} {H : Heap} (h : KP D cA ad A M H) {i : KI} (hi : M.1 i) : ∃ (ws : va_W) (k : Nat), ws[k]? = some (ad i, kobj cA ad M i) ∧ va_P D vwCl ws H ∧ va_D A ws := by
  obtain ⟨Ls, h1, -, h3, h4⟩ := h
  obtain ⟨k, hk⟩ := List.getElem?_of_mem ((h1 i).mp hi)
  exact ⟨_, k, kws_get hk, h3, h4⟩
theorem kws_inj {A : Nat → Prop} {cA : Nat → ClassId} {ad : KI → Nat} {M : KM} {Ls : List KI} (hD : va_D A (kws cA ad M Ls)) {k q : Nat} {i j : KI} (hk : Ls[k]? = some i) (hq : Ls[q]? = some j) (he : ad i = ad j) : k = q :=
  hD.1 k q _ _ (kws_get hk) (kws_get hq) he
/-- a cell has been written -/
theorem KP.set {D : va_G} {cA : Nat → ClassId} {ad : KI → Nat} {A : Nat → Prop} {M M' : KM} {H : Heap} (h : KP D cA ad A M H) {i : KI} (hi : M.1 i) (hL : M'.1 = M.1) (hC : ∀ j r, M'.2.1 i j = some r → M.1 r)
    (hR : ∀ a, a ≠ i → ∀ j, M'.2.1 a j = M.2.1 a j) (hD : ∀ a, a ≠ i → ∀ j, M'.2.2.1 a j = M.2.2.1 a j) (hG : ∀ a, a ≠ i → ∀ j, M'.2.2.2.1 a j = M.2.2.2.1 a j) (hN : ∀ a, a ≠ i → M'.2.2.2.2 a = M.2.2.2.2 a) :
    ∃ (ws : va_W) (k : Nat), ws[k]? = some (ad i, kobj cA ad M i) ∧ va_P D vwCl ws H ∧ va_D A ws ∧ (∀ (e : va_E) (H1 : Heap), e = kobj cA ad M' i → va_P D vwCl (ws.set k (ad i, e)) H1 → va_D A (ws.set k (ad i, e)) → KP D cA ad A M' H1) ∧ ∀ o, M.1 o → ∃ q : Nat, ws[q]? = some (ad o, kobj cA ad M o) := by
  obtain ⟨Ls, h1, h2, h3, h4⟩ := h
  obtain ⟨k, hk⟩ := List.getElem?_of_mem ((h1 i).mp hi)
  refine ⟨_, k, kws_get hk, h3, h4, ?_, fun o ho => by
    obtain ⟨q, hq⟩ := List.getElem?_of_mem ((h1 o).mp ho)
    exact ⟨q, kws_get hq⟩⟩
  intro e H1 he hP' hD'
  have hset : (kws cA ad M Ls).set k (ad i, e) = kws cA ad M' Ls := by
    subst he
    apply List.ext_getElem?
    intro q
    by_cases hqk : q = k
    · subst hqk
      have hl : q < (kws cA ad M Ls).length := (List.getElem?_eq_some_iff.mp (kws_get (cA := cA) (ad := ad) (M := M) hk)).1
      rw [List.getElem?_set_self hl, kws_get hk]
    · rw [List.getElem?_set_ne (Ne.symm hqk)]
      cases hq : Ls[q]? with
      | none => simp [kws, hq]
      | some a =>
        have hne : a ≠ i := fun z => hqk (kws_inj h4 hq hk (by rw [z]))
        rw [kws_get hq, kws_get hq]
        rw [kobj_eq (M := M) (M' := M') (ad' := ad) (fun j => by rw [hR a hne]) (fun j => (hD a hne j).symm) (fun j => (hG a hne j).symm) (hN a hne).symm]
  rw [hset] at hP' hD'
  refine ⟨Ls, fun a => by rw [hL]; exact h1 a, fun a j r ha hr => ?_, hP', hD'⟩
  rw [hL] at ha ⊢
  by_cases hai : a = i
  · subst hai; exact hC j r hr
  · rw [hR a hai] at hr; exact h2 a j r ha hr
/-- a cell has come -/
theorem KP.push {D : va_G} {cA : Nat → ClassId} {ad : KI → Nat} {A : Nat → Prop} {M : KM} {H : Heap} (h : KP D cA ad A M H) {i : KI} (hi : ¬ M.1 i) (n : Nat) :
    ∃ (ws : va_W), va_P D vwCl ws H ∧ va_D A ws ∧ ∀ (q : Nat) (e : va_E) (H1 : Heap), e = kobj cA (kset ad i q) (knew M i n) i → va_P D vwCl (ws ++ [(q, e)]) H1 → va_D A (ws ++ [(q, e)]) → KP D cA (kset ad i q) A (knew M i n) H1 := by
  obtain ⟨Ls, h1, h2, h3, h4⟩ := h
  refine ⟨_, h3, h4, ?_⟩
  intro q e H1 he hP' hD'
  have hpush : kws cA ad M Ls ++ [(q, e)] = kws cA (kset ad i q) (knew M i n) (Ls ++ [i]) := by
    subst he
    simp only [kws, List.map_append, List.map_cons, List.map_nil]
    congr 1
    · apply List.map_congr_left
      intro a ha
      have hal : M.1 a := (h1 a).mpr ha
      have hne : a ≠ i := fun z => hi (z ▸ hal)
      have e1 : kset ad i q a = ad a := by simp [kset, hne]
      rw [e1, kobj_eq (M := M) (M' := knew M i n) (ad' := kset ad i q)]
      · intro j
        have : (knew M i n).2.1 a j = M.2.1 a j := by simp [knew, kset, hne]
        rw [this]
        cases hr : M.2.1 a j with
        | none => rfl
        | some r =>
          have hrl := h2 a j r hal hr
          have : r ≠ i := fun z => hi (z ▸ hrl)
          simp [kset, this]
      · intro j; simp [knew, kset, hne]
      · intro j; simp [knew, kset, hne]
      · simp [knew, kset, hne]
    · simp [kset]
  rw [hpush] at hP' hD'
  refine ⟨Ls ++ [i], fun a => ?_, fun a j r ha hr => ?_, hP', hD'⟩
  · simp only [knew, List.mem_append, List.mem_singleton]
    rw [h1 a]
    exact Or.comm
  · by_cases hai : a = i
    · subst hai; simp [knew, kset] at hr
    · rcases ha with ha | ha
      · exact absurd ha hai
      · refine Or.inr (h2 a j r ha ?_)
        simpa [knew, kset, hai] using hr
/-- fewer cells, and of those the same -/
def KSub (M2 M : KM) : Prop := ∀ i, M2.1 i → M.1 i ∧ (∀ j, M2.2.1 i j = M.2.1 i j) ∧ (∀ j, M2.2.2.1 i j = M.2.2.1 i j) ∧ (∀ j, M2.2.2.2.1 i j = M.2.2.2.1 i j) ∧ M2.2.2.2.2 i = M.2.2.2.2 i ∧ ∀ j r, M2.2.1 i j = some r → M2.1 r
theorem KP.sub {D : va_G} {cA : Nat → ClassId} {ad : KI → Nat} {A : Nat → Prop} {M M2 : KM} {H : Heap} (h : KP D cA ad A M H) (hs : KSub M2 M) : KP D cA ad A M2 H := by
  obtain ⟨Ls, h1, h2, h3, h4⟩ := h
  have hd : DecidablePred M2.1 := fun a => Classical.propDecidable _
  refine ⟨Ls.filter (fun a => decide (M2.1 a)), fun a => ?_, fun a j r ha hr => (hs a ha).2.2.2.2.2 j r hr, ?_, ?_⟩
  · rw [List.mem_filter]
    constructor
    · intro ha; exact ⟨(h1 a).mp (hs a ha).1, by simpa using ha⟩
    · intro ha; simpa using ha.2
  all_goals
    have key : ∀ (k : Nat) (x : Nat × va_E), (kws cA ad M2 (Ls.filter (fun a => decide (M2.1 a))))[k]? = some x → ∃ q : Nat, (kws cA ad M Ls)[q]? = some x := by
      intro k x hx
      cases hq : (Ls.filter (fun a => decide (M2.1 a)))[k]? with
      | none => simp [kws, hq] at hx
      | some a =>
        rw [kws_get hq] at hx
        have hm := List.mem_of_getElem? hq
        rw [List.mem_filter] at hm
        have ha : M2.1 a := by simpa using hm.2
        obtain ⟨q, hq2⟩ := List.getElem?_of_mem hm.1
        refine ⟨q, ?_⟩
        rw [kws_get hq2, ← hx]
        obtain ⟨-, g1, g2, g3, g4, -⟩ := hs a ha
        rw [kobj_eq (M := M) (M' := M2) (ad' := ad) (fun j => by rw [g1]) (fun j => (g2 j).symm) (fun j => (g3 j).symm) g4.symm]
  · intro k x hx
    obtain ⟨q, hq⟩ := key k x hx
    exact h3 q x hq
  · refine ⟨fun k q x y hx hy hxy => ?_, fun k x hx => ?_⟩
    · cases hk : (Ls.filter (fun a => decide (M2.1 a)))[k]? with
      | none => simp [kws, hk] at hx
      | some a =>
        cases hq : (Ls.filter (fun a => decide (M2.1 a)))[q]? with
        | none => simp [kws, hq] at hy
        | some b =>
          rw [kws_get hk] at hx
          rw [kws_get hq] at hy
          cases hx; cases hy
          have hm := List.mem_of_getElem? hk
          have hm2 := List.mem_of_getElem? hq
          rw [List.mem_filter] at hm hm2
          obtain ⟨u, hu⟩ := List.getElem?_of_mem hm.1
          obtain ⟨w, hw⟩ := List.getElem?_of_mem hm2.1
          have huw := kws_inj h4 hu hw hxy
          subst huw
          have hab : a = b := Option.some.inj (hu.symm.trans hw)
          subst hab
          have hnod : Ls.Nodup := by
            refine List.pairwise_iff_getElem.mpr (fun i j hi hj hij hc => ?_)
            have := kws_inj h4 (List.getElem?_eq_getElem hi) (List.getElem?_eq_getElem hj) (by rw [hc])
            omega
          have hn : (Ls.filter (fun a => decide (M2.1 a))).Nodup := List.Pairwise.sublist List.filter_sublist hnod
          exact (List.getElem?_inj (List.getElem?_eq_some_iff.mp hk).1 hn).mp (hk.trans hq.symm)
    · obtain ⟨q, hq⟩ := key k x hx
      exact h4.2 q x hq
theorem KP.weaken {D : va_G} {cA : Nat → ClassId} {ad : KI → Nat} {A B : Nat → Prop} {M : KM} {H : Heap} (h : KP D cA ad A M H) (hAB : ∀ i, M.1 i → A (ad i) → B (ad i)) : KP D cA ad B M H := by
  obtain ⟨Ls, h1, h2, h3, h4⟩ := h
  refine ⟨Ls, h1, h2, h3, h4.weaken fun k q hk hq => ?_⟩
  cases hl : Ls[k]? with
  | none => simp [kws, hl] at hk
  | some a =>
    rw [kws_get hl] at hk
    cases hk
    exact hAB a ((h1 a).mpr (List.mem_of_getElem? hl)) hq
theorem KP.inA {D : va_G} {cA : Nat → ClassId} {ad : KI → Nat} {A : Nat → Prop} {M : KM} {H : Heap} (h : KP D cA ad A M H) {i : KI} (hi : M.1 i) : A (ad i) ∧ ad i < H.size := by
  obtain ⟨ws, k, hk, hP, hD⟩ := h.get hi
  exact ⟨hD.2 k _ hk, (hP k _ hk).lt⟩
/-- the locals -/
def klist (ad : KI → Nat) (nL : Nat) (ls : KL) : List (Nat × Value) := (List.range nL).filterMap (fun i => (kget ls i).map fun v => (i, kv ad v))
def kls (ad : KI → Nat) (nL : Nat) (lsA : Array Slot) (ls : KL) : Prop := lv_has lsA nL (klist ad nL ls) ∧ ls.length = nL
theorem kget_lt : ∀ {ls : KL} {i : Nat} {v : KV}, kget ls i = some v → i < ls.length
  | [], i, v, h => by simp [kget] at h
  | a :: l, 0, v, h => by simp
  | a :: l, i + 1, v, h => by
    have := kget_lt (ls := l) (i := i) (v := v) h
    simp; omega
theorem klist_mem {ad : KI → Nat} {nL : Nat} {ls : KL} {i : Nat} {w : Value} : (i, w) ∈ klist ad nL ls ↔ i < nL ∧ ∃ v, kget ls i = some v ∧ w = kv ad v := by
  simp only [klist, List.mem_filterMap, List.mem_range]
  constructor
  · rintro ⟨k, hk, he⟩
    cases hv : kget ls k with
    | none => simp [hv] at he
    | some v =>
      simp only [hv, Option.map_some, Option.some.injEq, Prod.mk.injEq] at he
      obtain ⟨rfl, rfl⟩ := he
      exact ⟨hk, v, hv, rfl⟩
  · rintro ⟨hk, v, hv, rfl⟩
    exact ⟨i, hk, by simp [hv]⟩
theorem kls.get {ad : KI → Nat} {nL : Nat} {lsA : Array Slot} {ls : KL} (h : kls ad nL lsA ls) {i : Nat} {v : KV} (hv : kget ls i = some v) : lsA[i]? = some (.val (kv ad v)) :=
  h.1.2.2 (i, kv ad v) (klist_mem.mpr ⟨by rw [← h.2]; exact kget_lt hv, v, hv, rfl⟩)
theorem kst1_len : ∀ (ls : KL) (a : Nat) (x : KV), (kst1 ls a x).length = ls.length
  | [], _, _ => rfl
  | _ :: l, 0, _ => rfl
  | _ :: l, 1, x => by simp [kst1, kst1_len l 0 x]
  | _ :: l, a + 2, x => by simp [kst1, kst1_len l (a + 1) x]
theorem kst2_len : ∀ (ls : KL) (a : Nat) (x : KV), (kst2 ls a x).length = ls.length
  | [], 0, _ => rfl
  | [_], 0, _ => rfl
  | _ :: _ :: l, 0, _ => rfl
  | [], 1, x => rfl
  | _ :: l, 1, x => by simp [kst2, kst2_len l 0 x]
  | [], a + 2, x => rfl
  | _ :: l, a + 2, x => by simp [kst2, kst2_len l (a + 1) x]
theorem kst1_get : ∀ (ls : KL) (a : Nat) (x : KV) (j : Nat) (w : KV), kget (kst1 ls a x) j = some w → (j = a ∧ w = x) ∨ (j ≠ a ∧ kget ls j = some w ∧ ¬ (j + 1 = a ∧ kc2 (some w) = true))
  | [], a, x, j, w, h => by simp [kst1, kget] at h
  | b :: l, 0, x, 0, w, h => by simp [kst1, kget] at h; exact Or.inl ⟨rfl, h.symm⟩
  | b :: l, 0, x, j + 1, w, h => by
    simp only [kst1, kget] at h
    exact Or.inr ⟨by omega, h, by omega⟩
  | b :: l, 1, x, 0, w, h => by
    simp only [kst1, kget] at h
    cases hc : kc2 b with
    | true => simp [hc] at h
    | false =>
      simp only [hc, cond_false] at h
      refine Or.inr ⟨by omega, h, fun z => ?_⟩
      rw [← h, hc] at z
      exact absurd z.2 (by decide)
  | b :: l, 1, x, j + 1, w, h => by
    simp only [kst1, kget] at h
    rcases kst1_get l 0 x j w h with ⟨h1, h2⟩ | ⟨h1, h2, h3⟩
    · exact Or.inl ⟨by omega, h2⟩
    · exact Or.inr ⟨by omega, h2, by omega⟩
  | b :: l, a + 2, x, 0, w, h => by
    simp only [kst1, kget] at h
    exact Or.inr ⟨by omega, h, by omega⟩
  | b :: l, a + 2, x, j + 1, w, h => by
    simp only [kst1, kget] at h
    rcases kst1_get l (a + 1) x j w h with ⟨h1, h2⟩ | ⟨h1, h2, h3⟩
    · exact Or.inl ⟨by omega, h2⟩
    · exact Or.inr ⟨by omega, h2, fun z => h3 ⟨by omega, z.2⟩⟩
theorem kst2_get : ∀ (ls : KL) (a : Nat) (x : KV) (j : Nat) (w : KV), a + 1 < ls.length → kget (kst2 ls a x) j = some w → (j = a ∧ w = x) ∨ (j ≠ a ∧ j ≠ a + 1 ∧ kget ls j = some w ∧ ¬ (j + 1 = a ∧ kc2 (some w) = true))
  | [], a, x, j, w, hl, h => by simp at hl
  | [b], a, x, j, w, hl, h => by simp at hl
  | b :: d :: l, 0, x, 0, w, hl, h => by simp [kst2, kget] at h; exact Or.inl ⟨rfl, h.symm⟩
  | b :: d :: l, 0, x, 1, w, hl, h => by simp [kst2, kget] at h
  | b :: d :: l, 0, x, j + 2, w, hl, h => by
    simp only [kst2, kget] at h
    exact Or.inr ⟨by omega, by omega, h, by omega⟩
  | b :: d :: l, 1, x, 0, w, hl, h => by
    simp only [kst2, kget] at h
    cases hc : kc2 b with
    | true => simp [hc] at h
    | false =>
      simp only [hc, cond_false] at h
      refine Or.inr ⟨by omega, by omega, h, fun z => ?_⟩
      rw [← h, hc] at z
      exact absurd z.2 (by decide)
  | b :: d :: l, 1, x, j + 1, w, hl, h => by
    simp only [kst2, kget] at h
    rcases kst2_get (d :: l) 0 x j w (by simp at hl ⊢; omega) h with ⟨h1, h2⟩ | ⟨h1, h2, h3, h4⟩
    · exact Or.inl ⟨by omega, h2⟩
    · exact Or.inr ⟨by omega, by omega, h3, by omega⟩
  | b :: d :: l, a + 2, x, 0, w, hl, h => by
    simp only [kst2, kget] at h
    exact Or.inr ⟨by omega, by omega, h, by omega⟩
  | b :: d :: l, a + 2, x, j + 1, w, hl, h => by
    simp only [kst2, kget] at h
    rcases kst2_get (d :: l) (a + 1) x j w (by simp at hl ⊢; omega) h with ⟨h1, h2⟩ | ⟨h1, h2, h3, h4⟩
    · exact Or.inl ⟨by omega, h2⟩
    · exact Or.inr ⟨by omega, by omega, h3, fun z => h4 ⟨by omega, z.2⟩⟩
theorem kc2_cat {ad : KI → Nat} {v : KV} : (kv ad v).category = if kc2 (some v) = true then 2 else 1 := by
  rcases v with x | x | x | x
  · rfl
  · rfl
  · rfl
  · cases x <;> rfl
theorem kls.st1 {ad : KI → Nat} {nL : Nat} {lsA lsB : Array Slot} {ls : KL} {a : Nat} {x : KV} (h : kls ad nL lsA ls) (h2 : lv_has lsB nL ((a, kv ad x) :: (klist ad nL ls).filter (fun q => !(q.1 == a) && !(q.1 + 1 == a && q.2.category == 2)))) : kls ad nL lsB (kst1 ls a x) := by
  refine ⟨⟨h2.1, h2.2.1, fun q hq => ?_⟩, by rw [kst1_len]; exact h.2⟩
  obtain ⟨j, w⟩ := q
  obtain ⟨hj, v, hv, rfl⟩ := klist_mem.mp hq
  refine h2.2.2 (j, kv ad v) ?_
  rcases kst1_get ls a x j v hv with ⟨rfl, rfl⟩ | ⟨h3, h4, h5⟩
  · exact List.mem_cons_self
  · refine List.mem_cons_of_mem _ (List.mem_filter.mpr ⟨klist_mem.mpr ⟨hj, v, h4, rfl⟩, ?_⟩)
    simp only [Bool.and_eq_true, Bool.not_eq_true', beq_eq_false_iff_ne, ne_eq, h3, not_false_eq_true, true_and, Bool.and_eq_false_iff, kc2_cat]
    by_cases hc : kc2 (some v) = true
    · left; exact fun z => h5 ⟨z, hc⟩
    · right; simp [hc]
theorem kls.st2 {ad : KI → Nat} {nL : Nat} {lsA lsB : Array Slot} {ls : KL} {a : Nat} {x : KV} (h : kls ad nL lsA ls) (ha : a + 1 < nL) (h2 : lv_has lsB nL ((a, kv ad x) :: (klist ad nL ls).filter (fun q => !(q.1 == a) && (!(q.1 == a + 1) && !(q.1 + 1 == a && q.2.category == 2))))) : kls ad nL lsB (kst2 ls a x) := by
  refine ⟨⟨h2.1, h2.2.1, fun q hq => ?_⟩, by rw [kst2_len]; exact h.2⟩
  obtain ⟨j, w⟩ := q
  obtain ⟨hj, v, hv, rfl⟩ := klist_mem.mp hq
  refine h2.2.2 (j, kv ad v) ?_
  rcases kst2_get ls a x j v (by rw [h.2]; exact ha) hv with ⟨rfl, rfl⟩ | ⟨h3, h6, h4, h5⟩
  · exact List.mem_cons_self
  · refine List.mem_cons_of_mem _ (List.mem_filter.mpr ⟨klist_mem.mpr ⟨hj, v, h4, rfl⟩, ?_⟩)
    simp only [Bool.and_eq_true, Bool.not_eq_true', beq_eq_false_iff_ne, ne_eq, h3, h6, not_false_eq_true, true_and, Bool.and_eq_false_iff, kc2_cat]
    by_cases hc : kc2 (some v) = true
    · left; exact fun z => h5 ⟨z, hc⟩
    · right; simp [hc]
/-- other addresses, the same where it matters -/
def kLV (M : KM) (ls : KL) (st : List KV) : Prop := (∀ (i : Nat) (r : KI), kget ls i = some (kR (some r)) → M.1 r ∨ r = (13, 0, 0)) ∧ ∀ r : KI, kR (some r) ∈ st → M.1 r ∨ r = (13, 0, 0)
theorem kOkL_spec {M : KM} : ∀ {ls : KL}, kOkL M ls → ∀ (i : Nat) (r : KI), kget ls i = some (kR (some r)) → M.1 r ∨ r = (13, 0, 0)
  | [], _, i, r, h => by simp [kget] at h
  | a :: l, h, 0, r, hg => by
    simp only [kget] at hg
    have h1 := h.1
    rw [hg] at h1
    exact h1
  | a :: l, h, i + 1, r, hg => kOkL_spec (ls := l) h.2 i r hg
theorem kOkS_spec {M : KM} : ∀ {st : List KV}, kOkS M st → ∀ r : KI, kR (some r) ∈ st → M.1 r ∨ r = (13, 0, 0)
  | [], _, r, h => by simp at h
  | a :: l, h, r, hg => by
    rcases List.mem_cons.mp hg with h1 | h1
    · have h2 := h.1
      rw [← h1] at h2
      exact h2
    · exact kOkS_spec (st := l) h.2 r h1
theorem kLV_of {M : KM} {ls : KL} {st : List KV} (h1 : kOkL M ls) (h2 : kOkS M st) : kLV M ls st := ⟨kOkL_spec h1, kOkS_spec h2⟩
theorem kv_same {ad ad' : KI → Nat} {v : KV} (h : ∀ r, v = kR (some r) → ad' r = ad r) : kv ad' v = kv ad v := by
  rcases v with x | x | x | x
  · rfl
  · rfl
  · rfl
  · cases x with
    | none => rfl
    | some r => simp [kv, h r rfl]
theorem kls.same {ad ad' : KI → Nat} {nL : Nat} {lsA : Array Slot} {ls : KL} (h : kls ad nL lsA ls) (he : ∀ (i : Nat) (r : KI), kget ls i = some (kR (some r)) → ad' r = ad r) : kls ad' nL lsA ls := by
  refine ⟨⟨h.1.1, h.1.2.1, fun q hq => ?_⟩, h.2⟩
  obtain ⟨j, w⟩ := q
  obtain ⟨hj, v, hv, rfl⟩ := klist_mem.mp hq
  show lsA[j]? = some (.val (kv ad' v))
  rw [kv_same (ad := ad) (fun r hr => he j r (by rw [hv, hr]))]
  exact h.get hv
theorem kst_same {ad ad' : KI → Nat} {st : List KV} (he : ∀ r : KI, kR (some r) ∈ st → ad' r = ad r) : st.map (kv ad') = st.map (kv ad) := by
  apply List.map_congr_left
  intro v hv
  exact kv_same fun r hr => he r (hr ▸ hv)
theorem kls.weak {ad : KI → Nat} {nL : Nat} {lsA : Array Slot} {ls ls' : KL} (h : kls ad nL lsA ls) (hl : ls'.length = ls.length) (he : ∀ (i : Nat) (v : KV), kget ls' i = some v → kget ls i = some v) : kls ad nL lsA ls' := by
  refine ⟨⟨h.1.1, h.1.2.1, fun q hq => ?_⟩, hl.trans h.2⟩
  obtain ⟨j, w⟩ := q
  obtain ⟨hj, v, hv, rfl⟩ := klist_mem.mp hq
  exact h.get (he j v hv)
theorem kcats_sum {ad : KI → Nat} : ∀ st : List KV, ((st.map (kv ad)).map fun v => v.category).sum = kcats st
  | [] => rfl
  | v :: r => by
    simp only [List.map_cons, List.sum_cons, kcats]
    rw [kcats_sum r]
    congr 1
    rcases v with x | x | x | x
    · rfl
    · rfl
    · rfl
    · cases x <;> rfl
