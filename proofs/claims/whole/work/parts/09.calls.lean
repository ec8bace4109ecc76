/-! Contracts of our methods over the small machine's memory, and calls. -/
def KA (ad : KI → Nat) (M : KM) (sz : Nat) : Nat → Prop := fun q => (∃ i, M.1 i ∧ ad i = q) ∨ sz ≤ q
def kwsM (m : KMeth) : List Cond := .code m.1 m.2.1 m.2.2.1 m.2.2.2.1 :: kGW
def KPre (D : va_G) (cA : Nat → ClassId) (ad : KI → Nat) (sz : Nat) (M : KM) (av : List KV) (Z : State → Prop) : Array Value → State → Prop :=
  va_Pc (av.map (kv ad)) (fun U => U.heap.size = sz ∧ KP D cA ad (fun _ => True) M U.heap ∧ va_K D vwCl (ktys cA) U ∧ KNest U ∧ Z U)
def KPost (D : va_G) (cA : Nat → ClassId) (ad : KI → Nat) (sz : Nat) (M : KM) (Q : Option KV → KM → Prop) : Array Value → State → Outcome → State → Prop := fun _ st oc t =>
  (∃ (v : Option KV) (ad' : KI → Nat) (M' : KM), oc = .returned (v.map (kv ad')) ∧ Q v M' ∧ KP D cA ad' (KA ad M sz) M' t.heap ∧ KZ ad M.1 M' ad') ∧ va_F (KA ad M sz) st t
/-- the method, called with av over the memory M, returns v over M' with Q; it makes at most mc cells of ms slots -/
def SpQ (m : KMeth) (mc ms : Nat) (av : List KV) (M : KM) (Q : Option KV → KM → Prop) : Prop :=
  ∀ (l : Launch) (D : va_G) (cA : Nat → ClassId) (ad : KI → Nat) (sz : Nat), Met l m.1 (kwsM m) (kroom m mc ms) (KPre D cA ad sz M av (fun _ => True)) (KPost D cA ad sz M Q) mc ms (KA ad M sz)
def krt : Option FieldType → Option KV → Prop
  | none, none => True
  | some .int, some (.inl _) => True
  | some .boolean, some (.inl x) => x = 0 ∨ x = 1
  | some .long, some (.inr (.inl _)) => True
  | some .double, some (.inr (.inr (.inl _))) => True
  | _, _ => False
abbrev kEq (m : KMeth) (mc ms : Nat) (Q : Option KV → KM → Prop) : KEnd := fun v M cs sl => Q v M ∧ krt m.2.2.2.1 v ∧ cs ≤ mc ∧ sl ≤ ms
def kent : List KV → KL
  | [] => []
  | v :: r => if kcat v = 2 then some v :: none :: kent r else some v :: kent r
def kpad : Nat → KL → KL
  | 0, _ => []
  | n + 1, [] => none :: kpad n []
  | n + 1, a :: l => a :: kpad n l
theorem kpad_len : ∀ (n : Nat) (l : KL), (kpad n l).length = n
  | 0, _ => rfl
  | n + 1, [] => by simp [kpad, kpad_len n []]
  | n + 1, _ :: l => by simp [kpad, kpad_len n l]
theorem kpad_get : ∀ (n : Nat) (l : KL) (i : Nat) (v : KV), kget (kpad n l) i = some v → kget l i = some v
  | 0, _, i, v, h => by simp [kpad, kget] at h
  | n + 1, [], 0, v, h => by simp [kpad, kget] at h
  | n + 1, [], i + 1, v, h => by
    simp only [kpad, kget] at h
    have := kpad_get n [] i v h
    simp [kget] at this
  | n + 1, a :: l, 0, v, h => by simpa [kpad, kget] using h
  | n + 1, a :: l, i + 1, v, h => by
    simp only [kpad, kget] at h ⊢
    exact kpad_get n l i v h
theorem kcat_eq {ad : KI → Nat} (v : KV) : (kv ad v).category = kcat v := by
  rcases v with x | x | x | x
  · rfl
  · rfl
  · rfl
  · cases x <;> rfl
theorem kent_get {ad : KI → Nat} : ∀ (l : List KV) (i k : Nat) (v : KV), kget (kent l) i = some v → (k + i, kv ad v) ∈ lv_args k (l.map (kv ad))
  | [], i, k, v, h => by simp [kent, kget] at h
  | a :: r, i, k, v, h => by
    simp only [kent] at h
    simp only [List.map_cons, lv_args, kcat_eq]
    by_cases hc : kcat a = 2
    · rw [if_pos hc] at h ⊢
      match i, h with
      | 0, h => simp only [kget, Option.some.injEq] at h; subst h; exact List.mem_cons_self
      | 1, h => simp [kget] at h
      | i + 2, h =>
        simp only [kget] at h
        have := kent_get (ad := ad) r i (k + 2) v h
        rw [show k + (i + 2) = k + 2 + i by omega]
        exact List.mem_cons_of_mem _ this
    · rw [if_neg hc] at h ⊢
      match i, h with
      | 0, h => simp only [kget, Option.some.injEq] at h; subst h; exact List.mem_cons_self
      | i + 1, h =>
        simp only [kget] at h
        have := kent_get (ad := ad) r i (k + 1) v h
        rw [show k + (i + 1) = k + 1 + i by omega]
        exact List.mem_cons_of_mem _ this
theorem kent_len {ad : KI → Nat} : ∀ l : List KV, (lg_sl (l.map (kv ad))).length = (kent l).length
  | [] => rfl
  | a :: r => by
    have ih := kent_len (ad := ad) r
    simp only [lg_sl, List.map_cons, List.flatMap_cons, kent, kcat_eq] at ih ⊢
    by_cases hc : kcat a = 2
    · simp [hc, ih]
    · simp [hc, ih]
theorem kentry_has {ad : KI → Nat} {nL : Nat} {av : List KV} (h : (kent av).length ≤ nL) : kls ad nL ((lg_sl (av.map (kv ad)) ++ List.replicate (nL - (lg_sl (av.map (kv ad))).length) Slot.unset).toArray) (kpad nL (kent av)) := by
  have h1 := lv_entry (av.map (kv ad)) (n := nL) (by rw [kent_len]; exact h)
  refine ⟨⟨h1.1, h1.2.1, fun q hq => ?_⟩, kpad_len _ _⟩
  obtain ⟨j, w⟩ := q
  obtain ⟨hj, v, hv, rfl⟩ := klist_mem.mp hq
  have h2 := kent_get (ad := ad) av j 0 v (kpad_get _ _ _ _ hv)
  rw [Nat.zero_add] at h2
  exact h1.2.2 (j, kv ad v) h2
theorem KNest.warm {s U : State} (hW : s.WarmedH U.vm) (h : KNest s) : KNest U := by
  refine ⟨fun e he => va_Nw.warmF hW (h.1 e he), fun e he => va_Nw.warmM hW (h.2.1 e he), fun k hk => va_AO.moved hW.alike (h.2.2 k hk)⟩
theorem KNest.same {s U : State} (hv : s.vm = U.vm) (h : KNest s) : KNest U := by
  refine ⟨fun e he => ?_, fun e he => ?_, fun k hk => ?_⟩
  · have hon := List.all_eq_true.mp kN_ok e he
    simp only [Bool.and_eq_true, decide_eq_true_eq] at hon
    exact va_Nw.same hon.2 hv (h.1 e he)
  · have hon := List.all_eq_true.mp kI_ok e he
    simp only [Bool.and_eq_true, decide_eq_true_eq] at hon
    exact va_Nw.same hon.2 hv (h.2.1 e he)
  · exact va_AO.moved (by rw [hv]; exact Vm.Alike.refl U.vm) (h.2.2 k hk)
theorem KPre.blind {D : va_G} {cA : Nat → ClassId} {ad : KI → Nat} {sz : Nat} {M : KM} {av : List KV} {Z : State → Prop} (hZ : ∀ (a : Array Value) (U : State) (g : JFrame) (mk : MethodId), Z U → Z (U.calling g mk a)) : FrameBlind (KPre D cA ad sz M av Z) := by
  intro a U g mk q
  obtain ⟨q0, q1, qP, qK, qN, qZ⟩ := q
  exact ⟨q0, q1, qP, va_K.moved (u := U) (U := U.calling g mk a) (Vm.Alike.refl U.vm) qK, KNest.same (s := U) rfl qN, hZ a U g mk qZ⟩
theorem KP.full {D : va_G} {cA : Nat → ClassId} {ad : KI → Nat} {A : Nat → Prop} {M : KM} {H : Heap} (h : KP D cA ad A M H) : KP D cA ad (fun _ => True) M H := h.weaken fun _ _ _ => trivial
theorem SpQ_of {m : KMeth} {own : Nat} {ini : Bool} {mc ms : Nat} {av : List KV} {M : KM} {Q : Option KV → KM → Prop} (hp : plainFor m.1 = true) (ho : kown own = m.1.cls) (hi : ini = true → m.1.name = "<init>") (hfit : (kent av).length ≤ m.2.2.1)
    (body : ∀ X : KX, KC X m own ini none mc ms → KRet X m (kEq m mc ms Q) → KL0 X = M.1 → KW X 0 (kpad m.2.2.1 (kent av)) [] M 0 0) : SpQ m mc ms av M Q := by
  intro l D cA ad sz
  refine va_MetF (cc := m.2.1) (maxL := m.2.2.1) (ret := m.2.2.2.1) hp rfl ?_
  intro p e s mid args below meth c s₁ B hml hv
  obtain ⟨rfl, hsz, hP, hK, hN, -⟩ := hv
  subst hsz
  have hx := B.exec
  have hb := B.bytes
  have hr := B.returns
  have hts := atoms_spec (ws := kwsM m) B.pre
  have hown : s.vm.findClass m.1.cls = some mid.cls := findClass_of_methodNamed B.named
  have hlocks : meth.locks = false := B.notSynchronized
  have hPA : KP D cA ad (KA ad M s.heap.size) M s.heap := hP.weaken fun i hi _ => Or.inl ⟨i, hi, rfl⟩
  have hVS : va_S (KA ad M s.heap.size) s.heap s.heap [] := va_S.rf
  have hl := kentry_has (ad := ad) hfit
  rw [lg_entry_eq]
  generalize ((lg_sl (av.map (kv ad)) ++ List.replicate (m.2.2.1 - (lg_sl (av.map (kv ad))).length) Slot.unset).toArray) = lsA at hl ⊢
  have hX := body (p, l, e, kroom m mc ms, s, mid, (av.map (kv ad)).toArray, below, meth, c, KA ad M s.heap.size, D, cA, ad, M.1, MQ below (KPost D cA ad s.heap.size M Q) (av.map (kv ad)).toArray s mc ms (KA ad M s.heap.size))
    ⟨hx, hb, hml, by rw [ho]; exact hown, fun w hw => hts w (List.mem_cons_of_mem _ hw), hK, hN, fun q hq => Or.inr hq, fun h => by rw [(name_of_methodNamed B.named B.method).1]; exact hi h, trivial, hlocks, rfl⟩ ?_ rfl
  · exact hX ad s.heap [] lsA hPA hVS (by rw [hml]; exact hl) ⟨rfl, fun i hi => ⟨hi, rfl⟩⟩
  · intro v M' cs sl hE ad' H locs lsB pc hP' hVS' hZ hd
    obtain ⟨hQ, hrt, hcs, hsl⟩ := hE
    refine W.widen hcs hsl ?_
    have hpost : ∀ t : State, t.heap = H → s.WarmedH t.vm → KPost D cA ad s.heap.size M Q (av.map (kv ad)).toArray s (.returned (v.map (kv ad'))) t := fun t ht hW => ⟨⟨v, ad', M', rfl, hQ, by rw [ht]; exact hP', hZ⟩, hVS'.F ht⟩
    cases v with
    | none =>
      cases hret : m.2.2.2.1 with
      | none => exact W.vret hx hb (hr.trans hret) hpost hVS'.2.2 hd
      | some ty => rw [hret] at hrt; cases ty <;> exact hrt.elim
    | some x =>
      rcases x with x | x | x | x
      · cases hret : m.2.2.2.1 with
        | none => rw [hret] at hrt; exact hrt.elim
        | some ty =>
          rw [hret] at hrt
          cases ty
          case int => exact W.iret (v := x) hx hb (hr.trans hret) hpost hVS'.2.2 hd
          case boolean =>
            refine W.zret (v := x) hx hb (hr.trans hret) ?_ hpost hVS'.2.2 hd
            rcases hrt with rfl | rfl <;> rfl
          all_goals exact hrt.elim
      · cases hret : m.2.2.2.1 with
        | none => rw [hret] at hrt; exact hrt.elim
        | some ty =>
          rw [hret] at hrt
          cases ty
          case long => exact W.lret (v := x) hx hb (hr.trans hret) hpost hVS'.2.2 hd
          all_goals exact hrt.elim
      · cases hret : m.2.2.2.1 with
        | none => rw [hret] at hrt; exact hrt.elim
        | some ty =>
          rw [hret] at hrt
          cases ty
          case double => exact W.dret (v := x) hx hb (hr.trans hret) hpost hVS'.2.2 hd
          all_goals exact hrt.elim
      · exact hd.elim
/-- behind a call: from what the callee's run says to what holds here -/
theorem kAfter {p : Program} {l : Launch} {e : Env} {R : Room} {s : State} {mid : MethodId} {args : Array Value} {below : List Frame} {meth : Method} {c : Code} {A : Nat → Prop} {D : va_G} {cA : Nat → ClassId} {ad0 : KI → Nat} {L0 : KI → Prop} {Q : State → Prop} {ad : KI → Nat} {H : Heap} {locs : List Loc} {lsA : Array Slot} {pc cs sl mc2 ms2 : Nat} {ls : KL} {st : List KV} {M : KM} {Q2 : Option KV → KM → Prop} {a : Array Value} {st0 : List Value}
    (hA : ∀ q, s.heap.size ≤ q → A q) (hP : KP D cA ad A M H) (hVS : va_S A s.heap H locs) (hl : kls ad c.maxLocals lsA ls) (hZ : KZ ad0 L0 M ad) (hLV : kLV M ls st)
    (hr : va_Run p l e R s mid args below meth c H locs cs sl mc2 ms2 (F0 mid pc lsA st0) (st.map (kv ad)) (KPost D cA ad H.size M Q2 a) (KA ad M H.size))
    (hk : ∀ (v : Option KV) (M' : KM), Q2 v M' → KW (p, l, e, R, s, mid, args, below, meth, c, A, D, cA, ad0, L0, Q) (pc + 3) ls (v.toList ++ st) M' (cs + mc2) (sl + ms2)) : W p l e R s mid args below meth c H locs cs sl Q (F0 mid pc lsA st0) := by
  have hAA : ∀ q, KA ad M H.size q → A q := by
    intro q hq
    rcases hq with ⟨i, hi, rfl⟩ | hq
    · exact (hP.inA hi).1
    · exact hA q (Nat.le_trans hVS.1 hq)
  intro T hT X
  obtain ⟨v0, st₀, t, T', L, h0, X', hL, e1, e2, ⟨⟨v, ad', M', hv, hq, hP', hZ'⟩, hz, hkk⟩, stp⟩ := hr T hT X
  have hv : v0 = v.map (kv ad') := by cases hv; rfl
  rw [h0] at hz hkk
  have hVS2 : va_S A s.heap T'.heap (locs ++ L) := ⟨Nat.le_trans hVS.1 (by rw [e1]; exact hz), fun q h1 h2 => by rw [e1, hkk q (Nat.lt_of_lt_of_le h1 hVS.1) (fun z => h2 (hAA q z))]; exact hVS.2.1 q h1 h2, fun q hq => by
      rcases List.mem_append.mp hq with h | h
      · exact hVS.2.2 q h
      · exact hAA _ (hL q h)⟩
  have hP2 : KP D cA ad' A M' T'.heap := by rw [e1]; exact hP'.weaken fun i hi h => hAA _ h
  have hZ2 : KZ ad0 L0 M' ad' := ⟨hZ'.1.trans hZ.1, fun i hi => ⟨(hZ'.2 i (hZ.2 i hi).1).1, (hZ'.2 i (hZ.2 i hi).1).2.trans (hZ.2 i hi).2⟩⟩
  have hsame : ∀ r : KI, (M.1 r ∨ r = (13, 0, 0)) → ad' r = ad r := by
    intro r hr
    rcases hr with hr | rfl
    · exact (hZ'.2 r hr).2
    · exact hZ'.1
  have hl2 : kls ad' c.maxLocals lsA ls := hl.same fun i r hr => hsame r (hLV.1 i r hr)
  have hst2 : (v.toList ++ st).map (kv ad') = v0.toList ++ st.map (kv ad) := by
    rw [List.map_append, kst_same (ad := ad) (fun r hr => hsame r (hLV.2 r hr)), hv]
    cases v <;> rfl
  have hW := hk v M' hq ad' T'.heap (locs ++ L) lsA hP2 hVS2 hl2 hZ2
  rw [hst2] at hW
  obtain ⟨t2, a1, b1⟩ := hW T' rfl X'
  exact ⟨t2, stp t2 a1, b1⟩
/-- what a call's site needs of the tables: modes 0 virtual, 1 static, 2 a constructor, 3 a nest mate's constructor, 4 static with handlers of its own -/
def klk (mode own idx : Nat) (m2 : KMeth) (n : Nat) : Bool :=
  (if mode = 3 then ktabI.contains (own, idx, m2.1) else decide (Cond.methodLink (kown own) idx m2.1 ∈ lw_tbl) && goodWord (Cond.methodLink (kown own) idx m2.1)) &&
  (decide (Cond.initialized m2.1.cls ∈ lw_tbl) && (goodWord (Cond.initialized m2.1.cls) &&
  ((if mode = 0 then decide (Cond.selects m2.1.cls m2.1 m2.1 ∈ lw_tbl) && goodWord (Cond.selects m2.1.cls m2.1 m2.1) else true) &&
  ((if mode = 1 ∨ mode = 4 then decide (Cond.static m2.1 ∈ lw_tbl) && goodWord (Cond.static m2.1) else decide (Cond.instanceMethod m2.1 ∈ lw_tbl) && goodWord (Cond.instanceMethod m2.1)) &&
  ((if mode = 2 ∨ mode = 3 then decide (m2.1.name = "<init>") else true) &&
  ((if mode = 4 then true else decide (Cond.code m2.1 m2.2.1 m2.2.2.1 m2.2.2.2.1 ∈ lw_tbl) && goodWord (Cond.code m2.1 m2.2.1 m2.2.2.1 m2.2.2.2.1)) &&
  (decide (m2.1.cls ≠ "java/lang/invoke/MethodHandle" ∧ m2.1.cls ≠ "java/lang/invoke/VarHandle") && decide ((parseMethodDescriptor m2.1.desc).map (fun d => d.parameters.length) = some n))))))))
theorem kGoodAll : ∀ w ∈ kGW, w ∈ kGW := fun _ h => h
theorem kGood_ws {m2 : KMeth} (hc : Cond.code m2.1 m2.2.1 m2.2.2.1 m2.2.2.2.1 ∈ kGW) {pre : List Cond} (hpre : ∀ w ∈ pre, w ∈ kGW) : GoodIn kGW (pre ++ kwsM m2) := by
  refine kGW_good fun w hw => ?_
  rcases List.mem_append.mp hw with h | h
  · exact hpre w h
  · rcases List.mem_cons.mp h with rfl | h
    · exact hc
    · exact h
section KCL
variable {X : KX} {m m2 : KMeth} {own : Nat} {ini : Bool} {S : KS} {mc ms mc2 ms2 pc idx n : Nat} {ls : KL} {stk st av : List KV} {M : KM} {cs sl : Nat} {Q2 : Option KV → KM → Prop}
theorem KW_callV (hC : KC X m own ini S mc ms) (hd : decode m.2.1 pc = .ok (.invokevirtual idx, 3)) (hlk : klk 0 own idx m2 n = true) (hR : m2.2.2.2.2.1 + 1 ≤ m.2.2.2.2.1 ∧ 8 + (m2.2.2.1 + 11) + m2.2.2.2.2.2 ≤ m.2.2.2.2.2) {i : KI} {As : List KV} (hs : SpQ m2 mc2 ms2 (kR (some i) :: As) M Q2)
    (hn : As.length = n) (hst : stk = As.reverse ++ kR (some i) :: st) (hi8 : i.1 < 8) (hic : kRn i.1 = m2.1.cls) (hM : M.1 i) (h1 : kOkL M ls) (h2 : kOkS M st) (hcat : kcats st ≤ 8) (hcs : cs + mc2 ≤ mc) (hsl : sl + ms2 ≤ ms)
    (hk : ∀ (v : Option KV) (M' : KM), Q2 v M' → KW X (pc + 3) ls (v.toList ++ st) M' (cs + mc2) (sl + ms2)) : KW X pc ls stk M cs sl := by
  subst hst
  obtain ⟨p, l, e, R, s, mid, args, below, meth, c, A, D, cA, ad0, L0, Q⟩ := X
  obtain ⟨hx, hb, hml, hown, hts, hK, hN, hA, hin, hS, hlk9, rfl⟩ := hC
  intro ad H locs lsA hP hVS hl hbad
  simp only [klk, if_true, Bool.and_eq_true, decide_eq_true_eq, Nat.reduceEqDiff, if_false, or_self] at hlk
  obtain ⟨⟨a1, a2⟩, a3, a4, ⟨a5, a6⟩, ⟨a7, a8⟩, -, ⟨a9, a10⟩, ⟨a11, a12⟩, a13⟩ := hlk
  have hcode := kGW_in a9 a10
  have hgood : GoodIn kGW (wsV (kown own) idx m2.1.cls m2.1 (kwsM m2)) := kGood_ws hcode (pre := [.methodLink (kown own) idx m2.1, .instanceMethod m2.1, .selects m2.1.cls m2.1 m2.1, .initialized m2.1.cls]) (by
    intro w hw
    simp only [List.mem_cons, List.not_mem_nil, or_false] at hw
    rcases hw with rfl | rfl | rfl | rfl
    · exact kGW_in a1 a2
    · exact kGW_in a7 a8
    · exact kGW_in a5 a6
    · exact kGW_in a3 a4)
  obtain ⟨ws, k, hk0, hP1, hD1⟩ := hP.get hM
  rw [kobj_c hi8] at hk0
  have hrecv := va_recv hK hP1 (kCl _ hi8) hk0
  simp only [hic] at hrecv
  have cw : CallW (kroom m mc ms) s args (kown own) m2.1.cls idx m2.1 m2.2.1 m2.2.2.1 m2.2.2.2.1 (kwsM m2) (kroom m2 mc2 ms2) mc2 ms2 n := cwV n hts hgood rfl rfl rfl ⟨rfl, a11, a12, a13⟩ hR
  have hrun := va_runV (p := p) (l := l) (e := e) (R := kroom m mc ms) (s := s) (m := mid) (args := args) (below := below) (meth := meth) (c := c) (H := H) (locs := locs) (cells := cs) (slots := sl) (As := As.map (kv ad)) (rest := st.map (kv ad)) (g := F0 mid pc lsA ((As.reverse ++ kR (some i) :: st).map (kv ad))) (b := ad i) ⟨hx, hb, hml, hown, hts⟩ (hs l D cA ad H.size) cw
    ⟨KPre.blind (fun _ _ _ _ _ => trivial), hrecv, fun U hU hW => ⟨rfl, by rw [hU], by rw [hU]; exact hP.full, va_K.moved hW.alike hK, hN.warm hW, trivial⟩⟩ rfl (by simpa using hn) (by rw [← hml]; exact hl.1.1) (by simp [kv, va_rf]) (by
      rw [kcats_sum]
      show 2 * 0 + kcats st ≤ 8
      omega) hd ⟨hcs, hsl⟩
  exact kAfter hA hP hVS hl hbad (kLV_of h1 h2) hrun hk
theorem KW_callS (hC : KC X m own ini S mc ms) (hd : decode m.2.1 pc = .ok (.invokestatic idx, 3)) (hlk : klk 1 own idx m2 n = true) (hR : m2.2.2.2.2.1 + 1 ≤ m.2.2.2.2.1 ∧ 8 + (m2.2.2.1 + 11) + m2.2.2.2.2.2 ≤ m.2.2.2.2.2) (hs : SpQ m2 mc2 ms2 av M Q2)
    (hn : av.length = n) (hst : stk = av.reverse ++ st) (h1 : kOkL M ls) (h2 : kOkS M st) (hcat : kcats st ≤ 8) (hcs : cs + mc2 ≤ mc) (hsl : sl + ms2 ≤ ms)
    (hk : ∀ (v : Option KV) (M' : KM), Q2 v M' → KW X (pc + 3) ls (v.toList ++ st) M' (cs + mc2) (sl + ms2)) : KW X pc ls stk M cs sl := by
  subst hst
  obtain ⟨p, l, e, R, s, mid, args, below, meth, c, A, D, cA, ad0, L0, Q⟩ := X
  obtain ⟨hx, hb, hml, hown, hts, hK, hN, hA, hin, hS, hlk9, rfl⟩ := hC
  intro ad H locs lsA hP hVS hl hbad
  simp only [klk, if_true, Bool.and_eq_true, decide_eq_true_eq, Nat.reduceEqDiff, if_false, true_or, or_self, Nat.one_ne_zero] at hlk
  obtain ⟨⟨a1, a2⟩, a3, a4, -, ⟨a7, a8⟩, -, ⟨a9, a10⟩, ⟨a11, a12⟩, a13⟩ := hlk
  have hcode := kGW_in a9 a10
  have hgood : GoodIn kGW (va_wsS (kown own) idx m2.1 (kwsM m2)) := kGood_ws hcode (pre := [.methodLink (kown own) idx m2.1, .static m2.1, .initialized m2.1.cls]) (by
    intro w hw
    simp only [List.mem_cons, List.not_mem_nil, or_false] at hw
    rcases hw with rfl | rfl | rfl
    · exact kGW_in a1 a2
    · exact kGW_in a7 a8
    · exact kGW_in a3 a4)
  have cw := va_cwS (R := kroom m mc ms) (s := s) (args := args) (own := kown own) (index := idx) (y := m2.1) (bytes := m2.2.1) (maxL := m2.2.2.1) (ret := m2.2.2.2.1) (ws := kwsM m2) (rm := kroom m2 mc2 ms2) (mc := mc2) (ms := ms2) n hts hgood rfl rfl rfl ⟨a11, a12, a13⟩ hR
  have hrun := va_runS (p := p) (l := l) (e := e) (R := kroom m mc ms) (s := s) (m := mid) (args := args) (below := below) (meth := meth) (c := c) (H := H) (locs := locs) (cells := cs) (slots := sl) (As := av.map (kv ad)) (rest := st.map (kv ad)) (g := F0 mid pc lsA ((av.reverse ++ st).map (kv ad))) ⟨hx, hb, hml, hown, hts⟩ (hs l D cA ad H.size) cw
    ⟨KPre.blind (fun _ _ _ _ _ => trivial), fun U hU hW => ⟨rfl, by rw [hU], by rw [hU]; exact hP.full, va_K.moved hW.alike hK, hN.warm hW, trivial⟩⟩ rfl (by simpa using hn) (by rw [← hml]; exact hl.1.1) (by simp) (by
      rw [kcats_sum]
      show 2 * 0 + kcats st ≤ 8
      omega) hd ⟨hcs, hsl⟩
  exact kAfter hA hP hVS hl hbad (kLV_of h1 h2) hrun hk
end KCL
