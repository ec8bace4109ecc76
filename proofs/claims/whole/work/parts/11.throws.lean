/-! Methods that may throw: contracts, calls, the three throwing places, catching. -/
abbrev kNames : List String := ["java/lang/RuntimeException", "java/lang/Exception"]
abbrev kIAE : String := "java/lang/IllegalArgumentException"
abbrev kISE : String := "java/lang/IllegalStateException"
abbrev kIOE : String := "java/lang/IndexOutOfBoundsException"
def kthrW : List Cond := (vx_atS RX5 188 kIOE kNames).filter (fun w => !goodWord w) ++ ((vx_atS RX5 195 kIAE kNames).filter (fun w => !goodWord w) ++ (vx_atS RX5 200 kISE kNames).filter (fun w => !goodWord w))
set_option maxRecDepth 100000 in
theorem kthrW_ok : (kthrW.all fun w => decide (w ∈ lw_tbl) && (w.onTables && w.faceAtom)) = true := by decide +kernel
theorem kFace {w : Cond} (h1 : w.onTables = true) (h2 : w.faceAtom = true) {s U : State} (hv : s.vm.Alike U.vm) (h : va_Nw w s) : va_Nw w U :=
  va_tabs h1 (show (s.setVm U.vm).vm = U.vm from rfl) (Cond.faceAtom_setVm hv w h2 h)
def kE3 : List String := [kIAE, kISE, kIOE]
def KThr (A : Nat → Prop) (U : State) : Prop := (∀ E ∈ kE3, ∀ F ∈ kE3, E ≠ F → va_Nc E F U) ∧ vx_Zq Bundle.tN "UNASSIGNED_STACK" Bundle.steD A U U.heap ∧ vx_Zq Bundle.tN "SUPPRESSED_SENTINEL" Bundle.listD A U U.heap ∧ (∀ w ∈ kthrW, va_Nw w U) ∧ (∃ a, vk_R RX5 186 "there is none with this number" a U) ∧ (∃ a, vk_R RX5 193 "the argument is out of its range" a U) ∧ ∃ a, vk_R RX5 198 "the lift does not allow this now" a U
theorem KThr.blind {A : Nat → Prop} (a : Array Value) (U : State) (g : JFrame) (mk : MethodId) (h : KThr A U) : KThr A (U.calling g mk a) := by
  obtain ⟨h0, h1, h2, h3, ⟨b1, h4⟩, ⟨b2, h5⟩, b3, h6⟩ := h
  refine ⟨fun E hE F hF hne => va_Nc.moved (u := U) (Vm.Alike.refl U.vm) (h0 E hE F hF hne), vx_Zq.moved (Vm.Alike.refl U.vm) h1, vx_Zq.moved (Vm.Alike.refl U.vm) h2, fun w hw => ?_, ⟨b1, vk_R.same (u := U) rfl h4⟩, ⟨b2, vk_R.same (u := U) rfl h5⟩, b3, vk_R.same (u := U) rfl h6⟩
  have hon := List.all_eq_true.mp kthrW_ok w hw
  simp only [Bool.and_eq_true, decide_eq_true_eq] at hon
  exact va_Nw.same hon.2.1 (u := U) rfl (h3 w hw)
theorem KThr.carry {A B : Nat → Prop} {s U : State} {H : Heap} {locs : List Loc} (h : KThr A s) (hVS : va_S A s.heap H locs) (hU : U.heap = H) (hW : s.WarmedH U.vm) (hBA : ∀ q, B q → A q) : KThr B U := by
  obtain ⟨h0, h1, h2, h3, ⟨b1, h4⟩, ⟨b2, h5⟩, b3, h6⟩ := h
  subst hU
  refine ⟨fun E hE F hF hne => va_Nc.moved hW.alike (h0 E hE F hF hne), ((vx_Zq.moved hW.alike h1).kept hVS.2.1).narrow hBA, ((vx_Zq.moved hW.alike h2).kept hVS.2.1).narrow hBA, fun w hw => ?_, ⟨b1, h4.warm hW⟩, ⟨b2, h5.warm hW⟩, b3, h6.warm hW⟩
  have hon := List.all_eq_true.mp kthrW_ok w hw
  simp only [Bool.and_eq_true, decide_eq_true_eq] at hon
  exact kFace hon.2.1 hon.2.2 hW.alike (h3 w hw)
/-- the context may throw -/
def KCX (X : KX) : Prop := match X with
  | (_, l, _, _, s, _, _, _, _, _, A, _, _, _, _, _) => l.stackTraces = false ∧ KThr A s
def KXC (D : va_G) (cA : Nat → ClassId) (ad : KI → Nat) (sz : Nat) (M : KM) (T : String → KM → Prop) : String → State → State → Prop := fun E st t =>
  (∃ (ad' : KI → Nat) (M' : KM), T E M' ∧ KP D cA ad' (KA ad M sz) M' t.heap ∧ KZ ad M.1 M' ad') ∧ va_F (KA ad M sz) st t
/-- the method returns with Q, or throws with T -/
def SpX (m : KMeth) (mc ms : Nat) (av : List KV) (M : KM) (Q : Option KV → KM → Prop) (T : String → KM → Prop) : Prop :=
  ∀ (l : Launch), l.stackTraces = false → ∀ (D : va_G) (cA : Nat → ClassId) (ad : KI → Nat) (sz : Nat), vx_Met l m.1 (kwsM m) (kroom m mc ms) (KPre D cA ad sz M av (KThr (KA ad M sz))) (KPost D cA ad sz M Q) (KXC D cA ad sz M T) mc ms (KA ad M sz)
/-- what is owed where a call at pc has thrown E -/
def KThw (X : KX) (pc : Nat) (E : String) (M : KM) (cs sl : Nat) : Prop := match X with
  | (p, l, e, R, s, mid, args, below, meth, c, A, D, cA, ad0, L0, Q) => ∀ (ad : KI → Nat) (H : Heap) (locs : List Loc) (lsA : Array Slot) (q : Addr) (ce : Cell) (rest : List Value), KP D cA ad A M H → va_S A s.heap H locs → KZ ad0 L0 M ad → lsA.size = c.maxLocals → lv_has lsA c.maxLocals [] → H[q]? = some ce → ce.vm = .none → s.vm.findClass E = some ce.cls → vx_W p l e R s mid args below meth c H locs cs sl Q (F0 mid pc lsA rest) q
def kEnames (E : String) : Option (Nat × Nat × Nat × String) :=
  if E = kIAE then some (191, 193, 195, "the argument is out of its range") else if E = kISE then some (196, 198, 200, "the lift does not allow this now") else if E = kIOE then some (184, 186, 188, "there is none with this number") else none
def kthrowAt (m : KMeth) (pc : Nat) (E : String) : Prop := ∃ q, kEnames E = some q ∧ m.1.cls = RX5 ∧ decode m.2.1 pc = .ok (.new q.1, 3) ∧ decode m.2.1 (pc + 3) = .ok (.dup, 1) ∧ decode m.2.1 (pc + 4) = .ok (.ldc q.2.1, 2) ∧ decode m.2.1 (pc + 6) = .ok (.invokespecial q.2.2.1, 3) ∧ decode m.2.1 (pc + 9) = .ok (.athrow, 1)
/-- the words of the three throws -/
def kthrOK (E : String) (q : Nat × Nat × Nat × String) : Bool := (decide (Cond.classLink RX5 q.1 E ∈ lw_tbl) && goodWord (Cond.classLink RX5 q.1 E)) && ((decide (Cond.initialized E ∈ lw_tbl) && goodWord (Cond.initialized E)) && (((vx_atS RX5 q.2.2.1 E kNames).filter goodWord).all (fun w => decide (w ∈ lw_tbl) && goodWord w) && (((vx_atS RX5 q.2.2.1 E kNames).filter (fun w => !goodWord w)).all (fun w => decide (w ∈ kthrW)) && ((Cond.classLink RX5 q.1 E :: Cond.initialized E :: vx_atS RX5 q.2.2.1 E kNames).all vx_ot && (Bundle.fit E && kNames.all Bundle.fit)))))
set_option maxRecDepth 100000 in
theorem kthrOK_all {E : String} {q : Nat × Nat × Nat × String} (h : kEnames E = some q) : kthrOK E q = true := by
  unfold kEnames at h
  split at h
  · rename_i e; subst e; cases h; decide +kernel
  · split at h
    · rename_i e; subst e; cases h; decide +kernel
    · split at h
      · rename_i e; subst e; cases h; decide +kernel
      · cases h
theorem SpX_of {m : KMeth} {own : Nat} {mc ms : Nat} {av : List KV} {M : KM} {Q : Option KV → KM → Prop} {T : String → KM → Prop} (hp : plainName m.1.cls = true) (ho : kown own = m.1.cls) (hfit : (kent av).length ≤ m.2.2.1)
    (body : ∀ X : KX, KC X m own false none mc ms → KCX X → KRet X m (kEq m mc ms Q) → KL0 X = M.1 → (∀ (pc : Nat) (E : String) (M' : KM) (cs sl : Nat), T E M' → cs ≤ mc → sl ≤ ms → KThw X pc E M' cs sl) →
      (∀ (pc : Nat) (E : String) (ls : KL) (st : List KV) (M' : KM) (cs sl : Nat), kthrowAt m pc E → T E M' → 6 ≤ m.2.2.2.2.1 → kcats st + 82 ≤ m.2.2.2.2.2 → cs + 1 ≤ mc → sl + 6 ≤ ms → KW X pc ls st M' cs sl) → KW X 0 (kpad m.2.2.1 (kent av)) [] M 0 0) : SpX m mc ms av M Q T := by
  intro l hst D cA ad sz
  refine vx_ofW (cc := m.2.1) (maxL := m.2.2.1) (ret := m.2.2.2.1) hp rfl ?_
  intro p e s mid args below meth c s₁ B hml hnoex hv
  obtain ⟨rfl, hsz, hP, hK, hN, hThr⟩ := hv
  subst hsz
  have hx := B.exec
  have hb := B.bytes
  have hr := B.returns
  have hts := atoms_spec (ws := kwsM m) B.pre
  have hown : s.vm.findClass m.1.cls = some mid.cls := findClass_of_methodNamed B.named
  have hlocks : meth.locks = false := B.notSynchronized
  have hPA : KP D cA ad (KA ad M s.heap.size) M s.heap := hP.weaken fun i hi _ => Or.inl ⟨i, hi, rfl⟩
  have hVS : va_S (KA ad M s.heap.size) s.heap s.heap [] := va_S.rf
  have hl := kentry_has (ad := ad) hfit
  rw [lg_entry_eq]
  generalize ((lg_sl (av.map (kv ad)) ++ List.replicate (m.2.2.1 - (lg_sl (av.map (kv ad))).length) Slot.unset).toArray) = lsA at hl ⊢
  have htsG : ∀ w ∈ kGW, w.before (av.map (kv ad)).toArray s = true := fun w hw => hts w (List.mem_cons_of_mem _ hw)
  have hX := body (p, l, e, kroom m mc ms, s, mid, (av.map (kv ad)).toArray, below, meth, c, KA ad M s.heap.size, D, cA, ad, M.1, vx_MQ below (KPost D cA ad s.heap.size M Q) (KXC D cA ad s.heap.size M T) (av.map (kv ad)).toArray s mc ms (KA ad M s.heap.size))
    ⟨hx, hb, hml, by rw [ho]; exact hown, htsG, hK, hN, fun q hq => Or.inr hq, (fun h => by cases h), trivial, hlocks, rfl⟩ ⟨hst, hThr⟩ ?_ rfl ?_ ?_
  · exact hX ad s.heap [] lsA hPA hVS (by rw [hml]; exact hl) ⟨rfl, fun i hi => ⟨hi, rfl⟩⟩
  · intro v M' cs sl hE ad' H locs lsB pc hP' hVS' hZ hd
    obtain ⟨hQ, hrt, hcs, hsl⟩ := hE
    refine W.widen hcs hsl (vx_ret ?_)
    have hpost : ∀ t : State, t.heap = H → s.WarmedH t.vm → KPost D cA ad s.heap.size M Q (av.map (kv ad)).toArray s (.returned (v.map (kv ad'))) t := fun t ht hW => ⟨⟨v, ad', M', rfl, hQ, by rw [ht]; exact hP', hZ⟩, hVS'.F ht⟩
    cases v with
    | none =>
      cases hret : m.2.2.2.1 with
      | none => exact W.vret hx hb (hr.trans hret) hpost hVS'.2.2 hd
      | some ty => rw [hret] at hrt; cases ty <;> exact hrt.elim
    | some x =>
      rcases x with x | x | x | x
      · cases hret : m.2.2.2.1 with
        | none => rw [hret] at hrt; exact hrt.elim
        | some ty =>
          rw [hret] at hrt
          cases ty
          case int => exact W.iret (v := x) hx hb (hr.trans hret) hpost hVS'.2.2 hd
          case boolean =>
            refine W.zret (v := x) hx hb (hr.trans hret) ?_ hpost hVS'.2.2 hd
            rcases hrt with rfl | rfl <;> rfl
          all_goals exact hrt.elim
      · cases hret : m.2.2.2.1 with
        | none => rw [hret] at hrt; exact hrt.elim
        | some ty =>
          rw [hret] at hrt
          cases ty
          case long => exact W.lret (v := x) hx hb (hr.trans hret) hpost hVS'.2.2 hd
          all_goals exact hrt.elim
      · cases hret : m.2.2.2.1 with
        | none => rw [hret] at hrt; exact hrt.elim
        | some ty =>
          rw [hret] at hrt
          cases ty
          case double => exact W.dret (v := x) hx hb (hr.trans hret) hpost hVS'.2.2 hd
          all_goals exact hrt.elim
      · exact hd.elim
  · intro pc E M' cs sl hT hcs hsl ad' H locs lsB q ce rest hP' hVS' hZ _ _ hq hcv hcl
    exact vx_out (E := E) (ce := ce) (fun x hx9 => (hnoex x hx9).elim) hlocks hq hcv hcl (fun t ht _ => ⟨⟨ad', M', hT, by rw [ht]; exact hP', hZ⟩, hVS'.F ht⟩) hVS'.2.2 hcs hsl
  · intro pc E ls st M' cs sl hta hT hfr hlo hcs hsl ad' H locs lsB hP' hVS' hl' hZ
    obtain ⟨⟨ik, is, ic, tx⟩, hq, hcl5, d0, d3, d4, d6, d9⟩ := hta
    have hok := kthrOK_all hq
    simp only [kthrOK, Bool.and_eq_true, decide_eq_true_eq, List.all_eq_true] at hok
    obtain ⟨⟨a1, a2⟩, ⟨a3, a4⟩, a5, a6, a7, a8, a9⟩ := hok
    obtain ⟨-, t1, t2, t3, t4, t5, t6⟩ := hThr
    have hstr : ∃ a, vk_R RX5 is tx a s := by
      unfold kEnames at hq
      split at hq
      · cases hq; exact t5
      · split at hq
        · cases hq; exact t6
        · split at hq
          · cases hq; exact t4
          · cases hq
    obtain ⟨sa, hsa⟩ := hstr
    have hat : ∀ w ∈ vx_atS RX5 ic E kNames, w.before (av.map (kv ad)).toArray s = true := by
      refine vx_hat (B := kthrW) (fun w hw => ?_) (fun w hw => a6 w hw) (fun w hw => ?_)
      · obtain ⟨h1, h2⟩ := a5 w hw
        exact htsG w (kGW_in h1 h2)
      · have hon := List.all_eq_true.mp kthrW_ok w hw
        simp only [Bool.and_eq_true, decide_eq_true_eq] at hon
        exact va_Nw.use hon.2.1 (t3 w hw)
    have hgrow : H.size ≤ H.size := Nat.le_refl _
    refine vx_throwS (names := kNames) (cls := E) (text := tx) (ik := ik) (is := is) (ic := ic) (sa := sa) hx hb hst (by rw [← hcl5]; exact hown) a8 (fun n hn => a9 n hn) (htsG _ (kGW_in a1 a2)) (htsG _ (kGW_in a3 a4)) hsa hat (fun w hw => a7 w hw) t1 t2 hVS' (by rw [hml]; rw [hml] at hl'; exact hl'.1.1) d0 d3 d4 d6 d9 (fun x hx9 => (hnoex x hx9).elim) ?_ ?_ ?_ ?_ hlocks ?_ hVS'.2.2 hcs hsl
    · show 2 + 3 < m.2.2.2.2.1
      omega
    · rw [kcats_sum]
      show kcats st + (13 * (2 + 1) + 43) ≤ m.2.2.2.2.2
      omega
    · exact hcs
    · exact hsl
    · intro t hW9 hz hsame
      refine ⟨⟨ad', M', hT, ?_, hZ⟩, ?_, ?_⟩
      · obtain ⟨Ls, g1, g2, g3, g4⟩ := hP'
        refine ⟨Ls, g1, g2, g3.kept (fun k q9 hk9 => hsame _ ((g3 k q9 hk9).lt)), g4⟩
      · exact Nat.le_trans hVS'.1 hz
      · intro q9 h1 h2
        rw [hsame q9 (Nat.lt_of_lt_of_le h1 hVS'.1)]
        exact hVS'.2.1 q9 h1 h2
/-- behind a call that may have thrown -/
theorem kAfterX {p : Program} {l : Launch} {e : Env} {R : Room} {s : State} {mid : MethodId} {args : Array Value} {below : List Frame} {meth : Method} {c : Code} {A : Nat → Prop} {D : va_G} {cA : Nat → ClassId} {ad0 : KI → Nat} {L0 : KI → Prop} {Q : State → Prop} {ad : KI → Nat} {H : Heap} {locs : List Loc} {lsA : Array Slot} {pc cs sl mc2 ms2 : Nat} {ls : KL} {st : List KV} {M : KM} {Q2 : Option KV → KM → Prop} {T2 : String → KM → Prop} {a : Array Value} {st0 : List Value}
    (hA : ∀ q, s.heap.size ≤ q → A q) (hP : KP D cA ad A M H) (hVS : va_S A s.heap H locs) (hl : kls ad c.maxLocals lsA ls) (hZ : KZ ad0 L0 M ad) (hLV : kLV M ls st)
    (hr : vx_Run p l e R s mid args below meth c H locs cs sl mc2 ms2 (F0 mid pc lsA st0) (st.map (kv ad)) (KPost D cA ad H.size M Q2 a) (KXC D cA ad H.size M T2) (KA ad M H.size))
    (hk : ∀ (v : Option KV) (M' : KM), Q2 v M' → KW (p, l, e, R, s, mid, args, below, meth, c, A, D, cA, ad0, L0, Q) (pc + 3) ls (v.toList ++ st) M' (cs + mc2) (sl + ms2))
    (hkx : ∀ (E : String) (M' : KM), T2 E M' → KThw (p, l, e, R, s, mid, args, below, meth, c, A, D, cA, ad0, L0, Q) pc E M' (cs + mc2) (sl + ms2)) : W p l e R s mid args below meth c H locs cs sl Q (F0 mid pc lsA st0) := by
  have hAA : ∀ q, KA ad M H.size q → A q := by
    intro q hq
    rcases hq with ⟨i, hi, rfl⟩ | hq
    · exact (hP.inA hi).1
    · exact hA q (Nat.le_trans hVS.1 hq)
  intro T hT X
  rcases hr T hT X with ⟨v0, st₀, t, T', L, h0, X', hL, e1, e2, ⟨⟨v, ad', M', hv, hq, hP', hZ'⟩, hz, hkk⟩, stp⟩ | ⟨q9, st₀, t, T', L, E, ce, h0, X', hL, e1, e2, ⟨⟨ad', M', hq, hP', hZ'⟩, hz, hkk⟩, hce, hcv, hcl, stp⟩
  · have hv : v0 = v.map (kv ad') := by cases hv; rfl
    rw [h0] at hz hkk
    have hVS2 : va_S A s.heap T'.heap (locs ++ L) := ⟨Nat.le_trans hVS.1 (by rw [e1]; exact hz), fun q h1 h2 => by rw [e1, hkk q (Nat.lt_of_lt_of_le h1 hVS.1) (fun z => h2 (hAA q z))]; exact hVS.2.1 q h1 h2, fun q hq => by
        rcases List.mem_append.mp hq with h | h
        · exact hVS.2.2 q h
        · exact hAA _ (hL q h)⟩
    have hP2 : KP D cA ad' A M' T'.heap := by rw [e1]; exact hP'.weaken fun i hi h => hAA _ h
    have hZ2 : KZ ad0 L0 M' ad' := ⟨hZ'.1.trans hZ.1, fun i hi => ⟨(hZ'.2 i (hZ.2 i hi).1).1, (hZ'.2 i (hZ.2 i hi).1).2.trans (hZ.2 i hi).2⟩⟩
    have hsame : ∀ r : KI, (M.1 r ∨ r = (13, 0, 0)) → ad' r = ad r := by
      intro r hr
      rcases hr with hr | rfl
      · exact (hZ'.2 r hr).2
      · exact hZ'.1
    have hl2 : kls ad' c.maxLocals lsA ls := hl.same fun i r hr => hsame r (hLV.1 i r hr)
    have hst2 : (v.toList ++ st).map (kv ad') = v0.toList ++ st.map (kv ad) := by
      rw [List.map_append, kst_same (ad := ad) (fun r hr => hsame r (hLV.2 r hr)), hv]
      cases v <;> rfl
    have hW := hk v M' hq ad' T'.heap (locs ++ L) lsA hP2 hVS2 hl2 hZ2
    rw [hst2] at hW
    obtain ⟨t2, a1, b1⟩ := hW T' rfl X'
    exact ⟨t2, stp t2 a1, b1⟩
  · rw [h0] at hz hkk
    have hVS2 : va_S A s.heap T'.heap (locs ++ L) := ⟨Nat.le_trans hVS.1 (by rw [e1]; exact hz), fun q h1 h2 => by rw [e1, hkk q (Nat.lt_of_lt_of_le h1 hVS.1) (fun z => h2 (hAA q z))]; exact hVS.2.1 q h1 h2, fun q hq => by
        rcases List.mem_append.mp hq with h | h
        · exact hVS.2.2 q h
        · exact hAA _ (hL q h)⟩
    have hP2 : KP D cA ad' A M' T'.heap := by rw [e1]; exact hP'.weaken fun i hi h => hAA _ h
    have hZ2 : KZ ad0 L0 M' ad' := ⟨hZ'.1.trans hZ.1, fun i hi => ⟨(hZ'.2 i (hZ.2 i hi).1).1, (hZ'.2 i (hZ.2 i hi).1).2.trans (hZ.2 i hi).2⟩⟩
    obtain ⟨t2, a1, b1⟩ := hkx E M' hq ad' T'.heap (locs ++ L) lsA q9 ce (st.map (kv ad)) hP2 hVS2 hZ2 hl.1.1 ⟨hl.1.1, hl.1.2.1, fun q hq => by cases hq⟩ (by rw [e1]; exact hce) hcv hcl T' rfl X'
    exact ⟨t2, stp.trans a1, b1⟩
section KCX
variable {X : KX} {m m2 : KMeth} {own : Nat} {ini : Bool} {S : KS} {mc ms mc2 ms2 pc idx n : Nat} {ls : KL} {stk st av : List KV} {M : KM} {cs sl : Nat} {Q2 : Option KV → KM → Prop} {T2 : String → KM → Prop}
theorem KW_callVX (hC : KC X m own ini S mc ms) (hCX : KCX X) (hd : decode m.2.1 pc = .ok (.invokevirtual idx, 3)) (hlk : klk 0 own idx m2 n = true) (hR : m2.2.2.2.2.1 + 1 ≤ m.2.2.2.2.1 ∧ 8 + (m2.2.2.1 + 11) + m2.2.2.2.2.2 ≤ m.2.2.2.2.2) {i : KI} {As : List KV} (hs : SpX m2 mc2 ms2 (kR (some i) :: As) M Q2 T2)
    (hn : As.length = n) (hst : stk = As.reverse ++ kR (some i) :: st) (hi8 : i.1 < 8) (hic : kRn i.1 = m2.1.cls) (hM : M.1 i) (h1 : kOkL M ls) (h2 : kOkS M st) (hcat : kcats st ≤ 8) (hcs : cs + mc2 ≤ mc) (hsl : sl + ms2 ≤ ms)
    (hk : ∀ (v : Option KV) (M' : KM), Q2 v M' → KW X (pc + 3) ls (v.toList ++ st) M' (cs + mc2) (sl + ms2)) (hkx : ∀ (E : String) (M' : KM), T2 E M' → KThw X pc E M' (cs + mc2) (sl + ms2)) : KW X pc ls stk M cs sl := by
  subst hst
  obtain ⟨p, l, e, R, s, mid, args, below, meth, c, A, D, cA, ad0, L0, Q⟩ := X
  obtain ⟨hx, hb, hml, hown, hts, hK, hN, hA, hin, hS, hlk9, rfl⟩ := hC
  obtain ⟨hst, hThr⟩ := hCX
  intro ad H locs lsA hP hVS hl hbad
  simp only [klk, if_true, Bool.and_eq_true, decide_eq_true_eq, Nat.reduceEqDiff, if_false, or_self] at hlk
  obtain ⟨⟨a1, a2⟩, a3, a4, ⟨a5, a6⟩, ⟨a7, a8⟩, -, ⟨a9, a10⟩, ⟨a11, a12⟩, a13⟩ := hlk
  have hcode := kGW_in a9 a10
  have hgood : GoodIn kGW (wsV (kown own) idx m2.1.cls m2.1 (kwsM m2)) := kGood_ws hcode (pre := [.methodLink (kown own) idx m2.1, .instanceMethod m2.1, .selects m2.1.cls m2.1 m2.1, .initialized m2.1.cls]) (by
    intro w hw
    simp only [List.mem_cons, List.not_mem_nil, or_false] at hw
    rcases hw with rfl | rfl | rfl | rfl
    · exact kGW_in a1 a2
    · exact kGW_in a7 a8
    · exact kGW_in a5 a6
    · exact kGW_in a3 a4)
  obtain ⟨ws, k, hk0, hP1, hD1⟩ := hP.get hM
  rw [kobj_c hi8] at hk0
  have hrecv := va_recv hK hP1 (kCl _ hi8) hk0
  simp only [hic] at hrecv
  have hAA : ∀ q, KA ad M H.size q → A q := by
    intro q hq
    rcases hq with ⟨i, hi, rfl⟩ | hq
    · exact (hP.inA hi).1
    · exact hA q (Nat.le_trans hVS.1 hq)
  have cw : CallW (kroom m mc ms) s args (kown own) m2.1.cls idx m2.1 m2.2.1 m2.2.2.1 m2.2.2.2.1 (kwsM m2) (kroom m2 mc2 ms2) mc2 ms2 n := cwV n hts hgood rfl rfl rfl ⟨rfl, a11, a12, a13⟩ hR
  have hrun := vx_runV (p := p) (l := l) (e := e) (R := kroom m mc ms) (s := s) (m := mid) (args := args) (below := below) (meth := meth) (c := c) (H := H) (locs := locs) (cells := cs) (slots := sl) (As := As.map (kv ad)) (rest := st.map (kv ad)) (g := F0 mid pc lsA ((As.reverse ++ kR (some i) :: st).map (kv ad))) (b := ad i) ⟨hx, hb, hml, hown, hts⟩ (hs l hst D cA ad H.size) cw
    ⟨KPre.blind KThr.blind, hrecv, fun U hU hW => ⟨rfl, by rw [hU], by rw [hU]; exact hP.full, va_K.moved hW.alike hK, hN.warm hW, hThr.carry hVS hU hW hAA⟩⟩ rfl (by simpa using hn) (by rw [← hml]; exact hl.1.1) (by simp [kv, va_rf]) (by
      rw [kcats_sum]
      show 2 * 0 + kcats st ≤ 8
      omega) hd ⟨hcs, hsl⟩
  exact kAfterX hA hP hVS hl hbad (kLV_of h1 h2) hrun hk hkx
theorem KW_callSX (hC : KC X m own ini S mc ms) (hCX : KCX X) (hd : decode m.2.1 pc = .ok (.invokestatic idx, 3)) (hlk : klk 1 own idx m2 n = true) (hR : m2.2.2.2.2.1 + 1 ≤ m.2.2.2.2.1 ∧ 8 + (m2.2.2.1 + 11) + m2.2.2.2.2.2 ≤ m.2.2.2.2.2) (hs : SpX m2 mc2 ms2 av M Q2 T2)
    (hn : av.length = n) (hst : stk = av.reverse ++ st) (h1 : kOkL M ls) (h2 : kOkS M st) (hcat : kcats st ≤ 8) (hcs : cs + mc2 ≤ mc) (hsl : sl + ms2 ≤ ms)
    (hk : ∀ (v : Option KV) (M' : KM), Q2 v M' → KW X (pc + 3) ls (v.toList ++ st) M' (cs + mc2) (sl + ms2)) (hkx : ∀ (E : String) (M' : KM), T2 E M' → KThw X pc E M' (cs + mc2) (sl + ms2)) : KW X pc ls stk M cs sl := by
  subst hst
  obtain ⟨p, l, e, R, s, mid, args, below, meth, c, A, D, cA, ad0, L0, Q⟩ := X
  obtain ⟨hx, hb, hml, hown, hts, hK, hN, hA, hin, hS, hlk9, rfl⟩ := hC
  obtain ⟨hst, hThr⟩ := hCX
  intro ad H locs lsA hP hVS hl hbad
  simp only [klk, if_true, Bool.and_eq_true, decide_eq_true_eq, Nat.reduceEqDiff, if_false, true_or, or_self, Nat.one_ne_zero] at hlk
  obtain ⟨⟨a1, a2⟩, a3, a4, -, ⟨a7, a8⟩, -, ⟨a9, a10⟩, ⟨a11, a12⟩, a13⟩ := hlk
  have hcode := kGW_in a9 a10
  have hgood : GoodIn kGW (va_wsS (kown own) idx m2.1 (kwsM m2)) := kGood_ws hcode (pre := [.methodLink (kown own) idx m2.1, .static m2.1, .initialized m2.1.cls]) (by
    intro w hw
    simp only [List.mem_cons, List.not_mem_nil, or_false] at hw
    rcases hw with rfl | rfl | rfl
    · exact kGW_in a1 a2
    · exact kGW_in a7 a8
    · exact kGW_in a3 a4)
  have hAA : ∀ q, KA ad M H.size q → A q := by
    intro q hq
    rcases hq with ⟨i, hi, rfl⟩ | hq
    · exact (hP.inA hi).1
    · exact hA q (Nat.le_trans hVS.1 hq)
  have cw := va_cwS (R := kroom m mc ms) (s := s) (args := args) (own := kown own) (index := idx) (y := m2.1) (bytes := m2.2.1) (maxL := m2.2.2.1) (ret := m2.2.2.2.1) (ws := kwsM m2) (rm := kroom m2 mc2 ms2) (mc := mc2) (ms := ms2) n hts hgood rfl rfl rfl ⟨a11, a12, a13⟩ hR
  have hrun := vx_runS (p := p) (l := l) (e := e) (R := kroom m mc ms) (s := s) (m := mid) (args := args) (below := below) (meth := meth) (c := c) (H := H) (locs := locs) (cells := cs) (slots := sl) (As := av.map (kv ad)) (rest := st.map (kv ad)) (g := F0 mid pc lsA ((av.reverse ++ st).map (kv ad))) ⟨hx, hb, hml, hown, hts⟩ (hs l hst D cA ad H.size) cw
    ⟨KPre.blind KThr.blind, fun U hU hW => ⟨rfl, by rw [hU], by rw [hU]; exact hP.full, va_K.moved hW.alike hK, hN.warm hW, hThr.carry hVS hU hW hAA⟩⟩ rfl (by simpa using hn) (by rw [← hml]; exact hl.1.1) (by simp) (by
      rw [kcats_sum]
      show 2 * 0 + kcats st ≤ 8
      omega) hd ⟨hcs, hsl⟩
  exact kAfterX hA hP hVS hl hbad (kLV_of h1 h2) hrun hk hkx
end KCX
