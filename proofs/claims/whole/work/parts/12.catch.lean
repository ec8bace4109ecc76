/-! The law's helpers: methods that catch what they call. -/
abbrev KHH : Type := List (Nat × Nat × Nat × Nat)
def kwsH (m : KMeth) (hh : KHH) : List Cond := .codeWith m.1 m.2.1 m.2.2.1 m.2.2.2.1 hh :: kGW
def SpW (m : KMeth) (hh : KHH) (mc ms : Nat) (av : List KV) (M : KM) (Q : Option KV → KM → Prop) : Prop :=
  ∀ (l : Launch), l.stackTraces = false → ∀ (D : va_G) (cA : Nat → ClassId) (ad : KI → Nat) (sz : Nat), Met l m.1 (kwsH m hh) (kroom m mc ms) (KPre D cA ad sz M av (KThr (KA ad M sz))) (KPost D cA ad sz M Q) mc ms (KA ad M sz)
/-- the names of the law's catch types -/
def kcn : Nat → Option String
  | 13 => some kIAE
  | 15 => some kISE
  | 31 => some kIOE
  | _ => none
def khfind : KHH → Nat → String → Option Nat
  | [], _, _ => none
  | z :: r, pc, E => if covers ⟨z.1, z.2.1, z.2.2.1, z.2.2.2⟩ pc = true then (if kcn z.2.2.2 = some E then some z.2.2.1 else if (kcn z.2.2.2).isSome = true then khfind r pc E else none) else khfind r pc E
theorem kcn_E3 {k : Nat} {nm : String} (h : kcn k = some nm) : nm ∈ kE3 ∧ k ≠ 0 := by
  unfold kcn at h
  split at h <;> cases h <;> decide
theorem khfind_spec : ∀ (hh : KHH) (pc : Nat) (E : String) (h : Nat), khfind hh pc E = some h → ∃ (pre : KHH) (x : Nat × Nat × Nat × Nat) (suf : KHH), hh = pre ++ x :: suf ∧ (∀ z ∈ pre, covers ⟨z.1, z.2.1, z.2.2.1, z.2.2.2⟩ pc = false ∨ ∃ nm, kcn z.2.2.2 = some nm ∧ nm ≠ E) ∧ covers ⟨x.1, x.2.1, x.2.2.1, x.2.2.2⟩ pc = true ∧ kcn x.2.2.2 = some E ∧ x.2.2.1 = h
  | [], pc, E, h, he => by simp [khfind] at he
  | z :: r, pc, E, h, he => by
    simp only [khfind] at he
    have rest : ∀ (hz : covers ⟨z.1, z.2.1, z.2.2.1, z.2.2.2⟩ pc = false ∨ ∃ nm, kcn z.2.2.2 = some nm ∧ nm ≠ E), khfind r pc E = some h → ∃ (pre : KHH) (x : Nat × Nat × Nat × Nat) (suf : KHH), z :: r = pre ++ x :: suf ∧ (∀ z ∈ pre, covers ⟨z.1, z.2.1, z.2.2.1, z.2.2.2⟩ pc = false ∨ ∃ nm, kcn z.2.2.2 = some nm ∧ nm ≠ E) ∧ covers ⟨x.1, x.2.1, x.2.2.1, x.2.2.2⟩ pc = true ∧ kcn x.2.2.2 = some E ∧ x.2.2.1 = h := by
      intro hz hr
      obtain ⟨pre, x, suf, h1, h2, h3⟩ := khfind_spec r pc E h hr
      refine ⟨z :: pre, x, suf, by rw [h1]; rfl, fun y hy => ?_, h3⟩
      rcases List.mem_cons.mp hy with rfl | hy
      · exact hz
      · exact h2 y hy
    split at he
    · rename_i hc
      split at he
      · rename_i hk
        cases he
        exact ⟨[], z, r, rfl, fun y hy => (by cases hy), hc, hk, rfl⟩
      · rename_i hk
        split at he
        · rename_i hs
          obtain ⟨nm, hnm⟩ := Option.isSome_iff_exists.mp hs
          exact rest (Or.inr ⟨nm, hnm, fun z9 => hk (by rw [hnm, z9])⟩) he
        · cases he
    · rename_i hc
      exact rest (Or.inl (by simpa using hc)) he
def KHT (X : KX) (hh : KHH) : Prop := match X with
  | (_, _, _, _, _, _, _, _, _, c, _, _, _, _, _, _) => c.exceptionTable.toList = tableOf hh
set_option maxRecDepth 100000 in
theorem kcn_ok : ∀ q ∈ [((13 : Nat), kIAE), (15, kISE), (31, kIOE)], Cond.classLink RL q.1 q.2 ∈ kGW ∧ Cond.castable q.2 q.2 ∈ kthrW := by
  intro q hq
  simp only [List.mem_cons, List.not_mem_nil, or_false] at hq
  rcases hq with rfl | rfl | rfl <;> exact ⟨kGW_in (by decide +kernel) (by decide +kernel), by decide +kernel⟩
theorem kcn_link {k : Nat} {nm : String} (h : kcn k = some nm) : Cond.classLink RL k nm ∈ kGW ∧ Cond.castable nm nm ∈ kthrW := by
  unfold kcn at h
  split at h <;> cases h
  · exact kcn_ok (13, kIAE) (by simp)
  · exact kcn_ok (15, kISE) (by simp)
  · exact kcn_ok (31, kIOE) (by simp)
/-- caught at pc: the handler stores the exception and returns the number k -/
theorem KThw_catch {X : KX} {m : KMeth} {E9 : KEnd} {hh : KHH} {mc ms : Nat} {S : KS} (hC : KC X m 8 false S mc ms) (hCX : KCX X) (hE : KRet X m E9) (hT : KHT X hh) {pc h a : Nat} {E : String} {M : KM} {cs sl : Nat} {n : Int} {v : Int32} (hf : khfind hh pc E = some h) (hv : Int32.ofInt n = v)
    (hda : (∃ k : Fin 4, k.val = a ∧ decode m.2.1 h = .ok (.astore_n k, 1) ∧ decode m.2.1 (h + 1) = .ok (.iconst n, 1) ∧ decode m.2.1 (h + 2) = .ok (.ireturn, 1)) ∨ (decode m.2.1 h = .ok (.astore a, 2) ∧ decode m.2.1 (h + 2) = .ok (.iconst n, 1) ∧ decode m.2.1 (h + 3) = .ok (.ireturn, 1))) (hn : a < m.2.2.1) (h9 : E9 (some (kI v)) M cs sl) : KThw X pc E M cs sl := by
  obtain ⟨p, l, e, R, s, mid, args, below, meth, c, A, D, cA, ad0, L0, Q⟩ := X
  obtain ⟨hx, hb, hml, hown, hts, hK, hN, hA, hin, hS, hlk, hR⟩ := hC
  obtain ⟨hst, hThr⟩ := hCX
  obtain ⟨hnc, -, -, hfw, -⟩ := hThr
  obtain ⟨pre, x, suf, hsp, hpass, hcov, hkx, rfl⟩ := khfind_spec hh pc E h hf
  intro ad H locs lsA q ce rest hP hVS hZ hsz hlv hq hcv hcl
  have htab : c.exceptionTable.toList = tableOf pre ++ ⟨x.1, x.2.1, x.2.2.1, x.2.2.2⟩ :: tableOf suf := by
    have h1 : c.exceptionTable.toList = tableOf hh := hT
    rw [h1, hsp]
    simp [tableOf]
  have hE3 := (kcn_E3 hkx).1
  have hon : ∀ w ∈ kthrW, w.onTables = true := fun w hw => by
    have h2 := List.all_eq_true.mp kthrW_ok w hw
    simp only [Bool.and_eq_true, decide_eq_true_eq] at h2
    exact h2.2.1
  refine vx_catch (E := E) (ce := ce) (name := E) (own := RL) hown (tableOf pre) ⟨x.1, x.2.1, x.2.2.1, x.2.2.2⟩ (tableOf suf) htab (fun z hz => ?_) hcov (kcn_E3 hkx).2 (hts _ (kcn_link hkx).1) (va_Nw.use (hon _ (kcn_link hkx).2) (hfw _ (kcn_link hkx).2)) hq hcv hcl ?_
  · obtain ⟨y, hy, rfl⟩ := List.mem_map.mp hz
    rcases hpass y hy with h1 | ⟨nm, h1, h2⟩
    · exact Or.inl h1
    · exact Or.inr ⟨(kcn_E3 h1).2, nm, hts _ (kcn_link h1).1, hnc E hE3 nm (kcn_E3 h1).1 (Ne.symm h2)⟩
  · rw [← hml] at hn
    rcases hda with ⟨k, hk, d1, d2, d3⟩ | ⟨d1, d2, d3⟩
    · refine lv_astore_n hx hb d1 hk hlv hn rfl (fun lsB h2 => ?_)
      refine lv_iconst hx hb d2 hv ?_
      exact hE (some (kI v)) M cs sl h9 ad H locs lsB _ hP hVS hZ d3
    · refine lv_astore hx hb d1 hlv hn rfl (fun lsB h2 => ?_)
      refine lv_iconst hx hb d2 hv ?_
      exact hE (some (kI v)) M cs sl h9 ad H locs lsB _ hP hVS hZ d3
theorem SpW_of {m : KMeth} {hh : KHH} {mc ms : Nat} {av : List KV} {M : KM} {Q : Option KV → KM → Prop} (hp : plainName m.1.cls = true) (ho : RL = m.1.cls) (hret : m.2.2.2.1 = some .int) (hfit : (kent av).length ≤ m.2.2.1)
    (body : ∀ X : KX, KC X m 8 false none mc ms → KCX X → KRet X m (kEq m mc ms Q) → KHT X hh → KL0 X = M.1 → KW X 0 (kpad m.2.2.1 (kent av)) [] M 0 0) : SpW m hh mc ms av M Q := by
  intro l hst D cA ad sz
  refine va_MetW (cc := m.2.1) (maxL := m.2.2.1) (ret := m.2.2.2.1) (hh := hh) hp rfl ?_
  intro p e s mid args below meth c s₁ B hml hv
  obtain ⟨rfl, hsz, hP, hK, hN, hThr⟩ := hv
  subst hsz
  have hx := B.exec
  have hb := B.bytes
  have hr := B.returns
  have hts := atoms_spec (ws := kwsH m hh) B.pre
  have hown : s.vm.findClass m.1.cls = some mid.cls := findClass_of_methodNamed B.named
  have hlocks : meth.locks = false := B.notSynchronized
  have hPA : KP D cA ad (KA ad M s.heap.size) M s.heap := hP.weaken fun i hi _ => Or.inl ⟨i, hi, rfl⟩
  have hVS : va_S (KA ad M s.heap.size) s.heap s.heap [] := va_S.rf
  have hl := kentry_has (ad := ad) hfit
  have htab := vx_table (x := m.1) B (hts _ List.mem_cons_self)
  rw [lg_entry_eq]
  generalize ((lg_sl (av.map (kv ad)) ++ List.replicate (m.2.2.1 - (lg_sl (av.map (kv ad))).length) Slot.unset).toArray) = lsA at hl ⊢
  have hX := body (p, l, e, kroom m mc ms, s, mid, (av.map (kv ad)).toArray, below, meth, c, KA ad M s.heap.size, D, cA, ad, M.1, MQ below (KPost D cA ad s.heap.size M Q) (av.map (kv ad)).toArray s mc ms (KA ad M s.heap.size))
    ⟨hx, hb, hml, by rw [← ho] at hown; exact hown, fun w hw => hts w (List.mem_cons_of_mem _ hw), hK, hN, fun q hq => Or.inr hq, (fun h => by cases h), trivial, hlocks, rfl⟩ ⟨hst, hThr⟩ ?_ htab rfl
  · exact hX ad s.heap [] lsA hPA hVS (by rw [hml]; exact hl) ⟨rfl, fun i hi => ⟨hi, rfl⟩⟩
  · intro v M' cs sl hE ad' H locs lsB pc hP' hVS' hZ hd
    obtain ⟨hQ, hrt, hcs, hsl⟩ := hE
    refine W.widen hcs hsl ?_
    have hpost : ∀ t : State, t.heap = H → s.WarmedH t.vm → KPost D cA ad s.heap.size M Q (av.map (kv ad)).toArray s (.returned (v.map (kv ad'))) t := fun t ht hW => ⟨⟨v, ad', M', rfl, hQ, by rw [ht]; exact hP', hZ⟩, hVS'.F ht⟩
    rw [hret] at hrt
    cases v with
    | none => exact hrt.elim
    | some x =>
      rcases x with x | x | x | x
      · exact W.iret (v := x) hx hb (hr.trans hret) hpost hVS'.2.2 hd
      all_goals exact hrt.elim
section KCW
variable {X : KX} {m m2 : KMeth} {hh : KHH} {own : Nat} {ini : Bool} {S : KS} {mc ms mc2 ms2 pc idx n : Nat} {ls : KL} {stk st av : List KV} {M : KM} {cs sl : Nat} {Q2 : Option KV → KM → Prop}
theorem k4n : ((4 : Nat) = 3) = False ∧ ((4 : Nat) = 0) = False ∧ ((4 : Nat) = 1) = False ∧ ((4 : Nat) = 2) = False := by decide
theorem KW_callSW (hC : KC X m own ini S mc ms) (hCX : KCX X) (hd : decode m.2.1 pc = .ok (.invokestatic idx, 3)) (hlk : klk 4 own idx m2 n = true) (hcw : Cond.codeWith m2.1 m2.2.1 m2.2.2.1 m2.2.2.2.1 hh ∈ kGW) (hR : m2.2.2.2.2.1 + 1 ≤ m.2.2.2.2.1 ∧ 8 + (m2.2.2.1 + 11) + m2.2.2.2.2.2 ≤ m.2.2.2.2.2) (hs : SpW m2 hh mc2 ms2 av M Q2)
    (hn : av.length = n) (hst : stk = av.reverse ++ st) (h1 : kOkL M ls) (h2 : kOkS M st) (hcat : kcats st ≤ 8) (hcs : cs + mc2 ≤ mc) (hsl : sl + ms2 ≤ ms)
    (hk : ∀ (v : Option KV) (M' : KM), Q2 v M' → KW X (pc + 3) ls (v.toList ++ st) M' (cs + mc2) (sl + ms2)) : KW X pc ls stk M cs sl := by
  subst hst
  obtain ⟨p, l, e, R, s, mid, args, below, meth, c, A, D, cA, ad0, L0, Q⟩ := X
  obtain ⟨hx, hb, hml, hown, hts, hK, hN, hA, hin, hS, hlk9, rfl⟩ := hC
  obtain ⟨hst, hThr⟩ := hCX
  intro ad H locs lsA hP hVS hl hbad
  simp only [klk, if_true, Bool.and_eq_true, decide_eq_true_eq, k4n.1, k4n.2.1, k4n.2.2.1, k4n.2.2.2, if_false, or_true, or_self] at hlk
  obtain ⟨⟨a1, a2⟩, a3, a4, -, ⟨a7, a8⟩, -, -, ⟨a11, a12⟩, a13⟩ := hlk
  have hgood : GoodIn kGW (va_wsS (kown own) idx m2.1 (kwsH m2 hh)) := kGW_good (by
    intro w hw
    rcases List.mem_append.mp hw with h | h
    · simp only [List.mem_cons, List.not_mem_nil, or_false] at h
      rcases h with rfl | rfl | rfl
      · exact kGW_in a1 a2
      · exact kGW_in a7 a8
      · exact kGW_in a3 a4
    · rcases List.mem_cons.mp h with rfl | h
      · exact hcw
      · exact h)
  have hAA : ∀ q, KA ad M H.size q → A q := by
    intro q hq
    rcases hq with ⟨i, hi, rfl⟩ | hq
    · exact (hP.inA hi).1
    · exact hA q (Nat.le_trans hVS.1 hq)
  have cw := vx_cwSW (R := kroom m mc ms) (s := s) (args := args) (own := kown own) (index := idx) (y := m2.1) (bytes := m2.2.1) (maxL := m2.2.2.1) (ret := m2.2.2.2.1) (hh := hh) (ws := kwsH m2 hh) (rm := kroom m2 mc2 ms2) (mc := mc2) (ms := ms2) n hts hgood rfl rfl rfl ⟨a11, a12, a13⟩ hR
  have hrun := vx_runSW (p := p) (l := l) (e := e) (R := kroom m mc ms) (s := s) (m := mid) (args := args) (below := below) (meth := meth) (c := c) (H := H) (locs := locs) (cells := cs) (slots := sl) (As := av.map (kv ad)) (rest := st.map (kv ad)) (g := F0 mid pc lsA ((av.reverse ++ st).map (kv ad))) ⟨hx, hb, hml, hown, hts⟩ (hs l hst D cA ad H.size) cw
    ⟨KPre.blind KThr.blind, fun U hU hW => ⟨rfl, by rw [hU], by rw [hU]; exact hP.full, va_K.moved hW.alike hK, hN.warm hW, hThr.carry hVS hU hW hAA⟩⟩ rfl (by simpa using hn) (by rw [← hml]; exact hl.1.1) (by simp) (by
      rw [kcats_sum]
      show 2 * 0 + kcats st ≤ 8
      omega) hd ⟨hcs, hsl⟩
  exact kAfter hA hP hVS hl hbad (kLV_of h1 h2) hrun hk
end KCW
