/-! The small machine's runs are the machine's runs: one law an instruction, then blocks. -/
def kown : Nat → String
  | 8 => RL
  | 9 => RJ9
  | c => kRn c
def kwF (e : Nat × Nat × Nat × Nat) : Cond := .fieldLink (kown e.1) e.2.1 (kT e.2.2.1 e.2.2.2).1 (kT e.2.2.1 e.2.2.2).2.1 (kT e.2.2.1 e.2.2.2).2.2.1
def kwN (e : Nat × Nat × Nat × Nat) : Cond := .fieldLinkNest (kown e.1) e.2.1 (kT e.2.2.1 e.2.2.2).1 (kT e.2.2.1 e.2.2.2).2.1 (kT e.2.2.1 e.2.2.2).2.2.1 "ChairLiftModel"
def khost (o : Nat) : String := if o = 3 then "ChairLift" else "ChairLiftModel"
def kwI (e : Nat × Nat × MethodName) : Cond := .methodLinkNest (kown e.1) e.2.1 e.2.2 (khost e.1)
def KNest (U : State) : Prop := (∀ e ∈ ktabN, va_Nw (kwN e) U) ∧ (∀ e ∈ ktabI, va_Nw (kwI e) U) ∧ ∀ k, (k = 9 ∨ k = 10 ∨ k = 11) → va_AO (kRn (kelem k)) U
set_option maxRecDepth 100000 in
theorem kF_ok : (ktabF.all fun e => decide (kwF e ∈ lw_tbl) && goodWord (kwF e)) = true := by decide +kernel
set_option maxRecDepth 100000 in
theorem kN_ok : (ktabN.all fun e => decide (kwN e ∈ lw_tbl) && (kwN e).onTables) = true := by decide +kernel
set_option maxRecDepth 100000 in
theorem kI_ok : (ktabI.all fun e => decide (kwI e ∈ lw_tbl) && (kwI e).onTables) = true := by decide +kernel
set_option maxRecDepth 100000 in
theorem kC_ok : (ktabC.all fun e => decide (Cond.classLink (kown e.1) e.2.1 (kRn e.2.2) ∈ lw_tbl) && goodWord (Cond.classLink (kown e.1) e.2.1 (kRn e.2.2))) = true := by decide +kernel
set_option maxRecDepth 100000 in
theorem kL_ok : (ktabL.all fun e => decide (Cond.constantLong (kown e.1) e.2.1 e.2.2 ∈ lw_tbl) && goodWord (Cond.constantLong (kown e.1) e.2.1 e.2.2)) = true := by decide +kernel
set_option maxRecDepth 100000 in
theorem kO_ok : (ktabO.all fun e => decide (Cond.methodLink (kown e.1) e.2 objectInit ∈ lw_tbl) && goodWord (Cond.methodLink (kown e.1) e.2 objectInit)) = true := by decide +kernel
set_option maxRecDepth 100000 in
theorem kA_ok : (ktabA.all fun e => decide (Cond.methodLink (kown e.1) e.2 arraycopyName ∈ lw_tbl) && goodWord (Cond.methodLink (kown e.1) e.2 arraycopyName)) = true := by decide +kernel
set_option maxRecDepth 100000 in
theorem kInst : ∀ c, c < 8 → Cond.instantiable (kRn c) (kN c) ∈ kGW ∧ Cond.initialized (kRn c) ∈ kGW := k8 ⟨kGW_in (by decide +kernel) (by decide +kernel), kGW_in (by decide +kernel) (by decide +kernel)⟩ ⟨kGW_in (by decide +kernel) (by decide +kernel), kGW_in (by decide +kernel) (by decide +kernel)⟩ ⟨kGW_in (by decide +kernel) (by decide +kernel), kGW_in (by decide +kernel) (by decide +kernel)⟩ ⟨kGW_in (by decide +kernel) (by decide +kernel), kGW_in (by decide +kernel) (by decide +kernel)⟩ ⟨kGW_in (by decide +kernel) (by decide +kernel), kGW_in (by decide +kernel) (by decide +kernel)⟩ ⟨kGW_in (by decide +kernel) (by decide +kernel), kGW_in (by decide +kernel) (by decide +kernel)⟩ ⟨kGW_in (by decide +kernel) (by decide +kernel), kGW_in (by decide +kernel) (by decide +kernel)⟩ ⟨kGW_in (by decide +kernel) (by decide +kernel), kGW_in (by decide +kernel) (by decide +kernel)⟩
set_option maxRecDepth 100000 in
theorem kMisc : ∀ w ∈ [Cond.instanceMethod objectInit, .code objectInit ⟨#[0xb1]⟩ 1 none, .native arraycopyName, .static arraycopyName, .initialized "java/lang/System", .arrayClass .int, .arrayClass .long], w ∈ kGW := kGW_all (by decide +kernel)
theorem kall {α : Type} [BEq α] [LawfulBEq α] {l : List α} {p : α → Bool} (h : l.all p = true) {x : α} (hx : l.contains x = true) : p x = true := List.all_eq_true.mp h x (List.contains_iff_mem.mp hx)
theorem kandW {w : Cond} (h : (decide (w ∈ lw_tbl) && goodWord w) = true) : w ∈ kGW := by
  simp only [Bool.and_eq_true, decide_eq_true_eq] at h
  exact kGW_in h.1 h.2
abbrev KX : Type := Program × Launch × Env × Room × State × MethodId × Array Value × List Frame × Method × Code × (Nat → Prop) × va_G × (Nat → ClassId) × (KI → Nat) × (KI → Prop) × (State → Prop)
/-- the addresses: those of the start stay -/
def KZ (ad0 : KI → Nat) (L0 : KI → Prop) (M : KM) (ad : KI → Nat) : Prop := ad (13, 0, 0) = ad0 (13, 0, 0) ∧ ∀ i, L0 i → M.1 i ∧ ad i = ad0 i
theorem KZ.new {ad0 : KI → Nat} {L0 : KI → Prop} {M : KM} {ad : KI → Nat} (h : KZ ad0 L0 M ad) {i : KI} (hi : ¬ M.1 i) (h13 : i.1 ≠ 13) (q n : Nat) : KZ ad0 L0 (knew M i n) (kset ad i q) := by
  refine ⟨?_, fun k hk => ⟨Or.inr (h.2 k hk).1, ?_⟩⟩
  · have : ((13, 0, 0) : KI) ≠ i := fun z => h13 (by rw [← z])
    simp [kset, this, h.1]
  · have : k ≠ i := fun z => hi (z ▸ (h.2 k hk).1)
    simp [kset, this, (h.2 k hk).2]
/-- from here, with this memory, the method comes to its end -/
def KW (X : KX) (pc : Nat) (ls : KL) (st : List KV) (M : KM) (cs sl : Nat) : Prop :=
  match X with
  | (p, l, e, R, s, m, args, below, meth, c, A, D, cA, ad0, L0, Q) => ∀ (ad : KI → Nat) (H : Heap) (locs : List Loc) (lsA : Array Slot), KP D cA ad A M H → va_S A s.heap H locs → kls ad c.maxLocals lsA ls → KZ ad0 L0 M ad → W p l e R s m args below meth c H locs cs sl Q (F0 m pc lsA (st.map (kv ad)))
def kroom (m : KMeth) (mc ms : Nat) : Room := { frames := m.2.2.2.2.1, cells := mc, slots := ms, locals := m.2.2.2.2.2 }
def KC (X : KX) (m : KMeth) (own : Nat) (ini : Bool) (S : KS) (mc ms : Nat) : Prop :=
  match X with
  | (p, _, _, R, s, mid, args, _, meth, c, A, D, cA, ad0, _, _) => p.tables.exec = Jvm.exec ∧ c.code = m.2.1 ∧ c.maxLocals = m.2.2.1 ∧ s.vm.findClass (kown own) = some mid.cls ∧ (∀ w ∈ kGW, w.before args s = true) ∧ va_K D vwCl (ktys cA) s ∧ KNest s ∧ (∀ q, s.heap.size ≤ q → A q) ∧ (ini = true → meth.name = "<init>") ∧ (match S with
    | none => True
    | some q => va_X (ad0 (13, 0, 0)) q.1 q.2 s s.heap ∧ ad0 (13, 0, 0) < s.heap.size ∧ ¬ A (ad0 (13, 0, 0))) ∧ meth.locks = false ∧ R = kroom m mc ms
def kretd (cc : ByteArray) (pc : Nat) : Option KV → Prop
  | none => decode cc pc = .ok (.return_, 1)
  | some (.inl _) => decode cc pc = .ok (.ireturn, 1)
  | some (.inr (.inl _)) => decode cc pc = .ok (.lreturn, 1)
  | some (.inr (.inr (.inl _))) => decode cc pc = .ok (.dreturn, 1)
  | some (.inr (.inr (.inr _))) => False
/-- what an end of the method owes -/
def KRet (X : KX) (m : KMeth) (E : KEnd) : Prop :=
  match X with
  | (p, l, e, R, s, mid, args, below, meth, c, A, D, cA, ad0, L0, Q) => ∀ (v : Option KV) (M : KM) (cs sl : Nat), E v M cs sl → ∀ (ad : KI → Nat) (H : Heap) (locs : List Loc) (lsA : Array Slot) (pc : Nat), KP D cA ad A M H → va_S A s.heap H locs → KZ ad0 L0 M ad → kretd m.2.1 pc v → W p l e R s mid args below meth c H locs cs sl Q (F0 mid pc lsA (v.toList.map (kv ad)))
def KL0 (X : KX) : KI → Prop := X.2.2.2.2.2.2.2.2.2.2.2.2.2.2.1
theorem KW.sub {X : KX} {pc : Nat} {ls : KL} {st : List KV} {M M2 : KM} {cs sl : Nat} (hs : KSub M2 M) (hL : ∀ i, KL0 X i → M2.1 i) (h : KW X pc ls st M2 cs sl) : KW X pc ls st M cs sl := by
  obtain ⟨p, l, e, R, s, mid, args, below, meth, c, A, D, cA, ad0, L0, Q⟩ := X
  intro ad H locs lsA hP hVS hl hbad
  exact h ad H locs lsA (hP.sub hs) hVS hl ⟨hbad.1, fun i hi => ⟨hL i hi, (hbad.2 i hi).2⟩⟩
theorem KW.weak {X : KX} {pc : Nat} {ls ls' : KL} {st : List KV} {M : KM} {cs sl : Nat} (hl' : ls'.length = ls.length) (he : ∀ (i : Nat) (v : KV), kget ls' i = some v → kget ls i = some v) (h : KW X pc ls' st M cs sl) : KW X pc ls st M cs sl := by
  obtain ⟨p, l, e, R, s, mid, args, below, meth, c, A, D, cA, ad0, L0, Q⟩ := X
  intro ad H locs lsA hP hVS hl hbad
  exact h ad H locs lsA hP hVS (hl.weak hl' he) hbad
theorem KW.widen {X : KX} {pc : Nat} {ls : KL} {st : List KV} {M : KM} {cs sl cs2 sl2 : Nat} (h1 : cs ≤ cs2) (h2 : sl ≤ sl2) (h : KW X pc ls st M cs2 sl2) : KW X pc ls st M cs sl := by
  obtain ⟨p, l, e, R, s, mid, args, below, meth, c, A, D, cA, ad0, L0, Q⟩ := X
  intro ad H locs lsA hP hVS hl hbad
  exact W.widen h1 h2 (h ad H locs lsA hP hVS hl hbad)
section KS
variable {X : KX} {m : KMeth} {own : Nat} {ini : Bool} {S : KS} {mc ms pc : Nat} {ls : KL} {st : List KV} {M : KM} {cs sl : Nat}
theorem ks_iconst (hC : KC X m own ini S mc ms) {n : Int} {v : Int32} (hv : Int32.ofInt n = v) (hd : decode m.2.1 pc = .ok (.iconst n, 1)) (h : KW X (pc + 1) ls (kI v :: st) M cs sl) : KW X pc ls (st) M cs sl := by
  obtain ⟨p, l, e, R, s, mid, args, below, meth, c, A, D, cA, ad0, L0, Q⟩ := X
  obtain ⟨hx, hb, hml, hown, hts, hK, hN, hA, hin, hS, hlk, hR⟩ := hC
  intro ad H locs lsA hP hVS hl hbad
  exact lv_iconst hx hb hd hv (h ad H locs lsA hP hVS hl hbad)
theorem ks_bipush (hC : KC X m own ini S mc ms) {n : Int} {v : Int32} (hv : (Int8.ofInt n).toInt32 = v) (hd : decode m.2.1 pc = .ok (.bipush n, 2)) (h : KW X (pc + 2) ls (kI v :: st) M cs sl) : KW X pc ls (st) M cs sl := by
  obtain ⟨p, l, e, R, s, mid, args, below, meth, c, A, D, cA, ad0, L0, Q⟩ := X
  obtain ⟨hx, hb, hml, hown, hts, hK, hN, hA, hin, hS, hlk, hR⟩ := hC
  intro ad H locs lsA hP hVS hl hbad
  exact lv_bipush hx hb hd hv (h ad H locs lsA hP hVS hl hbad)
theorem ks_sipush (hC : KC X m own ini S mc ms) {n : Int} {v : Int32} (hv : (Int16.ofInt n).toInt32 = v) (hd : decode m.2.1 pc = .ok (.sipush n, 3)) (h : KW X (pc + 3) ls (kI v :: st) M cs sl) : KW X pc ls (st) M cs sl := by
  obtain ⟨p, l, e, R, s, mid, args, below, meth, c, A, D, cA, ad0, L0, Q⟩ := X
  obtain ⟨hx, hb, hml, hown, hts, hK, hN, hA, hin, hS, hlk, hR⟩ := hC
  intro ad H locs lsA hP hVS hl hbad
  exact lv_sipush hx hb hd hv (h ad H locs lsA hP hVS hl hbad)
theorem ks_lconst (hC : KC X m own ini S mc ms) {n : Fin 2} {v : Int64} (hv : Int64.ofNat (n : Nat) = v) (hd : decode m.2.1 pc = .ok (.lconst n, 1)) (h : KW X (pc + 1) ls (kL v :: st) M cs sl) : KW X pc ls (st) M cs sl := by
  obtain ⟨p, l, e, R, s, mid, args, below, meth, c, A, D, cA, ad0, L0, Q⟩ := X
  obtain ⟨hx, hb, hml, hown, hts, hK, hN, hA, hin, hS, hlk, hR⟩ := hC
  intro ad H locs lsA hP hVS hl hbad
  exact lv_lconst hx hb hd hv (h ad H locs lsA hP hVS hl hbad)
theorem ks_ldc2 (hC : KC X m own ini S mc ms) {i : Nat} {v : Int64} (hw : Cond.constantLong (kown own) i v ∈ kGW) (hd : decode m.2.1 pc = .ok (.ldc2_w i, 3)) (h : KW X (pc + 3) ls (kL v :: st) M cs sl) : KW X pc ls (st) M cs sl := by
  obtain ⟨p, l, e, R, s, mid, args, below, meth, c, A, D, cA, ad0, L0, Q⟩ := X
  obtain ⟨hx, hb, hml, hown, hts, hK, hN, hA, hin, hS, hlk, hR⟩ := hC
  intro ad H locs lsA hP hVS hl hbad
  exact lv_ldc2 hx hb hown (hts _ hw) hd (h ad H locs lsA hP hVS hl hbad)
theorem ks_dconst (hC : KC X m own ini S mc ms) (hd : decode m.2.1 pc = .ok (.dconst 0, 1)) (h : KW X (pc + 1) ls (kD FP.dconst0 :: st) M cs sl) : KW X pc ls (st) M cs sl := by
  obtain ⟨p, l, e, R, s, mid, args, below, meth, c, A, D, cA, ad0, L0, Q⟩ := X
  obtain ⟨hx, hb, hml, hown, hts, hK, hN, hA, hin, hS, hlk, hR⟩ := hC
  intro ad H locs lsA hP hVS hl hbad
  exact lv_dconst0 hx hb hd (h ad H locs lsA hP hVS hl hbad)
theorem ks_iload_n (hC : KC X m own ini S mc ms) {k : Fin 4} {a : Nat} {x : Int32} (hk : (k : Nat) = a) (hg : kget ls a = some (kI x)) (hd : decode m.2.1 pc = .ok (.iload_n k, 1)) (h : KW X (pc + 1) ls (kI x :: st) M cs sl) : KW X pc ls (st) M cs sl := by
  obtain ⟨p, l, e, R, s, mid, args, below, meth, c, A, D, cA, ad0, L0, Q⟩ := X
  obtain ⟨hx, hb, hml, hown, hts, hK, hN, hA, hin, hS, hlk, hR⟩ := hC
  intro ad H locs lsA hP hVS hl hbad
  exact lv_iload_n hx hb hd hk (hl.get hg) (h ad H locs lsA hP hVS hl hbad)
theorem ks_iload (hC : KC X m own ini S mc ms) {a : Nat} {x : Int32} (hg : kget ls a = some (kI x)) (hd : decode m.2.1 pc = .ok (.iload a, 2)) (h : KW X (pc + 2) ls (kI x :: st) M cs sl) : KW X pc ls (st) M cs sl := by
  obtain ⟨p, l, e, R, s, mid, args, below, meth, c, A, D, cA, ad0, L0, Q⟩ := X
  obtain ⟨hx, hb, hml, hown, hts, hK, hN, hA, hin, hS, hlk, hR⟩ := hC
  intro ad H locs lsA hP hVS hl hbad
  exact lv_iload hx hb hd (hl.get hg) (h ad H locs lsA hP hVS hl hbad)
theorem ks_lload_n (hC : KC X m own ini S mc ms) {k : Fin 4} {a : Nat} {x : Int64} (hk : (k : Nat) = a) (hg : kget ls a = some (kL x)) (hd : decode m.2.1 pc = .ok (.lload_n k, 1)) (h : KW X (pc + 1) ls (kL x :: st) M cs sl) : KW X pc ls (st) M cs sl := by
  obtain ⟨p, l, e, R, s, mid, args, below, meth, c, A, D, cA, ad0, L0, Q⟩ := X
  obtain ⟨hx, hb, hml, hown, hts, hK, hN, hA, hin, hS, hlk, hR⟩ := hC
  intro ad H locs lsA hP hVS hl hbad
  exact lv_lload_n hx hb hd hk (hl.get hg) (h ad H locs lsA hP hVS hl hbad)
theorem ks_lload (hC : KC X m own ini S mc ms) {a : Nat} {x : Int64} (hg : kget ls a = some (kL x)) (hd : decode m.2.1 pc = .ok (.lload a, 2)) (h : KW X (pc + 2) ls (kL x :: st) M cs sl) : KW X pc ls (st) M cs sl := by
  obtain ⟨p, l, e, R, s, mid, args, below, meth, c, A, D, cA, ad0, L0, Q⟩ := X
  obtain ⟨hx, hb, hml, hown, hts, hK, hN, hA, hin, hS, hlk, hR⟩ := hC
  intro ad H locs lsA hP hVS hl hbad
  exact lv_lload hx hb hd (hl.get hg) (h ad H locs lsA hP hVS hl hbad)
theorem ks_dload (hC : KC X m own ini S mc ms) {a : Nat} {x : UInt64} (hg : kget ls a = some (kD x)) (hd : decode m.2.1 pc = .ok (.dload a, 2)) (h : KW X (pc + 2) ls (kD x :: st) M cs sl) : KW X pc ls (st) M cs sl := by
  obtain ⟨p, l, e, R, s, mid, args, below, meth, c, A, D, cA, ad0, L0, Q⟩ := X
  obtain ⟨hx, hb, hml, hown, hts, hK, hN, hA, hin, hS, hlk, hR⟩ := hC
  intro ad H locs lsA hP hVS hl hbad
  exact lv_dload hx hb hd (hl.get hg) (h ad H locs lsA hP hVS hl hbad)
theorem ks_aload_n (hC : KC X m own ini S mc ms) {a : Nat} {x : Option KI} {k : Fin 4} (hk : (k : Nat) = a) (hg : kget ls a = some (kR x)) (hd : decode m.2.1 pc = .ok (.aload_n k, 1)) (h : KW X (pc + 1) ls (kR x :: st) M cs sl) : KW X pc ls st M cs sl := by
  obtain ⟨p, l, e, R, s, mid, args, below, meth, c, A, D, cA, ad0, L0, Q⟩ := X
  obtain ⟨hx, hb, hml, hown, hts, hK, hN, hA, hin, hS, hlk, hR⟩ := hC
  intro ad H locs lsA hP hVS hl hbad
  have h2 := h ad H locs lsA hP hVS hl hbad
  have hgg := hl.get hg
  cases x with
  | none => exact lv_aload_nN hx hb hd hk hgg h2
  | some r => exact lv_aload_n hx hb hd hk hgg h2
theorem ks_aload (hC : KC X m own ini S mc ms) {a : Nat} {x : Option KI} (hg : kget ls a = some (kR x)) (hd : decode m.2.1 pc = .ok (.aload a, 2)) (h : KW X (pc + 2) ls (kR x :: st) M cs sl) : KW X pc ls st M cs sl := by
  obtain ⟨p, l, e, R, s, mid, args, below, meth, c, A, D, cA, ad0, L0, Q⟩ := X
  obtain ⟨hx, hb, hml, hown, hts, hK, hN, hA, hin, hS, hlk, hR⟩ := hC
  intro ad H locs lsA hP hVS hl hbad
  have h2 := h ad H locs lsA hP hVS hl hbad
  have hgg := hl.get hg
  cases x with
  | none => exact lv_aloadN hx hb hd hgg h2
  | some r => exact lv_aload hx hb hd hgg h2
theorem ks_istore_n (hC : KC X m own ini S mc ms) {a : Nat} {x : Int32} {k : Fin 4} (hk : (k : Nat) = a) (hn : a < m.2.2.1) (hd : decode m.2.1 pc = .ok (.istore_n k, 1)) (h : KW X (pc + 1) (kst1 ls a (kI x)) st M cs sl) : KW X pc ls (kI x :: st) M cs sl := by
  obtain ⟨p, l, e, R, s, mid, args, below, meth, c, A, D, cA, ad0, L0, Q⟩ := X
  obtain ⟨hx, hb, hml, hown, hts, hK, hN, hA, hin, hS, hlk, hR⟩ := hC
  intro ad H locs lsA hP hVS hl hbad
  rw [← hml] at hn
  exact lv_istore_n hx hb hd hk hl.1 hn rfl (fun lsB h2 => h ad H locs lsB hP hVS (hl.st1 h2) hbad)
theorem ks_istore (hC : KC X m own ini S mc ms) {a : Nat} {x : Int32} (hn : a < m.2.2.1) (hd : decode m.2.1 pc = .ok (.istore a, 2)) (h : KW X (pc + 2) (kst1 ls a (kI x)) st M cs sl) : KW X pc ls (kI x :: st) M cs sl := by
  obtain ⟨p, l, e, R, s, mid, args, below, meth, c, A, D, cA, ad0, L0, Q⟩ := X
  obtain ⟨hx, hb, hml, hown, hts, hK, hN, hA, hin, hS, hlk, hR⟩ := hC
  intro ad H locs lsA hP hVS hl hbad
  rw [← hml] at hn
  exact lv_istore hx hb hd hl.1 hn rfl (fun lsB h2 => h ad H locs lsB hP hVS (hl.st1 h2) hbad)
theorem ks_lstore_n (hC : KC X m own ini S mc ms) {a : Nat} {x : Int64} {k : Fin 4} (hk : (k : Nat) = a) (hn : a + 1 < m.2.2.1) (hd : decode m.2.1 pc = .ok (.lstore_n k, 1)) (h : KW X (pc + 1) (kst2 ls a (kL x)) st M cs sl) : KW X pc ls (kL x :: st) M cs sl := by
  obtain ⟨p, l, e, R, s, mid, args, below, meth, c, A, D, cA, ad0, L0, Q⟩ := X
  obtain ⟨hx, hb, hml, hown, hts, hK, hN, hA, hin, hS, hlk, hR⟩ := hC
  intro ad H locs lsA hP hVS hl hbad
  rw [← hml] at hn
  exact lv_lstore_n hx hb hd hk hl.1 hn rfl (fun lsB h2 => h ad H locs lsB hP hVS (hl.st2 hn h2) hbad)
theorem ks_lstore (hC : KC X m own ini S mc ms) {a : Nat} {x : Int64} (hn : a + 1 < m.2.2.1) (hd : decode m.2.1 pc = .ok (.lstore a, 2)) (h : KW X (pc + 2) (kst2 ls a (kL x)) st M cs sl) : KW X pc ls (kL x :: st) M cs sl := by
  obtain ⟨p, l, e, R, s, mid, args, below, meth, c, A, D, cA, ad0, L0, Q⟩ := X
  obtain ⟨hx, hb, hml, hown, hts, hK, hN, hA, hin, hS, hlk, hR⟩ := hC
  intro ad H locs lsA hP hVS hl hbad
  rw [← hml] at hn
  exact lv_lstore hx hb hd hl.1 hn rfl (fun lsB h2 => h ad H locs lsB hP hVS (hl.st2 hn h2) hbad)
theorem ks_dstore (hC : KC X m own ini S mc ms) {a : Nat} {x : UInt64} (hn : a + 1 < m.2.2.1) (hd : decode m.2.1 pc = .ok (.dstore a, 2)) (h : KW X (pc + 2) (kst2 ls a (kD x)) st M cs sl) : KW X pc ls (kD x :: st) M cs sl := by
  obtain ⟨p, l, e, R, s, mid, args, below, meth, c, A, D, cA, ad0, L0, Q⟩ := X
  obtain ⟨hx, hb, hml, hown, hts, hK, hN, hA, hin, hS, hlk, hR⟩ := hC
  intro ad H locs lsA hP hVS hl hbad
  rw [← hml] at hn
  exact lv_dstore hx hb hd hl.1 hn rfl (fun lsB h2 => h ad H locs lsB hP hVS (hl.st2 hn h2) hbad)
theorem ks_astore_n (hC : KC X m own ini S mc ms) {a : Nat} {x : Option KI} {k : Fin 4} (hk : (k : Nat) = a) (hn : a < m.2.2.1) (hd : decode m.2.1 pc = .ok (.astore_n k, 1)) (h : KW X (pc + 1) (kst1 ls a (kR x)) st M cs sl) : KW X pc ls (kR x :: st) M cs sl := by
  obtain ⟨p, l, e, R, s, mid, args, below, meth, c, A, D, cA, ad0, L0, Q⟩ := X
  obtain ⟨hx, hb, hml, hown, hts, hK, hN, hA, hin, hS, hlk, hR⟩ := hC
  intro ad H locs lsA hP hVS hl hbad
  rw [← hml] at hn
  cases x with
  | none => exact lv_astore_nN hx hb hd hk hl.1 hn rfl (fun lsB h2 => h ad H locs lsB hP hVS (hl.st1 h2) hbad)
  | some r => exact lv_astore_n hx hb hd hk hl.1 hn rfl (fun lsB h2 => h ad H locs lsB hP hVS (hl.st1 h2) hbad)
theorem ks_astore (hC : KC X m own ini S mc ms) {a : Nat} {x : Option KI} (hn : a < m.2.2.1) (hd : decode m.2.1 pc = .ok (.astore a, 2)) (h : KW X (pc + 2) (kst1 ls a (kR x)) st M cs sl) : KW X pc ls (kR x :: st) M cs sl := by
  obtain ⟨p, l, e, R, s, mid, args, below, meth, c, A, D, cA, ad0, L0, Q⟩ := X
  obtain ⟨hx, hb, hml, hown, hts, hK, hN, hA, hin, hS, hlk, hR⟩ := hC
  intro ad H locs lsA hP hVS hl hbad
  rw [← hml] at hn
  cases x with
  | none => exact lv_astoreN hx hb hd hl.1 hn rfl (fun lsB h2 => h ad H locs lsB hP hVS (hl.st1 h2) hbad)
  | some r => exact lv_astore hx hb hd hl.1 hn rfl (fun lsB h2 => h ad H locs lsB hP hVS (hl.st1 h2) hbad)
theorem ks_iinc (hC : KC X m own ini S mc ms) {a : Nat} {n : Int} {x v : Int32} (hv : Int32.ofInt n = v) (hg : kget ls a = some (kI x)) (hn : a < m.2.2.1) (hd : decode m.2.1 pc = .ok (.iinc a n, 3)) (h : KW X (pc + 3) (kst1 ls a (kI (x + v))) st M cs sl) : KW X pc ls st M cs sl := by
  obtain ⟨p, l, e, R, s, mid, args, below, meth, c, A, D, cA, ad0, L0, Q⟩ := X
  obtain ⟨hx, hb, hml, hown, hts, hK, hN, hA, hin, hS, hlk, hR⟩ := hC
  intro ad H locs lsA hP hVS hl hbad
  rw [← hml] at hn
  obtain ⟨k, hk⟩ := List.getElem?_of_mem (klist_mem (ad := ad) (nL := c.maxLocals).mpr ⟨hn, _, hg, rfl⟩)
  subst hv
  exact lv_iinc hx hb hd hl.1 hk rfl hn rfl (fun lsB h2 => h ad H locs lsB hP hVS (hl.st1 h2) hbad)
theorem ks_iadd (hC : KC X m own ini S mc ms) {x y : Int32} (hd : decode m.2.1 pc = .ok (.iadd, 1)) (h : KW X (pc + 1) ls (kI (x + y) :: st) M cs sl) : KW X pc ls (kI y :: kI x :: st) M cs sl := by
  obtain ⟨p, l, e, R, s, mid, args, below, meth, c, A, D, cA, ad0, L0, Q⟩ := X
  obtain ⟨hx, hb, hml, hown, hts, hK, hN, hA, hin, hS, hlk, hR⟩ := hC
  intro ad H locs lsA hP hVS hl hbad
  exact lv_iadd hx hb hd (h ad H locs lsA hP hVS hl hbad)
theorem ks_isub (hC : KC X m own ini S mc ms) {x y : Int32} (hd : decode m.2.1 pc = .ok (.isub, 1)) (h : KW X (pc + 1) ls (kI (x - y) :: st) M cs sl) : KW X pc ls (kI y :: kI x :: st) M cs sl := by
  obtain ⟨p, l, e, R, s, mid, args, below, meth, c, A, D, cA, ad0, L0, Q⟩ := X
  obtain ⟨hx, hb, hml, hown, hts, hK, hN, hA, hin, hS, hlk, hR⟩ := hC
  intro ad H locs lsA hP hVS hl hbad
  exact lv_isub hx hb hd (h ad H locs lsA hP hVS hl hbad)
theorem ks_imul (hC : KC X m own ini S mc ms) {x y : Int32} (hd : decode m.2.1 pc = .ok (.imul, 1)) (h : KW X (pc + 1) ls (kI (x * y) :: st) M cs sl) : KW X pc ls (kI y :: kI x :: st) M cs sl := by
  obtain ⟨p, l, e, R, s, mid, args, below, meth, c, A, D, cA, ad0, L0, Q⟩ := X
  obtain ⟨hx, hb, hml, hown, hts, hK, hN, hA, hin, hS, hlk, hR⟩ := hC
  intro ad H locs lsA hP hVS hl hbad
  exact lv_imul hx hb hd (h ad H locs lsA hP hVS hl hbad)
theorem ks_iand (hC : KC X m own ini S mc ms) {x y : Int32} (hd : decode m.2.1 pc = .ok (.iand, 1)) (h : KW X (pc + 1) ls (kI (x &&& y) :: st) M cs sl) : KW X pc ls (kI y :: kI x :: st) M cs sl := by
  obtain ⟨p, l, e, R, s, mid, args, below, meth, c, A, D, cA, ad0, L0, Q⟩ := X
  obtain ⟨hx, hb, hml, hown, hts, hK, hN, hA, hin, hS, hlk, hR⟩ := hC
  intro ad H locs lsA hP hVS hl hbad
  exact lv_iand hx hb hd (h ad H locs lsA hP hVS hl hbad)
theorem ks_ixor (hC : KC X m own ini S mc ms) {x y : Int32} (hd : decode m.2.1 pc = .ok (.ixor, 1)) (h : KW X (pc + 1) ls (kI (x ^^^ y) :: st) M cs sl) : KW X pc ls (kI y :: kI x :: st) M cs sl := by
  obtain ⟨p, l, e, R, s, mid, args, below, meth, c, A, D, cA, ad0, L0, Q⟩ := X
  obtain ⟨hx, hb, hml, hown, hts, hK, hN, hA, hin, hS, hlk, hR⟩ := hC
  intro ad H locs lsA hP hVS hl hbad
  exact lv_ixor hx hb hd (h ad H locs lsA hP hVS hl hbad)
theorem ks_irem (hC : KC X m own ini S mc ms) {x y : Int32} (hne : ¬ y = 0) (hd : decode m.2.1 pc = .ok (.irem, 1)) (h : KW X (pc + 1) ls (kI (x - x / y * y) :: st) M cs sl) : KW X pc ls (kI y :: kI x :: st) M cs sl := by
  obtain ⟨p, l, e, R, s, mid, args, below, meth, c, A, D, cA, ad0, L0, Q⟩ := X
  obtain ⟨hx, hb, hml, hown, hts, hK, hN, hA, hin, hS, hlk, hR⟩ := hC
  intro ad H locs lsA hP hVS hl hbad
  exact lv_irem hx hb hd hne (h ad H locs lsA hP hVS hl hbad)
theorem ks_ladd (hC : KC X m own ini S mc ms) {x y : Int64} (hd : decode m.2.1 pc = .ok (.ladd, 1)) (h : KW X (pc + 1) ls (kL (x + y) :: st) M cs sl) : KW X pc ls (kL y :: kL x :: st) M cs sl := by
  obtain ⟨p, l, e, R, s, mid, args, below, meth, c, A, D, cA, ad0, L0, Q⟩ := X
  obtain ⟨hx, hb, hml, hown, hts, hK, hN, hA, hin, hS, hlk, hR⟩ := hC
  intro ad H locs lsA hP hVS hl hbad
  exact lv_ladd hx hb hd (h ad H locs lsA hP hVS hl hbad)
theorem ks_lmul (hC : KC X m own ini S mc ms) {x y : Int64} (hd : decode m.2.1 pc = .ok (.lmul, 1)) (h : KW X (pc + 1) ls (kL (x * y) :: st) M cs sl) : KW X pc ls (kL y :: kL x :: st) M cs sl := by
  obtain ⟨p, l, e, R, s, mid, args, below, meth, c, A, D, cA, ad0, L0, Q⟩ := X
  obtain ⟨hx, hb, hml, hown, hts, hK, hN, hA, hin, hS, hlk, hR⟩ := hC
  intro ad H locs lsA hP hVS hl hbad
  exact lv_lmul hx hb hd (h ad H locs lsA hP hVS hl hbad)
theorem ks_lcmp (hC : KC X m own ini S mc ms) {x y : Int64} (hd : decode m.2.1 pc = .ok (.lcmp, 1)) (h : KW X (pc + 1) ls (kI (lg_cmp x y) :: st) M cs sl) : KW X pc ls (kL y :: kL x :: st) M cs sl := by
  obtain ⟨p, l, e, R, s, mid, args, below, meth, c, A, D, cA, ad0, L0, Q⟩ := X
  obtain ⟨hx, hb, hml, hown, hts, hK, hN, hA, hin, hS, hlk, hR⟩ := hC
  intro ad H locs lsA hP hVS hl hbad
  exact W.lcmp hx hb hd (h ad H locs lsA hP hVS hl hbad)
theorem ks_i2l (hC : KC X m own ini S mc ms) {x : Int32} (hd : decode m.2.1 pc = .ok (.i2l, 1)) (h : KW X (pc + 1) ls (kL x.toInt64 :: st) M cs sl) : KW X pc ls (kI x :: st) M cs sl := by
  obtain ⟨p, l, e, R, s, mid, args, below, meth, c, A, D, cA, ad0, L0, Q⟩ := X
  obtain ⟨hx, hb, hml, hown, hts, hK, hN, hA, hin, hS, hlk, hR⟩ := hC
  intro ad H locs lsA hP hVS hl hbad
  exact lv_i2l hx hb hd rfl (h ad H locs lsA hP hVS hl hbad)
theorem ks_i2d (hC : KC X m own ini S mc ms) {x : Int32} (hd : decode m.2.1 pc = .ok (.i2d, 1)) (h : KW X (pc + 1) ls (kD (FP.i2d x) :: st) M cs sl) : KW X pc ls (kI x :: st) M cs sl := by
  obtain ⟨p, l, e, R, s, mid, args, below, meth, c, A, D, cA, ad0, L0, Q⟩ := X
  obtain ⟨hx, hb, hml, hown, hts, hK, hN, hA, hin, hS, hlk, hR⟩ := hC
  intro ad H locs lsA hP hVS hl hbad
  exact lv_i2d hx hb hd (h ad H locs lsA hP hVS hl hbad)
theorem ks_ddiv (hC : KC X m own ini S mc ms) {x y : UInt64} (hne : vf_n64 (FP.ddiv x y)) (hd : decode m.2.1 pc = .ok (.ddiv, 1)) (h : KW X (pc + 1) ls (kD (FP.ddiv x y) :: st) M cs sl) : KW X pc ls (kD y :: kD x :: st) M cs sl := by
  obtain ⟨p, l, e, R, s, mid, args, below, meth, c, A, D, cA, ad0, L0, Q⟩ := X
  obtain ⟨hx, hb, hml, hown, hts, hK, hN, hA, hin, hS, hlk, hR⟩ := hC
  intro ad H locs lsA hP hVS hl hbad
  exact lv_ddiv hx hb hd hne (h ad H locs lsA hP hVS hl hbad)
theorem ks_dcmp (hC : KC X m own ini S mc ms) {x y : UInt64} {op : CmpOp} (hd : decode m.2.1 pc = .ok (.dcmp op, 1)) (h : KW X (pc + 1) ls (kI (Op.cmpValue (FP.dcmp x y) op) :: st) M cs sl) : KW X pc ls (kD y :: kD x :: st) M cs sl := by
  obtain ⟨p, l, e, R, s, mid, args, below, meth, c, A, D, cA, ad0, L0, Q⟩ := X
  obtain ⟨hx, hb, hml, hown, hts, hK, hN, hA, hin, hS, hlk, hR⟩ := hC
  intro ad H locs lsA hP hVS hl hbad
  exact lv_dcmp hx hb hd (h ad H locs lsA hP hVS hl hbad)
theorem ks_dupI (hC : KC X m own ini S mc ms) {x : Int32} (hd : decode m.2.1 pc = .ok (.dup, 1)) (h : KW X (pc + 1) ls (kI x :: kI x :: st) M cs sl) : KW X pc ls (kI x :: st) M cs sl := by
  obtain ⟨p, l, e, R, s, mid, args, below, meth, c, A, D, cA, ad0, L0, Q⟩ := X
  obtain ⟨hx, hb, hml, hown, hts, hK, hN, hA, hin, hS, hlk, hR⟩ := hC
  intro ad H locs lsA hP hVS hl hbad
  exact lv_dup hx hb hd rfl (h ad H locs lsA hP hVS hl hbad)
theorem ks_popI (hC : KC X m own ini S mc ms) {x : Int32} (hd : decode m.2.1 pc = .ok (.pop, 1)) (h : KW X (pc + 1) ls (st) M cs sl) : KW X pc ls (kI x :: st) M cs sl := by
  obtain ⟨p, l, e, R, s, mid, args, below, meth, c, A, D, cA, ad0, L0, Q⟩ := X
  obtain ⟨hx, hb, hml, hown, hts, hK, hN, hA, hin, hS, hlk, hR⟩ := hC
  intro ad H locs lsA hP hVS hl hbad
  exact lv_pop hx hb hd rfl (h ad H locs lsA hP hVS hl hbad)
theorem kcatR (ad : KI → Nat) (x : Option KI) : (kv ad (kR x)).category = 1 := by cases x <;> rfl
theorem ks_dupR (hC : KC X m own ini S mc ms) {x : Option KI} (hd : decode m.2.1 pc = .ok (.dup, 1)) (h : KW X (pc + 1) ls (kR x :: kR x :: st) M cs sl) : KW X pc ls (kR x :: st) M cs sl := by
  obtain ⟨p, l, e, R, s, mid, args, below, meth, c, A, D, cA, ad0, L0, Q⟩ := X
  obtain ⟨hx, hb, hml, hown, hts, hK, hN, hA, hin, hS, hlk, hR⟩ := hC
  intro ad H locs lsA hP hVS hl hbad
  exact lv_dup hx hb hd (kcatR ad x) (h ad H locs lsA hP hVS hl hbad)
theorem ks_popR (hC : KC X m own ini S mc ms) {x : Option KI} (hd : decode m.2.1 pc = .ok (.pop, 1)) (h : KW X (pc + 1) ls (st) M cs sl) : KW X pc ls (kR x :: st) M cs sl := by
  obtain ⟨p, l, e, R, s, mid, args, below, meth, c, A, D, cA, ad0, L0, Q⟩ := X
  obtain ⟨hx, hb, hml, hown, hts, hK, hN, hA, hin, hS, hlk, hR⟩ := hC
  intro ad H locs lsA hP hVS hl hbad
  exact lv_pop hx hb hd (kcatR ad x) (h ad H locs lsA hP hVS hl hbad)
theorem ks_dup2 (hC : KC X m own ini S mc ms) {x : Int32} {y : Option KI} (hd : decode m.2.1 pc = .ok (.dup2, 1)) (h : KW X (pc + 1) ls (kI x :: kR y :: kI x :: kR y :: st) M cs sl) : KW X pc ls (kI x :: kR y :: st) M cs sl := by
  obtain ⟨p, l, e, R, s, mid, args, below, meth, c, A, D, cA, ad0, L0, Q⟩ := X
  obtain ⟨hx, hb, hml, hown, hts, hK, hN, hA, hin, hS, hlk, hR⟩ := hC
  intro ad H locs lsA hP hVS hl hbad
  exact lv_dup2_11 hx hb hd rfl (kcatR ad y) (h ad H locs lsA hP hVS hl hbad)
theorem ks_goto (hC : KC X m own ini S mc ms) {off : Int} {tgt : Nat} (ht : (pc : Int) + off = (tgt : Int)) (hd : decode m.2.1 pc = .ok (.goto off, 3)) (h : KW X tgt ls st M cs sl) : KW X pc ls st M cs sl := by
  obtain ⟨p, l, e, R, s, mid, args, below, meth, c, A, D, cA, ad0, L0, Q⟩ := X
  obtain ⟨hx, hb, hml, hown, hts, hK, hN, hA, hin, hS, hlk, hR⟩ := hC
  intro ad H locs lsA hP hVS hl hbad
  exact lv_goto hx hb hd ht (h ad H locs lsA hP hVS hl hbad)
theorem ks_if_eq (hC : KC X m own ini S mc ms) {x : Int32} {off : Int} {tgt : Nat} (ht : (pc : Int) + off = (tgt : Int)) (hd : decode m.2.1 pc = .ok (.ifCond .eq off, 3)) (h1 : x = 0 → KW X tgt ls st M cs sl) (h2 : ¬ x = 0 → KW X (pc + 3) ls st M cs sl) : KW X pc ls (kI x :: st) M cs sl := by
  obtain ⟨p, l, e, R, s, mid, args, below, meth, c, A, D, cA, ad0, L0, Q⟩ := X
  obtain ⟨hx, hb, hml, hown, hts, hK, hN, hA, hin, hS, hlk, hR⟩ := hC
  intro ad H locs lsA hP hVS hl hbad
  exact lv_if_eq hx hb hd ht (fun z => h1 z ad H locs lsA hP hVS hl hbad) (fun z => h2 z ad H locs lsA hP hVS hl hbad)
theorem ks_if_ne (hC : KC X m own ini S mc ms) {x : Int32} {off : Int} {tgt : Nat} (ht : (pc : Int) + off = (tgt : Int)) (hd : decode m.2.1 pc = .ok (.ifCond .ne off, 3)) (h1 : ¬ x = 0 → KW X tgt ls st M cs sl) (h2 : x = 0 → KW X (pc + 3) ls st M cs sl) : KW X pc ls (kI x :: st) M cs sl := by
  obtain ⟨p, l, e, R, s, mid, args, below, meth, c, A, D, cA, ad0, L0, Q⟩ := X
  obtain ⟨hx, hb, hml, hown, hts, hK, hN, hA, hin, hS, hlk, hR⟩ := hC
  intro ad H locs lsA hP hVS hl hbad
  exact lv_if_ne hx hb hd ht (fun z => h1 z ad H locs lsA hP hVS hl hbad) (fun z => h2 z ad H locs lsA hP hVS hl hbad)
theorem ks_if_lt (hC : KC X m own ini S mc ms) {x : Int32} {off : Int} {tgt : Nat} (ht : (pc : Int) + off = (tgt : Int)) (hd : decode m.2.1 pc = .ok (.ifCond .lt off, 3)) (h1 : x < 0 → KW X tgt ls st M cs sl) (h2 : ¬ x < 0 → KW X (pc + 3) ls st M cs sl) : KW X pc ls (kI x :: st) M cs sl := by
  obtain ⟨p, l, e, R, s, mid, args, below, meth, c, A, D, cA, ad0, L0, Q⟩ := X
  obtain ⟨hx, hb, hml, hown, hts, hK, hN, hA, hin, hS, hlk, hR⟩ := hC
  intro ad H locs lsA hP hVS hl hbad
  exact lv_if_lt hx hb hd ht (fun z => h1 z ad H locs lsA hP hVS hl hbad) (fun z => h2 z ad H locs lsA hP hVS hl hbad)
theorem ks_if_ge (hC : KC X m own ini S mc ms) {x : Int32} {off : Int} {tgt : Nat} (ht : (pc : Int) + off = (tgt : Int)) (hd : decode m.2.1 pc = .ok (.ifCond .ge off, 3)) (h1 : 0 ≤ x → KW X tgt ls st M cs sl) (h2 : ¬ 0 ≤ x → KW X (pc + 3) ls st M cs sl) : KW X pc ls (kI x :: st) M cs sl := by
  obtain ⟨p, l, e, R, s, mid, args, below, meth, c, A, D, cA, ad0, L0, Q⟩ := X
  obtain ⟨hx, hb, hml, hown, hts, hK, hN, hA, hin, hS, hlk, hR⟩ := hC
  intro ad H locs lsA hP hVS hl hbad
  exact lv_if_ge hx hb hd ht (fun z => h1 z ad H locs lsA hP hVS hl hbad) (fun z => h2 z ad H locs lsA hP hVS hl hbad)
theorem ks_if_gt (hC : KC X m own ini S mc ms) {x : Int32} {off : Int} {tgt : Nat} (ht : (pc : Int) + off = (tgt : Int)) (hd : decode m.2.1 pc = .ok (.ifCond .gt off, 3)) (h1 : 0 < x → KW X tgt ls st M cs sl) (h2 : ¬ 0 < x → KW X (pc + 3) ls st M cs sl) : KW X pc ls (kI x :: st) M cs sl := by
  obtain ⟨p, l, e, R, s, mid, args, below, meth, c, A, D, cA, ad0, L0, Q⟩ := X
  obtain ⟨hx, hb, hml, hown, hts, hK, hN, hA, hin, hS, hlk, hR⟩ := hC
  intro ad H locs lsA hP hVS hl hbad
  exact lv_if_gt hx hb hd ht (fun z => h1 z ad H locs lsA hP hVS hl hbad) (fun z => h2 z ad H locs lsA hP hVS hl hbad)
theorem ks_if_le (hC : KC X m own ini S mc ms) {x : Int32} {off : Int} {tgt : Nat} (ht : (pc : Int) + off = (tgt : Int)) (hd : decode m.2.1 pc = .ok (.ifCond .le off, 3)) (h1 : x ≤ 0 → KW X tgt ls st M cs sl) (h2 : ¬ x ≤ 0 → KW X (pc + 3) ls st M cs sl) : KW X pc ls (kI x :: st) M cs sl := by
  obtain ⟨p, l, e, R, s, mid, args, below, meth, c, A, D, cA, ad0, L0, Q⟩ := X
  obtain ⟨hx, hb, hml, hown, hts, hK, hN, hA, hin, hS, hlk, hR⟩ := hC
  intro ad H locs lsA hP hVS hl hbad
  exact lv_if_le hx hb hd ht (fun z => h1 z ad H locs lsA hP hVS hl hbad) (fun z => h2 z ad H locs lsA hP hVS hl hbad)
theorem ks_icmp_eq (hC : KC X m own ini S mc ms) {x y : Int32} {off : Int} {tgt : Nat} (ht : (pc : Int) + off = (tgt : Int)) (hd : decode m.2.1 pc = .ok (.if_icmp .eq off, 3)) (h1 : x = y → KW X tgt ls st M cs sl) (h2 : ¬ x = y → KW X (pc + 3) ls st M cs sl) : KW X pc ls (kI y :: kI x :: st) M cs sl := by
  obtain ⟨p, l, e, R, s, mid, args, below, meth, c, A, D, cA, ad0, L0, Q⟩ := X
  obtain ⟨hx, hb, hml, hown, hts, hK, hN, hA, hin, hS, hlk, hR⟩ := hC
  intro ad H locs lsA hP hVS hl hbad
  exact lv_icmp_eq hx hb hd ht (fun z => h1 z ad H locs lsA hP hVS hl hbad) (fun z => h2 z ad H locs lsA hP hVS hl hbad)
theorem ks_icmp_ne (hC : KC X m own ini S mc ms) {x y : Int32} {off : Int} {tgt : Nat} (ht : (pc : Int) + off = (tgt : Int)) (hd : decode m.2.1 pc = .ok (.if_icmp .ne off, 3)) (h1 : ¬ x = y → KW X tgt ls st M cs sl) (h2 : x = y → KW X (pc + 3) ls st M cs sl) : KW X pc ls (kI y :: kI x :: st) M cs sl := by
  obtain ⟨p, l, e, R, s, mid, args, below, meth, c, A, D, cA, ad0, L0, Q⟩ := X
  obtain ⟨hx, hb, hml, hown, hts, hK, hN, hA, hin, hS, hlk, hR⟩ := hC
  intro ad H locs lsA hP hVS hl hbad
  exact lv_icmp_ne hx hb hd ht (fun z => h1 z ad H locs lsA hP hVS hl hbad) (fun z => h2 z ad H locs lsA hP hVS hl hbad)
theorem ks_icmp_lt (hC : KC X m own ini S mc ms) {x y : Int32} {off : Int} {tgt : Nat} (ht : (pc : Int) + off = (tgt : Int)) (hd : decode m.2.1 pc = .ok (.if_icmp .lt off, 3)) (h1 : x < y → KW X tgt ls st M cs sl) (h2 : ¬ x < y → KW X (pc + 3) ls st M cs sl) : KW X pc ls (kI y :: kI x :: st) M cs sl := by
  obtain ⟨p, l, e, R, s, mid, args, below, meth, c, A, D, cA, ad0, L0, Q⟩ := X
  obtain ⟨hx, hb, hml, hown, hts, hK, hN, hA, hin, hS, hlk, hR⟩ := hC
  intro ad H locs lsA hP hVS hl hbad
  exact lv_icmp_lt hx hb hd ht (fun z => h1 z ad H locs lsA hP hVS hl hbad) (fun z => h2 z ad H locs lsA hP hVS hl hbad)
theorem ks_icmp_ge (hC : KC X m own ini S mc ms) {x y : Int32} {off : Int} {tgt : Nat} (ht : (pc : Int) + off = (tgt : Int)) (hd : decode m.2.1 pc = .ok (.if_icmp .ge off, 3)) (h1 : y ≤ x → KW X tgt ls st M cs sl) (h2 : ¬ y ≤ x → KW X (pc + 3) ls st M cs sl) : KW X pc ls (kI y :: kI x :: st) M cs sl := by
  obtain ⟨p, l, e, R, s, mid, args, below, meth, c, A, D, cA, ad0, L0, Q⟩ := X
  obtain ⟨hx, hb, hml, hown, hts, hK, hN, hA, hin, hS, hlk, hR⟩ := hC
  intro ad H locs lsA hP hVS hl hbad
  exact lv_icmp_ge hx hb hd ht (fun z => h1 z ad H locs lsA hP hVS hl hbad) (fun z => h2 z ad H locs lsA hP hVS hl hbad)
theorem ks_icmp_gt (hC : KC X m own ini S mc ms) {x y : Int32} {off : Int} {tgt : Nat} (ht : (pc : Int) + off = (tgt : Int)) (hd : decode m.2.1 pc = .ok (.if_icmp .gt off, 3)) (h1 : y < x → KW X tgt ls st M cs sl) (h2 : ¬ y < x → KW X (pc + 3) ls st M cs sl) : KW X pc ls (kI y :: kI x :: st) M cs sl := by
  obtain ⟨p, l, e, R, s, mid, args, below, meth, c, A, D, cA, ad0, L0, Q⟩ := X
  obtain ⟨hx, hb, hml, hown, hts, hK, hN, hA, hin, hS, hlk, hR⟩ := hC
  intro ad H locs lsA hP hVS hl hbad
  exact lv_icmp_gt hx hb hd ht (fun z => h1 z ad H locs lsA hP hVS hl hbad) (fun z => h2 z ad H locs lsA hP hVS hl hbad)
theorem ks_icmp_le (hC : KC X m own ini S mc ms) {x y : Int32} {off : Int} {tgt : Nat} (ht : (pc : Int) + off = (tgt : Int)) (hd : decode m.2.1 pc = .ok (.if_icmp .le off, 3)) (h1 : x ≤ y → KW X tgt ls st M cs sl) (h2 : ¬ x ≤ y → KW X (pc + 3) ls st M cs sl) : KW X pc ls (kI y :: kI x :: st) M cs sl := by
  obtain ⟨p, l, e, R, s, mid, args, below, meth, c, A, D, cA, ad0, L0, Q⟩ := X
  obtain ⟨hx, hb, hml, hown, hts, hK, hN, hA, hin, hS, hlk, hR⟩ := hC
  intro ad H locs lsA hP hVS hl hbad
  exact lv_icmp_le hx hb hd ht (fun z => h1 z ad H locs lsA hP hVS hl hbad) (fun z => h2 z ad H locs lsA hP hVS hl hbad)
theorem kcases_spec {K : Nat → Prop} {pc : Nat} {x : Int32} : ∀ (l : List Int) (i : Int), kcases K pc x l i → ∀ (k : Nat) (o : Int), l[k]? = some o → x.toInt = i + k → K ((pc : Int) + o).toNat
  | [], i, _, k, o, hk, _ => by simp at hk
  | o :: r, i, h, 0, o', hk, hx => by
    simp only [List.getElem?_cons_zero, Option.some.injEq] at hk
    subst hk
    exact h.1 (by omega)
  | o :: r, i, h, k + 1, o', hk, hx => by
    simp only [List.getElem?_cons_succ] at hk
    exact kcases_spec r (i + 1) h.2 k o' hk (by omega)
theorem ks_table (hC : KC X m own ini S mc ms) {x : Int32} {d lo hi : Int} {offs : Array Int} {len : Nat} (hd0 : 0 ≤ (pc : Int) + d) (hof : ∀ o ∈ offs.toList, 0 ≤ (pc : Int) + o) (hsz : (offs.size : Int) = hi - lo + 1) (hd : decode m.2.1 pc = .ok (.tableswitch d lo hi offs, len))
    (h1 : (x.toInt < lo ∨ hi < x.toInt) → KW X ((pc : Int) + d).toNat ls st M cs sl) (h2 : kcases (fun q => KW X q ls st M cs sl) pc x offs.toList lo) : KW X pc ls (kI x :: st) M cs sl := by
  obtain ⟨p, l, e, R, s, mid, args, below, meth, c, A, D, cA, ad0, L0, Q⟩ := X
  obtain ⟨hx, hb, hml, hown, hts, hK, hN, hA, hin, hS, hlk, hR⟩ := hC
  intro ad H locs lsA hP hVS hl hbad
  by_cases hr : x.toInt < lo ∨ hi < x.toInt
  · exact lv_tableOut hx hb hd hr (by omega) (h1 hr ad H locs lsA hP hVS hl hbad)
  · have hlt : (x.toInt - lo).toNat < offs.size := by omega
    have ho : offs[(x.toInt - lo).toNat]? = some offs[(x.toInt - lo).toNat] := Array.getElem?_eq_getElem hlt
    have hmem : offs[(x.toInt - lo).toNat] ∈ offs.toList := by simp
    have hnn := hof _ hmem
    have h3 := kcases_spec offs.toList lo h2 (x.toInt - lo).toNat _ (by rw [Array.getElem?_toList]; exact ho) (by omega)
    exact lv_tableIn hx hb hd (fun z => hr (Or.inl z)) (fun z => hr (Or.inr z)) ho (by omega) (h3 ad H locs lsA hP hVS hl hbad)
theorem klook_spec {K : Nat → Prop} {pc : Nat} {x : Int32} {d : Int} : ∀ (l : List (Int × Int)), klook K pc x d l → K ((pc : Int) + Op.lookupswitch.offset l d x.toInt).toNat
  | [], h => h
  | (k, o) :: r, h => by
    by_cases hk : x.toInt = k
    · have e : Op.lookupswitch.offset ((k, o) :: r) d x.toInt = o := by simp [Op.lookupswitch.offset, hk]
      rw [e]; exact h.1 hk
    · have e : Op.lookupswitch.offset ((k, o) :: r) d x.toInt = Op.lookupswitch.offset r d x.toInt := by
        simp only [Op.lookupswitch.offset]
        rw [if_neg (fun z9 => hk z9.symm)]
      rw [e]; exact klook_spec r (h.2 hk)
theorem klook_mem {d z : Int} : ∀ (l : List (Int × Int)), Op.lookupswitch.offset l d z = d ∨ ∃ q ∈ l, Op.lookupswitch.offset l d z = q.2
  | [] => Or.inl rfl
  | (k, o) :: r => by
    by_cases hk : z = k
    · exact Or.inr ⟨(k, o), List.mem_cons_self, by simp [Op.lookupswitch.offset, hk]⟩
    · have e : Op.lookupswitch.offset ((k, o) :: r) d z = Op.lookupswitch.offset r d z := by
        simp only [Op.lookupswitch.offset]
        rw [if_neg (fun z9 => hk z9.symm)]
      rw [e]
      rcases klook_mem (d := d) (z := z) r with h | ⟨q, h1, h2⟩
      · exact Or.inl h
      · exact Or.inr ⟨q, List.mem_cons_of_mem _ h1, h2⟩
theorem ks_lookup (hC : KC X m own ini S mc ms) {x : Int32} {d : Int} {ps : Array (Int × Int)} {len : Nat} (hp : (ps.toList.zip (ps.toList.drop 1)).all (fun (a, next) => a.1 < next.1) = true) (hd0 : 0 ≤ (pc : Int) + d) (hof : ∀ o ∈ ps.toList, 0 ≤ (pc : Int) + o.2) (hd : decode m.2.1 pc = .ok (.lookupswitch d ps, len))
    (h1 : klook (fun q => KW X q ls st M cs sl) pc x d ps.toList) : KW X pc ls (kI x :: st) M cs sl := by
  obtain ⟨p, l, e, R, s, mid, args, below, meth, c, A, D, cA, ad0, L0, Q⟩ := X
  obtain ⟨hx, hb, hml, hown, hts, hK, hN, hA, hin, hS, hlk, hR⟩ := hC
  intro ad H locs lsA hP hVS hl hbad
  have h3 := klook_spec ps.toList h1
  have hnn : 0 ≤ (pc : Int) + Op.lookupswitch.offset ps.toList d x.toInt := by
    rcases klook_mem (d := d) (z := x.toInt) ps.toList with h | ⟨q, hq, h⟩
    · rw [h]; exact hd0
    · rw [h]; exact hof q hq
  exact lv_lookup hx hb hd hp rfl (by omega) (h3 ad H locs lsA hP hVS hl hbad)
theorem kslot_get (ad : KI → Nat) (M : KM) (i : KI) {kc j : Nat} (hc : i.1 = kc) (hj : j < kN kc) : ((List.range (kN i.1)).map (kslot ad M i))[j]? = some (kslot ad M i j) := by
  subst hc
  rw [List.getElem?_map, List.getElem?_range hj]; rfl
theorem ks_get (hC : KC X m own ini S mc ms) {i : KI} {kc j t idx : Nat} (hc : kc < 8) (hj : j < kN kc) (ht : (bif kisref (kty kc j) then 1 else 0) = t) (hw : ktabF.contains (own, idx, kc, j) = true ∨ ktabN.contains (own, idx, kc, j) = true) (hi : i.1 = kc) (hM : M.1 i) (hd : decode m.2.1 pc = .ok (.getfield idx, 3))
    (h : KW X (pc + 3) ls (kfv M i j t :: st) M cs sl) : KW X pc ls (kR (some i) :: st) M cs sl := by
  obtain ⟨p, l, e, R, s, mid, args, below, meth, c, A, D, cA, ad0, L0, Q⟩ := X
  obtain ⟨hx, hb, hml, hown, hts, hK, hN, hA, hin, hS, hlk, hR⟩ := hC
  intro ad H locs lsA hP hVS hl hbad
  obtain ⟨ws, k, hk, hP1, hD1⟩ := hP.get hM
  rw [kobj_c (by rw [hi]; exact hc), hi] at hk
  have hv := kslot_get ad M i hi hj
  rw [hi] at hv
  have hsl : kslot ad M i j = kv ad (kfv M i j t) := by
    subst ht
    simp only [kslot, hi]
    cases kisref (kty kc j) <;> rfl
  have h2 := h ad H locs lsA hP hVS hl hbad
  rw [List.map_cons, ← hsl] at h2
  rcases hw with hw | hw
  · exact va_get hx hb hts (kLay kc hc) hown hK hP1 k hk (kCl kc hc) j hj (hts _ (kandW (kall kF_ok hw))) (fun _ h9 => h9) hv hd h2
  · have hwN := hN.1 _ (List.contains_iff_mem.mp hw)
    have hon := kall kN_ok hw
    simp only [Bool.and_eq_true, decide_eq_true_eq] at hon
    exact va_getN hx hb hts (kLay kc hc) hown hK hP1 k hk (kCl kc hc) j hj (va_Nw.use hon.2 hwN) (fun _ h9 => h9) hv hd h2
def kft (kc j : Nat) : Nat := match kty kc j with
  | .int => 0
  | .boolean => 2
  | .object _ => 1
  | .array _ => 1
  | _ => 9
theorem kslot_up (ad : KI → Nat) (M M' : KM) (i : KI) {kc j : Nat} {w : Value} (hj : j < kN kc) (hw : w = kslot ad M' i j) (ho : ∀ k, k ≠ j → kslot ad M' i k = kslot ad M i k) : ((List.range (kN kc)).map (kslot ad M i)).set j w = (List.range (kN kc)).map (kslot ad M' i) := by
  apply List.ext_getElem?
  intro k
  by_cases hkj : k = j
  · subst hkj
    rw [List.getElem?_set_self (by simpa using hj), List.getElem?_map, List.getElem?_range hj, hw]; rfl
  · rw [List.getElem?_set_ne (Ne.symm hkj), List.getElem?_map, List.getElem?_map]
    by_cases hk : k < kN kc
    · rw [List.getElem?_range hk]
      simp only [Option.map_some, ho k hkj]
    · rw [List.getElem?_eq_none (by simpa using hk)]; rfl
/-- what may be stored into a field: of its type, and a live cell if a reference -/
def kfits (t : Nat) (M : KM) (x : KV) : Prop := kfit t x ∧ ∀ r, x = kR (some r) → M.1 r
theorem kputv_slot (ad : KI → Nat) (M : KM) (i : KI) {kc j t : Nat} {x : KV} (hi : i.1 = kc) (ht : kft kc j = t) (hx : kfit t x) : kv ad x = kslot ad (kputv M i j x) i j ∧ ∀ k, k ≠ j → kslot ad (kputv M i j x) i k = kslot ad M i k := by
  subst ht
  rcases x with x | x | x | x
  · have hr : kisref (kty kc j) = false := by
      simp only [kft] at hx
      cases hk : kty kc j <;> simp_all [kfit, kisref]
    refine ⟨?_, fun k hk => ?_⟩
    · simp [kslot, hi, hr, kputv, kputD, kput, kv]
    · simp [kslot, kputv, kputD, kput, hk]
  · simp only [kfit] at hx; split at hx <;> simp_all
  · simp only [kfit] at hx; split at hx <;> simp_all
  · have hr : kisref (kty kc j) = true := by
      simp only [kft] at hx
      cases hk : kty kc j <;> simp_all [kfit, kisref]
    refine ⟨?_, fun k hk => ?_⟩
    · simp [kslot, hi, hr, kputv, kputR, kput, kv]
    · simp [kslot, kputv, kputR, kput, hk]
theorem kfit_nar (ad : KI → Nat) {kc j t : Nat} {x : KV} (ht : kft kc j = t) (hx : kfit t x) : narrow (kty kc j) (kv ad x) = kv ad x ∧ fits (kty kc j) (kv ad x) = true := by
  subst ht
  simp only [kft] at hx
  cases hk : kty kc j <;> rw [hk] at hx <;> rcases x with x | x | x | x <;> simp only [kfit] at hx
  all_goals first
    | exact hx.elim
    | exact ⟨rfl, rfl⟩
    | (rcases hx with rfl | rfl <;> exact ⟨rfl, rfl⟩)
    | (cases x <;> exact ⟨rfl, rfl⟩)
theorem kputv_frame {M : KM} {i : KI} {j : Nat} {x : KV} : (kputv M i j x).1 = M.1 ∧ (∀ a, a ≠ i → ∀ k, (kputv M i j x).2.1 a k = M.2.1 a k) ∧ (∀ a, a ≠ i → ∀ k, (kputv M i j x).2.2.1 a k = M.2.2.1 a k) ∧ (∀ a, a ≠ i → ∀ k, (kputv M i j x).2.2.2.1 a k = M.2.2.2.1 a k) ∧ (∀ a, a ≠ i → (kputv M i j x).2.2.2.2 a = M.2.2.2.2 a) := by
  rcases x with x | x | x | x
  · exact ⟨rfl, fun _ _ _ => rfl, fun a ha k => by simp [kputv, kputD, kput, ha], fun _ _ _ => rfl, fun _ _ => rfl⟩
  · exact ⟨rfl, fun _ _ _ => rfl, fun _ _ _ => rfl, fun _ _ _ => rfl, fun _ _ => rfl⟩
  · exact ⟨rfl, fun _ _ _ => rfl, fun _ _ _ => rfl, fun _ _ _ => rfl, fun _ _ => rfl⟩
  · exact ⟨rfl, fun a ha k => by simp [kputv, kputR, kput, ha], fun _ _ _ => rfl, fun _ _ _ => rfl, fun _ _ => rfl⟩
theorem KP.closed {D : va_G} {cA : Nat → ClassId} {ad : KI → Nat} {A : Nat → Prop} {M : KM} {H : Heap} (h : KP D cA ad A M H) : ∀ i j r, M.1 i → M.2.1 i j = some r → M.1 r := h.choose_spec.2.1
theorem ks_put (hC : KC X m own ini S mc ms) {i : KI} {x : KV} {kc j t idx : Nat} (hc : kc < 8) (hj : j < kN kc) (ht : kft kc j = t) (hw : (ktabF.contains (own, idx, kc, j) = true ∧ ((kT kc j).2.2.2 = true → ini = true ∧ (kT kc j).1 = kown own)) ∨ (ktabN.contains (own, idx, kc, j) = true ∧ (kT kc j).2.2.2 = false)) (hi : i.1 = kc) (hM : M.1 i) (hf : kfits t M x) (hd : decode m.2.1 pc = .ok (.putfield idx, 3))
    (h : KW X (pc + 3) ls st (kputv M i j x) cs sl) : KW X pc ls (x :: kR (some i) :: st) M cs sl := by
  obtain ⟨p, l, e, R, s, mid, args, below, meth, c, A, D, cA, ad0, L0, Q⟩ := X
  obtain ⟨hx, hb, hml, hown, hts, hK, hN, hA, hin, hS, hlk, hR⟩ := hC
  intro ad H locs lsA hP hVS hl hbad
  have hM2 := hP.inA hM
  have hcl := hP.closed
  obtain ⟨f1, f2, f3, f4, f5⟩ := kputv_frame (M := M) (i := i) (j := j) (x := x)
  have hC2 : ∀ k r, (kputv M i j x).2.1 i k = some r → M.1 r := by
    intro k r hr
    rcases x with x | x | x | x
    · exact hcl i k r hM hr
    · exact hcl i k r hM hr
    · exact hcl i k r hM hr
    · simp only [kputv, kputR, kput, true_and] at hr
      by_cases hkj : k = j
      · rw [if_pos hkj] at hr; exact hf.2 r (by rw [hr])
      · rw [if_neg hkj] at hr; exact hcl i k r hM hr
  obtain ⟨ws, k, hk, hP1, hD1, hset, -⟩ := hP.set (M' := kputv M i j x) hM f1 hC2 f2 f3 f4 f5
  rw [kobj_c (by rw [hi]; exact hc), hi] at hk
  obtain ⟨e1, e2⟩ := kputv_slot ad M i (j := j) hi ht hf.1
  obtain ⟨n1, n2⟩ := kfit_nar ad (kc := kc) (j := j) ht hf.1
  have hup := kslot_up ad M (kputv M i j x) i hj e1 e2
  have hlen : j < ((List.range (kN kc)).map (kslot ad M i)).length := by simpa using hj
  have go : ∀ (H1 : Heap) (locs1 : List Loc), va_P D vwCl (ws.set k (ad i, .inr (kc, ((List.range (kN kc)).map (kslot ad M i)).set j (kv ad x)))) H1 → va_D A (ws.set k (ad i, .inr (kc, ((List.range (kN kc)).map (kslot ad M i)).set j (kv ad x)))) → va_S A s.heap H1 locs1 → W p l e R s mid args below meth c H1 locs1 cs sl Q (F0 mid (pc + 3) lsA (st.map (kv ad))) := by
    intro H1 locs1 g1 g2 g3
    exact h ad H1 locs1 lsA (hset _ H1 (by rw [hup, kobj_c (by rw [hi]; exact hc), hi]) g1 g2) g3 hl ⟨hbad.1, fun k9 hk9 => ⟨by rw [f1]; exact (hbad.2 k9 hk9).1, (hbad.2 k9 hk9).2⟩⟩
  rcases hw with ⟨hw, hfin⟩ | ⟨hw, hfin⟩
  · cases hfn : (kT kc j).2.2.2 with
    | false => exact va_put hx hb hts (kLay kc hc) (kty kc) (kTy kc hc) (kNm kc hc) hown hK hP1 hD1 hVS k hk (kCl kc hc) j hj (hts _ (kandW (kall kF_ok hw))) (fun _ h9 => h9) hfn (kTy kc hc j hj) n1 n2 hlen hd go
    | true => exact va_putF hx hb hts (kLay kc hc) (kty kc) (kTy kc hc) (kNm kc hc) hown hK hP1 hD1 hVS k hk (kCl kc hc) j hj (hts _ (kandW (kall kF_ok hw))) (fun _ h9 => h9) hfn (hin (hfin hfn).1) (hfin hfn).2 (kTy kc hc j hj) n1 n2 hlen hd go
  · have hwN := hN.1 _ (List.contains_iff_mem.mp hw)
    have hon := kall kN_ok hw
    simp only [Bool.and_eq_true, decide_eq_true_eq] at hon
    exact va_putN hx hb hts (kLay kc hc) (kty kc) (kTy kc hc) (kNm kc hc) hown hK hP1 hD1 hVS k hk (kCl kc hc) j hj (va_Nw.use hon.2 hwN) (fun _ h9 => h9) hfin (kTy kc hc j hj) n1 n2 hlen hd go
theorem kspec {q : KS} {P1 : Prop} {P2 : Nat × (Nat → Int32) → Prop} (h : match q with | none => P1 | some z => P2 z) {z : Nat × (Nat → Int32)} (hz : q = some z) : P2 z := by subst hz; exact h
theorem ks_slen (hC : KC X m own ini S mc ms) {q : Nat × (Nat → Int32)} (hq : S = some q) (hd : decode m.2.1 pc = .ok (.arraylength, 1)) (h : KW X (pc + 1) ls (kI (Int32.ofNat q.1) :: st) M cs sl) : KW X pc ls (kR (some (13, 0, 0)) :: st) M cs sl := by
  obtain ⟨p, l, e, R, s, mid, args, below, meth, c, A, D, cA, ad0, L0, Q⟩ := X
  obtain ⟨hx, hb, hml, hown, hts, hK, hN, hA, hin, hS, hlk, hR⟩ := hC
  intro ad H locs lsA hP hVS hl hbad
  obtain ⟨h1, h2, h3⟩ := kspec hS hq
  rw [← hbad.1] at h1 h2 h3
  exact va_slen hx hb h1 h2 h3 hVS hd (h ad H locs lsA hP hVS hl hbad)
theorem ks_sld (hC : KC X m own ini S mc ms) {q : Nat × (Nat → Int32)} (hq : S = some q) {x : Int32} (hin9 : vp_in x q.1) (hd : decode m.2.1 pc = .ok (.iaload, 1)) (h : KW X (pc + 1) ls (kI (q.2 x.toNatClampNeg) :: st) M cs sl) : KW X pc ls (kI x :: kR (some (13, 0, 0)) :: st) M cs sl := by
  obtain ⟨p, l, e, R, s, mid, args, below, meth, c, A, D, cA, ad0, L0, Q⟩ := X
  obtain ⟨hx, hb, hml, hown, hts, hK, hN, hA, hin, hS, hlk, hR⟩ := hC
  intro ad H locs lsA hP hVS hl hbad
  obtain ⟨h1, h2, h3⟩ := kspec hS hq
  rw [← hbad.1] at h1 h2 h3
  exact va_sld hx hb h1 h2 h3 hVS hin9 hd (h ad H locs lsA hP hVS hl hbad)
theorem ktys_q {cA : Nat → ClassId} {k : Nat} (hk : k = 9 ∨ k = 10 ∨ k = 11) : (ktys cA)[k - 8]? = some (cA (k - 8), .object (kRn (kelem k))) := by
  rcases hk with rfl | rfl | rfl <;> rfl
theorem ks_alen (hC : KC X m own ini S mc ms) {i : KI} (h8 : 8 ≤ i.1) (h12 : i.1 ≤ 12) (hM : M.1 i) (hd : decode m.2.1 pc = .ok (.arraylength, 1)) (h : KW X (pc + 1) ls (kI (Int32.ofNat (M.2.2.2.2 i)) :: st) M cs sl) : KW X pc ls (kR (some i) :: st) M cs sl := by
  obtain ⟨p, l, e, R, s, mid, args, below, meth, c, A, D, cA, ad0, L0, Q⟩ := X
  obtain ⟨hx, hb, hml, hown, hts, hK, hN, hA, hin, hS, hlk, hR⟩ := hC
  intro ad H locs lsA hP hVS hl hbad
  obtain ⟨ws, k, hk, hP1, hD1⟩ := hP.get hM
  have h2 := h ad H locs lsA hP hVS hl hbad
  by_cases e8 : i.1 = 8
  · rw [kobj_i e8] at hk
    exact va_alen hx hb hK hP1 k 0 hk (show (ktys cA)[0]? = some (cA 0, .int) from rfl) rfl hd h2
  · by_cases e12 : i.1 = 12
    · rw [kobj_l e12] at hk
      exact va_alen hx hb hK hP1 k 4 hk (show (ktys cA)[4]? = some (cA 4, .long) from rfl) rfl hd h2
    · have eq : i.1 = 9 ∨ i.1 = 10 ∨ i.1 = 11 := by omega
      rw [kobj_q eq] at hk
      exact va_alen hx hb hK hP1 k (i.1 - 8) hk (ktys_q eq) rfl hd h2
theorem ks_iald (hC : KC X m own ini S mc ms) {i : KI} {x : Int32} (h8 : i.1 = 8) (hM : M.1 i) (hin9 : vp_in x (M.2.2.2.2 i)) (hd : decode m.2.1 pc = .ok (.iaload, 1)) (h : KW X (pc + 1) ls (kI (M.2.2.1 i x.toNatClampNeg) :: st) M cs sl) : KW X pc ls (kI x :: kR (some i) :: st) M cs sl := by
  obtain ⟨p, l, e, R, s, mid, args, below, meth, c, A, D, cA, ad0, L0, Q⟩ := X
  obtain ⟨hx, hb, hml, hown, hts, hK, hN, hA, hin, hS, hlk, hR⟩ := hC
  intro ad H locs lsA hP hVS hl hbad
  obtain ⟨ws, k, hk, hP1, hD1⟩ := hP.get hM
  rw [kobj_i h8] at hk
  exact va_iald hx hb hK hP1 k 0 hk rfl hin9 hd (h ad H locs lsA hP hVS hl hbad)
theorem ks_lald (hC : KC X m own ini S mc ms) {i : KI} {x : Int32} (h8 : i.1 = 12) (hM : M.1 i) (hin9 : vp_in x (M.2.2.2.2 i)) (hd : decode m.2.1 pc = .ok (.laload, 1)) (h : KW X (pc + 1) ls (kL (M.2.2.2.1 i x.toNatClampNeg) :: st) M cs sl) : KW X pc ls (kI x :: kR (some i) :: st) M cs sl := by
  obtain ⟨p, l, e, R, s, mid, args, below, meth, c, A, D, cA, ad0, L0, Q⟩ := X
  obtain ⟨hx, hb, hml, hown, hts, hK, hN, hA, hin, hS, hlk, hR⟩ := hC
  intro ad H locs lsA hP hVS hl hbad
  obtain ⟨ws, k, hk, hP1, hD1⟩ := hP.get hM
  rw [kobj_l h8] at hk
  exact va_lald hx hb hK hP1 k 4 hk rfl hin9 hd (h ad H locs lsA hP hVS hl hbad)
theorem ks_aald (hC : KC X m own ini S mc ms) {i : KI} {x : Int32} (h8 : i.1 = 9 ∨ i.1 = 10 ∨ i.1 = 11) (hM : M.1 i) (hin9 : vp_in x (M.2.2.2.2 i)) (hd : decode m.2.1 pc = .ok (.aaload, 1)) (h : KW X (pc + 1) ls (kR (M.2.1 i x.toNatClampNeg) :: st) M cs sl) : KW X pc ls (kI x :: kR (some i) :: st) M cs sl := by
  obtain ⟨p, l, e, R, s, mid, args, below, meth, c, A, D, cA, ad0, L0, Q⟩ := X
  obtain ⟨hx, hb, hml, hown, hts, hK, hN, hA, hin, hS, hlk, hR⟩ := hC
  intro ad H locs lsA hP hVS hl hbad
  obtain ⟨ws, k, hk, hP1, hD1⟩ := hP.get hM
  rw [kobj_q h8] at hk
  exact va_aldq hx hb hK hP1 k (i.1 - 8) hk (ktys_q h8) hin9 hd (h ad H locs lsA hP hVS hl hbad)
theorem ks_iast (hC : KC X m own ini S mc ms) {i : KI} {x y : Int32} (h8 : i.1 = 8) (hM : M.1 i) (hin9 : vp_in x (M.2.2.2.2 i)) (hd : decode m.2.1 pc = .ok (.iastore, 1)) (h : KW X (pc + 1) ls st (kputD M i x.toNatClampNeg y) cs sl) : KW X pc ls (kI y :: kI x :: kR (some i) :: st) M cs sl := by
  obtain ⟨p, l, e, R, s, mid, args, below, meth, c, A, D, cA, ad0, L0, Q⟩ := X
  obtain ⟨hx, hb, hml, hown, hts, hK, hN, hA, hin, hS, hlk, hR⟩ := hC
  intro ad H locs lsA hP hVS hl hbad
  obtain ⟨ws, k, hk, hP1, hD1, hset, -⟩ := hP.set (M' := kputD M i x.toNatClampNeg y) hM rfl (fun j r hr => hP.closed i j r hM hr) (fun _ _ _ => rfl) (fun a ha j => by simp [kputD, kput, ha]) (fun _ _ _ => rfl) (fun _ _ => rfl)
  rw [kobj_i h8] at hk
  refine va_iast hx hb hK hP1 hD1 hVS k 0 hk rfl hin9 hd (fun H1 locs1 g1 g2 g3 => h ad H1 locs1 lsA (hset _ H1 ?_ g1 g2) g3 hl hbad)
  rw [kobj_i h8]
  have e : upd (M.2.2.1 i) x.toNatClampNeg y = (kputD M i x.toNatClampNeg y).2.2.1 i := by
    funext j
    simp [upd, kputD, kput]
  rw [e]; rfl
theorem ks_last (hC : KC X m own ini S mc ms) {i : KI} {x : Int32} {y : Int64} (h8 : i.1 = 12) (hM : M.1 i) (hin9 : vp_in x (M.2.2.2.2 i)) (hd : decode m.2.1 pc = .ok (.lastore, 1)) (h : KW X (pc + 1) ls st (kputG M i x.toNatClampNeg y) cs sl) : KW X pc ls (kL y :: kI x :: kR (some i) :: st) M cs sl := by
  obtain ⟨p, l, e, R, s, mid, args, below, meth, c, A, D, cA, ad0, L0, Q⟩ := X
  obtain ⟨hx, hb, hml, hown, hts, hK, hN, hA, hin, hS, hlk, hR⟩ := hC
  intro ad H locs lsA hP hVS hl hbad
  obtain ⟨ws, k, hk, hP1, hD1, hset, -⟩ := hP.set (M' := kputG M i x.toNatClampNeg y) hM rfl (fun j r hr => hP.closed i j r hM hr) (fun _ _ _ => rfl) (fun _ _ _ => rfl) (fun a ha j => by simp [kputG, kput, ha]) (fun _ _ => rfl)
  rw [kobj_l h8] at hk
  refine va_last hx hb hK hP1 hD1 hVS k 4 hk rfl hin9 hd (fun H1 locs1 g1 g2 g3 => h ad H1 locs1 lsA (hset _ H1 ?_ g1 g2) g3 hl hbad)
  rw [kobj_l h8]
  have e : vp_updL (M.2.2.2.1 i) x.toNatClampNeg y = (kputG M i x.toNatClampNeg y).2.2.2.1 i := by
    funext j
    simp [vp_updL, kputG, kput]
  rw [e]; rfl
theorem kelem_lt {k : Nat} (h : k = 9 ∨ k = 10 ∨ k = 11) : kelem k < 8 := by rcases h with rfl | rfl | rfl <;> decide
theorem ks_aast (hC : KC X m own ini S mc ms) {i o : KI} {x : Int32} (h8 : i.1 = 9 ∨ i.1 = 10 ∨ i.1 = 11) (ho : o.1 = kelem i.1) (hMo : M.1 o) (hM : M.1 i) (hin9 : vp_in x (M.2.2.2.2 i)) (hd : decode m.2.1 pc = .ok (.aastore, 1)) (h : KW X (pc + 1) ls st (kputR M i x.toNatClampNeg (some o)) cs sl) : KW X pc ls (kR (some o) :: kI x :: kR (some i) :: st) M cs sl := by
  obtain ⟨p, l, e, R, s, mid, args, below, meth, c, A, D, cA, ad0, L0, Q⟩ := X
  obtain ⟨hx, hb, hml, hown, hts, hK, hN, hA, hin, hS, hlk, hR⟩ := hC
  intro ad H locs lsA hP hVS hl hbad
  have hlt := kelem_lt h8
  have hC2 : ∀ j r, (kputR M i x.toNatClampNeg (some o)).2.1 i j = some r → M.1 r := by
    intro j r hr
    simp only [kputR, kput, true_and] at hr
    by_cases hkj : j = x.toNatClampNeg
    · rw [if_pos hkj] at hr; cases hr; exact hMo
    · rw [if_neg hkj] at hr; exact hP.closed i j r hM hr
  obtain ⟨ws, k, hk, hP1, hD1, hset, hall⟩ := hP.set (M' := kputR M i x.toNatClampNeg (some o)) hM rfl hC2 (fun a ha j => by simp [kputR, kput, ha]) (fun _ _ _ => rfl) (fun _ _ _ => rfl) (fun _ _ => rfl)
  obtain ⟨ko, hko⟩ := hall o hMo
  rw [kobj_q h8] at hk
  rw [kobj_c (by rw [ho]; exact hlt), ho] at hko
  refine va_astq hx hb hK hP1 hD1 hVS k (i.1 - 8) ko (kelem i.1) hk (ktys_q h8) hko (kCl _ hlt) hin9 hd (fun H1 locs1 g1 g2 g3 => h ad H1 locs1 lsA (hset _ H1 ?_ g1 g2) g3 hl hbad)
  rw [kobj_q h8]
  have e : va_up (fun j => (M.2.1 i j).map ad) x.toNatClampNeg (some (ad o)) = (fun j => ((kputR M i x.toNatClampNeg (some o)).2.1 i j).map ad) := by
    funext j
    by_cases hj : j = x.toNatClampNeg
    · simp [va_up, kputR, kput, hj]
    · simp [va_up, kputR, kput, hj]
  rw [e]; rfl
theorem kstAd {ad : KI → Nat} {i : KI} {q : Nat} {st : List KV} (h : ∀ r : KI, kR (some r) ∈ st → r ≠ i) : st.map (kv (kset ad i q)) = st.map (kv ad) := kst_same fun r hr => by simp [kset, h r hr]
theorem klsAd {ad : KI → Nat} {i : KI} {q nL : Nat} {lsA : Array Slot} {ls : KL} (hl : kls ad nL lsA ls) (h : ∀ (k : Nat) (r : KI), kget ls k = some (kR (some r)) → r ≠ i) : kls (kset ad i q) nL lsA ls := hl.same fun k r hr => by simp [kset, h k r hr]
/-- no live cell is the new one -/
theorem kLV_ne {M : KM} {ls : KL} {st : List KV} {i : KI} (h : kLV M ls st) (hi : ¬ M.1 i) (h13 : i.1 ≠ 13) : (∀ (k : Nat) (r : KI), kget ls k = some (kR (some r)) → r ≠ i) ∧ ∀ r : KI, kR (some r) ∈ st → r ≠ i := by
  refine ⟨fun k r hr z => ?_, fun r hr z => ?_⟩
  · rcases h.1 k r hr with h1 | h1
    · exact hi (z ▸ h1)
    · rw [← z, h1] at h13; exact h13 rfl
  · rcases h.2 r hr with h1 | h1
    · exact hi (z ▸ h1)
    · rw [← z, h1] at h13; exact h13 rfl
theorem ks_new (hC : KC X m own ini S mc ms) {i : KI} {kc idx : Nat} (hc : kc < 8) (hw : ktabC.contains (own, idx, kc) = true) (hi : i.1 = kc) (hM : ¬ M.1 i) (hLV : kLV M ls st) (h1 : cs + 1 ≤ mc) (h2 : sl + kN kc ≤ ms) (hd : decode m.2.1 pc = .ok (.new idx, 3))
    (h : KW X (pc + 3) ls (kR (some i) :: st) (knew M i 0) (cs + 1) (sl + kN kc)) : KW X pc ls st M cs sl := by
  obtain ⟨p, l, e, R, s, mid, args, below, meth, c, A, D, cA, ad0, L0, Q⟩ := X
  obtain ⟨hx, hb, hml, hown, hts, hK, hN, hA, hin, hS, hlk, hR⟩ := hC
  intro ad H locs lsA hP hVS hl hbad
  subst hR
  have h13 : i.1 ≠ 13 := by omega
  obtain ⟨n1, n2⟩ := kLV_ne hLV hM h13
  obtain ⟨ws, hP1, hD1, hpush⟩ := hP.push hM 0
  refine va_new hx hb hts (kLay kc hc) (kty kc) (kTy kc hc) hown (hts _ (kandW (kall kC_ok hw))) (hts _ (kInst kc hc).1) (hts _ (kInst kc hc).2) hK hP1 hD1 hVS hA (kCl kc hc) (fs := (List.range (kN kc)).map (kslot (fun _ => 0) (knew M i 0) i)) (fun j hj => ?_) h1 h2 hd (fun q H1 g1 g2 g3 => ?_)
  · rw [← hi] at hj ⊢
    simp only [vp_V, List.getD_eq_getElem?_getD]
    rw [List.getElem?_map, List.getElem?_range hj]
    simp only [Option.map_some, Option.getD_some, kslot, knew, kset, if_true, Option.map_none]
    have key : ∀ k, k < 8 → ∀ j, j < kN k → defaultValue (kty k j) = bif kisref (kty k j) then va_rf none else Value.int 0 := by
      refine k8 ?_ ?_ ?_ ?_ ?_ ?_ ?_ ?_ <;> decide +kernel
    exact key i.1 (by rw [hi]; exact hc) j hj
  · have hk := hpush q _ H1 (by
      rw [kobj_c (by rw [hi]; exact hc), hi]
      congr 2
      apply List.map_congr_left
      intro j hj
      simp only [kslot, knew, kset, if_true, Option.map_none]) g1 g2
    have hz := h (kset ad i q) H1 locs lsA hk g3 (klsAd hl n1) (hbad.new hM h13 q _)
    rw [List.map_cons, kstAd n2] at hz
    have e : kv (kset ad i q) (kR (some i)) = .ref q := by simp [kv, kset, va_rf]
    rw [e] at hz
    exact hz
theorem kcA {D : va_G} {cA : Nat → ClassId} {s : State} (hK : va_K D vwCl (ktys cA) s) {k : Nat} {c2 : ClassId} {ty : FieldType} (hk : (ktys cA)[k]? = some (cA k, ty)) (h2 : va_K D vwCl (ktys cA ++ [(c2, ty)]) s) : c2 = cA k := by
  have a1 := (hK.2 k _ hk).2
  have a2 := (h2.2 (ktys cA).length (c2, ty) (by simp)).2
  cases ty with
  | object C =>
    obtain ⟨-, -, -, -, -, q1⟩ := a1
    obtain ⟨-, -, -, -, -, q2⟩ := a2
    exact Option.some.inj (q2.symm.trans q1)
  | _ => exact Option.some.inj (a2.symm.trans a1)
theorem kbytes4 {n : Nat} (h : n ≤ 1000) : n * componentBytes .int ≤ 536870912 := by
  have e : componentBytes .int = 4 := rfl
  rw [e]; omega
theorem kbytes8 {n : Nat} (h : n ≤ 1000) : n * componentBytes .long ≤ 536870912 := by
  have e : componentBytes .long = 8 := rfl
  rw [e]; omega
theorem ks_newi (hC : KC X m own ini S mc ms) {i : KI} {x : Int32} (hi : i.1 = 8) (hM : ¬ M.1 i) (hLV : kLV M ls st) (h0 : ¬ x < 0) (hb9 : x.toNatClampNeg ≤ 1000) (h1 : cs + 1 ≤ mc) (h2 : sl + x.toNatClampNeg ≤ ms) (hd : decode m.2.1 pc = .ok (.newarray .int, 2))
    (h : KW X (pc + 2) ls (kR (some i) :: st) (knew M i x.toNatClampNeg) (cs + 1) (sl + x.toNatClampNeg)) : KW X pc ls (kI x :: st) M cs sl := by
  obtain ⟨p, l, e, R, s, mid, args, below, meth, c, A, D, cA, ad0, L0, Q⟩ := X
  obtain ⟨hx, hb, hml, hown, hts, hK, hN, hA, hin, hS, hlk, hR⟩ := hC
  intro ad H locs lsA hP hVS hl hbad
  subst hR
  have h13 : i.1 ≠ 13 := by omega
  obtain ⟨n1, n2⟩ := kLV_ne hLV hM h13
  obtain ⟨ws, hP1, hD1, hpush⟩ := hP.push hM x.toNatClampNeg
  refine va_newa (atype := .int) (ty := .int) (N' := x.toNatClampNeg) hx hb (hts (.arrayClass .int) (kMisc _ (by simp))) rfl hK hP1 hD1 hVS hA (a0 := (x.toNatClampNeg, .inl (fun _ => 0))) (fun cA2 => vp_cell_i cA2 _ _) h0 rfl (kbytes4 hb9) h1 h2 hd (fun q c2 H1 g0 g1 g2 g3 => ?_)
  have hcA := kcA hK (k := 0) rfl g0
  subst hcA
  have hk := hpush q _ H1 (by rw [kobj_i hi]; simp [knew, kset]) g1 g2
  have hz := h (kset ad i q) H1 locs lsA hk g3 (klsAd hl n1) (hbad.new hM h13 q _)
  rw [List.map_cons, kstAd n2] at hz
  have e : kv (kset ad i q) (kR (some i)) = .ref q := by simp [kv, kset, va_rf]
  rw [e] at hz
  exact hz
theorem ks_newl (hC : KC X m own ini S mc ms) {i : KI} {x : Int32} (hi : i.1 = 12) (hM : ¬ M.1 i) (hLV : kLV M ls st) (h0 : ¬ x < 0) (hb9 : x.toNatClampNeg ≤ 1000) (h1 : cs + 1 ≤ mc) (h2 : sl + x.toNatClampNeg ≤ ms) (hd : decode m.2.1 pc = .ok (.newarray .long, 2))
    (h : KW X (pc + 2) ls (kR (some i) :: st) (knew M i x.toNatClampNeg) (cs + 1) (sl + x.toNatClampNeg)) : KW X pc ls (kI x :: st) M cs sl := by
  obtain ⟨p, l, e, R, s, mid, args, below, meth, c, A, D, cA, ad0, L0, Q⟩ := X
  obtain ⟨hx, hb, hml, hown, hts, hK, hN, hA, hin, hS, hlk, hR⟩ := hC
  intro ad H locs lsA hP hVS hl hbad
  subst hR
  have h13 : i.1 ≠ 13 := by omega
  obtain ⟨n1, n2⟩ := kLV_ne hLV hM h13
  obtain ⟨ws, hP1, hD1, hpush⟩ := hP.push hM x.toNatClampNeg
  refine va_newa (atype := .long) (ty := .long) (N' := x.toNatClampNeg) hx hb (hts (.arrayClass .long) (kMisc _ (by simp))) rfl hK hP1 hD1 hVS hA (a0 := (x.toNatClampNeg, .inr (.inl (fun _ => 0)))) (fun cA2 => vp_cell_l cA2 _ _) h0 rfl (kbytes8 hb9) h1 h2 hd (fun q c2 H1 g0 g1 g2 g3 => ?_)
  have hcA := kcA hK (k := 4) rfl g0
  subst hcA
  have hk := hpush q _ H1 (by rw [kobj_l hi]; simp [knew, kset]) g1 g2
  have hz := h (kset ad i q) H1 locs lsA hk g3 (klsAd hl n1) (hbad.new hM h13 q _)
  rw [List.map_cons, kstAd n2] at hz
  have e : kv (kset ad i q) (kR (some i)) = .ref q := by simp [kv, kset, va_rf]
  rw [e] at hz
  exact hz
theorem ks_newq (hC : KC X m own ini S mc ms) {i : KI} {x : Int32} {idx : Nat} (hw : ktabC.contains (own, idx, kelem i.1) = true) (hi : i.1 = 9 ∨ i.1 = 10 ∨ i.1 = 11) (hM : ¬ M.1 i) (hLV : kLV M ls st) (h0 : ¬ x < 0) (hb9 : x.toNatClampNeg ≤ 1000) (h1 : cs + 1 ≤ mc) (h2 : sl + x.toNatClampNeg ≤ ms) (hd : decode m.2.1 pc = .ok (.anewarray idx, 3))
    (h : KW X (pc + 3) ls (kR (some i) :: st) (knew M i x.toNatClampNeg) (cs + 1) (sl + x.toNatClampNeg)) : KW X pc ls (kI x :: st) M cs sl := by
  obtain ⟨p, l, e, R, s, mid, args, below, meth, c, A, D, cA, ad0, L0, Q⟩ := X
  obtain ⟨hx, hb, hml, hown, hts, hK, hN, hA, hin, hS, hlk, hR⟩ := hC
  intro ad H locs lsA hP hVS hl hbad
  subst hR
  have h13 : i.1 ≠ 13 := by omega
  obtain ⟨n1, n2⟩ := kLV_ne hLV hM h13
  obtain ⟨ws, hP1, hD1, hpush⟩ := hP.push hM x.toNatClampNeg
  refine va_newq hx hb hown (hts _ (kandW (kall kC_ok hw))) (hN.2.2 _ hi) hK hP1 hD1 hVS hA h0 rfl (by omega) h1 h2 hd (fun q c2 H1 g0 g1 g2 g3 => ?_)
  have hcA := kcA hK (k := i.1 - 8) (ktys_q hi) g0
  subst hcA
  have hk := hpush q _ H1 (by rw [kobj_q hi]; simp [knew, kset]) g1 g2
  have hz := h (kset ad i q) H1 locs lsA hk g3 (klsAd hl n1) (hbad.new hM h13 q _)
  rw [List.map_cons, kstAd n2] at hz
  have e : kv (kset ad i q) (kR (some i)) = .ref q := by simp [kv, kset, va_rf]
  rw [e] at hz
  exact hz
theorem ks_objInit (hC : KC X m own ini S mc ms) {r : KI} {idx : Nat} (hw : ktabO.contains (own, idx) = true) (h1 : 1 ≤ m.2.2.2.2.1) (h2 : kcats st + 12 ≤ m.2.2.2.2.2) (hd : decode m.2.1 pc = .ok (.invokespecial idx, 3)) (h : KW X (pc + 3) ls st M cs sl) : KW X pc ls (kR (some r) :: st) M cs sl := by
  obtain ⟨p, l, e, R, s, mid, args, below, meth, c, A, D, cA, ad0, L0, Q⟩ := X
  obtain ⟨hx, hb, hml, hown, hts, hK, hN, hA, hin, hS, hlk, hR⟩ := hC
  intro ad H locs lsA hP hVS hl hbad
  subst hR
  refine W.objInit hx hb hown (hts _ (kandW (kall kO_ok hw))) (hts _ (kMisc _ (by simp))) (hts _ (kMisc _ (by simp))) rfl (show lsA.size = c.maxLocals from hl.1.1) rfl hd h1 ?_ (h ad H locs lsA hP hVS hl hbad)
  rw [kcats_sum]
  show 2 * 0 + kcats st + 12 ≤ m.2.2.2.2.2
  omega
theorem ks_copy (hC : KC X m own ini S mc ms) {i d : KI} {sp dp n : Int32} {idx : Nat} (hw : ktabA.contains (own, idx) = true) (hi : i.1 = 8) (hd8 : d.1 = 8) (hM : M.1 i) (hMd : M.1 d) (h1 : ¬ sp < 0) (h2 : ¬ dp < 0) (h3 : ¬ n < 0) (h4 : sp.toNatClampNeg + n.toNatClampNeg ≤ M.2.2.2.2 i) (h5 : dp.toNatClampNeg + n.toNatClampNeg ≤ M.2.2.2.2 d)
    (h6 : 1 ≤ m.2.2.2.2.1) (h7 : kcats st + (nativeFrameWords "java/lang/System" "arraycopy" 5 + 11) ≤ m.2.2.2.2.2) (hd : decode m.2.1 pc = .ok (.invokestatic idx, 3)) (h : KW X (pc + 3) ls st (kcpy M i d sp.toNatClampNeg dp.toNatClampNeg n.toNatClampNeg) cs sl) : KW X pc ls (kI n :: kI dp :: kR (some d) :: kI sp :: kR (some i) :: st) M cs sl := by
  obtain ⟨p, l, e, R, s, mid, args, below, meth, c, A, D, cA, ad0, L0, Q⟩ := X
  obtain ⟨hx, hb, hml, hown, hts, hK, hN, hA, hin, hS, hlk, hR⟩ := hC
  intro ad H locs lsA hP hVS hl hbad
  subst hR
  obtain ⟨ws, k, hk, hP1, hD1, hset, hall⟩ := hP.set (M' := kcpy M i d sp.toNatClampNeg dp.toNatClampNeg n.toNatClampNeg) hMd rfl (fun j r hr => hP.closed d j r hMd hr) (fun _ _ _ => rfl) (fun a ha j => by simp [kcpy, kset, ha]) (fun _ _ _ => rfl) (fun _ _ => rfl)
  obtain ⟨k0, hk0⟩ := hall i hM
  rw [kobj_i hd8] at hk
  rw [kobj_i hi] at hk0
  refine va_copyi hx hb (show c.maxLocals = lsA.size from hl.1.1.symm) hown (hts _ (kandW (kall kA_ok hw))) (hts _ (kMisc _ (by simp))) (hts _ (kMisc _ (by simp))) (hts _ (kMisc _ (by simp))) hK hP1 hD1 hVS k0 k 0 0 hk0 hk (show (ktys cA)[0]? = some (cA 0, .int) from rfl) rfl rfl h1 h2 h3 h4 h5 (fun _ _ => rfl) h6 (by rw [kcats_sum]; exact h7) hd (fun H1 locs1 g1 g2 g3 => h ad H1 locs1 lsA (hset _ H1 ?_ g1 g2) g3 hl hbad)
  rw [kobj_i hd8]
  simp [kcpy, kset]
end KS
