section
-- ===== PART A: goes FIRST, ahead of the names: the tables' words, and 'selects' of the private methods out of them =====
/-- a private method of a class that the tables say can be made, by its rows of tables_1 -/
def lw_okq (q : MethodName × Nat) : Prop := (q.1.cls ≠ "java/lang/invoke/MethodHandle" ∧ q.1.cls ≠ "java/lang/invoke/VarHandle") ∧ Cond.instantiable q.1.cls q.2 ∈ tables_1 ∧ Cond.privateMethod q.1 ∈ tables_1 ∧ Cond.instanceMethod q.1 ∈ tables_1
theorem lw_p0 : lw_okq (⟨"ChairLift", "mixedWithGroups", "(J)J"⟩, 2) := ⟨⟨by decide +kernel, by decide +kernel⟩, List.mem_of_getElem? (i := 18) (by decide +kernel), List.mem_of_getElem? (i := 237) (by decide +kernel), List.mem_of_getElem? (i := 238) (by decide +kernel)⟩
theorem lw_p1 : lw_okq (⟨"ChairLift", "mixedWithChairs", "(J)J"⟩, 2) := ⟨⟨by decide +kernel, by decide +kernel⟩, List.mem_of_getElem? (i := 18) (by decide +kernel), List.mem_of_getElem? (i := 245) (by decide +kernel), List.mem_of_getElem? (i := 246) (by decide +kernel)⟩
theorem lw_p2 : lw_okq (⟨"ChairLift", "mixedWithLanes", "(J)J"⟩, 2) := ⟨⟨by decide +kernel, by decide +kernel⟩, List.mem_of_getElem? (i := 18) (by decide +kernel), List.mem_of_getElem? (i := 253) (by decide +kernel), List.mem_of_getElem? (i := 254) (by decide +kernel)⟩
theorem lw_p3 : lw_okq (⟨"java/lang/Throwable", "fillInStackTrace", "(I)Ljava/lang/Throwable;"⟩, 6) := ⟨⟨by decide +kernel, by decide +kernel⟩, List.mem_of_getElem? (i := 321) (by decide +kernel), List.mem_of_getElem? (i := 319) (by decide +kernel), List.mem_of_getElem? (i := 320) (by decide +kernel)⟩
theorem lw_p4 : lw_okq (⟨"ChairLift", "isLane", "(I)Z"⟩, 2) := ⟨⟨by decide +kernel, by decide +kernel⟩, List.mem_of_getElem? (i := 18) (by decide +kernel), List.mem_of_getElem? (i := 412) (by decide +kernel), List.mem_of_getElem? (i := 413) (by decide +kernel)⟩
theorem lw_p5 : lw_okq (⟨"ChairLift", "isGroup", "(I)Z"⟩, 2) := ⟨⟨by decide +kernel, by decide +kernel⟩, List.mem_of_getElem? (i := 18) (by decide +kernel), List.mem_of_getElem? (i := 471) (by decide +kernel), List.mem_of_getElem? (i := 472) (by decide +kernel)⟩
theorem lw_p6 : lw_okq (⟨"ChairLiftModel", "no", "(I)I"⟩, 9) := ⟨⟨by decide +kernel, by decide +kernel⟩, List.mem_of_getElem? (i := 664) (by decide +kernel), List.mem_of_getElem? (i := 812) (by decide +kernel), List.mem_of_getElem? (i := 813) (by decide +kernel)⟩
theorem lw_p7 : lw_okq (⟨"ChairLiftModel", "isLane", "(I)Z"⟩, 9) := ⟨⟨by decide +kernel, by decide +kernel⟩, List.mem_of_getElem? (i := 664) (by decide +kernel), List.mem_of_getElem? (i := 836) (by decide +kernel), List.mem_of_getElem? (i := 837) (by decide +kernel)⟩
theorem lw_p8 : lw_okq (⟨"ChairLiftModel", "isGroup", "(I)Z"⟩, 9) := ⟨⟨by decide +kernel, by decide +kernel⟩, List.mem_of_getElem? (i := 664) (by decide +kernel), List.mem_of_getElem? (i := 860) (by decide +kernel), List.mem_of_getElem? (i := 861) (by decide +kernel)⟩
theorem lw_p9 : lw_okq (⟨"ChairLiftModel", "groupTold", "(II)I"⟩, 9) := ⟨⟨by decide +kernel, by decide +kernel⟩, List.mem_of_getElem? (i := 664) (by decide +kernel), List.mem_of_getElem? (i := 878) (by decide +kernel), List.mem_of_getElem? (i := 879) (by decide +kernel)⟩
theorem lw_p10 : lw_okq (⟨"ChairLiftModel", "chairTold", "(II)I"⟩, 9) := ⟨⟨by decide +kernel, by decide +kernel⟩, List.mem_of_getElem? (i := 664) (by decide +kernel), List.mem_of_getElem? (i := 886) (by decide +kernel), List.mem_of_getElem? (i := 887) (by decide +kernel)⟩
theorem lw_p11 : lw_okq (⟨"ChairLiftModel", "laneTold", "(II)I"⟩, 9) := ⟨⟨by decide +kernel, by decide +kernel⟩, List.mem_of_getElem? (i := 664) (by decide +kernel), List.mem_of_getElem? (i := 894) (by decide +kernel), List.mem_of_getElem? (i := 895) (by decide +kernel)⟩
theorem lw_p12 : lw_okq (⟨"ChairLiftModel$State", "chill", "()V"⟩, 23) := ⟨⟨by decide +kernel, by decide +kernel⟩, List.mem_of_getElem? (i := 670) (by decide +kernel), List.mem_of_getElem? (i := 914) (by decide +kernel), List.mem_of_getElem? (i := 915) (by decide +kernel)⟩
theorem lw_p13 : lw_okq (⟨"ChairLiftModel$State", "find", "(I)I"⟩, 23) := ⟨⟨by decide +kernel, by decide +kernel⟩, List.mem_of_getElem? (i := 670) (by decide +kernel), List.mem_of_getElem? (i := 918) (by decide +kernel), List.mem_of_getElem? (i := 919) (by decide +kernel)⟩
theorem lw_p14 : lw_okq (⟨"ChairLiftModel$State", "valley", "()V"⟩, 23) := ⟨⟨by decide +kernel, by decide +kernel⟩, List.mem_of_getElem? (i := 670) (by decide +kernel), List.mem_of_getElem? (i := 922) (by decide +kernel), List.mem_of_getElem? (i := 923) (by decide +kernel)⟩
theorem lw_p15 : lw_okq (⟨"ChairLiftModel$State", "load", "(I)V"⟩, 23) := ⟨⟨by decide +kernel, by decide +kernel⟩, List.mem_of_getElem? (i := 670) (by decide +kernel), List.mem_of_getElem? (i := 927) (by decide +kernel), List.mem_of_getElem? (i := 928) (by decide +kernel)⟩
def lw_privs_1 : List (MethodName × Nat) := [(⟨"ChairLift", "mixedWithGroups", "(J)J"⟩, 2), (⟨"ChairLift", "mixedWithChairs", "(J)J"⟩, 2), (⟨"ChairLift", "mixedWithLanes", "(J)J"⟩, 2), (⟨"java/lang/Throwable", "fillInStackTrace", "(I)Ljava/lang/Throwable;"⟩, 6), (⟨"ChairLift", "isLane", "(I)Z"⟩, 2), (⟨"ChairLift", "isGroup", "(I)Z"⟩, 2), (⟨"ChairLiftModel", "no", "(I)I"⟩, 9), (⟨"ChairLiftModel", "isLane", "(I)Z"⟩, 9), (⟨"ChairLiftModel", "isGroup", "(I)Z"⟩, 9), (⟨"ChairLiftModel", "groupTold", "(II)I"⟩, 9), (⟨"ChairLiftModel", "chairTold", "(II)I"⟩, 9), (⟨"ChairLiftModel", "laneTold", "(II)I"⟩, 9), (⟨"ChairLiftModel$State", "chill", "()V"⟩, 23), (⟨"ChairLiftModel$State", "find", "(I)I"⟩, 23), (⟨"ChairLiftModel$State", "valley", "()V"⟩, 23), (⟨"ChairLiftModel$State", "load", "(I)V"⟩, 23)]
theorem lw_r1 : ∀ q ∈ lw_privs_1, lw_okq q := List.forall_mem_cons.mpr ⟨lw_p0, List.forall_mem_cons.mpr ⟨lw_p1, List.forall_mem_cons.mpr ⟨lw_p2, List.forall_mem_cons.mpr ⟨lw_p3, List.forall_mem_cons.mpr ⟨lw_p4, List.forall_mem_cons.mpr ⟨lw_p5, List.forall_mem_cons.mpr ⟨lw_p6, List.forall_mem_cons.mpr ⟨lw_p7, List.forall_mem_cons.mpr ⟨lw_p8, List.forall_mem_cons.mpr ⟨lw_p9, List.forall_mem_cons.mpr ⟨lw_p10, List.forall_mem_cons.mpr ⟨lw_p11, List.forall_mem_cons.mpr ⟨lw_p12, List.forall_mem_cons.mpr ⟨lw_p13, List.forall_mem_cons.mpr ⟨lw_p14, List.forall_mem_cons.mpr ⟨lw_p15, fun _ h => absurd h List.not_mem_nil⟩⟩⟩⟩⟩⟩⟩⟩⟩⟩⟩⟩⟩⟩⟩⟩
theorem lw_p16 : lw_okq (⟨"ChairLiftModel", "counted", "(I)I"⟩, 9) := ⟨⟨by decide +kernel, by decide +kernel⟩, List.mem_of_getElem? (i := 664) (by decide +kernel), List.mem_of_getElem? (i := 936) (by decide +kernel), List.mem_of_getElem? (i := 937) (by decide +kernel)⟩
theorem lw_p17 : lw_okq (⟨"ChairLiftModel$State", "copy", "([I[I)V"⟩, 23) := ⟨⟨by decide +kernel, by decide +kernel⟩, List.mem_of_getElem? (i := 670) (by decide +kernel), List.mem_of_getElem? (i := 952) (by decide +kernel), List.mem_of_getElem? (i := 953) (by decide +kernel)⟩
theorem lw_p18 : lw_okq (⟨"ChairLiftModel", "rises", "(II)I"⟩, 9) := ⟨⟨by decide +kernel, by decide +kernel⟩, List.mem_of_getElem? (i := 664) (by decide +kernel), List.mem_of_getElem? (i := 960) (by decide +kernel), List.mem_of_getElem? (i := 961) (by decide +kernel)⟩
def lw_privs_2 : List (MethodName × Nat) := [(⟨"ChairLiftModel", "counted", "(I)I"⟩, 9), (⟨"ChairLiftModel$State", "copy", "([I[I)V"⟩, 23), (⟨"ChairLiftModel", "rises", "(II)I"⟩, 9)]
theorem lw_r2 : ∀ q ∈ lw_privs_2, lw_okq q := List.forall_mem_cons.mpr ⟨lw_p16, List.forall_mem_cons.mpr ⟨lw_p17, List.forall_mem_cons.mpr ⟨lw_p18, fun _ h => absurd h List.not_mem_nil⟩⟩⟩
def lw_privs : List (MethodName × Nat) := lw_privs_1 ++ (lw_privs_2)
def lw_tbl : List Cond := k2_sels lw_privs ++ tables_1
theorem lw_privs_ok : ∀ q ∈ lw_privs, lw_okq q := by
  show ∀ q ∈ lw_privs_1 ++ (lw_privs_2), lw_okq q
  exact List.forall_mem_append.mpr ⟨lw_r1, lw_r2⟩
/-- the streams that the claim lets the run draw from -/
abbrev lw_cs : List Choice := [Jvm.Choice.named "NaN.bits"]
theorem lw_bits : nanBits ∈ lw_cs := by first | decide | exact List.mem_cons_self | simp [lw_cs, nanBits]
-- ===== end of PART A; then your names; then what follows =====
end
section
/-! ===== BEGIN words of one list among another's, by their places ===== -/
theorem goodIn_r {big : List Cond} (ws : List Cond) (ps : List Nat) (hp : ws = ps.filterMap (fun i => big[i]?)) (h : ws.all goodWord = true) : GoodIn big ws := by
  intro w hw
  have h1 := List.all_eq_true.mp h w hw
  rw [hp] at hw
  obtain ⟨i, -, hi⟩ := List.mem_filterMap.mp hw
  have hm : w ∈ big := by first | exact List.mem_of_getElem? hi | exact List.getElem?_mem hi
  exact ⟨hm, good_of_word h1⟩
theorem goodIn_app {big a b : List Cond} (ha : GoodIn big a) (hb : GoodIn big b) : GoodIn big (a ++ b) := fun w h => (List.mem_append.mp h).elim (ha w) (hb w)
theorem goodIn_ca {big a b : List Cond} {c : Cond} (ha : GoodIn big (c :: a)) (hb : GoodIn big b) : GoodIn big (c :: (a ++ b)) := fun w h => (List.mem_cons.mp h).elim (fun e => ha w (List.mem_cons.mpr (Or.inl e))) (fun h => (List.mem_append.mp h).elim (fun h => ha w (List.mem_cons.mpr (Or.inr h))) (hb w))
theorem goodIn_sub {big ws : List Cond} (hm : ∀ w ∈ ws, w ∈ big) (h : ws.all goodWord = true) : GoodIn big ws := fun w hw => ⟨hm w hw, good_of_word (List.all_eq_true.mp h w hw)⟩
/-! ===== END ===== -/

/-! ===== BEGIN exceptions that leave a method, and their catching by the caller (launches without stack traces) ===== -/
section VXA
/-! The laws vx_back, vx_callV, vx_callS, vx_callSW, vx_throw0, vx_throwS follow proofs of the library, with one case more: JvmDerived/Free/Laws.lean (Back.of_free), Shelf42/LK1.lean (callV, callS), Shelf/KitTraced.lean (throwNew0V, throwNewS). -/
/-- where a method has thrown q: the class by its name, the cell, what was written, the world -/
def vx_T (XC : String → State → State → Prop) (st : State) (q : Addr) (t : State) (mc ms : Nat) (free : Addr → Prop) : Prop :=
  ∃ (E : String) (ce : Cell) (L : List Loc), XC E st t ∧ t.heap[q]? = some ce ∧ ce.vm = .none ∧ st.vm.findClass E = some ce.cls ∧ st.WarmedH t.vm ∧ st.sameButNew ({ t with vm := st.vm } : State) L mc ms ∧ ∀ z ∈ L, free z.base
def vx_Q (Qc : Array Value → State → Outcome → State → Prop) (XC : String → State → State → Prop) (mc ms : Nat) (free : Addr → Prop) : Array Value → State → Outcome → State → Prop := fun a st o t =>
  (Qc a st o t ∧ ∃ L, FrameEnd st o t L mc ms ∧ ∀ q ∈ L, free q.base) ∨ ∃ q, o = .threw q ∧ vx_T XC st q t mc ms free
/-- a callee that returns or throws -/
def vx_Met (l : Launch) (y : MethodName) (ws : List Cond) (rm : Room) (Pc : Array Value → State → Prop) (Qc : Array Value → State → Outcome → State → Prop) (XC : String → State → State → Prop) (mc ms : Nat) (free : Addr → Prop) : Prop :=
  MetFree l y (headSpec ws rm) Pc (fun _ _ _ _ _ => True) (vx_Q Qc XC mc ms free)
def vx_Post (XC : String → State → State → Prop) (mc ms : Nat) (free : Addr → Prop) : Pt → Array Value → Addr → Pt → Prop := fun A a q B =>
  ∃ (g : JFrame) (mk : MethodId) (t : State) (L : List Loc) (E : String) (ce : Cell), B.U.heap = t.heap ∧ B.U.vm = t.vm ∧ XC E (A.U.calling g mk a) t ∧ t.heap[q]? = some ce ∧ ce.vm = .none ∧ A.U.vm.findClass E = some ce.cls ∧ B.locs = A.locs ++ L ∧ (∀ z ∈ L, free z.base) ∧ B.cells = A.cells + mc ∧ B.slots = A.slots + ms
def vx_Back (l : Launch) (R : Room) (p : Program) (e : Env) (below : List Frame) (s : State) (sargs : Array Value) (y : MethodName) (len W9 : Nat)
    (Pre : Pt → Array Value → Prop) (Post : Pt → Array Value → Option Value → Pt → Prop) (PostX : Pt → Array Value → Addr → Pt → Prop) : Prop :=
  ∀ (m : MethodId) (meth : Method) (c : Code) (A : Pt) (g : JFrame) (ig : Instr) (mk : MethodId) (a : Array Value),
    Stand p l e R s m sargs below meth c A.U A.locs A.cells A.slots → g.method = m → g.locals.size = c.maxLocals → decode c.code g.pc = .ok (ig, len) →
    2 * g.monitorRoom + (g.stack.map fun v => v.category).sum ≤ W9 → A.U.methodNamed? y = some mk → Pre A a →
    (∃ (v : Option Value) (B : Pt), Stand p l e R s m sargs below meth c B.U B.locs B.cells B.slots ∧ Post A a v B ∧
      Steps p.tables e below (doInvoke e (A.U.setTop g) [] mk a).1 (B.U.setTop { g with pc := g.pc + len, stack := v.toList ++ g.stack })) ∨
    (∃ (q : Addr) (B : Pt), Stand p l e R s m sargs below meth c B.U B.locs B.cells B.slots ∧ PostX A a q B ∧
      Steps p.tables e below (doInvoke e (A.U.setTop g) [] mk a).1 ((B.U.setTop g).pushFrame (.throwing q)))
section Payer
variable {l : Launch} {R : Room} {p : Program} {e : Env} {below : List Frame} {s : State} {sargs : Array Value} {y : MethodName} {len W9 : Nat}
theorem vx_back {ws : List Cond} {rm : Room} {Pc : Array Value → State → Prop} {Qc : Array Value → State → Outcome → State → Prop} {XC : String → State → State → Prop} {mc ms : Nat} {free : Addr → Prop} {bytes : ByteArray} {maxL : Nat} {ret : Option FieldType}
    (hM : vx_Met l y ws rm Pc Qc XC mc ms free) (hblind : FrameBlind Pc) (hrc : rm.cells = mc) (hrs : rm.slots = ms)
    (hframes : rm.frames + 1 ≤ R.frames) (hlocals : W9 + (maxL + 11) + rm.locals ≤ R.locals)
    (hws : ∀ w ∈ ws, ∀ a' U, s.WarmedH U.vm → w.before a' U = true) (hcode : Cond.code y bytes maxL ret ∈ ws) (hinit : ∀ a' U, s.WarmedH U.vm → (Cond.initialized y.cls).before a' U = true) :
    vx_Back l R p e below s sargs y len W9 (PreOf R mc ms Pc) (PostOf Qc mc ms free) (vx_Post XC mc ms free) := by
  intro m meth c A g ig mk a X hg hsize hdg hW hn hp
  have h1 : (headSpec ws rm).pre.before a A.U = true := atoms_intro fun w hw => hws w hw _ _ X.warmed
  have h2 : (Cond.code y bytes maxL ret).before a A.U = true := hws _ hcode _ _ X.warmed
  have h3 : (Cond.initialized y.cls).before a A.U = true := hinit _ _ X.warmed
  have h4 : A.cells + (headSpec ws rm).room.cells ≤ R.cells := by rw [show (headSpec ws rm).room.cells = mc from hrc]; exact hp.1
  have h5 : A.slots + (headSpec ws rm).room.slots ≤ R.slots := by rw [show (headSpec ws rm).room.slots = ms from hrs]; exact hp.2.1
  have hPc : Pc a (A.U.calling g mk a) := hblind _ _ _ _ hp.2.2
  obtain ⟨U, Ls, c0, s0⟩ := A
  dsimp only [Pt.U, Pt.locs, Pt.cells, Pt.slots] at h1 h2 h3 h4 h5 X hn hPc ⊢
  obtain ⟨methY, cY, hmY, hcY, -, hlY, -, -, -, -⟩ := Cond.code_spec hn h2
  obtain ⟨kY, hkY, -⟩ := className_of_methodNamed hn
  have hinitY : kY.init = .initialized := Cond.initialized_spec (findClass_of_methodNamed hn) hkY h3
  have h : At U g.method c below := by rw [hg]; exact X.here
  have hlocals9 : W9 + (maxL + 11) + (headSpec ws rm).room.locals ≤ R.locals := hlocals
  have happ : (headSpec ws rm).appliesLoose y e.platform (U.calling g mk a) = true :=
    Spec.appliesLoose_calling (g := g) h hdg hn hkY hinitY
      (X.room_calling (g := g) (R' := (headSpec ws rm).room) hsize hmY hcY hframes (by rw [hlY]; omega) h4 h5) h1
  obtain ⟨mid, hmid⟩ := h.above
  have hfr : (U.setTop g).frames = (.java g :: mid) ++ below := by rw [State.frames_setTop' g h.top, hmid]; rfl
  obtain ⟨o, s₂, hsteps, -, hend, hq⟩ := Steps.callFree hM p X.admits X.cas X.clock (acts := []) hfr happ hPc trivial
  have hq' : vx_Q Qc XC mc ms free a (U.calling g mk a) o s₂ := hq
  rw [State.frames_setTop' g h.top] at hend
  obtain ⟨g₀, hg0⟩ := Option.isSome_iff_exists.mp h.top
  obtain ⟨r, hr⟩ := State.topJava?_eq_some.mp hg0
  have hr' : (({ U with heap := s₂.heap, slotsUsed := s₂.slotsUsed } : State).setVm s₂.vm).frames = .java g₀ :: r := hr
  rcases hq' with ⟨hqc, L, hfe, hL⟩ | ⟨q, rfl, E, ce, L, hx, hce, hcv, hcl, hW₂, hsm, hL⟩
  · obtain ⟨⟨v, rfl⟩, hW₂, e2, q2, q3, q4, q5, q6⟩ := id hfe
    have e3 : s₂ = ({ (U.calling g mk a).setFrames s₂.frames with heap := s₂.heap, slotsUsed := s₂.slotsUsed } : State).setVm s₂.vm := by
      have : s₂ = ({ s₂ with vm := (U.calling g mk a).vm } : State).setVm s₂.vm := rfl
      rw [e2] at this
      exact this
    obtain ⟨c₂, i₂, len₂, hc₂, hd₂, hf₂⟩ := hend
    have hW' : U.WarmedH s₂.vm := hW₂
    have hcc : c₂ = c := by
      have h1 : s₂.code? g.method = U.code? g.method := by
        rw [State.code?_eq, State.code?_eq, hW'.alike.method?]
      exact Option.some.inj (hc₂.symm.trans (h1.trans h.code))
    subst hcc
    have hlen : len₂ = len := by rw [hdg] at hd₂; cases hd₂; rfl
    subst hlen
    have hs₂ : s₂ = (({ U with heap := s₂.heap, slotsUsed := s₂.slotsUsed } : State).setVm s₂.vm).setTop { g with pc := g.pc + len₂, stack := v.toList ++ g.stack } := by
      refine e3.trans ?_
      rw [hf₂, State.calling_eq h.top, State.setFrames_setFrames, State.setTop_of_frames _ hr', hr]
      rfl
    have hsame : U.sameButNew ({ U with heap := s₂.heap, slotsUsed := s₂.slotsUsed } : State) L mc ms := by
      refine ⟨?_, q2, q3, q4, q5, q6⟩
      obtain ⟨t, ht, -⟩ := State.frames_cons hr
      show ({ U with heap := s₂.heap, slotsUsed := s₂.slotsUsed } : State) = { U.setFrames U.frames with heap := s₂.heap, slotsUsed := s₂.slotsUsed }
      rw [State.setFrames_self ht]
    subst hg
    refine Or.inl ⟨v, ⟨(({ U with heap := s₂.heap, slotsUsed := s₂.slotsUsed } : State).setVm s₂.vm), Ls ++ L, c0 + mc, s0 + ms⟩,
      ⟨X.admits, X.cas, X.clock, X.frames, X.room, X.hears, X.method, X.code, (X.here.setHeapUsed s₂.heap s₂.slotsUsed).setVm hW'.alike, X.tail, State.WarmedH.trans X.warmed hW', X.limits, X.bytes, X.same.trans (hsame.setVm s.vm)⟩,
      ⟨g, mk, s₂, L, rfl, rfl, hqc, rfl, hL, rfl, rfl⟩, ?_⟩
    show Steps p.tables e below _ ((({ U with heap := s₂.heap, slotsUsed := s₂.slotsUsed } : State).setVm s₂.vm).setTop { g with pc := g.pc + len₂, stack := v.toList ++ g.stack })
    rw [← hs₂]
    exact hsteps
  · obtain ⟨e2, q2, q3, q4, q5, q6⟩ := id hsm
    have e3 : s₂ = ({ (U.calling g mk a).setFrames s₂.frames with heap := s₂.heap, slotsUsed := s₂.slotsUsed } : State).setVm s₂.vm := by
      have : s₂ = ({ s₂ with vm := (U.calling g mk a).vm } : State).setVm s₂.vm := rfl
      rw [e2] at this
      exact this
    have hf₂ : s₂.frames = .throwing q :: .java g :: U.frames.tail := hend
    have hW' : U.WarmedH s₂.vm := hW₂
    have hs₂ : s₂ = ((({ U with heap := s₂.heap, slotsUsed := s₂.slotsUsed } : State).setVm s₂.vm).setTop g).pushFrame (.throwing q) := by
      refine e3.trans ?_
      rw [hf₂, State.calling_eq h.top, State.setFrames_setFrames, State.pushFrame, State.frames_setTop _ hr', State.setTop_of_frames _ hr', State.setFrames_setFrames, hr]
      rfl
    have hsame : U.sameButNew ({ U with heap := s₂.heap, slotsUsed := s₂.slotsUsed } : State) L mc ms := by
      refine ⟨?_, q2, q3, q4, q5, q6⟩
      obtain ⟨t, ht, -⟩ := State.frames_cons hr
      show ({ U with heap := s₂.heap, slotsUsed := s₂.slotsUsed } : State) = { U.setFrames U.frames with heap := s₂.heap, slotsUsed := s₂.slotsUsed }
      rw [State.setFrames_self ht]
    subst hg
    refine Or.inr ⟨q, ⟨(({ U with heap := s₂.heap, slotsUsed := s₂.slotsUsed } : State).setVm s₂.vm), Ls ++ L, c0 + mc, s0 + ms⟩,
      ⟨X.admits, X.cas, X.clock, X.frames, X.room, X.hears, X.method, X.code, (X.here.setHeapUsed s₂.heap s₂.slotsUsed).setVm hW'.alike, X.tail, State.WarmedH.trans X.warmed hW', X.limits, X.bytes, X.same.trans (hsame.setVm s.vm)⟩,
      ⟨g, mk, s₂, L, E, ce, rfl, rfl, hx, hce, hcv, hcl, rfl, hL, rfl, rfl⟩, ?_⟩
    show Steps p.tables e below _ (((({ U with heap := s₂.heap, slotsUsed := s₂.slotsUsed } : State).setVm s₂.vm).setTop g).pushFrame (.throwing q))
    rw [← hs₂]
    exact hsteps
end Payer
section Calls
variable {p : Program} {l : Launch} {e : Env} {R : Room} {s : State} {m : MethodId} {args : Array Value} {below : List Frame} {meth : Method} {c : Code} {T : State} {locs : List Loc} {cells slots : Nat}
theorem vx_callV (X : Stand p l e R s m args below meth c T locs cells slots) (hexec : p.tables.exec = Jvm.exec) {own C : String} {index : Nat} {y : MethodName} {bytes : ByteArray} {maxL : Nat} {ret : Option FieldType}
    (hown : s.vm.findClass own = some m.cls) (hlink : (Cond.methodLink own index y).before args s = true) (hinst : (Cond.instanceMethod y).before args s = true) (hsel : (Cond.selects C y y).before args s = true)
    (hcode : (Cond.code y bytes maxL ret).before args s = true) (hy : y.cls ≠ "java/lang/invoke/MethodHandle" ∧ y.cls ≠ "java/lang/invoke/VarHandle")
    {W9 : Nat} {Pre : Pt → Array Value → Prop} {Post : Pt → Array Value → Option Value → Pt → Prop} {PostX : Pt → Array Value → Addr → Pt → Prop} (hK : vx_Back l R p e below s args y 3 W9 Pre Post PostX)
    {b : Addr} {cellB : Cell} (hcell : T.heap[b]? = some cellB) (hobj : cellB.vm.isStatics = false) (hcls : s.vm.findClass C = some cellB.cls)
    {g : JFrame} (hg : g.method = m) (hsize : g.locals.size = c.maxLocals) {argsL rest : List Value} (hlen : ∀ sig, parseMethodDescriptor y.desc = some sig → argsL.length = sig.parameters.length)
    (hstack : g.stack = argsL.reverse ++ .ref b :: rest) (hW : 2 * g.monitorRoom + (rest.map fun v => v.category).sum ≤ W9) (hdg : decode c.code g.pc = .ok (.invokevirtual index, 3))
    (hpre : ∀ vm₁, s.WarmedH vm₁ → Pre ⟨T.setVm vm₁, locs, cells, slots⟩ (Value.ref b :: argsL).toArray) :
    (∃ (v : Option Value) (vm₁ : Vm) (B : Pt), s.WarmedH vm₁ ∧ Stand p l e R s m args below meth c B.U B.locs B.cells B.slots ∧ Post ⟨T.setVm vm₁, locs, cells, slots⟩ (Value.ref b :: argsL).toArray v B ∧
      ∀ target, Steps p.tables e below (B.U.setTop { g with pc := g.pc + 3, stack := v.toList ++ rest }) target → Steps p.tables e below (T.setTop g) target) ∨
    (∃ (q : Addr) (vm₁ : Vm) (B : Pt), s.WarmedH vm₁ ∧ Stand p l e R s m args below meth c B.U B.locs B.cells B.slots ∧ PostX ⟨T.setVm vm₁, locs, cells, slots⟩ (Value.ref b :: argsL).toArray q B ∧
      Steps p.tables e below (T.setTop g) ((B.U.setTop { g with stack := rest }).pushFrame (.throwing q))) := by
  obtain ⟨mk, methM, hnamed, hmethM, hstM, habM⟩ := Cond.instanceMethod_spec hinst
  obtain ⟨methM', cM, hmethM', -, -, -, -, -, -, hsigM⟩ := Cond.code_spec hnamed hcode
  cases hmethM.symm.trans hmethM'
  obtain ⟨c2, r2, m2, q1, q2, q3, q4, kP, hkP, hkPi⟩ := Cond.selects_spec hsel
  cases hcls.symm.trans q1
  cases (State.methodFound?_of_named hnamed hy).symm.trans q2
  cases hnamed.symm.trans q3
  have hselP : selectMethod e.platform s.vm cellB.cls mk = .method mk := by rw [Launch.admits_selectMethod X.admits]; exact q4
  obtain ⟨vm₁, X₁, hstep₁⟩ := X.invokevirtual hexec hown hlink hnamed hmethM hstM hkP hkPi hy (a := b) (cell := cellB) hcell
    (fun z h => by rw [h] at hobj; cases hobj) hselP hmethM habM hkP hkPi (g := g) hg (argsL := argsL) (rest := rest) (hlen _ hsigM) hstack hdg
  rcases hK m meth c ⟨T.setVm vm₁, locs, cells, slots⟩ { g with stack := rest } (.invokevirtual index) mk (Value.ref b :: argsL).toArray X₁ hg hsize hdg hW (X₁.named hnamed) (hpre vm₁ X₁.warmed) with ⟨v, B, X', hpost, hsteps⟩ | ⟨q, B, X', hpost, hsteps⟩
  · exact Or.inl ⟨v, vm₁, B, X₁.warmed, X', hpost, fun target h => hstep₁ _ fun acts => by rw [doInvoke_state]; exact hsteps.trans h⟩
  · exact Or.inr ⟨q, vm₁, B, X₁.warmed, X', hpost, hstep₁ _ fun acts => by rw [doInvoke_state]; exact hsteps⟩
theorem vx_callS (X : Stand p l e R s m args below meth c T locs cells slots) (hexec : p.tables.exec = Jvm.exec) {own : String} {index : Nat} {y : MethodName} {bytes : ByteArray} {maxL : Nat} {ret : Option FieldType}
    (hown : s.vm.findClass own = some m.cls) (hlink : (Cond.methodLink own index y).before args s = true) (hstat : (Cond.static y).before args s = true) (hinit : (Cond.initialized y.cls).before args s = true)
    (hcode : (Cond.code y bytes maxL ret).before args s = true) (hy : y.cls ≠ "java/lang/invoke/MethodHandle" ∧ y.cls ≠ "java/lang/invoke/VarHandle")
    {W9 : Nat} {Pre : Pt → Array Value → Prop} {Post : Pt → Array Value → Option Value → Pt → Prop} {PostX : Pt → Array Value → Addr → Pt → Prop} (hK : vx_Back l R p e below s args y 3 W9 Pre Post PostX)
    {g : JFrame} (hg : g.method = m) (hsize : g.locals.size = c.maxLocals) {argsL rest : List Value} (hlen : ∀ sig, parseMethodDescriptor y.desc = some sig → argsL.length = sig.parameters.length)
    (hstack : g.stack = argsL.reverse ++ rest) (hW : 2 * g.monitorRoom + (rest.map fun v => v.category).sum ≤ W9) (hdg : decode c.code g.pc = .ok (.invokestatic index, 3))
    (hpre : ∀ vm₁, s.WarmedH vm₁ → Pre ⟨T.setVm vm₁, locs, cells, slots⟩ argsL.toArray) :
    (∃ (v : Option Value) (vm₁ : Vm) (B : Pt), s.WarmedH vm₁ ∧ Stand p l e R s m args below meth c B.U B.locs B.cells B.slots ∧ Post ⟨T.setVm vm₁, locs, cells, slots⟩ argsL.toArray v B ∧
      ∀ target, Steps p.tables e below (B.U.setTop { g with pc := g.pc + 3, stack := v.toList ++ rest }) target → Steps p.tables e below (T.setTop g) target) ∨
    (∃ (q : Addr) (vm₁ : Vm) (B : Pt), s.WarmedH vm₁ ∧ Stand p l e R s m args below meth c B.U B.locs B.cells B.slots ∧ PostX ⟨T.setVm vm₁, locs, cells, slots⟩ argsL.toArray q B ∧
      Steps p.tables e below (T.setTop g) ((B.U.setTop { g with stack := rest }).pushFrame (.throwing q))) := by
  obtain ⟨mk, hnamed⟩ := Cond.code_named hcode
  obtain ⟨methM, cM, hmethM, -, -, -, -, -, -, hsigM⟩ := Cond.code_spec hnamed hcode
  have hstatic : methM.isStatic = true := Cond.static_spec hnamed hmethM hstat
  obtain ⟨kP, hkP, -⟩ := className_of_methodNamed hnamed
  have hinitP : kP.init = .initialized := Cond.initialized_spec (findClass_of_methodNamed hnamed) hkP hinit
  obtain ⟨vm₁, X₁, hstep₁⟩ := X.invokestatic hexec hown hlink hnamed hmethM hstatic hkP hinitP hy (g := g) hg (argsL := argsL) (rest := rest) (hlen _ hsigM) hstack hdg
  rcases hK m meth c ⟨T.setVm vm₁, locs, cells, slots⟩ { g with stack := rest } (.invokestatic index) mk argsL.toArray X₁ hg hsize hdg hW (X₁.named hnamed) (hpre vm₁ X₁.warmed) with ⟨v, B, X', hpost, hsteps⟩ | ⟨q, B, X', hpost, hsteps⟩
  · exact Or.inl ⟨v, vm₁, B, X₁.warmed, X', hpost, fun target h => hstep₁ _ fun acts => by rw [doInvoke_state]; exact hsteps.trans h⟩
  · exact Or.inr ⟨q, vm₁, B, X₁.warmed, X', hpost, hstep₁ _ fun acts => by rw [doInvoke_state]; exact hsteps⟩
end Calls
theorem vx_cls {s : State} {T : State} {vm₁ : Vm} {E : String} {k : ClassId} (hW : s.WarmedH vm₁) (h : (T.setVm vm₁).vm.findClass E = some k) : s.vm.findClass E = some k := by
  have h1 : vm₁.findClass E = some k := h
  rw [hW.alike.findClass] at h1
  exact h1
/-- the method's frame g, with q thrown over it -/
def vx_W (p : Program) (l : Launch) (e : Env) (R : Room) (s : State) (m : MethodId) (args : Array Value) (below : List Frame) (meth : Method) (c : Code) (H : Heap) (locs : List Loc) (cells slots : Nat) (Q : State → Prop) (g : JFrame) (q : Addr) : Prop :=
  ∀ T : State, T.heap = H → Stand p l e R s m args below meth c T locs cells slots → ∃ t, Steps p.tables e below ((T.setTop g).pushFrame (.throwing q)) t ∧ Q t
def vx_Run (p : Program) (l : Launch) (e : Env) (R : Room) (s : State) (m : MethodId) (args : Array Value) (below : List Frame) (meth : Method) (c : Code) (H : Heap) (locs : List Loc) (cells slots mc ms : Nat) (g : JFrame) (rest : List Value) (Qa : State → Outcome → State → Prop) (XC : String → State → State → Prop) (free : Addr → Prop) : Prop :=
  ∀ T : State, T.heap = H → Stand p l e R s m args below meth c T locs cells slots →
    (∃ (v : Option Value) (st₀ t T' : State) (L : List Loc), st₀.heap = H ∧ Stand p l e R s m args below meth c T' (locs ++ L) (cells + mc) (slots + ms) ∧ (∀ q ∈ L, free q.base) ∧ T'.heap = t.heap ∧ T'.vm = t.vm ∧ Qa st₀ (.returned v) t ∧
      Goes p e below T g T' { g with pc := g.pc + 3, stack := v.toList ++ rest }) ∨
    (∃ (q : Addr) (st₀ t T' : State) (L : List Loc) (E : String) (ce : Cell), st₀.heap = H ∧ Stand p l e R s m args below meth c T' (locs ++ L) (cells + mc) (slots + ms) ∧ (∀ z ∈ L, free z.base) ∧ T'.heap = t.heap ∧ T'.vm = t.vm ∧ XC E st₀ t ∧ t.heap[q]? = some ce ∧ ce.vm = .none ∧ s.vm.findClass E = some ce.cls ∧
      Steps p.tables e below (T.setTop g) ((T'.setTop { g with stack := rest }).pushFrame (.throwing q)))
def vx_X {S : Type} (px : S → Prop) (B : String → S → State → Prop) (A : Nat → Prop) : String → State → State → Prop := fun E st t => ∃ u : S, px u ∧ B E u t ∧ va_F A st t
section Runs
variable {p : Program} {l : Launch} {e : Env} {R : Room} {s : State} {m : MethodId} {args : Array Value} {below : List Frame} {meth : Method} {c : Code} {H : Heap} {locs : List Loc} {cells slots : Nat}
variable {y : MethodName} {bytes cc : ByteArray} {maxL nL mc ms n index : Nat} {ret : Option FieldType} {ws : List Cond} {rm : Room} {Pc : Array Value → State → Prop} {Qc : Array Value → State → Outcome → State → Prop} {XC : String → State → State → Prop} {free : Addr → Prop} {Ts : List Cond} {own C : String} {b : Addr} {As rest : List Value} {g : JFrame}
theorem vx_callBack (cb : CallB R s args own index y bytes maxL ret ws rm mc ms n) (hM : vx_Met l y ws rm Pc Qc XC mc ms free) (hbl : FrameBlind Pc) : vx_Back l R p e below s args y 3 8 (PreOf R mc ms Pc) (PostOf Qc mc ms free) (vx_Post XC mc ms free) := by
  obtain ⟨hrc, hrs, hfr, hlo, hws, hcw, -, hini, -⟩ := cb
  exact vx_back (bytes := bytes) (maxL := maxL) (ret := ret) hM hbl hrc hrs hfr hlo hws hcw (fun a' U hW => word_at hW (Or.inl (by first | rfl | simp [Cond.onTables, Cond.keeps, Cond.steady])) hini)
theorem vx_runV (S : CallFix p m c cc nL s args Ts own) (hM : vx_Met l y ws rm Pc Qc XC mc ms free) (cw : CallW R s args own C index y bytes maxL ret ws rm mc ms n) (hp : PreV s H C b Pc As)
    (hg : g.method = m) (hn : As.length = n) (hsize : g.locals.size = nL) (hstack : g.stack = As.reverse ++ .ref b :: rest) (hW : 2 * g.monitorRoom + (rest.map fun v => v.category).sum ≤ 8) (hdg : decode cc g.pc = .ok (.invokevirtual index, 3)) (hf : cells + mc ≤ R.cells ∧ slots + ms ≤ R.slots) :
    vx_Run p l e R s m args below meth c H locs cells slots mc ms g rest (Qc (Value.ref b :: As).toArray) XC free := by
  have hK : vx_Back l R p e below s args y 3 8 (PreOf R mc ms Pc) (PostOf Qc mc ms free) (vx_Post XC mc ms free) := vx_callBack cw.1 hM hp.1
  obtain ⟨⟨-, -, -, -, -, -, hcode, -, hy, hlen, hl⟩, hin, hse⟩ := cw
  obtain ⟨hx, hb, hml, ho, -⟩ := S
  obtain ⟨-, ⟨cellB, hcB, hoB, hclB⟩, hPc⟩ := hp
  intro T hT X
  rcases vx_callV X hx (C := C) (bytes := bytes) (maxL := maxL) (ret := ret) ho hl hin hse hcode hy hK (by rw [hT]; exact hcB) hoB hclB hg (hsize.trans hml.symm) (argsL := As) (rest := rest) (fun sig h => hn.trans (hlen sig h)) hstack hW (by rw [hb]; exact hdg)
    (fun vm₁ hW₁ => ⟨hf.1, hf.2, hPc (T.setVm vm₁) hT hW₁⟩) with ⟨v, vm₁, ⟨U', l2, c2, s2⟩, hW₁, X', ⟨g', mk, t, L, e1, e2, hq, h1, hL, h2, h3⟩, st⟩ | ⟨q, vm₁, ⟨U', l2, c2, s2⟩, hW₁, X', ⟨g', mk, t, L, E, ce, e1, e2, hq, hce, hcv, hcl, h1, hL, h2, h3⟩, st⟩
  · dsimp only [Pt.U, Pt.locs, Pt.cells, Pt.slots] at X' e1 e2 h1 h2 h3 st
    subst h1; subst h2; subst h3
    exact Or.inl ⟨v, (T.setVm vm₁).calling g' mk (Value.ref b :: As).toArray, t, U', L, hT, X', hL, e1, e2, hq, st⟩
  · dsimp only [Pt.U, Pt.locs, Pt.cells, Pt.slots] at X' e1 e2 h1 h2 h3 st hcl
    subst h1; subst h2; subst h3
    exact Or.inr ⟨q, (T.setVm vm₁).calling g' mk (Value.ref b :: As).toArray, t, U', L, E, ce, hT, X', hL, e1, e2, hq, hce, hcv, vx_cls hW₁ hcl, st⟩
theorem vx_runS (S : CallFix p m c cc nL s args Ts own) (hM : vx_Met l y ws rm Pc Qc XC mc ms free) (cw : CallB R s args own index y bytes maxL ret ws rm mc ms n ∧ (Cond.static y).before args s = true) (hp : PreS s H Pc As)
    (hg : g.method = m) (hn : As.length = n) (hsize : g.locals.size = nL) (hstack : g.stack = As.reverse ++ rest) (hW : 2 * g.monitorRoom + (rest.map fun v => v.category).sum ≤ 8) (hdg : decode cc g.pc = .ok (.invokestatic index, 3)) (hf : cells + mc ≤ R.cells ∧ slots + ms ≤ R.slots) :
    vx_Run p l e R s m args below meth c H locs cells slots mc ms g rest (Qc As.toArray) XC free := by
  have hK : vx_Back l R p e below s args y 3 8 (PreOf R mc ms Pc) (PostOf Qc mc ms free) (vx_Post XC mc ms free) := vx_callBack cw.1 hM hp.1
  obtain ⟨⟨-, -, -, -, -, -, hcode, hini, hy, hlen, hl⟩, hstt⟩ := cw
  obtain ⟨hx, hb, hml, ho, -⟩ := S
  intro T hT X
  rcases vx_callS X hx (bytes := bytes) (maxL := maxL) (ret := ret) ho hl hstt hini hcode hy hK hg (hsize.trans hml.symm) (argsL := As) (rest := rest) (fun sig h => hn.trans (hlen sig h)) hstack hW (by rw [hb]; exact hdg)
    (fun vm₁ hW₁ => ⟨hf.1, hf.2, hp.2 (T.setVm vm₁) hT hW₁⟩) with ⟨v, vm₁, ⟨U', l2, c2, s2⟩, hW₁, X', ⟨g', mk, t, L, e1, e2, hq, h1, hL, h2, h3⟩, st⟩ | ⟨q, vm₁, ⟨U', l2, c2, s2⟩, hW₁, X', ⟨g', mk, t, L, E, ce, e1, e2, hq, hce, hcv, hcl, h1, hL, h2, h3⟩, st⟩
  · dsimp only [Pt.U, Pt.locs, Pt.cells, Pt.slots] at X' e1 e2 h1 h2 h3 st
    subst h1; subst h2; subst h3
    exact Or.inl ⟨v, (T.setVm vm₁).calling g' mk As.toArray, t, U', L, hT, X', hL, e1, e2, hq, st⟩
  · dsimp only [Pt.U, Pt.locs, Pt.cells, Pt.slots] at X' e1 e2 h1 h2 h3 st hcl
    subst h1; subst h2; subst h3
    exact Or.inr ⟨q, (T.setVm vm₁).calling g' mk As.toArray, t, U', L, E, ce, hT, X', hL, e1, e2, hq, hce, hcv, vx_cls hW₁ hcl, st⟩
end Runs
section Rows
variable {p : Program} {l : Launch} {e : Env} {R : Room} {s : State} {m : MethodId} {args : Array Value} {below : List Frame} {meth : Method} {c : Code} {H : Heap} {locs : List Loc} {cells slots : Nat} {Q : State → Prop}
variable {mc ms : Nat} {free : Addr → Prop} {A0 A1 : Nat → Prop} {H0 : Heap} {a : Array Value} {pc : Nat} {ls : Array Slot} {st0 rest : List Value}
theorem vx_keep {st₀ t T' : State} {L : List Loc} (h0 : st₀.heap = H) (e1 : T'.heap = t.heap) (hS : va_S A0 H0 H locs) (hA : ∀ q, q < H.size → A1 q → A0 q) (hf : ∀ q, free q → A0 q) (hL : ∀ q ∈ L, free q.base) (hF : va_F A1 st₀ t) :
    H.size ≤ T'.heap.size ∧ (∀ q : Nat, q < H.size → ¬ A1 q → T'.heap[q]? = H[q]?) ∧ va_S A0 H0 T'.heap (locs ++ L) := by
  obtain ⟨hz, hk⟩ := hF
  rw [h0] at hz hk
  exact ⟨by rw [e1]; exact hz, fun q h1 h2 => by rw [e1]; exact hk q h1 h2,
    ⟨Nat.le_trans hS.1 (by rw [e1]; exact hz), fun q h1 h2 => by rw [e1, hk q (Nat.lt_of_lt_of_le h1 hS.1) (fun z => h2 (hA q (Nat.lt_of_lt_of_le h1 hS.1) z))]; exact hS.2.1 q h1 h2, fun q hq => by
      rcases List.mem_append.mp hq with h | h
      · exact hS.2.2 q h
      · exact hf _ (hL q h)⟩⟩
theorem vx_calli {S SX : Type} {post : Int32 → S → Prop} {px : SX → Prop} {B : S → State → Prop} {BX : String → SX → State → Prop} {AX : Nat → Prop} (hr : vx_Run p l e R s m args below meth c H locs cells slots mc ms (F0 m pc ls st0) rest (va_Qi post B A1 a) (vx_X px BX AX) free) (hS : va_S A0 H0 H locs) (hA : ∀ q, q < H.size → A1 q → A0 q) (hf : ∀ q, free q → A0 q) (hAX : ∀ q, q < H.size → AX q → A0 q)
    (kx : ∀ (E : String) (ce : Cell) (q9 : Addr) (u : SX) (t : State) (H1 : Heap) (locs1 : List Loc), t.heap = H1 → s.vm.Alike t.vm → px u → BX E u t → H.size ≤ H1.size → (∀ q : Nat, q < H.size → ¬ AX q → H1[q]? = H[q]?) → va_S A0 H0 H1 locs1 → H1[q9]? = some ce → ce.vm = .none → s.vm.findClass E = some ce.cls → vx_W p l e R s m args below meth c H1 locs1 (cells + mc) (slots + ms) Q (F0 m pc ls rest) q9)
    (kk : ∀ (r : Int32) (u : S) (t : State) (H1 : Heap) (locs1 : List Loc), t.heap = H1 → s.vm.Alike t.vm → post r u → B u t → H.size ≤ H1.size → (∀ q : Nat, q < H.size → ¬ A1 q → H1[q]? = H[q]?) → va_S A0 H0 H1 locs1 → W p l e R s m args below meth c H1 locs1 (cells + mc) (slots + ms) Q (F0 m (pc + 3) ls (.int r :: rest))) : W p l e R s m args below meth c H locs cells slots Q (F0 m pc ls st0) := by
  intro T hT X
  rcases hr T hT X with ⟨v, st₀, t, T', L, h0, X', hL, e1, e2, ⟨⟨r, u, hv, hp, hb⟩, hF⟩, st⟩ | ⟨q, st₀, t, T', L, E, ce, h0, X', hL, e1, e2, ⟨u, hp, hb, hF⟩, hce, hcv, hcl, st⟩
  · cases hv
    obtain ⟨k1, k2, k3⟩ := vx_keep h0 e1 hS hA hf hL hF
    obtain ⟨t2, a1, b1⟩ := kk r u t T'.heap (locs ++ L) e1.symm (by rw [← e2]; exact X'.warmed.alike) hp hb k1 k2 k3 T' rfl X'
    exact ⟨t2, st t2 a1, b1⟩
  · obtain ⟨k1, k2, k3⟩ := vx_keep h0 e1 hS hAX hf hL hF
    obtain ⟨t2, a1, b1⟩ := kx E ce q u t T'.heap (locs ++ L) e1.symm (by rw [← e2]; exact X'.warmed.alike) hp hb k1 k2 k3 (by rw [e1]; exact hce) hcv hcl T' rfl X'
    exact ⟨t2, st.trans a1, b1⟩
theorem vx_calll {S SX : Type} {post : Int64 → S → Prop} {px : SX → Prop} {B : S → State → Prop} {BX : String → SX → State → Prop} {AX : Nat → Prop} (hr : vx_Run p l e R s m args below meth c H locs cells slots mc ms (F0 m pc ls st0) rest (va_Ql post B A1 a) (vx_X px BX AX) free) (hS : va_S A0 H0 H locs) (hA : ∀ q, q < H.size → A1 q → A0 q) (hf : ∀ q, free q → A0 q) (hAX : ∀ q, q < H.size → AX q → A0 q)
    (kx : ∀ (E : String) (ce : Cell) (q9 : Addr) (u : SX) (t : State) (H1 : Heap) (locs1 : List Loc), t.heap = H1 → s.vm.Alike t.vm → px u → BX E u t → H.size ≤ H1.size → (∀ q : Nat, q < H.size → ¬ AX q → H1[q]? = H[q]?) → va_S A0 H0 H1 locs1 → H1[q9]? = some ce → ce.vm = .none → s.vm.findClass E = some ce.cls → vx_W p l e R s m args below meth c H1 locs1 (cells + mc) (slots + ms) Q (F0 m pc ls rest) q9)
    (kk : ∀ (r : Int64) (u : S) (t : State) (H1 : Heap) (locs1 : List Loc), t.heap = H1 → s.vm.Alike t.vm → post r u → B u t → H.size ≤ H1.size → (∀ q : Nat, q < H.size → ¬ A1 q → H1[q]? = H[q]?) → va_S A0 H0 H1 locs1 → W p l e R s m args below meth c H1 locs1 (cells + mc) (slots + ms) Q (F0 m (pc + 3) ls (.long r :: rest))) : W p l e R s m args below meth c H locs cells slots Q (F0 m pc ls st0) := by
  intro T hT X
  rcases hr T hT X with ⟨v, st₀, t, T', L, h0, X', hL, e1, e2, ⟨⟨r, u, hv, hp, hb⟩, hF⟩, st⟩ | ⟨q, st₀, t, T', L, E, ce, h0, X', hL, e1, e2, ⟨u, hp, hb, hF⟩, hce, hcv, hcl, st⟩
  · cases hv
    obtain ⟨k1, k2, k3⟩ := vx_keep h0 e1 hS hA hf hL hF
    obtain ⟨t2, a1, b1⟩ := kk r u t T'.heap (locs ++ L) e1.symm (by rw [← e2]; exact X'.warmed.alike) hp hb k1 k2 k3 T' rfl X'
    exact ⟨t2, st t2 a1, b1⟩
  · obtain ⟨k1, k2, k3⟩ := vx_keep h0 e1 hS hAX hf hL hF
    obtain ⟨t2, a1, b1⟩ := kx E ce q u t T'.heap (locs ++ L) e1.symm (by rw [← e2]; exact X'.warmed.alike) hp hb k1 k2 k3 (by rw [e1]; exact hce) hcv hcl T' rfl X'
    exact ⟨t2, st.trans a1, b1⟩
theorem vx_callf {S SX : Type} {post : UInt32 → S → Prop} {px : SX → Prop} {B : S → State → Prop} {BX : String → SX → State → Prop} {AX : Nat → Prop} (hr : vx_Run p l e R s m args below meth c H locs cells slots mc ms (F0 m pc ls st0) rest (va_Qf post B A1 a) (vx_X px BX AX) free) (hS : va_S A0 H0 H locs) (hA : ∀ q, q < H.size → A1 q → A0 q) (hf : ∀ q, free q → A0 q) (hAX : ∀ q, q < H.size → AX q → A0 q)
    (kx : ∀ (E : String) (ce : Cell) (q9 : Addr) (u : SX) (t : State) (H1 : Heap) (locs1 : List Loc), t.heap = H1 → s.vm.Alike t.vm → px u → BX E u t → H.size ≤ H1.size → (∀ q : Nat, q < H.size → ¬ AX q → H1[q]? = H[q]?) → va_S A0 H0 H1 locs1 → H1[q9]? = some ce → ce.vm = .none → s.vm.findClass E = some ce.cls → vx_W p l e R s m args below meth c H1 locs1 (cells + mc) (slots + ms) Q (F0 m pc ls rest) q9)
    (kk : ∀ (r : UInt32) (u : S) (t : State) (H1 : Heap) (locs1 : List Loc), t.heap = H1 → s.vm.Alike t.vm → post r u → B u t → H.size ≤ H1.size → (∀ q : Nat, q < H.size → ¬ A1 q → H1[q]? = H[q]?) → va_S A0 H0 H1 locs1 → W p l e R s m args below meth c H1 locs1 (cells + mc) (slots + ms) Q (F0 m (pc + 3) ls (.float r :: rest))) : W p l e R s m args below meth c H locs cells slots Q (F0 m pc ls st0) := by
  intro T hT X
  rcases hr T hT X with ⟨v, st₀, t, T', L, h0, X', hL, e1, e2, ⟨⟨r, u, hv, hp, hb⟩, hF⟩, st⟩ | ⟨q, st₀, t, T', L, E, ce, h0, X', hL, e1, e2, ⟨u, hp, hb, hF⟩, hce, hcv, hcl, st⟩
  · cases hv
    obtain ⟨k1, k2, k3⟩ := vx_keep h0 e1 hS hA hf hL hF
    obtain ⟨t2, a1, b1⟩ := kk r u t T'.heap (locs ++ L) e1.symm (by rw [← e2]; exact X'.warmed.alike) hp hb k1 k2 k3 T' rfl X'
    exact ⟨t2, st t2 a1, b1⟩
  · obtain ⟨k1, k2, k3⟩ := vx_keep h0 e1 hS hAX hf hL hF
    obtain ⟨t2, a1, b1⟩ := kx E ce q u t T'.heap (locs ++ L) e1.symm (by rw [← e2]; exact X'.warmed.alike) hp hb k1 k2 k3 (by rw [e1]; exact hce) hcv hcl T' rfl X'
    exact ⟨t2, st.trans a1, b1⟩
theorem vx_calld {S SX : Type} {post : UInt64 → S → Prop} {px : SX → Prop} {B : S → State → Prop} {BX : String → SX → State → Prop} {AX : Nat → Prop} (hr : vx_Run p l e R s m args below meth c H locs cells slots mc ms (F0 m pc ls st0) rest (va_Qd post B A1 a) (vx_X px BX AX) free) (hS : va_S A0 H0 H locs) (hA : ∀ q, q < H.size → A1 q → A0 q) (hf : ∀ q, free q → A0 q) (hAX : ∀ q, q < H.size → AX q → A0 q)
    (kx : ∀ (E : String) (ce : Cell) (q9 : Addr) (u : SX) (t : State) (H1 : Heap) (locs1 : List Loc), t.heap = H1 → s.vm.Alike t.vm → px u → BX E u t → H.size ≤ H1.size → (∀ q : Nat, q < H.size → ¬ AX q → H1[q]? = H[q]?) → va_S A0 H0 H1 locs1 → H1[q9]? = some ce → ce.vm = .none → s.vm.findClass E = some ce.cls → vx_W p l e R s m args below meth c H1 locs1 (cells + mc) (slots + ms) Q (F0 m pc ls rest) q9)
    (kk : ∀ (r : UInt64) (u : S) (t : State) (H1 : Heap) (locs1 : List Loc), t.heap = H1 → s.vm.Alike t.vm → post r u → B u t → H.size ≤ H1.size → (∀ q : Nat, q < H.size → ¬ A1 q → H1[q]? = H[q]?) → va_S A0 H0 H1 locs1 → W p l e R s m args below meth c H1 locs1 (cells + mc) (slots + ms) Q (F0 m (pc + 3) ls (.double r :: rest))) : W p l e R s m args below meth c H locs cells slots Q (F0 m pc ls st0) := by
  intro T hT X
  rcases hr T hT X with ⟨v, st₀, t, T', L, h0, X', hL, e1, e2, ⟨⟨r, u, hv, hp, hb⟩, hF⟩, st⟩ | ⟨q, st₀, t, T', L, E, ce, h0, X', hL, e1, e2, ⟨u, hp, hb, hF⟩, hce, hcv, hcl, st⟩
  · cases hv
    obtain ⟨k1, k2, k3⟩ := vx_keep h0 e1 hS hA hf hL hF
    obtain ⟨t2, a1, b1⟩ := kk r u t T'.heap (locs ++ L) e1.symm (by rw [← e2]; exact X'.warmed.alike) hp hb k1 k2 k3 T' rfl X'
    exact ⟨t2, st t2 a1, b1⟩
  · obtain ⟨k1, k2, k3⟩ := vx_keep h0 e1 hS hAX hf hL hF
    obtain ⟨t2, a1, b1⟩ := kx E ce q u t T'.heap (locs ++ L) e1.symm (by rw [← e2]; exact X'.warmed.alike) hp hb k1 k2 k3 (by rw [e1]; exact hce) hcv hcl T' rfl X'
    exact ⟨t2, st.trans a1, b1⟩
theorem vx_callv {S SX : Type} {post : S → Prop} {px : SX → Prop} {B : S → State → Prop} {BX : String → SX → State → Prop} {AX : Nat → Prop} (hr : vx_Run p l e R s m args below meth c H locs cells slots mc ms (F0 m pc ls st0) rest (va_Qv post B A1 a) (vx_X px BX AX) free) (hS : va_S A0 H0 H locs) (hA : ∀ q, q < H.size → A1 q → A0 q) (hf : ∀ q, free q → A0 q) (hAX : ∀ q, q < H.size → AX q → A0 q)
    (kx : ∀ (E : String) (ce : Cell) (q9 : Addr) (u : SX) (t : State) (H1 : Heap) (locs1 : List Loc), t.heap = H1 → s.vm.Alike t.vm → px u → BX E u t → H.size ≤ H1.size → (∀ q : Nat, q < H.size → ¬ AX q → H1[q]? = H[q]?) → va_S A0 H0 H1 locs1 → H1[q9]? = some ce → ce.vm = .none → s.vm.findClass E = some ce.cls → vx_W p l e R s m args below meth c H1 locs1 (cells + mc) (slots + ms) Q (F0 m pc ls rest) q9)
    (kk : ∀ (u : S) (t : State) (H1 : Heap) (locs1 : List Loc), t.heap = H1 → s.vm.Alike t.vm → post u → B u t → H.size ≤ H1.size → (∀ q : Nat, q < H.size → ¬ A1 q → H1[q]? = H[q]?) → va_S A0 H0 H1 locs1 → W p l e R s m args below meth c H1 locs1 (cells + mc) (slots + ms) Q (F0 m (pc + 3) ls (rest))) : W p l e R s m args below meth c H locs cells slots Q (F0 m pc ls st0) := by
  intro T hT X
  rcases hr T hT X with ⟨v, st₀, t, T', L, h0, X', hL, e1, e2, ⟨⟨u, hv, hp, hb⟩, hF⟩, st⟩ | ⟨q, st₀, t, T', L, E, ce, h0, X', hL, e1, e2, ⟨u, hp, hb, hF⟩, hce, hcv, hcl, st⟩
  · cases hv
    obtain ⟨k1, k2, k3⟩ := vx_keep h0 e1 hS hA hf hL hF
    obtain ⟨t2, a1, b1⟩ := kk u t T'.heap (locs ++ L) e1.symm (by rw [← e2]; exact X'.warmed.alike) hp hb k1 k2 k3 T' rfl X'
    exact ⟨t2, st t2 a1, b1⟩
  · obtain ⟨k1, k2, k3⟩ := vx_keep h0 e1 hS hAX hf hL hF
    obtain ⟨t2, a1, b1⟩ := kx E ce q u t T'.heap (locs ++ L) e1.symm (by rw [← e2]; exact X'.warmed.alike) hp hb k1 k2 k3 (by rw [e1]; exact hce) hcv hcl T' rfl X'
    exact ⟨t2, st.trans a1, b1⟩
/-- caught by the row x of this method's table; the rows ahead don't take it -/
theorem vx_catch {own name : String} {E : String} {ce : Cell} {q : Addr} (hown : s.vm.findClass own = some m.cls) (pre : List ExceptionTableEntry) (x : ExceptionTableEntry) (suf : List ExceptionTableEntry) (hsplit : c.exceptionTable.toList = pre ++ x :: suf)
    (hpass : ∀ z ∈ pre, covers z pc = false ∨ (z.catchType ≠ 0 ∧ ∃ nm : String, (Cond.classLink own z.catchType nm).before args s = true ∧ va_Nc E nm s)) (hx : covers x pc = true) (h0 : x.catchType ≠ 0)
    (hlink : (Cond.classLink own x.catchType name).before args s = true) (hcast : (Cond.castable E name).before args s = true) (hcell : H[q]? = some ce) (hv : ce.vm = .none) (hcl : s.vm.findClass E = some ce.cls)
    (kk : W p l e R s m args below meth c H locs cells slots Q (F0 m x.handlerPc ls [.ref q])) : vx_W p l e R s m args below meth c H locs cells slots Q (F0 m pc ls rest) q := by
  intro T hT X
  have hpl : e.platform.magicAccessors = ({} : Platform).magicAccessors := by rw [X.admits.platform]
  obtain ⟨c3, c4, hc3, hc4, hasg⟩ := Cond.castable_spec hcast
  cases Option.some.inj (hc3.symm.trans hcl)
  obtain ⟨c5, hc5, hcl5⟩ := Cond.classLink_spec hown hlink e.platform hpl
  cases Option.some.inj (hc4.symm.trans hc5)
  obtain ⟨vm', X', st⟩ := X.thenCaughtThrough q (g := F0 m pc ls rest) rfl (Steps.refl _) (by rw [hT]; exact hcell) (by rw [hv]; rfl) (by obtain ⟨k9, h9, -⟩ := Vm.findClass_spec hcl; exact ⟨k9, h9⟩) pre x suf hsplit
    (fun z hz => by
      rcases hpass z hz with h | ⟨hz0, nm, hl1, hn1⟩
      · exact Or.inl h
      · obtain ⟨c6, hc6, hcl6⟩ := Cond.classLink_spec hown hl1 e.platform hpl
        obtain ⟨a8, b8, h1, h2, h3⟩ := hn1
        cases Option.some.inj (h1.symm.trans hcl)
        cases Option.some.inj (h2.symm.trans hc6)
        exact Or.inr ⟨hz0, _, hcl6, h3⟩) hx (Or.inr ⟨h0, c4, hcl5, hasg⟩)
  obtain ⟨t, a1, b1⟩ := kk (T.setVm vm') hT X'
  exact ⟨t, st.trans a1, b1⟩
end Rows
section Ends
variable {p : Program} {l : Launch} {e : Env} {R : Room} {s : State} {m : MethodId} {args : Array Value} {below : List Frame} {meth : Method} {c : Code} {H : Heap} {locs : List Loc} {cells slots : Nat} {Q : State → Prop}
variable {mc ms : Nat} {free : Addr → Prop} {A0 A1 : Nat → Prop} {H0 : Heap} {a : Array Value} {ls : Array Slot} {st0 rest : List Value}
variable {Qc : Array Value → State → Outcome → State → Prop} {XC : String → State → State → Prop}
/-- what a body that may throw owes at its end -/
def vx_MQ (below : List Frame) (Qc : Array Value → State → Outcome → State → Prop) (XC : String → State → State → Prop) (a : Array Value) (s : State) (mc ms : Nat) (free : Addr → Prop) : State → Prop := fun t =>
  ∃ o, t.status = .running ∧ Ended t below o ∧ vx_Q Qc XC mc ms free a s o t
theorem vx_ret {g : JFrame} {mc ms : Nat} (k : W p l e R s m args below meth c H locs cells slots (MQ below Qc args s mc ms free) g) : W p l e R s m args below meth c H locs cells slots (vx_MQ below Qc XC args s mc ms free) g := by
  intro T hT X
  obtain ⟨t, a1, o, b1, b2, b3, b4⟩ := k T hT X
  exact ⟨t, a1, o, b1, b2, Or.inl ⟨b3, b4⟩⟩
/-- not caught here: it goes on to the caller -/
theorem vx_widen {g : JFrame} {q : Addr} {k n : Nat} (h1 : cells ≤ k) (h2 : slots ≤ n) (kk : vx_W p l e R s m args below meth c H locs k n Q g q) : vx_W p l e R s m args below meth c H locs cells slots Q g q := fun T hT X => kk T hT (stand_widen X h1 h2)
theorem vx_out {pc : Nat} {E : String} {ce : Cell} {q : Addr} {mc ms : Nat} (hout : ∀ x ∈ c.exceptionTable.toList, covers x pc = false) (hlocks : meth.locks = false) (hcell : H[q]? = some ce) (hv : ce.vm = .none) (hcl : s.vm.findClass E = some ce.cls)
    (hx : ∀ t : State, t.heap = H → s.vm.Alike t.vm → XC E s t) (hf : ∀ z ∈ locs, free z.base) (hc : cells ≤ mc) (hs : slots ≤ ms) :
    vx_W p l e R s m args below meth c H locs cells slots (vx_MQ below Qc XC args s mc ms free) (F0 m pc ls rest) q := by
  intro T hT X
  obtain ⟨st1, hrun, hend, hW, hsm⟩ := X.leaveThrown q (g := F0 m pc ls rest) rfl rfl rfl hout hlocks
  have hcell9 : (T.setFrames (.throwing q :: below)).heap[q]? = some ce := by
    show T.heap[q]? = some ce
    rw [hT]; exact hcell
  exact ⟨_, st1, .threw q, hrun, hend, Or.inr ⟨q, rfl, E, ce, locs, hx _ hT hW.alike, hcell9, hv, hcl, hW, hsm.mono hc hs, hf⟩⟩
theorem vx_frame {U : State} {k n : Nat} (h : s.sameButNew ({ U with vm := s.vm } : State) locs k n) : s.heap.size ≤ U.heap.size ∧ ∀ q : Nat, q < s.heap.size → (∀ z ∈ locs, z.base ≠ q) → U.heap[q]? = s.heap[q]? := by
  obtain ⟨-, h2, -, -, -, h6⟩ := h
  refine ⟨h2, fun q hq hz => ?_⟩
  obtain ⟨c9, e1, e2, e3, e4⟩ := h6 q _ (Array.getElem?_eq_getElem hq)
  have hs : c9.slots = (s.heap[q]).slots := Array.ext_getElem? fun i => e4 i fun hm => hz _ hm rfl
  have h9 : c9 = s.heap[q] := by
    rw [hs] at e2
    exact e2
  have e5 : U.heap[q]? = some c9 := e1
  rw [e5, h9, Array.getElem?_eq_getElem hq]
/-- the words of a throw but the four that speak of the heap -/
def vx_no (w : Cond) : Bool := decide (w ≠ .isRef (.static Bundle.tN "UNASSIGNED_STACK" Bundle.steD)) && decide (w ≠ .isRef (.static Bundle.tN "SUPPRESSED_SENTINEL" Bundle.listD)) && decide (w ≠ .laysStatic Bundle.tN "UNASSIGNED_STACK" Bundle.steD) && decide (w ≠ .laysStatic Bundle.tN "SUPPRESSED_SENTINEL" Bundle.listD)
def vx_at0 (own : String) (ic : Nat) (X : String) (names : List String) : List Cond := (Bundle.ownAtoms0 own ic X names).filter vx_no
def vx_atS (own : String) (ic : Nat) (X : String) (names : List String) : List Cond := (Bundle.ownAtoms own ic X names).filter vx_no
/-- a word that the tables alone decide, or a good one -/
def vx_ot (w : Cond) : Bool := w.onTables || goodWord w
theorem vx_ot_at {args a' : Array Value} {s U : State} {w : Cond} (hW : s.WarmedH U.vm) (hvm : s.vm = U.vm) (hg : vx_ot w = true) (h : w.before args s = true) : w.before a' U = true := by
  simp only [vx_ot, Bool.or_eq_true] at hg
  rcases hg with hg | hg
  · exact va_tabs hg hvm h
  · exact word_at hW (good_of_word hg) h
/-- a list's words: the good ones out of the method's own list, the others by premises of their own -/
theorem vx_hat {args : Array Value} {s : State} {L B : List Cond} (h1 : ∀ w ∈ L.filter goodWord, w.before args s = true) (h2 : ∀ w ∈ L.filter (fun w => !goodWord w), w ∈ B) (h3 : ∀ w ∈ B, w.before args s = true) : ∀ w ∈ L, w.before args s = true := by
  intro w hw
  by_cases g : goodWord w = true
  · exact h1 w (List.mem_filter.mpr ⟨hw, g⟩)
  · refine h3 w (h2 w (List.mem_filter.mpr ⟨hw, ?_⟩))
    show (!goodWord w) = true
    cases hgw : goodWord w
    · rfl
    · exact absurd hgw g
theorem vx_c {args : Array Value} {s : State} {w : Cond} {B : List Cond} (h : w.before args s = true) (t : ∀ w ∈ B, w.before args s = true) : ∀ w' ∈ w :: B, w'.before args s = true := fun w' h' => (List.mem_cons.mp h').elim (fun e => by rw [e]; exact h) (t w')
theorem vx_n {args : Array Value} {s : State} : ∀ w ∈ ([] : List Cond), w.before args s = true := fun _ h => nomatch h
theorem vx_own {args : Array Value} {s : State} {L : List Cond} (h1 : ∀ w ∈ L.filter vx_no, w.before args s = true)
    (hU : (Cond.isRef (.static Bundle.tN "UNASSIGNED_STACK" Bundle.steD)).before args s = true) (hN : (Cond.isRef (.static Bundle.tN "SUPPRESSED_SENTINEL" Bundle.listD)).before args s = true)
    (lU : (Cond.laysStatic Bundle.tN "UNASSIGNED_STACK" Bundle.steD).before args s = true) (lN : (Cond.laysStatic Bundle.tN "SUPPRESSED_SENTINEL" Bundle.listD).before args s = true) : ∀ w ∈ L, w.before args s = true := by
  intro w hw
  by_cases e1 : w = .isRef (.static Bundle.tN "UNASSIGNED_STACK" Bundle.steD)
  · rw [e1]; exact hU
  · by_cases e2 : w = .isRef (.static Bundle.tN "SUPPRESSED_SENTINEL" Bundle.listD)
    · rw [e2]; exact hN
    · by_cases e3 : w = .laysStatic Bundle.tN "UNASSIGNED_STACK" Bundle.steD
      · rw [e3]; exact lU
      · by_cases e4 : w = .laysStatic Bundle.tN "SUPPRESSED_SENTINEL" Bundle.listD
        · rw [e4]; exact lN
        · exact h1 w (List.mem_filter.mpr ⟨hw, by unfold vx_no; rw [decide_eq_true e1, decide_eq_true e2, decide_eq_true e3, decide_eq_true e4]; rfl⟩)
/-- where a static field lies, its class's statics cell in H -/
def vx_L (C n d : String) (A : Nat → Prop) (U : State) (H : Heap) : Prop := ∃ (c : ClassId) (k : Class) (i : Nat) (f : Field) (a : Nat) (cell : Cell), U.vm.findClass C = some c ∧ U.fieldFound? C n d = some (c, k, i, f) ∧ f.isStatic = true ∧ k.statics = some a ∧ H[a]? = some cell ∧ cell.vm.isStatics = true ∧ cell.cls = c ∧ f.slot < cell.slots.size ∧ k.staticTypes[f.slot]? = some f.type ∧ ¬ A a
theorem vx_L.moved {C n d : String} {A : Nat → Prop} {u U : State} {H : Heap} (hvm : u.vm.Alike U.vm) (h : vx_L C n d A u H) : vx_L C n d A U H := by
  obtain ⟨c, k, i, f, a, cell, h1, h2, h3, h4, h5, h6, h7, h8, h9, h10⟩ := h
  obtain ⟨k', hi', he⟩ := State.fieldFound?_setVm hvm h2
  exact ⟨c, k', i, f, a, cell, by rw [hvm.findClass]; exact h1, hi', h3, by rw [he]; exact h4, h5, h6, h7, h8, by rw [he]; exact h9, h10⟩
theorem vx_L.kept {C n d : String} {A : Nat → Prop} {U : State} {H H1 : Heap} (h : vx_L C n d A U H) (hq : ∀ a : Nat, a < H.size → ¬ A a → H1[a]? = H[a]?) : vx_L C n d A U H1 := by
  obtain ⟨c, k, i, f, a, cell, h1, h2, h3, h4, h5, h6, h7, h8, h9, h10⟩ := h
  exact ⟨c, k, i, f, a, cell, h1, h2, h3, h4, by rw [hq a (Array.getElem?_eq_some_iff.mp h5).1 h10]; exact h5, h6, h7, h8, h9, h10⟩
theorem vx_L.narrow {C n d : String} {A B : Nat → Prop} {U : State} {H : Heap} (h : vx_L C n d A U H) (hAB : ∀ q, B q → A q) : vx_L C n d B U H := by
  obtain ⟨c, k, i, f, a, cell, h1, h2, h3, h4, h5, h6, h7, h8, h9, h10⟩ := h
  exact ⟨c, k, i, f, a, cell, h1, h2, h3, h4, h5, h6, h7, h8, h9, fun z => h10 (hAB _ z)⟩
theorem vx_L.word {C n d : String} {A : Nat → Prop} {s : State} {args : Array Value} (h : vx_L C n d A s s.heap) : (Cond.laysStatic C n d).before args s = true := by
  obtain ⟨c, k, i, f, a, cell, h1, h2, h3, h4, h5, h6, h7, h8, h9, -⟩ := h
  show (Cond.laysStatic C n d).holds args s none s [] = true
  exact Cond.laysStatic_of h1 h2 h3 h4 h5 h6 h7 h8 h9
/-- .. and what it holds: null or some reference -/
def vx_Zq (C n d : String) (A : Nat → Prop) (U : State) (H : Heap) : Prop := va_Zq C n d A U H ∧ vx_L C n d A U H
theorem vx_Zq.moved {C n d : String} {A : Nat → Prop} {u U : State} {H : Heap} (hvm : u.vm.Alike U.vm) (h : vx_Zq C n d A u H) : vx_Zq C n d A U H := ⟨va_Zq.moved hvm h.1, vx_L.moved hvm h.2⟩
theorem vx_Zq.kept {C n d : String} {A : Nat → Prop} {U : State} {H H1 : Heap} (h : vx_Zq C n d A U H) (hq : ∀ a : Nat, a < H.size → ¬ A a → H1[a]? = H[a]?) : vx_Zq C n d A U H1 := ⟨va_Zq.kept h.1 hq, vx_L.kept h.2 hq⟩
theorem vx_Zq.narrow {C n d : String} {A B : Nat → Prop} {U : State} {H : Heap} (h : vx_Zq C n d A U H) (hAB : ∀ q, B q → A q) : vx_Zq C n d B U H := ⟨va_Zq.narrow h.1 hAB, vx_L.narrow h.2 hAB⟩
theorem vx_Zqof {args : Array Value} {s : State} {C n d : String} {A : Nat → Prop} (hl : (Cond.laysStatic C n d).before args s = true) (hini : (Cond.initialized C).before args s = true) (h : (Cond.isRef (.static C n d)).before args s = true) (hA : ∀ a : Nat, a < s.heap.size → ¬ A a) : vx_Zq C n d A s s.heap := by
  refine ⟨va_Zqof hl hini h hA, ?_⟩
  obtain ⟨c, k, i, f, a, cell, h1, h2, h3, h4, h5, h6, h7, h8, h9⟩ := Cond.laysStatic_spec hl
  exact ⟨c, k, i, f, a, cell, h1, h2, h3, h4, h5, h6, h7, h8, h9, hA a (Array.getElem?_eq_some_iff.mp h5).1⟩
theorem vx_isRef {C n d : String} {v : Value} {A : Nat → Prop} {s : State} {args : Array Value} (h : va_Z C n d v A s s.heap) (hv : v.isRef = true) : (Cond.isRef (.static C n d)).before args s = true := by
  obtain ⟨cf, kf, fi, f, a, cell, h1, h2, h3, h4, h5, h6, h7, -⟩ := h
  have he : (Term.static C n d).eval args s none [] s = some v := by
    simp [Term.eval, State.fieldNamed?, h1, h2, h4, h5, h6, h7]
  simp only [Cond.before, Cond.holds, Cond.value, he]
  cases v <;> simp_all [Value.isRef]
theorem vx_isRefq {C n d : String} {A : Nat → Prop} {s : State} {args : Array Value} (h : va_Zq C n d A s s.heap) : (Cond.isRef (.static C n d)).before args s = true := by
  rcases h with h | ⟨t, h⟩
  · exact vx_isRef h rfl
  · exact vx_isRef h rfl
/-- the same frame, seen from here: as if the method were called anew in this heap -/
theorem vx_rebase {T : State} (X : Stand p l e R s m args below meth c T locs cells slots) {R' : Room} (hf : R'.frames ≤ R.frames) (hl : R'.locals ≤ R.locals) (hc : cells + R'.cells ≤ R.cells) (hs : slots + R'.slots ≤ R.slots) :
    Stand p l e R' ((T.setVm s.vm).setFrames (.invoking m args :: below)) m args below meth c T [] 0 0 := by
  have htop : (T.setVm s.vm).topJava?.isSome := X.here.top
  have hF : ((T.setVm s.vm).setFrames (.invoking m args :: below)).frames = .invoking m args :: below := State.frames_setFrames _ (State.cur_lt_of_top htop)
  obtain ⟨g₀, hg0⟩ := Option.isSome_iff_exists.mp htop
  obtain ⟨r, hr⟩ := State.topJava?_eq_some.mp hg0
  have hl9 : e.platform.stackLimits (T.setVm s.vm).me = e.platform.stackLimits s.me := X.limits
  have hb9 : (T.setVm s.vm).me.stackBytes = s.me.stackBytes := X.bytes
  refine ⟨X.admits, X.cas, X.clock, hF, ?_, X.hears, X.method, X.code, X.here, X.tail, X.warmed, ?_, ?_, ?_⟩
  · have h := X.room
    have hU : ((T.setVm s.vm).setFrames (.invoking m args :: below)).localsInUse = s.localsInUse := by
      rw [State.localsInUse_invoking hF (meth := meth) (c := c) X.method X.code, State.localsInUse_invoking X.frames X.method X.code]
    simp only [State.hasRoom, Bool.and_eq_true, decide_eq_true_eq] at h ⊢
    obtain ⟨⟨⟨⟨h1, h2, h3, h4, h5, h6⟩, h7⟩, h8⟩, h9⟩ := h
    rw [X.frames, List.length_cons] at h2 h3
    have q1 := X.heapSize
    have q2 := X.used
    simp only [hF, hU, List.length_cons, State.stackLimits_setFrames, State.stackBytes_setFrames, hl9, hb9]
    refine ⟨⟨⟨⟨by omega, by omega, by omega, by omega, by omega, h6⟩, ?_⟩, ?_⟩, X.book⟩
    · show T.heap.size + R'.cells ≤ e.platform.maxCells
      omega
    · show T.slotsUsed + R'.slots ≤ e.platform.maxSlots
      omega
  · rw [State.stackLimits_setFrames]; rfl
  · rw [State.stackBytes_setFrames]; rfl
  · refine ⟨?_, Nat.le_refl _, Nat.le_refl _, ?_, ?_, fun a c9 h9 => ⟨c9, h9, rfl, rfl, fun _ _ => rfl⟩⟩
    · obtain ⟨t, ht, -⟩ := State.frames_cons hr
      show T.setVm s.vm = { ((T.setVm s.vm).setFrames (.invoking m args :: below)).setFrames (T.setVm s.vm).frames with heap := T.heap, slotsUsed := T.slotsUsed }
      rw [State.setFrames_setFrames, State.setFrames_self ht]
      rfl
    · show T.slotsUsed = T.slotsUsed + ((T.heap.toList.drop T.heap.size).map (·.slots.size)).sum
      rw [List.drop_eq_nil_of_le (Nat.le_of_eq Array.length_toList)]
      rfl
    · show ((T.heap.toList.drop T.heap.size).map (·.slots.size)).sum ≤ 0
      rw [List.drop_eq_nil_of_le (Nat.le_of_eq Array.length_toList)]
      exact Nat.le_refl _
/-- 'throw new E()': new; dup; invokespecial; athrow -/
theorem vx_throw0 {cc : ByteArray} {pc : Nat} (hexec : p.tables.exec = Jvm.exec) (hb : c.code = cc) (hl : l.stackTraces = false) {own cls : String} {names : List String} {ik ic mc ms : Nat} {A : Nat → Prop}
    (hown : s.vm.findClass own = some m.cls) (hcls : Bundle.fit cls = true) (hnames : ∀ n ∈ names, Bundle.fit n = true)
    (hk : (Cond.classLink own ik cls).before args s = true) (hini : (Cond.initialized cls).before args s = true) (hat : ∀ w ∈ vx_at0 own ic cls names, w.before args s = true)
    (hgood : ∀ w ∈ Cond.classLink own ik cls :: Cond.initialized cls :: vx_at0 own ic cls names, vx_ot w = true)
    (hU : vx_Zq Bundle.tN "UNASSIGNED_STACK" Bundle.steD A s s.heap) (hN : vx_Zq Bundle.tN "SUPPRESSED_SENTINEL" Bundle.listD A s s.heap) (hS : va_S A s.heap H locs) (hsize : ls.size = c.maxLocals)
    (d0 : decode cc pc = .ok (.new ik, 3)) (d3 : decode cc (pc + 3) = .ok (.dup, 1)) (d4 : decode cc (pc + 4) = .ok (.invokespecial ic, 3)) (d7 : decode cc (pc + 7) = .ok (.athrow, 1))
    (hout : ∀ x ∈ c.exceptionTable.toList, covers x (pc + 7) = false)
    (hRframes : names.length + 3 < R.frames) (hRlocals : (rest.map fun v => v.category).sum + (13 * (names.length + 1) + 42) ≤ R.locals) (hRcells : cells + 1 ≤ R.cells) (hRslots : slots + 6 ≤ R.slots) (hlocks : meth.locks = false)
    (hx : ∀ t : State, s.vm.Alike t.vm → H.size ≤ t.heap.size → (∀ q : Nat, q < H.size → t.heap[q]? = H[q]?) → XC cls s t)
    (hf : ∀ z ∈ locs, free z.base) (hc : cells + 1 ≤ mc) (hs : slots + 6 ≤ ms) :
    W p l e R s m args below meth c H locs cells slots (vx_MQ below Qc XC args s mc ms free) (F0 m pc ls rest) := by
  intro T hT X
  have htr : e.platform.stackTraces = false := (show e.platform.stackTraces = l.stackTraces by rw [X.admits.platform]).trans hl
  have Y := vx_rebase X (R' := { frames := R.frames, locals := R.locals, cells := 1, slots := 6 }) (Nat.le_refl _) (Nat.le_refl _) hRcells hRslots
  obtain ⟨s', hA⟩ : ∃ z, z = (T.setVm s.vm).setFrames (.invoking m args :: below) := ⟨_, rfl⟩
  rw [← hA] at Y
  have hvm : s'.vm = s.vm := by rw [hA]; rfl
  have hhp : s'.heap = H := by rw [hA]; exact hT
  have hW0 : s.WarmedH s'.vm := by rw [hvm]; exact State.WarmedH.refl s
  have hat' : ∀ w ∈ vx_at0 own ic cls names, w.before args s' = true := fun w hw => vx_ot_at hW0 hvm.symm (hgood w (List.mem_cons_of_mem _ (List.mem_cons_of_mem _ hw))) (hat w hw)
  have hk' : (Cond.classLink own ik cls).before args s' = true := vx_ot_at hW0 hvm.symm (hgood _ List.mem_cons_self) hk
  have hini' : (Cond.initialized cls).before args s' = true := vx_ot_at hW0 hvm.symm (hgood _ (List.mem_cons_of_mem _ List.mem_cons_self)) hini
  have hU' : vx_Zq Bundle.tN "UNASSIGNED_STACK" Bundle.steD A s' s'.heap := by rw [hhp]; exact vx_Zq.moved hW0.alike (hU.kept hS.2.1)
  have hN' : vx_Zq Bundle.tN "SUPPRESSED_SENTINEL" Bundle.listD A s' s'.heap := by rw [hhp]; exact vx_Zq.moved hW0.alike (hN.kept hS.2.1)
  have h : ∀ w ∈ Bundle.ownAtoms0 own ic cls names, w.before args s' = true := vx_own hat' (vx_isRefq hU'.1) (vx_isRefq hN'.1) hU'.2.word hN'.2.word
  have hown' : s'.vm.findClass own = some m.cls := by rw [hvm]; exact hown
  have hins : (Cond.instantiable cls 6).before args s' = true := h _ (by simp [Bundle.ownAtoms0])
  obtain ⟨vm₁, cX, kX, hfX, hkX, -, -, X₁, st1⟩ := Y.newCold hexec (own := own) (C := cls) (index := ik) (n := 6) hown' hk' hins hini'
    (g := F0 m pc ls rest) rfl (by rw [hb]; exact d0) (Nat.le_refl _) (Nat.le_refl _)
  generalize hT1 : (T.setVm vm₁).pushCell { cls := cX, slots := kX.instanceTypes.map defaultValue, vm := .none } = T1 at X₁ st1
  have hcat : (Value.ref T.heap.size).category = 1 := rfl
  have hcellA : T1.heap[T.heap.size]? = some (freshCell cX kX) := by rw [← hT1]; exact State.heap_pushCell_size _ _
  have d3' : decode c.code (pc + 3) = .ok (.dup, 1) := by rw [hb]; exact d3
  obtain ⟨U, hsteps, hrun, hend, hW, hsame, ce, hce, hO⟩ := X₁.ctorThrow0 hexec htr (own := own) (cls := cls) (names := names) (ic := ic) hown' hcls hnames h (fun x hx => nomatch hx) hfX hkX hcellA (by rw [hhp, hT]; exact Nat.le_refl _)
    (g := { method := m, pc := pc + 4, locals := ls, stack := .ref T.heap.size :: .ref T.heap.size :: rest, locked := none }) rfl hsize rfl rfl (rest := rest) rfl
    (by rw [hb]; exact d4) (by rw [hb]; exact d7) hout hRframes (by simp only [List.map_cons, List.sum_cons, hcat]; omega) hlocks
  obtain ⟨f1, f2⟩ := vx_frame hsame
  rw [hhp] at f1 f2
  have hWs : s.WarmedH U.vm := State.WarmedH.trans hW0 hW
  have hcl : s.vm.findClass cls = some ce.cls := by
    have h9 := hO.cls
    rw [hvm] at h9
    exact h9
  have hall : s.sameButNew ({ U with vm := s.vm } : State) locs mc ms := by
    subst hA
    obtain ⟨e1, e2⟩ := hsame
    rw [State.setFrames_setFrames] at e1
    have h2 : (T.setVm s.vm).sameButNew ({ U with vm := s.vm } : State) [] (0 + 1) (0 + 6) := ⟨e1, e2⟩
    have h3 := X.same.trans h2
    rw [List.append_nil] at h3
    exact h3.mono hc hs
  refine ⟨U, ?_, .threw T.heap.size, hrun, hend, Or.inr ⟨T.heap.size, rfl, cls, ce, locs, hx U hWs.alike f1 (fun q hq => f2 q hq (fun z hz => nomatch hz)), hce, hO.vm, hcl, hWs, hall, hf⟩⟩
  refine st1 _ ?_
  show Steps p.tables e below (T1.setTop { method := m, pc := pc + 3, locals := ls, stack := .ref T.heap.size :: rest, locked := none }) _
  jvm_step X₁.here [X₁.here.top, hexec, d3', Value.category]
  exact hsteps
/-- 'throw new E("text")': new; dup; ldc; invokespecial; athrow -/
theorem vx_throwS {cc : ByteArray} {pc : Nat} (hexec : p.tables.exec = Jvm.exec) (hb : c.code = cc) (hl : l.stackTraces = false) {own cls text : String} {names : List String} {ik is ic mc ms sa : Nat} {A : Nat → Prop}
    (hown : s.vm.findClass own = some m.cls) (hcls : Bundle.fit cls = true) (hnames : ∀ n ∈ names, Bundle.fit n = true)
    (hk : (Cond.classLink own ik cls).before args s = true) (hini : (Cond.initialized cls).before args s = true) (hstr : vk_R own is text sa s) (hat : ∀ w ∈ vx_atS own ic cls names, w.before args s = true)
    (hgood : ∀ w ∈ Cond.classLink own ik cls :: Cond.initialized cls :: vx_atS own ic cls names, vx_ot w = true)
    (hU : vx_Zq Bundle.tN "UNASSIGNED_STACK" Bundle.steD A s s.heap) (hN : vx_Zq Bundle.tN "SUPPRESSED_SENTINEL" Bundle.listD A s s.heap) (hS : va_S A s.heap H locs) (hsize : ls.size = c.maxLocals)
    (d0 : decode cc pc = .ok (.new ik, 3)) (d3 : decode cc (pc + 3) = .ok (.dup, 1)) (d4 : decode cc (pc + 4) = .ok (.ldc is, 2)) (d6 : decode cc (pc + 6) = .ok (.invokespecial ic, 3)) (d9 : decode cc (pc + 9) = .ok (.athrow, 1))
    (hout : ∀ x ∈ c.exceptionTable.toList, covers x (pc + 9) = false)
    (hRframes : names.length + 3 < R.frames) (hRlocals : (rest.map fun v => v.category).sum + (13 * (names.length + 1) + 43) ≤ R.locals) (hRcells : cells + 1 ≤ R.cells) (hRslots : slots + 6 ≤ R.slots) (hlocks : meth.locks = false)
    (hx : ∀ t : State, s.vm.Alike t.vm → H.size ≤ t.heap.size → (∀ q : Nat, q < H.size → t.heap[q]? = H[q]?) → XC cls s t)
    (hf : ∀ z ∈ locs, free z.base) (hc : cells + 1 ≤ mc) (hs : slots + 6 ≤ ms) :
    W p l e R s m args below meth c H locs cells slots (vx_MQ below Qc XC args s mc ms free) (F0 m pc ls rest) := by
  intro T hT X
  have htr : e.platform.stackTraces = false := (show e.platform.stackTraces = l.stackTraces by rw [X.admits.platform]).trans hl
  have Y := vx_rebase X (R' := { frames := R.frames, locals := R.locals, cells := 1, slots := 6 }) (Nat.le_refl _) (Nat.le_refl _) hRcells hRslots
  obtain ⟨s', hA⟩ : ∃ z, z = (T.setVm s.vm).setFrames (.invoking m args :: below) := ⟨_, rfl⟩
  rw [← hA] at Y
  have hvm : s'.vm = s.vm := by rw [hA]; rfl
  have hhp : s'.heap = H := by rw [hA]; exact hT
  have hW0 : s.WarmedH s'.vm := by rw [hvm]; exact State.WarmedH.refl s
  have hat' : ∀ w ∈ vx_atS own ic cls names, w.before args s' = true := fun w hw => vx_ot_at hW0 hvm.symm (hgood w (List.mem_cons_of_mem _ (List.mem_cons_of_mem _ hw))) (hat w hw)
  have hk' : (Cond.classLink own ik cls).before args s' = true := vx_ot_at hW0 hvm.symm (hgood _ List.mem_cons_self) hk
  have hini' : (Cond.initialized cls).before args s' = true := vx_ot_at hW0 hvm.symm (hgood _ (List.mem_cons_of_mem _ List.mem_cons_self)) hini
  have hU' : vx_Zq Bundle.tN "UNASSIGNED_STACK" Bundle.steD A s' s'.heap := by rw [hhp]; exact vx_Zq.moved hW0.alike (hU.kept hS.2.1)
  have hN' : vx_Zq Bundle.tN "SUPPRESSED_SENTINEL" Bundle.listD A s' s'.heap := by rw [hhp]; exact vx_Zq.moved hW0.alike (hN.kept hS.2.1)
  have h : ∀ w ∈ Bundle.ownAtoms own ic cls names, w.before args s' = true := vx_own hat' (vx_isRefq hU'.1) (vx_isRefq hN'.1) hU'.2.word hN'.2.word
  have hown' : s'.vm.findClass own = some m.cls := by rw [hvm]; exact hown
  have hins : (Cond.instantiable cls 6).before args s' = true := h _ (by simp [Bundle.ownAtoms])
  obtain ⟨vm₁, cX, kX, hfX, hkX, -, -, X₁, st1⟩ := Y.newCold hexec (own := own) (C := cls) (index := ik) (n := 6) hown' hk' hins hini'
    (g := F0 m pc ls rest) rfl (by rw [hb]; exact d0) (Nat.le_refl _) (Nat.le_refl _)
  generalize hT1 : (T.setVm vm₁).pushCell { cls := cX, slots := kX.instanceTypes.map defaultValue, vm := .none } = T1 at X₁ st1
  have hcat : (Value.ref T.heap.size).category = 1 := rfl
  have hcellA : T1.heap[T.heap.size]? = some (freshCell cX kX) := by rw [← hT1]; exact State.heap_pushCell_size _ _
  have d3' : decode c.code (pc + 3) = .ok (.dup, 1) := by rw [hb]; exact d3
  have d4' : decode c.code (pc + 4) = .ok (.ldc is, 2) := by rw [hb]; exact d4
  have hstr' : vk_R own is text sa s' := vk_R.warm hW0 hstr
  obtain ⟨U, hsteps, hrun, hend, hW, hsame, ce, hce, hO⟩ := X₁.ctorThrowS hexec htr (own := own) (cls := cls) (names := names) (ic := ic) hown' hcls hnames h (fun x hx => nomatch hx) hfX hkX hcellA (by rw [hhp, hT]; exact Nat.le_refl _) (msg := .ref sa) rfl
    (g := { method := m, pc := pc + 6, locals := ls, stack := .ref sa :: .ref T.heap.size :: .ref T.heap.size :: rest, locked := none }) rfl hsize rfl rfl (rest := rest) rfl
    (by rw [hb]; exact d6) (by rw [hb]; exact d9) hout hRframes (by simp only [List.map_cons, List.sum_cons, hcat]; omega) hlocks
  obtain ⟨f1, f2⟩ := vx_frame hsame
  rw [hhp] at f1 f2
  have hWs : s.WarmedH U.vm := State.WarmedH.trans hW0 hW
  have hcl : s.vm.findClass cls = some ce.cls := by
    have h9 := hO.cls
    rw [hvm] at h9
    exact h9
  have hall : s.sameButNew ({ U with vm := s.vm } : State) locs mc ms := by
    subst hA
    obtain ⟨e1, e2⟩ := hsame
    rw [State.setFrames_setFrames] at e1
    have h2 : (T.setVm s.vm).sameButNew ({ U with vm := s.vm } : State) [] (0 + 1) (0 + 6) := ⟨e1, e2⟩
    have h3 := X.same.trans h2
    rw [List.append_nil] at h3
    exact h3.mono hc hs
  refine ⟨U, ?_, .threw T.heap.size, hrun, hend, Or.inr ⟨T.heap.size, rfl, cls, ce, locs, hx U hWs.alike f1 (fun q hq => f2 q hq (fun z hz => nomatch hz)), hce, hO.vm, hcl, hWs, hall, hf⟩⟩
  refine st1 _ ?_
  show Steps p.tables e below (T1.setTop { method := m, pc := pc + 3, locals := ls, stack := .ref T.heap.size :: rest, locked := none }) _
  jvm_step X₁.here [X₁.here.top, hexec, d3', Value.category]
  exact X₁.ldcString hexec (own := own) (text := text) (index := is) (a := sa) hown' hstr'.1 hstr'.2
    (g := { method := m, pc := pc + 4, locals := ls, stack := .ref T.heap.size :: .ref T.heap.size :: rest, locked := none }) rfl d4' _ hsteps
/-- 'throw new E("text")', the text by a wide index -/
theorem vx_throwSW {cc : ByteArray} {pc : Nat} (hexec : p.tables.exec = Jvm.exec) (hb : c.code = cc) (hl : l.stackTraces = false) {own cls text : String} {names : List String} {ik is ic mc ms sa : Nat} {A : Nat → Prop}
    (hown : s.vm.findClass own = some m.cls) (hcls : Bundle.fit cls = true) (hnames : ∀ n ∈ names, Bundle.fit n = true)
    (hk : (Cond.classLink own ik cls).before args s = true) (hini : (Cond.initialized cls).before args s = true) (hstr : vk_R own is text sa s) (hat : ∀ w ∈ vx_atS own ic cls names, w.before args s = true)
    (hgood : ∀ w ∈ Cond.classLink own ik cls :: Cond.initialized cls :: vx_atS own ic cls names, vx_ot w = true)
    (hU : vx_Zq Bundle.tN "UNASSIGNED_STACK" Bundle.steD A s s.heap) (hN : vx_Zq Bundle.tN "SUPPRESSED_SENTINEL" Bundle.listD A s s.heap) (hS : va_S A s.heap H locs) (hsize : ls.size = c.maxLocals)
    (d0 : decode cc pc = .ok (.new ik, 3)) (d3 : decode cc (pc + 3) = .ok (.dup, 1)) (d4 : decode cc (pc + 4) = .ok (.ldc_w is, 3)) (d7 : decode cc (pc + 7) = .ok (.invokespecial ic, 3)) (d10 : decode cc (pc + 10) = .ok (.athrow, 1))
    (hout : ∀ x ∈ c.exceptionTable.toList, covers x (pc + 10) = false)
    (hRframes : names.length + 3 < R.frames) (hRlocals : (rest.map fun v => v.category).sum + (13 * (names.length + 1) + 43) ≤ R.locals) (hRcells : cells + 1 ≤ R.cells) (hRslots : slots + 6 ≤ R.slots) (hlocks : meth.locks = false)
    (hx : ∀ t : State, s.vm.Alike t.vm → H.size ≤ t.heap.size → (∀ q : Nat, q < H.size → t.heap[q]? = H[q]?) → XC cls s t)
    (hf : ∀ z ∈ locs, free z.base) (hc : cells + 1 ≤ mc) (hs : slots + 6 ≤ ms) :
    W p l e R s m args below meth c H locs cells slots (vx_MQ below Qc XC args s mc ms free) (F0 m pc ls rest) := by
  intro T hT X
  have htr : e.platform.stackTraces = false := (show e.platform.stackTraces = l.stackTraces by rw [X.admits.platform]).trans hl
  have Y := vx_rebase X (R' := { frames := R.frames, locals := R.locals, cells := 1, slots := 6 }) (Nat.le_refl _) (Nat.le_refl _) hRcells hRslots
  obtain ⟨s', hA⟩ : ∃ z, z = (T.setVm s.vm).setFrames (.invoking m args :: below) := ⟨_, rfl⟩
  rw [← hA] at Y
  have hvm : s'.vm = s.vm := by rw [hA]; rfl
  have hhp : s'.heap = H := by rw [hA]; exact hT
  have hW0 : s.WarmedH s'.vm := by rw [hvm]; exact State.WarmedH.refl s
  have hat' : ∀ w ∈ vx_atS own ic cls names, w.before args s' = true := fun w hw => vx_ot_at hW0 hvm.symm (hgood w (List.mem_cons_of_mem _ (List.mem_cons_of_mem _ hw))) (hat w hw)
  have hk' : (Cond.classLink own ik cls).before args s' = true := vx_ot_at hW0 hvm.symm (hgood _ List.mem_cons_self) hk
  have hini' : (Cond.initialized cls).before args s' = true := vx_ot_at hW0 hvm.symm (hgood _ (List.mem_cons_of_mem _ List.mem_cons_self)) hini
  have hU' : vx_Zq Bundle.tN "UNASSIGNED_STACK" Bundle.steD A s' s'.heap := by rw [hhp]; exact vx_Zq.moved hW0.alike (hU.kept hS.2.1)
  have hN' : vx_Zq Bundle.tN "SUPPRESSED_SENTINEL" Bundle.listD A s' s'.heap := by rw [hhp]; exact vx_Zq.moved hW0.alike (hN.kept hS.2.1)
  have h : ∀ w ∈ Bundle.ownAtoms own ic cls names, w.before args s' = true := vx_own hat' (vx_isRefq hU'.1) (vx_isRefq hN'.1) hU'.2.word hN'.2.word
  have hown' : s'.vm.findClass own = some m.cls := by rw [hvm]; exact hown
  have hins : (Cond.instantiable cls 6).before args s' = true := h _ (by simp [Bundle.ownAtoms])
  obtain ⟨vm₁, cX, kX, hfX, hkX, -, -, X₁, st1⟩ := Y.newCold hexec (own := own) (C := cls) (index := ik) (n := 6) hown' hk' hins hini'
    (g := F0 m pc ls rest) rfl (by rw [hb]; exact d0) (Nat.le_refl _) (Nat.le_refl _)
  generalize hT1 : (T.setVm vm₁).pushCell { cls := cX, slots := kX.instanceTypes.map defaultValue, vm := .none } = T1 at X₁ st1
  have hcat : (Value.ref T.heap.size).category = 1 := rfl
  have hcellA : T1.heap[T.heap.size]? = some (freshCell cX kX) := by rw [← hT1]; exact State.heap_pushCell_size _ _
  have d3' : decode c.code (pc + 3) = .ok (.dup, 1) := by rw [hb]; exact d3
  have d4' : decode c.code (pc + 4) = .ok (.ldc_w is, 3) := by rw [hb]; exact d4
  have hstr' : vk_R own is text sa s' := vk_R.warm hW0 hstr
  obtain ⟨U, hsteps, hrun, hend, hW, hsame, ce, hce, hO⟩ := X₁.ctorThrowS hexec htr (own := own) (cls := cls) (names := names) (ic := ic) hown' hcls hnames h (fun x hx => nomatch hx) hfX hkX hcellA (by rw [hhp, hT]; exact Nat.le_refl _) (msg := .ref sa) rfl
    (g := { method := m, pc := pc + 7, locals := ls, stack := .ref sa :: .ref T.heap.size :: .ref T.heap.size :: rest, locked := none }) rfl hsize rfl rfl (rest := rest) rfl
    (by rw [hb]; exact d7) (by rw [hb]; exact d10) hout hRframes (by simp only [List.map_cons, List.sum_cons, hcat]; omega) hlocks
  obtain ⟨f1, f2⟩ := vx_frame hsame
  rw [hhp] at f1 f2
  have hWs : s.WarmedH U.vm := State.WarmedH.trans hW0 hW
  have hcl : s.vm.findClass cls = some ce.cls := by
    have h9 := hO.cls
    rw [hvm] at h9
    exact h9
  have hall : s.sameButNew ({ U with vm := s.vm } : State) locs mc ms := by
    subst hA
    obtain ⟨e1, e2⟩ := hsame
    rw [State.setFrames_setFrames] at e1
    have h2 : (T.setVm s.vm).sameButNew ({ U with vm := s.vm } : State) [] (0 + 1) (0 + 6) := ⟨e1, e2⟩
    have h3 := X.same.trans h2
    rw [List.append_nil] at h3
    exact h3.mono hc hs
  refine ⟨U, ?_, .threw T.heap.size, hrun, hend, Or.inr ⟨T.heap.size, rfl, cls, ce, locs, hx U hWs.alike f1 (fun q hq => f2 q hq (fun z hz => nomatch hz)), hce, hO.vm, hcl, hWs, hall, hf⟩⟩
  refine st1 _ ?_
  show Steps p.tables e below (T1.setTop { method := m, pc := pc + 3, locals := ls, stack := .ref T.heap.size :: rest, locked := none }) _
  jvm_step X₁.here [X₁.here.top, hexec, d3', Value.category]
  exact X₁.ldcStringW hexec (own := own) (text := text) (index := is) (a := sa) hown' hstr'.1 hstr'.2
    (g := { method := m, pc := pc + 4, locals := ls, stack := .ref T.heap.size :: .ref T.heap.size :: rest, locked := none }) rfl d4' _ hsteps
end Ends
section Bodies
variable {l : Launch}
theorem vx_ofW {y : MethodName} {ws ws' : List Cond} {rm : Room} {Pc : Array Value → State → Prop} {Qc : Array Value → State → Outcome → State → Prop} {XC : String → State → State → Prop} {mc ms : Nat} {free : Addr → Prop} {cc : ByteArray} {maxL : Nat} {ret : Option FieldType}
    (hy : plainName y.cls = true) (hw : ws = Cond.code y cc maxL ret :: ws')
    (body : ∀ p e s m args below meth c s₁, BodyLoose p l y (headSpec ws rm) cc maxL ret e s m args below meth c s₁ → c.maxLocals = maxL → (∀ x ∈ c.exceptionTable.toList, False) → Pc args s →
      W p l e (headSpec ws rm).room s m args below meth c s.heap [] 0 0 (vx_MQ below Qc XC args s mc ms free) (entryFrame m args maxL)) : vx_Met l y ws rm Pc Qc XC mc ms free := by
  refine MetFree.of_bodyS (code := cc) (maxLocals := maxL) (ret := ret) hy ?_ ?_
  · intro args s m h hn
    obtain ⟨meth, c, h1, h2, h3, h4, h5, h6, -, -⟩ := Cond.code_spec hn (atoms_spec (ws := ws) h _ (by rw [hw]; exact List.mem_cons_self))
    exact ⟨meth, c, h1, h2, h3, h4, h5, h6⟩
  · intro p e s m args below meth c s₁ B hml hP _
    have hh0 : s₁.heap = s.heap := by rw [B.state]; rfl
    have ht : ∀ x ∈ c.exceptionTable.toList, False := by
      obtain ⟨meth9, c9, h1, h2, -, -, -, -, h7, -⟩ := Cond.code_spec B.named (atoms_spec (ws := ws) B.pre _ (by rw [hw]; exact List.mem_cons_self))
      cases Option.some.inj (h1.symm.trans B.method)
      cases Option.some.inj (h2.symm.trans (Stand.of_body B).code)
      intro x hx
      rw [Array.isEmpty_iff.mp h7] at hx
      cases hx
    obtain ⟨t, a1, o, b1, b2, b3⟩ := body p e s m args below meth c s₁ B hml ht hP s₁ hh0 (Stand.of_body B)
    exact ⟨t, o, a1, b1, b2, b3⟩
/-- the table of a body with handlers -/
theorem vx_table {p : Program} {x y : MethodName} {S : Spec} {cc bytes : ByteArray} {maxL maxL' : Nat} {ret ret' : Option FieldType} {e : Env} {s s₁ : State} {m : MethodId} {args : Array Value} {below : List Frame} {meth : Method} {c : Code} {hh : List (Nat × Nat × Nat × Nat)}
    (B : BodyLoose p l y S cc maxL ret e s m args below meth c s₁) (h : (Cond.codeWith y bytes maxL' ret' hh).before args s = true) : c.exceptionTable.toList = tableOf hh := by
  obtain ⟨m9, meth9, c9, hn9, h1, h2, -, -, h6, -⟩ := Cond.codeWith_spec h
  cases Option.some.inj (hn9.symm.trans B.named)
  cases Option.some.inj (h1.symm.trans B.method)
  cases Option.some.inj (h2.symm.trans (Stand.of_body B).code)
  rw [← h6, table_eq]
end Bodies
end VXA
/-! ===== END ===== -/
/-! ===== BEGIN a static call of a method with an exception table ===== -/
section VXS
variable {p : Program} {l : Launch} {e : Env} {R : Room} {s : State} {m : MethodId} {args : Array Value} {below : List Frame} {meth : Method} {c : Code} {T : State} {H : Heap} {locs : List Loc} {cells slots : Nat}
abbrev vx_CSW (R : Room) (s : State) (args : Array Value) (own : String) (index : Nat) (y : MethodName) (bytes : ByteArray) (maxL : Nat) (ret : Option FieldType) (hh : List (Nat × Nat × Nat × Nat)) (ws : List Cond) (rm : Room) (mc ms n : Nat) : Prop :=
  (rm.cells = mc ∧ rm.slots = ms ∧ rm.frames + 1 ≤ R.frames ∧ 8 + (maxL + 11) + rm.locals ≤ R.locals ∧ (∀ w ∈ ws, ∀ (a' : Array Value) (U : State), s.WarmedH U.vm → w.before a' U = true) ∧ Cond.codeWith y bytes maxL ret hh ∈ ws) ∧
  (Cond.codeWith y bytes maxL ret hh).before args s = true ∧ (Cond.initialized y.cls).before args s = true ∧ (y.cls ≠ "java/lang/invoke/MethodHandle" ∧ y.cls ≠ "java/lang/invoke/VarHandle") ∧
  (∀ sig, parseMethodDescriptor y.desc = some sig → n = sig.parameters.length) ∧ (Cond.methodLink own index y).before args s = true ∧ (Cond.static y).before args s = true
theorem vx_cwSW {own : String} {index maxL mc ms : Nat} {y : MethodName} {bytes : ByteArray} {ret : Option FieldType} {hh : List (Nat × Nat × Nat × Nat)} {Ts ws ws' : List Cond} {rm : Room} (n : Nat) (ht : ∀ w ∈ Ts, w.before args s = true) (hT : GoodIn Ts (va_wsS own index y ws)) (hw : ws = Cond.codeWith y bytes maxL ret hh :: ws') (hrc : rm.cells = mc) (hrs : rm.slots = ms)
    (hd : y.cls ≠ "java/lang/invoke/MethodHandle" ∧ y.cls ≠ "java/lang/invoke/VarHandle" ∧ (parseMethodDescriptor y.desc).map (fun d => d.parameters.length) = some n) (hR : rm.frames + 1 ≤ R.frames ∧ 8 + (maxL + 11) + rm.locals ≤ R.locals) :
    vx_CSW R s args own index y bytes maxL ret hh ws rm mc ms n := by
  have ok : ∀ w ∈ va_wsS own index y ws, w.before args s = true := fun w h => ht w (hT w h).1
  have hG : GoodIn Ts ws := fun w h => hT w (by unfold va_wsS; exact List.mem_append_right _ h)
  have hc : Cond.codeWith y bytes maxL ret hh ∈ ws := by rw [hw]; exact List.mem_cons_self
  refine ⟨⟨hrc, hrs, hR.1, hR.2, pay_in ht hG, hc⟩, ht _ (hG _ hc).1, ok _ (by simp [va_wsS]), ⟨hd.1, hd.2.1⟩, fun sig h => ?_, ok _ (by simp [va_wsS]), ok _ (by simp [va_wsS])⟩
  have h2 := hd.2.2
  rw [h] at h2
  exact (Option.some.inj h2).symm
theorem vx_callSW (X : Stand p l e R s m args below meth c T locs cells slots) (hexec : p.tables.exec = Jvm.exec) {own : String} {index : Nat} {y : MethodName} {bytes : ByteArray} {maxL : Nat} {ret : Option FieldType} {hh : List (Nat × Nat × Nat × Nat)}
    (hown : s.vm.findClass own = some m.cls) (hlink : (Cond.methodLink own index y).before args s = true) (hstat : (Cond.static y).before args s = true) (hinit : (Cond.initialized y.cls).before args s = true)
    (hcode : (Cond.codeWith y bytes maxL ret hh).before args s = true) (hy : y.cls ≠ "java/lang/invoke/MethodHandle" ∧ y.cls ≠ "java/lang/invoke/VarHandle")
    {W9 : Nat} {Pre : Pt → Array Value → Prop} {Post : Pt → Array Value → Option Value → Pt → Prop} (hK : Back l R p e below s args y 3 W9 Pre Post)
    {g : JFrame} (hg : g.method = m) (hsize : g.locals.size = c.maxLocals) {argsL rest : List Value} (hlen : ∀ sig, parseMethodDescriptor y.desc = some sig → argsL.length = sig.parameters.length)
    (hstack : g.stack = argsL.reverse ++ rest) (hW : 2 * g.monitorRoom + (rest.map fun v => v.category).sum ≤ W9) (hdg : decode c.code g.pc = .ok (.invokestatic index, 3))
    (hpre : ∀ vm₁, s.WarmedH vm₁ → Pre ⟨T.setVm vm₁, locs, cells, slots⟩ argsL.toArray) :
    ∃ (v : Option Value) (vm₁ : Vm) (B : Pt), s.WarmedH vm₁ ∧ Stand p l e R s m args below meth c B.U B.locs B.cells B.slots ∧ Post ⟨T.setVm vm₁, locs, cells, slots⟩ argsL.toArray v B ∧
      ∀ target, Steps p.tables e below (B.U.setTop { g with pc := g.pc + 3, stack := v.toList ++ rest }) target → Steps p.tables e below (T.setTop g) target := by
  obtain ⟨mk, methM, cM, hnamed, hmethM, -, -, -, -, -, -, hsigM⟩ := Cond.codeWith_spec hcode
  have hstatic : methM.isStatic = true := Cond.static_spec hnamed hmethM hstat
  obtain ⟨kP, hkP, -⟩ := className_of_methodNamed hnamed
  have hinitP : kP.init = .initialized := Cond.initialized_spec (findClass_of_methodNamed hnamed) hkP hinit
  obtain ⟨vm₁, X₁, hstep₁⟩ := X.invokestatic hexec hown hlink hnamed hmethM hstatic hkP hinitP hy (g := g) hg (argsL := argsL) (rest := rest) (hlen _ hsigM) hstack hdg
  obtain ⟨v, B, X', hpost, hsteps⟩ := hK m meth c ⟨T.setVm vm₁, locs, cells, slots⟩ { g with stack := rest } (.invokestatic index) mk argsL.toArray X₁ hg hsize hdg hW (X₁.named hnamed) (hpre vm₁ X₁.warmed)
  exact ⟨v, vm₁, B, X₁.warmed, X', hpost, fun target h => hstep₁ _ fun acts => by rw [doInvoke_state]; exact hsteps.trans h⟩
theorem vx_runSW {y : MethodName} {bytes cc : ByteArray} {maxL nL mc ms n index : Nat} {ret : Option FieldType} {hh : List (Nat × Nat × Nat × Nat)} {ws : List Cond} {rm : Room} {Pc : Array Value → State → Prop} {Qc : Array Value → State → Outcome → State → Prop} {free : Addr → Prop} {Ts : List Cond} {own : String} {As rest : List Value} {g : JFrame}
    (S : CallFix p m c cc nL s args Ts own) (hM : Met l y ws rm Pc Qc mc ms free) (cw : vx_CSW R s args own index y bytes maxL ret hh ws rm mc ms n) (hp : PreS s H Pc As)
    (hg : g.method = m) (hn : As.length = n) (hsize : g.locals.size = nL) (hstack : g.stack = As.reverse ++ rest) (hW : 2 * g.monitorRoom + (rest.map fun v => v.category).sum ≤ 8) (hdg : decode cc g.pc = .ok (.invokestatic index, 3)) (hf : cells + mc ≤ R.cells ∧ slots + ms ≤ R.slots) :
    va_Run p l e R s m args below meth c H locs cells slots mc ms g rest (Qc As.toArray) (free) := by
  obtain ⟨⟨hrc, hrs, hfr, hlo, hws, hcw⟩, hcode, hini, hy, hlen, hl, hstt⟩ := cw
  have hK : Back l R p e below s args y 3 8 (PreOf R mc ms Pc) (PostOf Qc mc ms free) := va_backW (hh := hh) (bytes := bytes) (maxL := maxL) (ret := ret) hM hp.1 hrc hrs hfr hlo hws hcw (fun a' U hW => word_at hW (Or.inl (by first | rfl | simp [Cond.onTables, Cond.keeps, Cond.steady])) hini)
  obtain ⟨hx, hb, hml, ho, -⟩ := S
  intro T hT X
  obtain ⟨v, vm₁, ⟨U', l2, c2, s2⟩, hW₁, X', ⟨g', mk, t, L, e1, e2, hq, h1, hL, h2, h3⟩, st⟩ := vx_callSW X hx (hh := hh) (bytes := bytes) (maxL := maxL) (ret := ret) ho hl hstt hini hcode hy hK hg (hsize.trans hml.symm) (argsL := As) (rest := rest) (fun sig h => hn.trans (hlen sig h)) hstack hW (by rw [hb]; exact hdg)
    (fun vm₁ hW₁ => ⟨hf.1, hf.2, hp.2 (T.setVm vm₁) hT hW₁⟩)
  dsimp only [Pt.U, Pt.locs, Pt.cells, Pt.slots] at X' e1 e2 h1 h2 h3 st
  subst h1; subst h2; subst h3
  exact ⟨v, (T.setVm vm₁).calling g' mk As.toArray, t, U', L, hT, X', hL, e1, e2, hq, st⟩
/-- not caught here, past rows that name other classes: it goes on to the caller -/
theorem vx_outP {p : Program} {l : Launch} {e : Env} {R : Room} {s : State} {m : MethodId} {args : Array Value} {below : List Frame} {meth : Method} {c : Code} {H : Heap} {locs : List Loc} {cells slots : Nat} {free : Addr → Prop} {ls : Array Slot} {rest : List Value} {Qc : Array Value → State → Outcome → State → Prop} {XC : String → State → State → Prop}
    {pc : Nat} {own E : String} {ce : Cell} {q : Addr} {mc ms : Nat} (hown : s.vm.findClass own = some m.cls) (hlocks : meth.locks = false)
    (hpass : ∀ z ∈ c.exceptionTable.toList, covers z pc = false ∨ (z.catchType ≠ 0 ∧ ∃ nm : String, (Cond.classLink own z.catchType nm).before args s = true ∧ va_Nc E nm s)) (hcell : H[q]? = some ce) (hv : ce.vm = .none) (hcl : s.vm.findClass E = some ce.cls)
    (hx : ∀ t : State, t.heap = H → s.vm.Alike t.vm → XC E s t) (hf : ∀ z ∈ locs, free z.base) (hc : cells ≤ mc) (hs : slots ≤ ms) :
    vx_W p l e R s m args below meth c H locs cells slots (vx_MQ below Qc XC args s mc ms free) (F0 m pc ls rest) q := by
  intro T hT X
  have hpl : e.platform.magicAccessors = ({} : Platform).magicAccessors := by rw [X.admits.platform]
  obtain ⟨vm', hW', X', st⟩ := X.outThrough hlocks q (g := F0 m pc ls rest) rfl rfl rfl (cell := ce) (by rw [hT]; exact hcell) (by rw [hv]; rfl)
    (by obtain ⟨k9, h9, -⟩ := Vm.findClass_spec hcl; exact ⟨k9, h9⟩) (fun z hz => by
      rcases hpass z hz with h | ⟨hz0, nm, hl1, hn1⟩
      · exact Or.inl h
      · obtain ⟨c6, hc6, hcl6⟩ := Cond.classLink_spec hown hl1 e.platform hpl
        obtain ⟨a8, b8, h1, h2, h3⟩ := hn1
        cases Option.some.inj (h1.symm.trans hcl)
        cases Option.some.inj (h2.symm.trans hc6)
        exact Or.inr ⟨hz0, _, hcl6, h3⟩)
  obtain ⟨g₀, hfr⟩ := X'.frames_eq
  have hcell9 : ((T.setVm vm').setFrames (.throwing q :: below)).heap[q]? = some ce := by
    show T.heap[q]? = some ce
    rw [hT]; exact hcell
  have hend : Ended ((T.setVm vm').setFrames (.throwing q :: below)) below (.threw q) := State.frames_setFrames _ (State.cur_lt_of_frames hfr)
  refine ⟨(T.setVm vm').setFrames (.throwing q :: below), ?_, .threw q, X'.here.running, hend, Or.inr ⟨q, rfl, E, ce, locs, hx _ hT (X'.ends _).1.alike, hcell9, hv, hcl, (X'.ends _).1, (X'.ends _).2.mono hc hs, hf⟩⟩
  rw [X.pushThrowing_eq]
  exact st
/-- a thing of a world lies in the heap -/
theorem vx_lt {D : va_G} {cl : List vw_C} {ws : va_W} {H1 : Heap} (h : va_P D cl ws H1) {k : Nat} {q : Nat × va_E} (hk : ws[k]? = some q) : q.1 < H1.size := (h k q hk).lt
end VXS
/-! ===== END ===== -/
/-! ===== BEGIN methods with a table of their own: called by a name, returning or throwing ===== -/
section VXH
/-! vx_backW, vx_callVX, vx_callSX, vx_callVW, vx_runVW, vx_runVX, vx_runSX, vx_ofWH follow the same proofs as their sisters above (Free/Laws.lean, Shelf42/LK1.lean); vx_outP calls Shelf42/NT130.lean (outThrough). -/
section
variable {l : Launch} {R : Room} {p : Program} {e : Env} {below : List Frame} {s : State} {sargs : Array Value} {y : MethodName} {len W9 : Nat}
theorem vx_backW {ws : List Cond} {rm : Room} {Pc : Array Value → State → Prop} {Qc : Array Value → State → Outcome → State → Prop} {XC : String → State → State → Prop} {mc ms : Nat} {free : Addr → Prop} {bytes : ByteArray} {maxL : Nat} {ret : Option FieldType} {hh : List (Nat × Nat × Nat × Nat)}
    (hM : vx_Met l y ws rm Pc Qc XC mc ms free) (hblind : FrameBlind Pc) (hrc : rm.cells = mc) (hrs : rm.slots = ms)
    (hframes : rm.frames + 1 ≤ R.frames) (hlocals : W9 + (maxL + 11) + rm.locals ≤ R.locals)
    (hws : ∀ w ∈ ws, ∀ a' U, s.WarmedH U.vm → w.before a' U = true) (hcode : Cond.codeWith y bytes maxL ret hh ∈ ws) (hinit : ∀ a' U, s.WarmedH U.vm → (Cond.initialized y.cls).before a' U = true) :
    vx_Back l R p e below s sargs y len W9 (PreOf R mc ms Pc) (PostOf Qc mc ms free) (vx_Post XC mc ms free) := by
  intro m meth c A g ig mk a X hg hsize hdg hW hn hp
  have h1 : (headSpec ws rm).pre.before a A.U = true := atoms_intro fun w hw => hws w hw _ _ X.warmed
  have h2 : (Cond.codeWith y bytes maxL ret hh).before a A.U = true := hws _ hcode _ _ X.warmed
  have h3 : (Cond.initialized y.cls).before a A.U = true := hinit _ _ X.warmed
  have h4 : A.cells + (headSpec ws rm).room.cells ≤ R.cells := by rw [show (headSpec ws rm).room.cells = mc from hrc]; exact hp.1
  have h5 : A.slots + (headSpec ws rm).room.slots ≤ R.slots := by rw [show (headSpec ws rm).room.slots = ms from hrs]; exact hp.2.1
  have hPc : Pc a (A.U.calling g mk a) := hblind _ _ _ _ hp.2.2
  obtain ⟨U, Ls, c0, s0⟩ := A
  dsimp only [Pt.U, Pt.locs, Pt.cells, Pt.slots] at h1 h2 h3 h4 h5 X hn hPc ⊢
  obtain ⟨m9, methY, cY, hn9, hmY, hcY, -, hlY, -⟩ := Cond.codeWith_spec h2
  cases Option.some.inj (hn9.symm.trans hn)
  obtain ⟨kY, hkY, -⟩ := className_of_methodNamed hn
  have hinitY : kY.init = .initialized := Cond.initialized_spec (findClass_of_methodNamed hn) hkY h3
  have h : At U g.method c below := by rw [hg]; exact X.here
  have hlocals9 : W9 + (maxL + 11) + (headSpec ws rm).room.locals ≤ R.locals := hlocals
  have happ : (headSpec ws rm).appliesLoose y e.platform (U.calling g mk a) = true :=
    Spec.appliesLoose_calling (g := g) h hdg hn hkY hinitY
      (X.room_calling (g := g) (R' := (headSpec ws rm).room) hsize hmY hcY hframes (by rw [hlY]; omega) h4 h5) h1
  obtain ⟨mid, hmid⟩ := h.above
  have hfr : (U.setTop g).frames = (.java g :: mid) ++ below := by rw [State.frames_setTop' g h.top, hmid]; rfl
  obtain ⟨o, s₂, hsteps, -, hend, hq⟩ := Steps.callFree hM p X.admits X.cas X.clock (acts := []) hfr happ hPc trivial
  have hq' : vx_Q Qc XC mc ms free a (U.calling g mk a) o s₂ := hq
  rw [State.frames_setTop' g h.top] at hend
  obtain ⟨g₀, hg0⟩ := Option.isSome_iff_exists.mp h.top
  obtain ⟨r, hr⟩ := State.topJava?_eq_some.mp hg0
  have hr' : (({ U with heap := s₂.heap, slotsUsed := s₂.slotsUsed } : State).setVm s₂.vm).frames = .java g₀ :: r := hr
  rcases hq' with ⟨hqc, L, hfe, hL⟩ | ⟨q, rfl, E, ce, L, hx, hce, hcv, hcl, hW₂, hsm, hL⟩
  · obtain ⟨⟨v, rfl⟩, hW₂, e2, q2, q3, q4, q5, q6⟩ := id hfe
    have e3 : s₂ = ({ (U.calling g mk a).setFrames s₂.frames with heap := s₂.heap, slotsUsed := s₂.slotsUsed } : State).setVm s₂.vm := by
      have : s₂ = ({ s₂ with vm := (U.calling g mk a).vm } : State).setVm s₂.vm := rfl
      rw [e2] at this
      exact this
    obtain ⟨c₂, i₂, len₂, hc₂, hd₂, hf₂⟩ := hend
    have hW' : U.WarmedH s₂.vm := hW₂
    have hcc : c₂ = c := by
      have h1 : s₂.code? g.method = U.code? g.method := by
        rw [State.code?_eq, State.code?_eq, hW'.alike.method?]
      exact Option.some.inj (hc₂.symm.trans (h1.trans h.code))
    subst hcc
    have hlen : len₂ = len := by rw [hdg] at hd₂; cases hd₂; rfl
    subst hlen
    have hs₂ : s₂ = (({ U with heap := s₂.heap, slotsUsed := s₂.slotsUsed } : State).setVm s₂.vm).setTop { g with pc := g.pc + len₂, stack := v.toList ++ g.stack } := by
      refine e3.trans ?_
      rw [hf₂, State.calling_eq h.top, State.setFrames_setFrames, State.setTop_of_frames _ hr', hr]
      rfl
    have hsame : U.sameButNew ({ U with heap := s₂.heap, slotsUsed := s₂.slotsUsed } : State) L mc ms := by
      refine ⟨?_, q2, q3, q4, q5, q6⟩
      obtain ⟨t, ht, -⟩ := State.frames_cons hr
      show ({ U with heap := s₂.heap, slotsUsed := s₂.slotsUsed } : State) = { U.setFrames U.frames with heap := s₂.heap, slotsUsed := s₂.slotsUsed }
      rw [State.setFrames_self ht]
    subst hg
    refine Or.inl ⟨v, ⟨(({ U with heap := s₂.heap, slotsUsed := s₂.slotsUsed } : State).setVm s₂.vm), Ls ++ L, c0 + mc, s0 + ms⟩,
      ⟨X.admits, X.cas, X.clock, X.frames, X.room, X.hears, X.method, X.code, (X.here.setHeapUsed s₂.heap s₂.slotsUsed).setVm hW'.alike, X.tail, State.WarmedH.trans X.warmed hW', X.limits, X.bytes, X.same.trans (hsame.setVm s.vm)⟩,
      ⟨g, mk, s₂, L, rfl, rfl, hqc, rfl, hL, rfl, rfl⟩, ?_⟩
    show Steps p.tables e below _ ((({ U with heap := s₂.heap, slotsUsed := s₂.slotsUsed } : State).setVm s₂.vm).setTop { g with pc := g.pc + len₂, stack := v.toList ++ g.stack })
    rw [← hs₂]
    exact hsteps
  · obtain ⟨e2, q2, q3, q4, q5, q6⟩ := id hsm
    have e3 : s₂ = ({ (U.calling g mk a).setFrames s₂.frames with heap := s₂.heap, slotsUsed := s₂.slotsUsed } : State).setVm s₂.vm := by
      have : s₂ = ({ s₂ with vm := (U.calling g mk a).vm } : State).setVm s₂.vm := rfl
      rw [e2] at this
      exact this
    have hf₂ : s₂.frames = .throwing q :: .java g :: U.frames.tail := hend
    have hW' : U.WarmedH s₂.vm := hW₂
    have hs₂ : s₂ = ((({ U with heap := s₂.heap, slotsUsed := s₂.slotsUsed } : State).setVm s₂.vm).setTop g).pushFrame (.throwing q) := by
      refine e3.trans ?_
      rw [hf₂, State.calling_eq h.top, State.setFrames_setFrames, State.pushFrame, State.frames_setTop _ hr', State.setTop_of_frames _ hr', State.setFrames_setFrames, hr]
      rfl
    have hsame : U.sameButNew ({ U with heap := s₂.heap, slotsUsed := s₂.slotsUsed } : State) L mc ms := by
      refine ⟨?_, q2, q3, q4, q5, q6⟩
      obtain ⟨t, ht, -⟩ := State.frames_cons hr
      show ({ U with heap := s₂.heap, slotsUsed := s₂.slotsUsed } : State) = { U.setFrames U.frames with heap := s₂.heap, slotsUsed := s₂.slotsUsed }
      rw [State.setFrames_self ht]
    subst hg
    refine Or.inr ⟨q, ⟨(({ U with heap := s₂.heap, slotsUsed := s₂.slotsUsed } : State).setVm s₂.vm), Ls ++ L, c0 + mc, s0 + ms⟩,
      ⟨X.admits, X.cas, X.clock, X.frames, X.room, X.hears, X.method, X.code, (X.here.setHeapUsed s₂.heap s₂.slotsUsed).setVm hW'.alike, X.tail, State.WarmedH.trans X.warmed hW', X.limits, X.bytes, X.same.trans (hsame.setVm s.vm)⟩,
      ⟨g, mk, s₂, L, E, ce, rfl, rfl, hx, hce, hcv, hcl, rfl, hL, rfl, rfl⟩, ?_⟩
    show Steps p.tables e below _ (((({ U with heap := s₂.heap, slotsUsed := s₂.slotsUsed } : State).setVm s₂.vm).setTop g).pushFrame (.throwing q))
    rw [← hs₂]
    exact hsteps
end
variable {p : Program} {l : Launch} {e : Env} {R : Room} {s : State} {m : MethodId} {args : Array Value} {below : List Frame} {meth : Method} {c : Code} {T : State} {H : Heap} {locs : List Loc} {cells slots : Nat}
theorem vx_callVX (X : Stand p l e R s m args below meth c T locs cells slots) (hexec : p.tables.exec = Jvm.exec) {own C : String} {index : Nat} {y : MethodName} {bytes : ByteArray} {maxL : Nat} {ret : Option FieldType} {hh : List (Nat × Nat × Nat × Nat)}
    (hown : s.vm.findClass own = some m.cls) (hlink : (Cond.methodLink own index y).before args s = true) (hinst : (Cond.instanceMethod y).before args s = true) (hsel : (Cond.selects C y y).before args s = true)
    (hcode : (Cond.codeWith y bytes maxL ret hh).before args s = true) (hy : y.cls ≠ "java/lang/invoke/MethodHandle" ∧ y.cls ≠ "java/lang/invoke/VarHandle")
    {W9 : Nat} {Pre : Pt → Array Value → Prop} {Post : Pt → Array Value → Option Value → Pt → Prop} {PostX : Pt → Array Value → Addr → Pt → Prop} (hK : vx_Back l R p e below s args y 3 W9 Pre Post PostX)
    {b : Addr} {cellB : Cell} (hcell : T.heap[b]? = some cellB) (hobj : cellB.vm.isStatics = false) (hcls : s.vm.findClass C = some cellB.cls)
    {g : JFrame} (hg : g.method = m) (hsize : g.locals.size = c.maxLocals) {argsL rest : List Value} (hlen : ∀ sig, parseMethodDescriptor y.desc = some sig → argsL.length = sig.parameters.length)
    (hstack : g.stack = argsL.reverse ++ .ref b :: rest) (hW : 2 * g.monitorRoom + (rest.map fun v => v.category).sum ≤ W9) (hdg : decode c.code g.pc = .ok (.invokevirtual index, 3))
    (hpre : ∀ vm₁, s.WarmedH vm₁ → Pre ⟨T.setVm vm₁, locs, cells, slots⟩ (Value.ref b :: argsL).toArray) :
    (∃ (v : Option Value) (vm₁ : Vm) (B : Pt), s.WarmedH vm₁ ∧ Stand p l e R s m args below meth c B.U B.locs B.cells B.slots ∧ Post ⟨T.setVm vm₁, locs, cells, slots⟩ (Value.ref b :: argsL).toArray v B ∧
      ∀ target, Steps p.tables e below (B.U.setTop { g with pc := g.pc + 3, stack := v.toList ++ rest }) target → Steps p.tables e below (T.setTop g) target) ∨
    (∃ (q : Addr) (vm₁ : Vm) (B : Pt), s.WarmedH vm₁ ∧ Stand p l e R s m args below meth c B.U B.locs B.cells B.slots ∧ PostX ⟨T.setVm vm₁, locs, cells, slots⟩ (Value.ref b :: argsL).toArray q B ∧
      Steps p.tables e below (T.setTop g) ((B.U.setTop { g with stack := rest }).pushFrame (.throwing q))) := by
  obtain ⟨mk, methM, hnamed, hmethM, hstM, habM⟩ := Cond.instanceMethod_spec hinst
  obtain ⟨m8, methM', cM, hn8, hmethM', -, -, -, -, -, -, hsigM⟩ := Cond.codeWith_spec hcode
  cases Option.some.inj (hn8.symm.trans hnamed)
  cases hmethM.symm.trans hmethM'
  obtain ⟨c2, r2, m2, q1, q2, q3, q4, kP, hkP, hkPi⟩ := Cond.selects_spec hsel
  cases hcls.symm.trans q1
  cases (State.methodFound?_of_named hnamed hy).symm.trans q2
  cases hnamed.symm.trans q3
  have hselP : selectMethod e.platform s.vm cellB.cls mk = .method mk := by rw [Launch.admits_selectMethod X.admits]; exact q4
  obtain ⟨vm₁, X₁, hstep₁⟩ := X.invokevirtual hexec hown hlink hnamed hmethM hstM hkP hkPi hy (a := b) (cell := cellB) hcell
    (fun z h => by rw [h] at hobj; cases hobj) hselP hmethM habM hkP hkPi (g := g) hg (argsL := argsL) (rest := rest) (hlen _ hsigM) hstack hdg
  rcases hK m meth c ⟨T.setVm vm₁, locs, cells, slots⟩ { g with stack := rest } (.invokevirtual index) mk (Value.ref b :: argsL).toArray X₁ hg hsize hdg hW (X₁.named hnamed) (hpre vm₁ X₁.warmed) with ⟨v, B, X', hpost, hsteps⟩ | ⟨q, B, X', hpost, hsteps⟩
  · exact Or.inl ⟨v, vm₁, B, X₁.warmed, X', hpost, fun target h => hstep₁ _ fun acts => by rw [doInvoke_state]; exact hsteps.trans h⟩
  · exact Or.inr ⟨q, vm₁, B, X₁.warmed, X', hpost, hstep₁ _ fun acts => by rw [doInvoke_state]; exact hsteps⟩
theorem vx_callSX (X : Stand p l e R s m args below meth c T locs cells slots) (hexec : p.tables.exec = Jvm.exec) {own : String} {index : Nat} {y : MethodName} {bytes : ByteArray} {maxL : Nat} {ret : Option FieldType} {hh : List (Nat × Nat × Nat × Nat)}
    (hown : s.vm.findClass own = some m.cls) (hlink : (Cond.methodLink own index y).before args s = true) (hstat : (Cond.static y).before args s = true) (hinit : (Cond.initialized y.cls).before args s = true)
    (hcode : (Cond.codeWith y bytes maxL ret hh).before args s = true) (hy : y.cls ≠ "java/lang/invoke/MethodHandle" ∧ y.cls ≠ "java/lang/invoke/VarHandle")
    {W9 : Nat} {Pre : Pt → Array Value → Prop} {Post : Pt → Array Value → Option Value → Pt → Prop} {PostX : Pt → Array Value → Addr → Pt → Prop} (hK : vx_Back l R p e below s args y 3 W9 Pre Post PostX)
    {g : JFrame} (hg : g.method = m) (hsize : g.locals.size = c.maxLocals) {argsL rest : List Value} (hlen : ∀ sig, parseMethodDescriptor y.desc = some sig → argsL.length = sig.parameters.length)
    (hstack : g.stack = argsL.reverse ++ rest) (hW : 2 * g.monitorRoom + (rest.map fun v => v.category).sum ≤ W9) (hdg : decode c.code g.pc = .ok (.invokestatic index, 3))
    (hpre : ∀ vm₁, s.WarmedH vm₁ → Pre ⟨T.setVm vm₁, locs, cells, slots⟩ argsL.toArray) :
    (∃ (v : Option Value) (vm₁ : Vm) (B : Pt), s.WarmedH vm₁ ∧ Stand p l e R s m args below meth c B.U B.locs B.cells B.slots ∧ Post ⟨T.setVm vm₁, locs, cells, slots⟩ argsL.toArray v B ∧
      ∀ target, Steps p.tables e below (B.U.setTop { g with pc := g.pc + 3, stack := v.toList ++ rest }) target → Steps p.tables e below (T.setTop g) target) ∨
    (∃ (q : Addr) (vm₁ : Vm) (B : Pt), s.WarmedH vm₁ ∧ Stand p l e R s m args below meth c B.U B.locs B.cells B.slots ∧ PostX ⟨T.setVm vm₁, locs, cells, slots⟩ argsL.toArray q B ∧
      Steps p.tables e below (T.setTop g) ((B.U.setTop { g with stack := rest }).pushFrame (.throwing q))) := by
  obtain ⟨mk, methM, cM, hnamed, hmethM, -, -, -, -, -, -, hsigM⟩ := Cond.codeWith_spec hcode
  have hstatic : methM.isStatic = true := Cond.static_spec hnamed hmethM hstat
  obtain ⟨kP, hkP, -⟩ := className_of_methodNamed hnamed
  have hinitP : kP.init = .initialized := Cond.initialized_spec (findClass_of_methodNamed hnamed) hkP hinit
  obtain ⟨vm₁, X₁, hstep₁⟩ := X.invokestatic hexec hown hlink hnamed hmethM hstatic hkP hinitP hy (g := g) hg (argsL := argsL) (rest := rest) (hlen _ hsigM) hstack hdg
  rcases hK m meth c ⟨T.setVm vm₁, locs, cells, slots⟩ { g with stack := rest } (.invokestatic index) mk argsL.toArray X₁ hg hsize hdg hW (X₁.named hnamed) (hpre vm₁ X₁.warmed) with ⟨v, B, X', hpost, hsteps⟩ | ⟨q, B, X', hpost, hsteps⟩
  · exact Or.inl ⟨v, vm₁, B, X₁.warmed, X', hpost, fun target h => hstep₁ _ fun acts => by rw [doInvoke_state]; exact hsteps.trans h⟩
  · exact Or.inr ⟨q, vm₁, B, X₁.warmed, X', hpost, hstep₁ _ fun acts => by rw [doInvoke_state]; exact hsteps⟩
theorem vx_callVW (X : Stand p l e R s m args below meth c T locs cells slots) (hexec : p.tables.exec = Jvm.exec) {own C : String} {index : Nat} {y : MethodName} {bytes : ByteArray} {maxL : Nat} {ret : Option FieldType} {hh : List (Nat × Nat × Nat × Nat)}
    (hown : s.vm.findClass own = some m.cls) (hlink : (Cond.methodLink own index y).before args s = true) (hinst : (Cond.instanceMethod y).before args s = true) (hsel : (Cond.selects C y y).before args s = true)
    (hcode : (Cond.codeWith y bytes maxL ret hh).before args s = true) (hy : y.cls ≠ "java/lang/invoke/MethodHandle" ∧ y.cls ≠ "java/lang/invoke/VarHandle")
    {W9 : Nat} {Pre : Pt → Array Value → Prop} {Post : Pt → Array Value → Option Value → Pt → Prop} (hK : Back l R p e below s args y 3 W9 Pre Post)
    {b : Addr} {cellB : Cell} (hcell : T.heap[b]? = some cellB) (hobj : cellB.vm.isStatics = false) (hcls : s.vm.findClass C = some cellB.cls)
    {g : JFrame} (hg : g.method = m) (hsize : g.locals.size = c.maxLocals) {argsL rest : List Value} (hlen : ∀ sig, parseMethodDescriptor y.desc = some sig → argsL.length = sig.parameters.length)
    (hstack : g.stack = argsL.reverse ++ .ref b :: rest) (hW : 2 * g.monitorRoom + (rest.map fun v => v.category).sum ≤ W9) (hdg : decode c.code g.pc = .ok (.invokevirtual index, 3))
    (hpre : ∀ vm₁, s.WarmedH vm₁ → Pre ⟨T.setVm vm₁, locs, cells, slots⟩ (Value.ref b :: argsL).toArray) :
    ∃ (v : Option Value) (vm₁ : Vm) (B : Pt), s.WarmedH vm₁ ∧ Stand p l e R s m args below meth c B.U B.locs B.cells B.slots ∧ Post ⟨T.setVm vm₁, locs, cells, slots⟩ (Value.ref b :: argsL).toArray v B ∧
      ∀ target, Steps p.tables e below (B.U.setTop { g with pc := g.pc + 3, stack := v.toList ++ rest }) target → Steps p.tables e below (T.setTop g) target := by
  obtain ⟨mk, methM, hnamed, hmethM, hstM, habM⟩ := Cond.instanceMethod_spec hinst
  obtain ⟨m8, methM', cM, hn8, hmethM', -, -, -, -, -, -, hsigM⟩ := Cond.codeWith_spec hcode
  cases Option.some.inj (hn8.symm.trans hnamed)
  cases hmethM.symm.trans hmethM'
  obtain ⟨c2, r2, m2, q1, q2, q3, q4, kP, hkP, hkPi⟩ := Cond.selects_spec hsel
  cases hcls.symm.trans q1
  cases (State.methodFound?_of_named hnamed hy).symm.trans q2
  cases hnamed.symm.trans q3
  have hselP : selectMethod e.platform s.vm cellB.cls mk = .method mk := by rw [Launch.admits_selectMethod X.admits]; exact q4
  obtain ⟨vm₁, X₁, hstep₁⟩ := X.invokevirtual hexec hown hlink hnamed hmethM hstM hkP hkPi hy (a := b) (cell := cellB) hcell
    (fun z h => by rw [h] at hobj; cases hobj) hselP hmethM habM hkP hkPi (g := g) hg (argsL := argsL) (rest := rest) (hlen _ hsigM) hstack hdg
  obtain ⟨v, B, X', hpost, hsteps⟩ := hK m meth c ⟨T.setVm vm₁, locs, cells, slots⟩ { g with stack := rest } (.invokevirtual index) mk (Value.ref b :: argsL).toArray X₁ hg hsize hdg hW (X₁.named hnamed) (hpre vm₁ X₁.warmed)
  exact ⟨v, vm₁, B, X₁.warmed, X', hpost, fun target h => hstep₁ _ fun acts => by rw [doInvoke_state]; exact hsteps.trans h⟩
abbrev vx_CVW (R : Room) (s : State) (args : Array Value) (own C : String) (index : Nat) (y : MethodName) (bytes : ByteArray) (maxL : Nat) (ret : Option FieldType) (hh : List (Nat × Nat × Nat × Nat)) (ws : List Cond) (rm : Room) (mc ms n : Nat) : Prop :=
  (rm.cells = mc ∧ rm.slots = ms ∧ rm.frames + 1 ≤ R.frames ∧ 8 + (maxL + 11) + rm.locals ≤ R.locals ∧ (∀ w ∈ ws, ∀ (a' : Array Value) (U : State), s.WarmedH U.vm → w.before a' U = true) ∧ Cond.codeWith y bytes maxL ret hh ∈ ws) ∧
  (Cond.codeWith y bytes maxL ret hh).before args s = true ∧ (Cond.initialized y.cls).before args s = true ∧ (y.cls ≠ "java/lang/invoke/MethodHandle" ∧ y.cls ≠ "java/lang/invoke/VarHandle") ∧
  (∀ sig, parseMethodDescriptor y.desc = some sig → n = sig.parameters.length) ∧ (Cond.methodLink own index y).before args s = true ∧ (Cond.instanceMethod y).before args s = true ∧ (Cond.selects C y y).before args s = true
theorem vx_cwVW {own C : String} {index maxL mc ms : Nat} {y : MethodName} {bytes : ByteArray} {ret : Option FieldType} {hh : List (Nat × Nat × Nat × Nat)} {Ts ws ws' : List Cond} {rm : Room} (n : Nat) (ht : ∀ w ∈ Ts, w.before args s = true) (hT : GoodIn Ts (wsV own index C y ws)) (hw : ws = Cond.codeWith y bytes maxL ret hh :: ws') (hrc : rm.cells = mc) (hrs : rm.slots = ms)
    (hd : y.cls = C ∧ y.cls ≠ "java/lang/invoke/MethodHandle" ∧ y.cls ≠ "java/lang/invoke/VarHandle" ∧ (parseMethodDescriptor y.desc).map (fun d => d.parameters.length) = some n) (hR : rm.frames + 1 ≤ R.frames ∧ 8 + (maxL + 11) + rm.locals ≤ R.locals) :
    vx_CVW R s args own C index y bytes maxL ret hh ws rm mc ms n := by
  obtain ⟨hC, hd⟩ := hd
  subst hC
  have ok : ∀ w ∈ wsV own index y.cls y ws, w.before args s = true := fun w h => ht w (hT w h).1
  have hG : GoodIn Ts ws := fun w h => hT w (by unfold wsV; exact List.mem_append_right _ h)
  have hc : Cond.codeWith y bytes maxL ret hh ∈ ws := by rw [hw]; exact List.mem_cons_self
  refine ⟨⟨hrc, hrs, hR.1, hR.2, pay_in ht hG, hc⟩, ht _ (hG _ hc).1, ok _ (by simp [wsV]), ⟨hd.1, hd.2.1⟩, fun sig h => ?_, ok _ (by simp [wsV]), ok _ (by simp [wsV]), ok _ (by simp [wsV])⟩
  have h2 := hd.2.2
  rw [h] at h2
  exact (Option.some.inj h2).symm
theorem vx_runVW {y : MethodName} {bytes cc : ByteArray} {maxL nL mc ms n index : Nat} {ret : Option FieldType} {hh : List (Nat × Nat × Nat × Nat)} {ws : List Cond} {rm : Room} {Pc : Array Value → State → Prop} {Qc : Array Value → State → Outcome → State → Prop} {free : Addr → Prop} {Ts : List Cond} {own C : String} {b : Addr} {As rest : List Value} {g : JFrame}
    (S : CallFix p m c cc nL s args Ts own) (hM : Met l y ws rm Pc Qc mc ms free) (cw : vx_CVW R s args own C index y bytes maxL ret hh ws rm mc ms n) (hp : PreV s H C b Pc As)
    (hg : g.method = m) (hn : As.length = n) (hsize : g.locals.size = nL) (hstack : g.stack = As.reverse ++ .ref b :: rest) (hW : 2 * g.monitorRoom + (rest.map fun v => v.category).sum ≤ 8) (hdg : decode cc g.pc = .ok (.invokevirtual index, 3)) (hf : cells + mc ≤ R.cells ∧ slots + ms ≤ R.slots) :
    va_Run p l e R s m args below meth c H locs cells slots mc ms g rest (Qc (Value.ref b :: As).toArray) free := by
  obtain ⟨⟨hrc, hrs, hfr, hlo, hws, hcw⟩, hcode, hini, hy, hlen, hl, hin, hse⟩ := cw
  have hK : Back l R p e below s args y 3 8 (PreOf R mc ms Pc) (PostOf Qc mc ms free) := va_backW (hh := hh) (bytes := bytes) (maxL := maxL) (ret := ret) hM hp.1 hrc hrs hfr hlo hws hcw (fun a' U hW => word_at hW (Or.inl (by first | rfl | simp [Cond.onTables, Cond.keeps, Cond.steady])) hini)
  obtain ⟨hx, hb, hml, ho, -⟩ := S
  obtain ⟨-, ⟨cellB, hcB, hoB, hclB⟩, hPc⟩ := hp
  intro T hT X
  obtain ⟨v, vm₁, ⟨U', l2, c2, s2⟩, hW₁, X', ⟨g', mk, t, L, e1, e2, hq, h1, hL, h2, h3⟩, st⟩ := vx_callVW X hx (C := C) (hh := hh) (bytes := bytes) (maxL := maxL) (ret := ret) ho hl hin hse hcode hy hK (by rw [hT]; exact hcB) hoB hclB hg (hsize.trans hml.symm) (argsL := As) (rest := rest) (fun sig h => hn.trans (hlen sig h)) hstack hW (by rw [hb]; exact hdg)
    (fun vm₁ hW₁ => ⟨hf.1, hf.2, hPc (T.setVm vm₁) hT hW₁⟩)
  dsimp only [Pt.U, Pt.locs, Pt.cells, Pt.slots] at X' e1 e2 h1 h2 h3 st
  subst h1; subst h2; subst h3
  exact ⟨v, (T.setVm vm₁).calling g' mk (Value.ref b :: As).toArray, t, U', L, hT, X', hL, e1, e2, hq, st⟩
section
variable {y : MethodName} {bytes cc : ByteArray} {maxL nL mc ms n index : Nat} {ret : Option FieldType} {ws : List Cond} {rm : Room} {Pc : Array Value → State → Prop} {Qc : Array Value → State → Outcome → State → Prop} {XC : String → State → State → Prop} {free : Addr → Prop} {Ts : List Cond} {own C : String} {b : Addr} {As rest : List Value} {g : JFrame}
theorem vx_runVX {hh : List (Nat × Nat × Nat × Nat)} (S : CallFix p m c cc nL s args Ts own) (hM : vx_Met l y ws rm Pc Qc XC mc ms free) (cw : vx_CVW R s args own C index y bytes maxL ret hh ws rm mc ms n) (hp : PreV s H C b Pc As)
    (hg : g.method = m) (hn : As.length = n) (hsize : g.locals.size = nL) (hstack : g.stack = As.reverse ++ .ref b :: rest) (hW : 2 * g.monitorRoom + (rest.map fun v => v.category).sum ≤ 8) (hdg : decode cc g.pc = .ok (.invokevirtual index, 3)) (hf : cells + mc ≤ R.cells ∧ slots + ms ≤ R.slots) :
    vx_Run p l e R s m args below meth c H locs cells slots mc ms g rest (Qc (Value.ref b :: As).toArray) XC free := by
  obtain ⟨⟨hrc, hrs, hfr, hlo, hws, hcw⟩, hcode, hini, hy, hlen, hl, hin, hse⟩ := cw
  have hK : vx_Back l R p e below s args y 3 8 (PreOf R mc ms Pc) (PostOf Qc mc ms free) (vx_Post XC mc ms free) := vx_backW (hh := hh) (bytes := bytes) (maxL := maxL) (ret := ret) hM hp.1 hrc hrs hfr hlo hws hcw (fun a' U hW => word_at hW (Or.inl (by first | rfl | simp [Cond.onTables, Cond.keeps, Cond.steady])) hini)
  obtain ⟨hx, hb, hml, ho, -⟩ := S
  obtain ⟨-, ⟨cellB, hcB, hoB, hclB⟩, hPc⟩ := hp
  intro T hT X
  rcases vx_callVX X hx (C := C) (hh := hh) (bytes := bytes) (maxL := maxL) (ret := ret) ho hl hin hse hcode hy hK (by rw [hT]; exact hcB) hoB hclB hg (hsize.trans hml.symm) (argsL := As) (rest := rest) (fun sig h => hn.trans (hlen sig h)) hstack hW (by rw [hb]; exact hdg)
    (fun vm₁ hW₁ => ⟨hf.1, hf.2, hPc (T.setVm vm₁) hT hW₁⟩) with ⟨v, vm₁, ⟨U', l2, c2, s2⟩, hW₁, X', ⟨g', mk, t, L, e1, e2, hq, h1, hL, h2, h3⟩, st⟩ | ⟨q, vm₁, ⟨U', l2, c2, s2⟩, hW₁, X', ⟨g', mk, t, L, E, ce, e1, e2, hq, hce, hcv, hcl, h1, hL, h2, h3⟩, st⟩
  · dsimp only [Pt.U, Pt.locs, Pt.cells, Pt.slots] at X' e1 e2 h1 h2 h3 st
    subst h1; subst h2; subst h3
    exact Or.inl ⟨v, (T.setVm vm₁).calling g' mk (Value.ref b :: As).toArray, t, U', L, hT, X', hL, e1, e2, hq, st⟩
  · dsimp only [Pt.U, Pt.locs, Pt.cells, Pt.slots] at X' e1 e2 h1 h2 h3 st hcl
    subst h1; subst h2; subst h3
    exact Or.inr ⟨q, (T.setVm vm₁).calling g' mk (Value.ref b :: As).toArray, t, U', L, E, ce, hT, X', hL, e1, e2, hq, hce, hcv, vx_cls hW₁ hcl, st⟩
theorem vx_runSX {hh : List (Nat × Nat × Nat × Nat)} (S : CallFix p m c cc nL s args Ts own) (hM : vx_Met l y ws rm Pc Qc XC mc ms free) (cw : vx_CSW R s args own index y bytes maxL ret hh ws rm mc ms n) (hp : PreS s H Pc As)
    (hg : g.method = m) (hn : As.length = n) (hsize : g.locals.size = nL) (hstack : g.stack = As.reverse ++ rest) (hW : 2 * g.monitorRoom + (rest.map fun v => v.category).sum ≤ 8) (hdg : decode cc g.pc = .ok (.invokestatic index, 3)) (hf : cells + mc ≤ R.cells ∧ slots + ms ≤ R.slots) :
    vx_Run p l e R s m args below meth c H locs cells slots mc ms g rest (Qc As.toArray) XC free := by
  obtain ⟨⟨hrc, hrs, hfr, hlo, hws, hcw⟩, hcode, hini, hy, hlen, hl, hstt⟩ := cw
  have hK : vx_Back l R p e below s args y 3 8 (PreOf R mc ms Pc) (PostOf Qc mc ms free) (vx_Post XC mc ms free) := vx_backW (hh := hh) (bytes := bytes) (maxL := maxL) (ret := ret) hM hp.1 hrc hrs hfr hlo hws hcw (fun a' U hW => word_at hW (Or.inl (by first | rfl | simp [Cond.onTables, Cond.keeps, Cond.steady])) hini)
  obtain ⟨hx, hb, hml, ho, -⟩ := S
  intro T hT X
  rcases vx_callSX X hx (hh := hh) (bytes := bytes) (maxL := maxL) (ret := ret) ho hl hstt hini hcode hy hK hg (hsize.trans hml.symm) (argsL := As) (rest := rest) (fun sig h => hn.trans (hlen sig h)) hstack hW (by rw [hb]; exact hdg)
    (fun vm₁ hW₁ => ⟨hf.1, hf.2, hp.2 (T.setVm vm₁) hT hW₁⟩) with ⟨v, vm₁, ⟨U', l2, c2, s2⟩, hW₁, X', ⟨g', mk, t, L, e1, e2, hq, h1, hL, h2, h3⟩, st⟩ | ⟨q, vm₁, ⟨U', l2, c2, s2⟩, hW₁, X', ⟨g', mk, t, L, E, ce, e1, e2, hq, hce, hcv, hcl, h1, hL, h2, h3⟩, st⟩
  · dsimp only [Pt.U, Pt.locs, Pt.cells, Pt.slots] at X' e1 e2 h1 h2 h3 st
    subst h1; subst h2; subst h3
    exact Or.inl ⟨v, (T.setVm vm₁).calling g' mk As.toArray, t, U', L, hT, X', hL, e1, e2, hq, st⟩
  · dsimp only [Pt.U, Pt.locs, Pt.cells, Pt.slots] at X' e1 e2 h1 h2 h3 st hcl
    subst h1; subst h2; subst h3
    exact Or.inr ⟨q, (T.setVm vm₁).calling g' mk As.toArray, t, U', L, E, ce, hT, X', hL, e1, e2, hq, hce, hcv, vx_cls hW₁ hcl, st⟩
end
end VXH
theorem vx_ofWH {l : Launch} {y : MethodName} {ws ws' : List Cond} {rm : Room} {Pc : Array Value → State → Prop} {Qc : Array Value → State → Outcome → State → Prop} {XC : String → State → State → Prop} {mc ms : Nat} {free : Addr → Prop} {cc : ByteArray} {maxL : Nat} {ret : Option FieldType} {hh : List (Nat × Nat × Nat × Nat)}
    (hy : plainName y.cls = true) (hw : ws = Cond.codeWith y cc maxL ret hh :: ws')
    (body : ∀ p e s m args below meth c s₁, BodyLoose p l y (headSpec ws rm) cc maxL ret e s m args below meth c s₁ → c.maxLocals = maxL → Pc args s →
      W p l e (headSpec ws rm).room s m args below meth c s.heap [] 0 0 (vx_MQ below Qc XC args s mc ms free) (entryFrame m args maxL)) : vx_Met l y ws rm Pc Qc XC mc ms free := by
  refine MetFree.of_bodyS (code := cc) (maxLocals := maxL) (ret := ret) hy ?_ ?_
  · intro args s m h hn
    obtain ⟨m9, meth, c, hn9, h1, h2, h3, h4, -, h5, h6, -⟩ := Cond.codeWith_spec (atoms_spec (ws := ws) h _ (by rw [hw]; exact List.mem_cons_self))
    cases hn.symm.trans hn9
    exact ⟨meth, c, h1, h2, h3, h4, h5, h6⟩
  · intro p e s m args below meth c s₁ B hml hP _
    have hh0 : s₁.heap = s.heap := by rw [B.state]; rfl
    obtain ⟨t, a1, o, b1, b2, b3⟩ := body p e s m args below meth c s₁ B hml hP s₁ hh0 (Stand.of_body B)
    exact ⟨t, o, a1, b1, b2, b3⟩
/-! ===== END ===== -/
end
section
def RX0 : String := "ChairLift$Chair"
def TX0 : u_T := fun k => match k with
  | 0 => ("ChairLift$Chair", "seats", "I", false)
  | 1 => ("ChairLift$Chair", "place", "I", false)
  | 2 => ("ChairLift$Chair", "riders", "I", false)
  | 3 => ("ChairLift$Chair", "groups", "I", false)
  | _ => ("ChairLift$Chair", "taken", "I", false)
def tyX0 : Nat → FieldType := fun k => match k with
  | 0 => .int
  | 1 => .int
  | 2 => .int
  | 3 => .int
  | _ => .int
abbrev wsX00 : List Cond := u_ws RX0 TX0 5
theorem nmX0 : ∀ a, a < 5 → ∀ b, b < 5 → a ≠ b → (TX0 a).2.1 ≠ (TX0 b).2.1 := by decide +kernel
theorem tyX0_ok : ∀ k, k < 5 → parseFieldDescriptor (TX0 k).2.2.1 = some (tyX0 k) := by decide +kernel
abbrev cX0_init : ByteArray := prog_2_method_1_code
def yX0_init : MethodName := ⟨RX0, "<init>", "()V"⟩
abbrev cX0_fact : ByteArray := prog_2_method_2_code
def yX0_fact : MethodName := ⟨RX0, "fact", "(I)I"⟩
abbrev cX0_copyFrom : ByteArray := prog_2_method_3_code
def yX0_copyFrom : MethodName := ⟨RX0, "copyFrom", "(LChairLift$Chair;)V"⟩
def RX1 : String := "ChairLift$Group"
def TX1 : u_T := fun k => match k with
  | 0 => ("ChairLift$Group", "size", "I", false)
  | 1 => ("ChairLift$Group", "patience", "I", false)
  | 2 => ("ChairLift$Group", "state", "I", false)
  | 3 => ("ChairLift$Group", "lane", "I", false)
  | 4 => ("ChairLift$Group", "chair", "I", false)
  | 5 => ("ChairLift$Group", "joinedAt", "I", false)
  | 6 => ("ChairLift$Group", "upAt", "I", false)
  | _ => ("ChairLift$Group", "colder", "I", false)
def tyX1 : Nat → FieldType := fun k => match k with
  | 0 => .int
  | 1 => .int
  | 2 => .int
  | 3 => .int
  | 4 => .int
  | 5 => .int
  | 6 => .int
  | _ => .int
abbrev wsX10 : List Cond := u_ws RX1 TX1 8
theorem nmX1 : ∀ a, a < 8 → ∀ b, b < 8 → a ≠ b → (TX1 a).2.1 ≠ (TX1 b).2.1 := by decide +kernel
theorem tyX1_ok : ∀ k, k < 8 → parseFieldDescriptor (TX1 k).2.2.1 = some (tyX1 k) := by decide +kernel
abbrev cX1_init : ByteArray := prog_3_method_1_code
def yX1_init : MethodName := ⟨RX1, "<init>", "()V"⟩
abbrev cX1_fact : ByteArray := prog_3_method_2_code
def yX1_fact : MethodName := ⟨RX1, "fact", "(I)I"⟩
abbrev cX1_start : ByteArray := prog_3_method_3_code
def yX1_start : MethodName := ⟨RX1, "start", "(III)V"⟩
abbrev cX1_copyFrom : ByteArray := prog_3_method_4_code
def yX1_copyFrom : MethodName := ⟨RX1, "copyFrom", "(LChairLift$Group;)V"⟩
def RX2 : String := "ChairLift$Lane"
def TX2 : u_T := fun k => match k with
  | 0 => ("ChairLift$Lane", "queue", "LChairLift$Row;", true)
  | 1 => ("ChairLift$Lane", "isShut", "Z", false)
  | _ => ("ChairLift$Lane", "taken", "I", false)
def tyX2 : Nat → FieldType := fun k => match k with
  | 0 => .object "ChairLift$Row"
  | 1 => .boolean
  | _ => .int
abbrev wsX20 : List Cond := u_ws RX2 TX2 3
theorem nmX2 : ∀ a, a < 3 → ∀ b, b < 3 → a ≠ b → (TX2 a).2.1 ≠ (TX2 b).2.1 := by decide +kernel
theorem tyX2_ok : ∀ k, k < 3 → parseFieldDescriptor (TX2 k).2.2.1 = some (tyX2 k) := by decide +kernel
abbrev cX2_init : ByteArray := prog_4_method_1_code
def yX2_init : MethodName := ⟨RX2, "<init>", "()V"⟩
abbrev cX2_copyFrom : ByteArray := prog_4_method_2_code
def yX2_copyFrom : MethodName := ⟨RX2, "copyFrom", "(LChairLift$Lane;)V"⟩
def RX3 : String := "ChairLift$Lift"
def TX3 : u_T := fun k => match k with
  | 0 => ("ChairLift$Lift", "winds", "[I", true)
  | 1 => ("ChairLift$Lift", "chairs", "[LChairLift$Chair;", true)
  | 2 => ("ChairLift$Lift", "lanes", "[LChairLift$Lane;", true)
  | 3 => ("ChairLift$Lift", "groups", "[LChairLift$Group;", true)
  | 4 => ("ChairLift$Lift", "shed", "LChairLift$Row;", true)
  | 5 => ("ChairLift$Lift", "chairCount", "I", false)
  | 6 => ("ChairLift$Lift", "laneCount", "I", false)
  | 7 => ("ChairLift$Lift", "groupCount", "I", false)
  | 8 => ("ChairLift$Lift", "half", "I", false)
  | 9 => ("ChairLift$Lift", "wanted", "I", false)
  | 10 => ("ChairLift$Lift", "turn", "I", false)
  | 11 => ("ChairLift$Lift", "step", "I", false)
  | 12 => ("ChairLift$Lift", "stood", "I", false)
  | _ => ("ChairLift$Lift", "loadings", "I", false)
def tyX3 : Nat → FieldType := fun k => match k with
  | 0 => .array .int
  | 1 => .array (.object "ChairLift$Chair")
  | 2 => .array (.object "ChairLift$Lane")
  | 3 => .array (.object "ChairLift$Group")
  | 4 => .object "ChairLift$Row"
  | 5 => .int
  | 6 => .int
  | 7 => .int
  | 8 => .int
  | 9 => .int
  | 10 => .int
  | 11 => .int
  | 12 => .int
  | _ => .int
abbrev wsX30 : List Cond := u_ws RX3 TX3 14
theorem nmX3 : ∀ a, a < 14 → ∀ b, b < 14 → a ≠ b → (TX3 a).2.1 ≠ (TX3 b).2.1 := by decide +kernel
theorem tyX3_ok : ∀ k, k < 14 → parseFieldDescriptor (TX3 k).2.2.1 = some (tyX3 k) := by decide +kernel
abbrev cX3_init : ByteArray := prog_5_method_1_code
def yX3_init : MethodName := ⟨RX3, "<init>", "()V"⟩
abbrev cX3_copyFrom : ByteArray := prog_5_method_2_code
def yX3_copyFrom : MethodName := ⟨RX3, "copyFrom", "(LChairLift$Lift;)V"⟩
abbrev cX3_makeChair : ByteArray := prog_5_method_3_code
def yX3_makeChair : MethodName := ⟨RX3, "makeChair", "(I)I"⟩
abbrev cX3_makeLane : ByteArray := prog_5_method_4_code
def yX3_makeLane : MethodName := ⟨RX3, "makeLane", "()I"⟩
abbrev cX3_makeGroup : ByteArray := prog_5_method_5_code
def yX3_makeGroup : MethodName := ⟨RX3, "makeGroup", "(III)I"⟩
abbrev cX3_putIntoQueue : ByteArray := prog_5_method_6_code
def yX3_putIntoQueue : MethodName := ⟨RX3, "putIntoQueue", "(II)V"⟩
abbrev cX3_takeOutOfQueue : ByteArray := prog_5_method_7_code
def yX3_takeOutOfQueue : MethodName := ⟨RX3, "takeOutOfQueue", "(I)V"⟩
abbrev cX3_sendAway : ByteArray := prog_5_method_8_code
def yX3_sendAway : MethodName := ⟨RX3, "sendAway", "(I)V"⟩
abbrev cX3_goSteps : ByteArray := prog_5_method_9_code
def yX3_goSteps : MethodName := ⟨RX3, "goSteps", "(I)I"⟩
abbrev cX3_stepsUntilUp : ByteArray := prog_5_method_10_code
def yX3_stepsUntilUp : MethodName := ⟨RX3, "stepsUntilUp", "(II)I"⟩
abbrev cX3_goOneStep : ByteArray := prog_5_method_11_code
def yX3_goOneStep : MethodName := ⟨RX3, "goOneStep", "()I"⟩
abbrev cX3_ropeStands : ByteArray := prog_5_method_12_code
def yX3_ropeStands : MethodName := ⟨RX3, "ropeStands", "(I)Z"⟩
abbrev cX3_coolRiders : ByteArray := prog_5_method_13_code
def yX3_coolRiders : MethodName := ⟨RX3, "coolRiders", "()V"⟩
abbrev cX3_moveRope : ByteArray := prog_5_method_14_code
def yX3_moveRope : MethodName := ⟨RX3, "moveRope", "()V"⟩
abbrev cX3_unloadAtTop : ByteArray := prog_5_method_15_code
def yX3_unloadAtTop : MethodName := ⟨RX3, "unloadAtTop", "()I"⟩
abbrev cX3_exchangeAtValley : ByteArray := prog_5_method_16_code
def yX3_exchangeAtValley : MethodName := ⟨RX3, "exchangeAtValley", "()V"⟩
abbrev cX3_loadAtValley : ByteArray := prog_5_method_17_code
def yX3_loadAtValley : MethodName := ⟨RX3, "loadAtValley", "()V"⟩
abbrev cX3_groupToBoard : ByteArray := prog_5_method_18_code
def yX3_groupToBoard : MethodName := ⟨RX3, "groupToBoard", "(I)I"⟩
abbrev cX3_board : ByteArray := prog_5_method_19_code
def yX3_board : MethodName := ⟨RX3, "board", "(II)V"⟩
abbrev cX3_laneBehind : ByteArray := prog_5_method_20_code
def yX3_laneBehind : MethodName := ⟨RX3, "laneBehind", "(I)I"⟩
abbrev cX3_sendImpatientAway : ByteArray := prog_5_method_21_code
def yX3_sendImpatientAway : MethodName := ⟨RX3, "sendImpatientAway", "()V"⟩
abbrev cX3_chairAt : ByteArray := prog_5_method_22_code
def yX3_chairAt : MethodName := ⟨RX3, "chairAt", "(I)I"⟩
abbrev cX3_chairsOnRope : ByteArray := prog_5_method_23_code
def yX3_chairsOnRope : MethodName := ⟨RX3, "chairsOnRope", "()I"⟩
abbrev cX3_peopleWho : ByteArray := prog_5_method_24_code
def yX3_peopleWho : MethodName := ⟨RX3, "peopleWho", "(I)I"⟩
abbrev cX3_peopleInQueueOf : ByteArray := prog_5_method_25_code
def yX3_peopleInQueueOf : MethodName := ⟨RX3, "peopleInQueueOf", "(I)I"⟩
abbrev cX3_coldness : ByteArray := prog_5_method_26_code
def yX3_coldness : MethodName := ⟨RX3, "coldness", "()I"⟩
abbrev cX3_ridersTaken : ByteArray := prog_5_method_27_code
def yX3_ridersTaken : MethodName := ⟨RX3, "ridersTaken", "()I"⟩
abbrev cX3_laneFact : ByteArray := prog_5_method_28_code
def yX3_laneFact : MethodName := ⟨RX3, "laneFact", "(II)I"⟩
abbrev cX3_fact : ByteArray := prog_5_method_29_code
def yX3_fact : MethodName := ⟨RX3, "fact", "(I)I"⟩
def RX4 : String := "ChairLift$Row"
def TX4 : u_T := fun k => match k with
  | 0 => ("ChairLift$Row", "items", "[I", true)
  | _ => ("ChairLift$Row", "size", "I", false)
def tyX4 : Nat → FieldType := fun k => match k with
  | 0 => .array .int
  | _ => .int
abbrev wsX40 : List Cond := u_ws RX4 TX4 2
theorem nmX4 : ∀ a, a < 2 → ∀ b, b < 2 → a ≠ b → (TX4 a).2.1 ≠ (TX4 b).2.1 := by decide +kernel
theorem tyX4_ok : ∀ k, k < 2 → parseFieldDescriptor (TX4 k).2.2.1 = some (tyX4 k) := by decide +kernel
abbrev cX4_init : ByteArray := prog_6_method_1_code
def yX4_init : MethodName := ⟨RX4, "<init>", "(I)V"⟩
abbrev cX4_first : ByteArray := prog_6_method_2_code
def yX4_first : MethodName := ⟨RX4, "first", "()I"⟩
abbrev cX4_append : ByteArray := prog_6_method_3_code
def yX4_append : MethodName := ⟨RX4, "append", "(I)V"⟩
abbrev cX4_remove : ByteArray := prog_6_method_4_code
def yX4_remove : MethodName := ⟨RX4, "remove", "(I)V"⟩
abbrev cX4_copyFrom : ByteArray := prog_6_method_5_code
def yX4_copyFrom : MethodName := ⟨RX4, "copyFrom", "(LChairLift$Row;)V"⟩
def RX5 : String := "ChairLift"
def TX5 : u_T := fun k => match k with
  | 0 => ("ChairLift", "lift", "LChairLift$Lift;", true)
  | _ => ("ChairLift", "trial", "LChairLift$Lift;", true)
def tyX5 : Nat → FieldType := fun k => match k with
  | 0 => .object "ChairLift$Lift"
  | _ => .object "ChairLift$Lift"
abbrev wsX50 : List Cond := u_ws RX5 TX5 2
theorem nmX5 : ∀ a, a < 2 → ∀ b, b < 2 → a ≠ b → (TX5 a).2.1 ≠ (TX5 b).2.1 := by decide +kernel
theorem tyX5_ok : ∀ k, k < 2 → parseFieldDescriptor (TX5 k).2.2.1 = some (tyX5 k) := by decide +kernel
abbrev cX5_init : ByteArray := prog_1_method_1_code
def yX5_init : MethodName := ⟨RX5, "<init>", "()V"⟩
abbrev cX5_stretch : ByteArray := prog_1_method_2_code
def yX5_stretch : MethodName := ⟨RX5, "stretch", "(I)I"⟩
abbrev cX5_addChair : ByteArray := prog_1_method_3_code
def yX5_addChair : MethodName := ⟨RX5, "addChair", "(I)I"⟩
abbrev cX5_want : ByteArray := prog_1_method_4_code
def yX5_want : MethodName := ⟨RX5, "want", "(I)I"⟩
abbrev cX5_addLane : ByteArray := prog_1_method_5_code
def yX5_addLane : MethodName := ⟨RX5, "addLane", "()I"⟩
abbrev cX5_shut : ByteArray := prog_1_method_6_code
def yX5_shut : MethodName := ⟨RX5, "shut", "(IZ)Z"⟩
abbrev cX5_setWind : ByteArray := prog_1_method_7_code
def yX5_setWind : MethodName := ⟨RX5, "setWind", "(II)I"⟩
abbrev cX5_join : ByteArray := prog_1_method_8_code
def yX5_join : MethodName := ⟨RX5, "join", "(III)I"⟩
abbrev cX5_change : ByteArray := prog_1_method_9_code
def yX5_change : MethodName := ⟨RX5, "change", "(II)I"⟩
abbrev cX5_leave : ByteArray := prog_1_method_10_code
def yX5_leave : MethodName := ⟨RX5, "leave", "(I)I"⟩
abbrev cX5_group : ByteArray := prog_1_method_11_code
def yX5_group : MethodName := ⟨RX5, "group", "(II)I"⟩
abbrev cX5_chair : ByteArray := prog_1_method_12_code
def yX5_chair : MethodName := ⟨RX5, "chair", "(II)I"⟩
abbrev cX5_lane : ByteArray := prog_1_method_13_code
def yX5_lane : MethodName := ⟨RX5, "lane", "(II)I"⟩
abbrev cX5_queue : ByteArray := prog_1_method_14_code
def yX5_queue : MethodName := ⟨RX5, "queue", "(II)I"⟩
abbrev cX5_shed : ByteArray := prog_1_method_15_code
def yX5_shed : MethodName := ⟨RX5, "shed", "(I)I"⟩
abbrev cX5_pass : ByteArray := prog_1_method_16_code
def yX5_pass : MethodName := ⟨RX5, "pass", "(I)I"⟩
abbrev cX5_count : ByteArray := prog_1_method_17_code
def yX5_count : MethodName := ⟨RX5, "count", "(I)I"⟩
abbrev cX5_foresee : ByteArray := prog_1_method_18_code
def yX5_foresee : MethodName := ⟨RX5, "foresee", "(II)I"⟩
abbrev cX5_when : ByteArray := prog_1_method_19_code
def yX5_when : MethodName := ⟨RX5, "when", "(I)I"⟩
abbrev cX5_advise : ByteArray := prog_1_method_20_code
def yX5_advise : MethodName := ⟨RX5, "advise", "(I)I"⟩
abbrev cX5_needs : ByteArray := prog_1_method_21_code
def yX5_needs : MethodName := ⟨RX5, "needs", "(II)I"⟩
abbrev cX5_mean : ByteArray := prog_1_method_22_code
def yX5_mean : MethodName := ⟨RX5, "mean", "()D"⟩
abbrev cX5_digest : ByteArray := prog_1_method_23_code
def yX5_digest : MethodName := ⟨RX5, "digest", "()J"⟩
abbrev cX5_isWithin : ByteArray := prog_1_method_24_code
def yX5_isWithin : MethodName := ⟨RX5, "isWithin", "(III)Z"⟩
abbrev cX5_isBelow : ByteArray := prog_1_method_25_code
def yX5_isBelow : MethodName := ⟨RX5, "isBelow", "(II)Z"⟩
abbrev cX5_isLane : ByteArray := prog_1_method_26_code
def yX5_isLane : MethodName := ⟨RX5, "isLane", "(I)Z"⟩
abbrev cX5_isGroup : ByteArray := prog_1_method_27_code
def yX5_isGroup : MethodName := ⟨RX5, "isGroup", "(I)Z"⟩
abbrev cX5_requireIndex : ByteArray := prog_1_method_28_code
def yX5_requireIndex : MethodName := ⟨RX5, "requireIndex", "(Z)V"⟩
abbrev cX5_requireArgument : ByteArray := prog_1_method_29_code
def yX5_requireArgument : MethodName := ⟨RX5, "requireArgument", "(Z)V"⟩
abbrev cX5_requireState : ByteArray := prog_1_method_30_code
def yX5_requireState : MethodName := ⟨RX5, "requireState", "(Z)V"⟩
abbrev cX5_mixed : ByteArray := prog_1_method_31_code
def yX5_mixed : MethodName := ⟨RX5, "mixed", "(JJ)J"⟩
abbrev cX5_mixedWithRow : ByteArray := prog_1_method_32_code
def yX5_mixedWithRow : MethodName := ⟨RX5, "mixedWithRow", "(JLChairLift$Row;)J"⟩
abbrev cX5_mixedWithGroups : ByteArray := prog_1_method_33_code
def yX5_mixedWithGroups : MethodName := ⟨RX5, "mixedWithGroups", "(J)J"⟩
abbrev cX5_mixedWithChairs : ByteArray := prog_1_method_34_code
def yX5_mixedWithChairs : MethodName := ⟨RX5, "mixedWithChairs", "(J)J"⟩
abbrev cX5_mixedWithLanes : ByteArray := prog_1_method_35_code
def yX5_mixedWithLanes : MethodName := ⟨RX5, "mixedWithLanes", "(J)J"⟩
def RX6 : String := "ChairLiftModel$State"
def TX6 : u_T := fun k => match k with
  | 0 => ("ChairLiftModel$State", "step", "I", false)
  | 1 => ("ChairLiftModel$State", "wanted", "I", false)
  | 2 => ("ChairLiftModel$State", "turn", "I", false)
  | 3 => ("ChairLiftModel$State", "groups", "I", false)
  | 4 => ("ChairLiftModel$State", "stood", "I", false)
  | 5 => ("ChairLiftModel$State", "cold", "I", false)
  | 6 => ("ChairLiftModel$State", "riders", "I", false)
  | 7 => ("ChairLiftModel$State", "loads", "I", false)
  | 8 => ("ChairLiftModel$State", "inShed", "I", false)
  | 9 => ("ChairLiftModel$State", "shed", "[I", true)
  | 10 => ("ChairLiftModel$State", "place", "[I", true)
  | 11 => ("ChairLiftModel$State", "taken", "[I", true)
  | 12 => ("ChairLiftModel$State", "took", "[I", true)
  | 13 => ("ChairLiftModel$State", "queued", "[I", true)
  | 14 => ("ChairLiftModel$State", "queue", "[I", true)
  | 15 => ("ChairLiftModel$State", "size", "[I", true)
  | 16 => ("ChairLiftModel$State", "patience", "[I", true)
  | 17 => ("ChairLiftModel$State", "status", "[I", true)
  | 18 => ("ChairLiftModel$State", "at", "[I", true)
  | 19 => ("ChairLiftModel$State", "since", "[I", true)
  | 20 => ("ChairLiftModel$State", "until", "[I", true)
  | 21 => ("ChairLiftModel$State", "colder", "[I", true)
  | _ => ("ChairLiftModel$State", "this$0", "LChairLiftModel;", true)
def tyX6 : Nat → FieldType := fun k => match k with
  | 0 => .int
  | 1 => .int
  | 2 => .int
  | 3 => .int
  | 4 => .int
  | 5 => .int
  | 6 => .int
  | 7 => .int
  | 8 => .int
  | 9 => .array .int
  | 10 => .array .int
  | 11 => .array .int
  | 12 => .array .int
  | 13 => .array .int
  | 14 => .array .int
  | 15 => .array .int
  | 16 => .array .int
  | 17 => .array .int
  | 18 => .array .int
  | 19 => .array .int
  | 20 => .array .int
  | 21 => .array .int
  | _ => .object "ChairLiftModel"
abbrev wsX60 : List Cond := u_ws RX6 TX6 23
theorem nmX6 : ∀ a, a < 23 → ∀ b, b < 23 → a ≠ b → (TX6 a).2.1 ≠ (TX6 b).2.1 := by decide +kernel
theorem tyX6_ok : ∀ k, k < 23 → parseFieldDescriptor (TX6 k).2.2.1 = some (tyX6 k) := by decide +kernel
abbrev cX6_init : ByteArray := prog_9_method_1_code
def yX6_init : MethodName := ⟨RX6, "<init>", "(LChairLiftModel;)V"⟩
abbrev cX6_copy : ByteArray := prog_9_method_2_code
def yX6_copy : MethodName := ⟨RX6, "copy", "([I[I)V"⟩
abbrev cX6_become : ByteArray := prog_9_method_3_code
def yX6_become : MethodName := ⟨RX6, "become", "(LChairLiftModel$State;)V"⟩
abbrev cX6_join : ByteArray := prog_9_method_4_code
def yX6_join : MethodName := ⟨RX6, "join", "(III)I"⟩
abbrev cX6_enter : ByteArray := prog_9_method_5_code
def yX6_enter : MethodName := ⟨RX6, "enter", "(II)I"⟩
abbrev cX6_drop : ByteArray := prog_9_method_6_code
def yX6_drop : MethodName := ⟨RX6, "drop", "(I)I"⟩
abbrev cX6_find : ByteArray := prog_9_method_7_code
def yX6_find : MethodName := ⟨RX6, "find", "(I)I"⟩
abbrev cX6_onRope : ByteArray := prog_9_method_8_code
def yX6_onRope : MethodName := ⟨RX6, "onRope", "()I"⟩
abbrev cX6_load : ByteArray := prog_9_method_9_code
def yX6_load : MethodName := ⟨RX6, "load", "(I)V"⟩
abbrev cX6_chill : ByteArray := prog_9_method_10_code
def yX6_chill : MethodName := ⟨RX6, "chill", "()V"⟩
abbrev cX6_pass : ByteArray := prog_9_method_11_code
def yX6_pass : MethodName := ⟨RX6, "pass", "()I"⟩
abbrev cX6_valley : ByteArray := prog_9_method_12_code
def yX6_valley : MethodName := ⟨RX6, "valley", "()V"⟩
abbrev cX6_people : ByteArray := prog_9_method_13_code
def yX6_people : MethodName := ⟨RX6, "people", "(I)I"⟩
def RX7 : String := "ChairLiftModel"
def TX7 : u_T := fun k => match k with
  | 0 => ("ChairLiftModel", "thrown", "I", false)
  | 1 => ("ChairLiftModel", "half", "I", false)
  | 2 => ("ChairLiftModel", "chairs", "I", false)
  | 3 => ("ChairLiftModel", "lanes", "I", false)
  | 4 => ("ChairLiftModel", "seats", "[I", true)
  | 5 => ("ChairLiftModel", "isShut", "[I", true)
  | 6 => ("ChairLiftModel", "wind", "[I", true)
  | 7 => ("ChairLiftModel", "s", "LChairLiftModel$State;", true)
  | _ => ("ChairLiftModel", "ahead", "LChairLiftModel$State;", true)
def tyX7 : Nat → FieldType := fun k => match k with
  | 0 => .int
  | 1 => .int
  | 2 => .int
  | 3 => .int
  | 4 => .array .int
  | 5 => .array .int
  | 6 => .array .int
  | 7 => .object "ChairLiftModel$State"
  | _ => .object "ChairLiftModel$State"
abbrev wsX70 : List Cond := u_ws RX7 TX7 9
theorem nmX7 : ∀ a, a < 9 → ∀ b, b < 9 → a ≠ b → (TX7 a).2.1 ≠ (TX7 b).2.1 := by decide +kernel
theorem tyX7_ok : ∀ k, k < 9 → parseFieldDescriptor (TX7 k).2.2.1 = some (tyX7 k) := by decide +kernel
abbrev cX7_init : ByteArray := prog_8_method_1_code
def yX7_init : MethodName := ⟨RX7, "<init>", "()V"⟩
abbrev cX7_thrown : ByteArray := prog_8_method_2_code
def yX7_thrown : MethodName := ⟨RX7, "thrown", "()I"⟩
abbrev cX7_no : ByteArray := prog_8_method_3_code
def yX7_no : MethodName := ⟨RX7, "no", "(I)I"⟩
abbrev cX7_isIn : ByteArray := prog_8_method_4_code
def yX7_isIn : MethodName := ⟨RX7, "isIn", "(III)Z"⟩
abbrev cX7_isLane : ByteArray := prog_8_method_5_code
def yX7_isLane : MethodName := ⟨RX7, "isLane", "(I)Z"⟩
abbrev cX7_isGroup : ByteArray := prog_8_method_6_code
def yX7_isGroup : MethodName := ⟨RX7, "isGroup", "(I)Z"⟩
abbrev cX7_stretch : ByteArray := prog_8_method_7_code
def yX7_stretch : MethodName := ⟨RX7, "stretch", "(I)I"⟩
abbrev cX7_addChair : ByteArray := prog_8_method_8_code
def yX7_addChair : MethodName := ⟨RX7, "addChair", "(I)I"⟩
abbrev cX7_want : ByteArray := prog_8_method_9_code
def yX7_want : MethodName := ⟨RX7, "want", "(I)I"⟩
abbrev cX7_addLane : ByteArray := prog_8_method_10_code
def yX7_addLane : MethodName := ⟨RX7, "addLane", "()I"⟩
abbrev cX7_shut : ByteArray := prog_8_method_11_code
def yX7_shut : MethodName := ⟨RX7, "shut", "(IZ)Z"⟩
abbrev cX7_setWind : ByteArray := prog_8_method_12_code
def yX7_setWind : MethodName := ⟨RX7, "setWind", "(II)I"⟩
abbrev cX7_join : ByteArray := prog_8_method_13_code
def yX7_join : MethodName := ⟨RX7, "join", "(III)I"⟩
abbrev cX7_change : ByteArray := prog_8_method_14_code
def yX7_change : MethodName := ⟨RX7, "change", "(II)I"⟩
abbrev cX7_leave : ByteArray := prog_8_method_15_code
def yX7_leave : MethodName := ⟨RX7, "leave", "(I)I"⟩
abbrev cX7_groupTold : ByteArray := prog_8_method_16_code
def yX7_groupTold : MethodName := ⟨RX7, "groupTold", "(II)I"⟩
abbrev cX7_group : ByteArray := prog_8_method_17_code
def yX7_group : MethodName := ⟨RX7, "group", "(II)I"⟩
abbrev cX7_chairTold : ByteArray := prog_8_method_18_code
def yX7_chairTold : MethodName := ⟨RX7, "chairTold", "(II)I"⟩
abbrev cX7_chair : ByteArray := prog_8_method_19_code
def yX7_chair : MethodName := ⟨RX7, "chair", "(II)I"⟩
abbrev cX7_laneTold : ByteArray := prog_8_method_20_code
def yX7_laneTold : MethodName := ⟨RX7, "laneTold", "(II)I"⟩
abbrev cX7_lane : ByteArray := prog_8_method_21_code
def yX7_lane : MethodName := ⟨RX7, "lane", "(II)I"⟩
abbrev cX7_queue : ByteArray := prog_8_method_22_code
def yX7_queue : MethodName := ⟨RX7, "queue", "(II)I"⟩
abbrev cX7_shed : ByteArray := prog_8_method_23_code
def yX7_shed : MethodName := ⟨RX7, "shed", "(I)I"⟩
abbrev cX7_pass : ByteArray := prog_8_method_24_code
def yX7_pass : MethodName := ⟨RX7, "pass", "(I)I"⟩
abbrev cX7_counted : ByteArray := prog_8_method_25_code
def yX7_counted : MethodName := ⟨RX7, "counted", "(I)I"⟩
abbrev cX7_count : ByteArray := prog_8_method_26_code
def yX7_count : MethodName := ⟨RX7, "count", "(I)I"⟩
abbrev cX7_foresee : ByteArray := prog_8_method_27_code
def yX7_foresee : MethodName := ⟨RX7, "foresee", "(II)I"⟩
abbrev cX7_rises : ByteArray := prog_8_method_28_code
def yX7_rises : MethodName := ⟨RX7, "rises", "(II)I"⟩
abbrev cX7_when : ByteArray := prog_8_method_29_code
def yX7_when : MethodName := ⟨RX7, "when", "(I)I"⟩
abbrev cX7_advise : ByteArray := prog_8_method_30_code
def yX7_advise : MethodName := ⟨RX7, "advise", "(I)I"⟩
abbrev cX7_needs : ByteArray := prog_8_method_31_code
def yX7_needs : MethodName := ⟨RX7, "needs", "(II)I"⟩
abbrev cX7_mean : ByteArray := prog_8_method_32_code
def yX7_mean : MethodName := ⟨RX7, "mean", "()D"⟩
abbrev cX7_digest : ByteArray := prog_8_method_33_code
def yX7_digest : MethodName := ⟨RX7, "digest", "()J"⟩
def RJ9 : String := "java/lang/Math"
def TJ9 : u_T := fun k => match k with
  | _ => ("", "", "", false)
def tyJ9 : Nat → FieldType := fun k => match k with
  | _ => .int
abbrev wsJ90 : List Cond := u_ws RJ9 TJ9 0
theorem nmJ9 : ∀ a, a < 0 → ∀ b, b < 0 → a ≠ b → (TJ9 a).2.1 ≠ (TJ9 b).2.1 := by decide +kernel
theorem tyJ9_ok : ∀ k, k < 0 → parseFieldDescriptor (TJ9 k).2.2.1 = some (tyJ9 k) := by decide +kernel
abbrev cJ9_floorMod_7cf53 : ByteArray := prog_14_method_50_code
def yJ9_floorMod_7cf53 : MethodName := ⟨RJ9, "floorMod", "(II)I"⟩
def RJ0 : String := "java/lang/String"
def TJ0 : u_T := fun k => match k with
  | _ => ("", "", "", false)
def tyJ0 : Nat → FieldType := fun k => match k with
  | _ => .int
abbrev wsJ00 : List Cond := u_ws RJ0 TJ0 0
theorem nmJ0 : ∀ a, a < 0 → ∀ b, b < 0 → a ≠ b → (TJ0 a).2.1 ≠ (TJ0 b).2.1 := by decide +kernel
theorem tyJ0_ok : ∀ k, k < 0 → parseFieldDescriptor (TJ0 k).2.2.1 = some (tyJ0 k) := by decide +kernel
def RJ10 : String := "java/lang/System"
def TJ10 : u_T := fun k => match k with
  | _ => ("", "", "", false)
def tyJ10 : Nat → FieldType := fun k => match k with
  | _ => .int
abbrev wsJ100 : List Cond := u_ws RJ10 TJ10 0
theorem nmJ10 : ∀ a, a < 0 → ∀ b, b < 0 → a ≠ b → (TJ10 a).2.1 ≠ (TJ10 b).2.1 := by decide +kernel
theorem tyJ10_ok : ∀ k, k < 0 → parseFieldDescriptor (TJ10 k).2.2.1 = some (tyJ10 k) := by decide +kernel
def RL : String := "ChairLiftLaw"
abbrev cL_stretch : ByteArray := method_3_code
def yL_stretch : MethodName := ⟨RL, "stretch", "(LChairLift;I[J)I"⟩
abbrev cL_addChair : ByteArray := method_4_code
def yL_addChair : MethodName := ⟨RL, "addChair", "(LChairLift;I[J)I"⟩
abbrev cL_want : ByteArray := method_5_code
def yL_want : MethodName := ⟨RL, "want", "(LChairLift;I[J)I"⟩
abbrev cL_addLane : ByteArray := method_6_code
def yL_addLane : MethodName := ⟨RL, "addLane", "(LChairLift;[J)I"⟩
abbrev cL_shut : ByteArray := method_7_code
def yL_shut : MethodName := ⟨RL, "shut", "(LChairLift;IZ[J)I"⟩
abbrev cL_setWind : ByteArray := method_8_code
def yL_setWind : MethodName := ⟨RL, "setWind", "(LChairLift;II[J)I"⟩
abbrev cL_join : ByteArray := method_9_code
def yL_join : MethodName := ⟨RL, "join", "(LChairLift;III[J)I"⟩
abbrev cL_change : ByteArray := method_10_code
def yL_change : MethodName := ⟨RL, "change", "(LChairLift;II[J)I"⟩
abbrev cL_leave : ByteArray := method_11_code
def yL_leave : MethodName := ⟨RL, "leave", "(LChairLift;I[J)I"⟩
abbrev cL_group : ByteArray := method_12_code
def yL_group : MethodName := ⟨RL, "group", "(LChairLift;II[J)I"⟩
abbrev cL_chair : ByteArray := method_13_code
def yL_chair : MethodName := ⟨RL, "chair", "(LChairLift;II[J)I"⟩
abbrev cL_lane : ByteArray := method_14_code
def yL_lane : MethodName := ⟨RL, "lane", "(LChairLift;II[J)I"⟩
abbrev cL_queue : ByteArray := method_15_code
def yL_queue : MethodName := ⟨RL, "queue", "(LChairLift;II[J)I"⟩
abbrev cL_shed : ByteArray := method_16_code
def yL_shed : MethodName := ⟨RL, "shed", "(LChairLift;I[J)I"⟩
abbrev cL_pass : ByteArray := method_17_code
def yL_pass : MethodName := ⟨RL, "pass", "(LChairLift;I[J)I"⟩
abbrev cL_count : ByteArray := method_18_code
def yL_count : MethodName := ⟨RL, "count", "(LChairLift;I[J)I"⟩
abbrev cL_foresee : ByteArray := method_19_code
def yL_foresee : MethodName := ⟨RL, "foresee", "(LChairLift;II[J)I"⟩
abbrev cL_when : ByteArray := method_20_code
def yL_when : MethodName := ⟨RL, "when", "(LChairLift;I[J)I"⟩
abbrev cL_advise : ByteArray := method_21_code
def yL_advise : MethodName := ⟨RL, "advise", "(LChairLift;I[J)I"⟩
abbrev cL_needs : ByteArray := method_22_code
def yL_needs : MethodName := ⟨RL, "needs", "(LChairLift;II[J)I"⟩
abbrev cL_law : ByteArray := code
def yL_law : MethodName := ⟨RL, "law", "([I)Z"⟩
abbrev vwCl : List vw_C := [(RX0, TX0, 5), (RX1, TX1, 8), (RX2, TX2, 3), (RX3, TX3, 14), (RX4, TX4, 2), (RX5, TX5, 2), (RX6, TX6, 23), (RX7, TX7, 9)]
end
section
/-! A small machine of our own over numbered cells: what a straight run of instructions does, as a Prop. A cell's number: kind, part, place. Kinds 0 to 7: the objects of vwCl's entries; 8 int rows, 9 to 11 rows of chairs, groups, lanes; 12 long rows; 13 the script. -/
abbrev KI : Type := Nat × Nat × Nat
abbrev KV : Type := Int32 ⊕ (Int64 ⊕ (UInt64 ⊕ Option KI))
abbrev kI (x : Int32) : KV := .inl x
abbrev kL (x : Int64) : KV := .inr (.inl x)
abbrev kD (x : UInt64) : KV := .inr (.inr (.inl x))
abbrev kR (r : Option KI) : KV := .inr (.inr (.inr r))
abbrev KM : Type := (KI → Prop) × (KI → Nat → Option KI) × (KI → Nat → Int32) × (KI → Nat → Int64) × (KI → Nat)
def kset {α : Type} (f : KI → α) (i : KI) (v : α) : KI → α := fun a => if a = i then v else f a
def kput {α : Type} (f : KI → Nat → α) (i : KI) (j : Nat) (v : α) : KI → Nat → α := fun a b => if a = i ∧ b = j then v else f a b
abbrev KL : Type := List (Option KV)
def kget : KL → Nat → Option KV
  | [], _ => none
  | a :: _, 0 => a
  | _ :: l, i + 1 => kget l i
def kc2 : Option KV → Bool
  | some (.inr (.inl _)) => true
  | some (.inr (.inr (.inl _))) => true
  | _ => false
def kst1 : KL → Nat → KV → KL
  | [], _, _ => []
  | _ :: l, 0, v => some v :: l
  | a :: l, 1, v => (bif kc2 a then none else a) :: kst1 l 0 v
  | a :: l, i + 2, v => a :: kst1 l (i + 1) v
def kst2 : KL → Nat → KV → KL
  | _ :: _ :: l, 0, v => some v :: none :: l
  | a :: l, 1, v => (bif kc2 a then none else a) :: kst2 l 0 v
  | a :: l, i + 2, v => a :: kst2 l (i + 1) v
  | l, _, _ => l
def kcat : KV → Nat
  | .inl _ => 1
  | .inr (.inl _) => 2
  | .inr (.inr (.inl _)) => 2
  | .inr (.inr (.inr _)) => 1
def kcats : List KV → Nat
  | [] => 0
  | v :: r => kcat v + kcats r
/-- continuation: pc, locals, stack, memory, cells and slots made -/
abbrev KK : Type := Nat → KL → List KV → KM → Nat → Nat → Prop
abbrev KEnd : Type := Option KV → KM → Nat → Nat → Prop
abbrev KS : Type := Option (Nat × (Nat → Int32))
def kfv (M : KM) (i : KI) (j : Nat) : Nat → KV
  | 0 => kI (M.2.2.1 i j)
  | _ => kR (M.2.1 i j)
def kputD (M : KM) (i : KI) (j : Nat) (x : Int32) : KM := (M.1, M.2.1, kput M.2.2.1 i j x, M.2.2.2.1, M.2.2.2.2)
def kputR (M : KM) (i : KI) (j : Nat) (x : Option KI) : KM := (M.1, kput M.2.1 i j x, M.2.2.1, M.2.2.2.1, M.2.2.2.2)
def kputG (M : KM) (i : KI) (j : Nat) (x : Int64) : KM := (M.1, M.2.1, M.2.2.1, kput M.2.2.2.1 i j x, M.2.2.2.2)
def kcpy (M : KM) (i d : KI) (sp dp n : Nat) : KM := (M.1, M.2.1, kset M.2.2.1 d (va_cpy (M.2.2.1 i) (M.2.2.1 d) sp dp n), M.2.2.2.1, M.2.2.2.2)
def knew (M : KM) (i : KI) (n : Nat) : KM := (fun a => a = i ∨ M.1 a, kset M.2.1 i (fun _ => none), kset M.2.2.1 i (fun _ => 0), kset M.2.2.2.1 i (fun _ => 0), kset M.2.2.2.2 i n)
def kelem : Nat → Nat
  | 9 => 0
  | 10 => 1
  | _ => 2
def kcases (K : Nat → Prop) (pc : Nat) (x : Int32) : List Int → Int → Prop
  | [], _ => True
  | o :: r, i => (x.toInt = i → K ((pc : Int) + o).toNat) ∧ kcases K pc x r (i + 1)
def klook (K : Nat → Prop) (pc : Nat) (x : Int32) (d : Int) : List (Int × Int) → Prop
  | [] => K ((pc : Int) + d).toNat
  | q :: r => (x.toInt = q.1 → K ((pc : Int) + q.2).toNat) ∧ (¬ x.toInt = q.1 → klook K pc x d r)
/-- a value that names no cell but live ones (or the script) -/
def kOk (M : KM) : Option KV → Prop
  | some (.inr (.inr (.inr (some r)))) => M.1 r ∨ r = (13, 0, 0)
  | _ => True
def kOkf (M : KM) : KV → Prop
  | .inr (.inr (.inr (some r))) => M.1 r
  | _ => True
def kOkL (M : KM) : KL → Prop
  | [] => True
  | a :: l => kOk M a ∧ kOkL M l
def kOkS (M : KM) : List KV → Prop
  | [] => True
  | a :: l => kOk M (some a) ∧ kOkS M l
/-- fits a field: 0 int, 1 a reference, 2 boolean -/
def kfit (t : Nat) (v : KV) : Prop := match t, v with
  | 0, .inl _ => True
  | 2, .inl x => x = 0 ∨ x = 1
  | 1, .inr (.inr (.inr _)) => True
  | _, _ => False
def kputv (M : KM) (i : KI) (j : Nat) : KV → KM
  | .inl x => kputD M i j x
  | .inr (.inr (.inr r)) => kputR M i j r
  | _ => M
/-- one instruction -/
def kstp (R : Room) (S : KS) (E : KEnd) (K : KK) (ins : Instr) (len a b t : Nat) (v : Int32) (w : Int64) (pc : Nat) (ls : KL) (st : List KV) (M : KM) (cs sl : Nat) : Prop :=
  match ins with
  | .iconst _ => K (pc + len) ls (kI v :: st) M cs sl
  | .bipush _ => K (pc + len) ls (kI v :: st) M cs sl
  | .sipush _ => K (pc + len) ls (kI v :: st) M cs sl
  | .lconst _ => K (pc + len) ls (kL w :: st) M cs sl
  | .ldc2_w _ => K (pc + len) ls (kL w :: st) M cs sl
  | .dconst _ => K (pc + len) ls (kD FP.dconst0 :: st) M cs sl
  | .iload_n _ => match kget ls a with | some (.inl x) => K (pc + len) ls (kI x :: st) M cs sl | _ => False
  | .iload _ => match kget ls a with | some (.inl x) => K (pc + len) ls (kI x :: st) M cs sl | _ => False
  | .lload_n _ => match kget ls a with | some (.inr (.inl x)) => K (pc + len) ls (kL x :: st) M cs sl | _ => False
  | .lload _ => match kget ls a with | some (.inr (.inl x)) => K (pc + len) ls (kL x :: st) M cs sl | _ => False
  | .dload _ => match kget ls a with | some (.inr (.inr (.inl x))) => K (pc + len) ls (kD x :: st) M cs sl | _ => False
  | .aload_n _ => match kget ls a with | some (.inr (.inr (.inr r))) => K (pc + len) ls (kR r :: st) M cs sl | _ => False
  | .aload _ => match kget ls a with | some (.inr (.inr (.inr r))) => K (pc + len) ls (kR r :: st) M cs sl | _ => False
  | .istore_n _ => match st with | .inl x :: st => K (pc + len) (kst1 ls a (kI x)) st M cs sl | _ => False
  | .istore _ => match st with | .inl x :: st => K (pc + len) (kst1 ls a (kI x)) st M cs sl | _ => False
  | .astore_n _ => match st with | .inr (.inr (.inr r)) :: st => K (pc + len) (kst1 ls a (kR r)) st M cs sl | _ => False
  | .astore _ => match st with | .inr (.inr (.inr r)) :: st => K (pc + len) (kst1 ls a (kR r)) st M cs sl | _ => False
  | .lstore_n _ => match st with | .inr (.inl x) :: st => K (pc + len) (kst2 ls a (kL x)) st M cs sl | _ => False
  | .lstore _ => match st with | .inr (.inl x) :: st => K (pc + len) (kst2 ls a (kL x)) st M cs sl | _ => False
  | .dstore _ => match st with | .inr (.inr (.inl x)) :: st => K (pc + len) (kst2 ls a (kD x)) st M cs sl | _ => False
  | .iinc _ _ => match kget ls a with | some (.inl x) => K (pc + len) (kst1 ls a (kI (x + v))) st M cs sl | _ => False
  | .iadd => match st with | .inl y :: .inl x :: st => K (pc + len) ls (kI (x + y) :: st) M cs sl | _ => False
  | .isub => match st with | .inl y :: .inl x :: st => K (pc + len) ls (kI (x - y) :: st) M cs sl | _ => False
  | .imul => match st with | .inl y :: .inl x :: st => K (pc + len) ls (kI (x * y) :: st) M cs sl | _ => False
  | .iand => match st with | .inl y :: .inl x :: st => K (pc + len) ls (kI (x &&& y) :: st) M cs sl | _ => False
  | .ixor => match st with | .inl y :: .inl x :: st => K (pc + len) ls (kI (x ^^^ y) :: st) M cs sl | _ => False
  | .irem => match st with | .inl y :: .inl x :: st => ¬ y = 0 ∧ K (pc + len) ls (kI (x - x / y * y) :: st) M cs sl | _ => False
  | .ladd => match st with | .inr (.inl y) :: .inr (.inl x) :: st => K (pc + len) ls (kL (x + y) :: st) M cs sl | _ => False
  | .lmul => match st with | .inr (.inl y) :: .inr (.inl x) :: st => K (pc + len) ls (kL (x * y) :: st) M cs sl | _ => False
  | .lcmp => match st with | .inr (.inl y) :: .inr (.inl x) :: st => K (pc + len) ls (kI (lg_cmp x y) :: st) M cs sl | _ => False
  | .i2l => match st with | .inl x :: st => K (pc + len) ls (kL x.toInt64 :: st) M cs sl | _ => False
  | .i2d => match st with | .inl x :: st => K (pc + len) ls (kD (FP.i2d x) :: st) M cs sl | _ => False
  | .ddiv => match st with | .inr (.inr (.inl y)) :: .inr (.inr (.inl x)) :: st => vf_n64 (FP.ddiv x y) ∧ K (pc + len) ls (kD (FP.ddiv x y) :: st) M cs sl | _ => False
  | .dcmp op => match st with | .inr (.inr (.inl y)) :: .inr (.inr (.inl x)) :: st => K (pc + len) ls (kI (Op.cmpValue (FP.dcmp x y) op) :: st) M cs sl | _ => False
  | .dup => match st with
    | .inl x :: st => K (pc + len) ls (kI x :: kI x :: st) M cs sl
    | .inr (.inr (.inr x)) :: st => K (pc + len) ls (kR x :: kR x :: st) M cs sl
    | _ => False
  | .dup2 => match st with
    | .inl x :: .inr (.inr (.inr y)) :: st => K (pc + len) ls (kI x :: kR y :: kI x :: kR y :: st) M cs sl
    | _ => False
  | .pop => match st with
    | .inl _ :: st => K (pc + len) ls st M cs sl
    | .inr (.inr (.inr _)) :: st => K (pc + len) ls st M cs sl
    | _ => False
  | .goto _ => K a ls st M cs sl
  | .ifCond .eq _ => match st with | .inl x :: st => (x = 0 → K a ls st M cs sl) ∧ (¬ x = 0 → K (pc + len) ls st M cs sl) | _ => False
  | .ifCond .ne _ => match st with | .inl x :: st => (¬ x = 0 → K a ls st M cs sl) ∧ (x = 0 → K (pc + len) ls st M cs sl) | _ => False
  | .ifCond .lt _ => match st with | .inl x :: st => (x < 0 → K a ls st M cs sl) ∧ (¬ x < 0 → K (pc + len) ls st M cs sl) | _ => False
  | .ifCond .ge _ => match st with | .inl x :: st => (0 ≤ x → K a ls st M cs sl) ∧ (¬ 0 ≤ x → K (pc + len) ls st M cs sl) | _ => False
  | .ifCond .gt _ => match st with | .inl x :: st => (0 < x → K a ls st M cs sl) ∧ (¬ 0 < x → K (pc + len) ls st M cs sl) | _ => False
  | .ifCond .le _ => match st with | .inl x :: st => (x ≤ 0 → K a ls st M cs sl) ∧ (¬ x ≤ 0 → K (pc + len) ls st M cs sl) | _ => False
  | .if_icmp .eq _ => match st with | .inl y :: .inl x :: st => (x = y → K a ls st M cs sl) ∧ (¬ x = y → K (pc + len) ls st M cs sl) | _ => False
  | .if_icmp .ne _ => match st with | .inl y :: .inl x :: st => (¬ x = y → K a ls st M cs sl) ∧ (x = y → K (pc + len) ls st M cs sl) | _ => False
  | .if_icmp .lt _ => match st with | .inl y :: .inl x :: st => (x < y → K a ls st M cs sl) ∧ (¬ x < y → K (pc + len) ls st M cs sl) | _ => False
  | .if_icmp .ge _ => match st with | .inl y :: .inl x :: st => (y ≤ x → K a ls st M cs sl) ∧ (¬ y ≤ x → K (pc + len) ls st M cs sl) | _ => False
  | .if_icmp .gt _ => match st with | .inl y :: .inl x :: st => (y < x → K a ls st M cs sl) ∧ (¬ y < x → K (pc + len) ls st M cs sl) | _ => False
  | .if_icmp .le _ => match st with | .inl y :: .inl x :: st => (x ≤ y → K a ls st M cs sl) ∧ (¬ x ≤ y → K (pc + len) ls st M cs sl) | _ => False
  | .tableswitch d lo hi offs => match st with
    | .inl x :: st => ((x.toInt < lo ∨ hi < x.toInt) → K ((pc : Int) + d).toNat ls st M cs sl) ∧ kcases (fun q => K q ls st M cs sl) pc x offs.toList lo
    | _ => False
  | .lookupswitch d ps => match st with | .inl x :: st => klook (fun q => K q ls st M cs sl) pc x d ps.toList | _ => False
  | .getfield _ => match st with | .inr (.inr (.inr (some i))) :: st => i.1 = a ∧ M.1 i ∧ K (pc + len) ls (kfv M i b t :: st) M cs sl | _ => False
  | .putfield _ => match st with
    | x :: .inr (.inr (.inr (some i))) :: st => i.1 = a ∧ M.1 i ∧ kfit t x ∧ kOkf M x ∧ K (pc + len) ls st (kputv M i b x) cs sl
    | _ => False
  | .arraylength => match st with
    | .inr (.inr (.inr (some i))) :: st => match S with
      | some q => i = (13, 0, 0) ∧ K (pc + len) ls (kI (Int32.ofNat q.1) :: st) M cs sl
      | none => 8 ≤ i.1 ∧ i.1 ≤ 12 ∧ M.1 i ∧ K (pc + len) ls (kI (Int32.ofNat (M.2.2.2.2 i)) :: st) M cs sl
    | _ => False
  | .iaload => match st with
    | .inl x :: .inr (.inr (.inr (some i))) :: st => match S with
      | some q => i = (13, 0, 0) ∧ vp_in x q.1 ∧ K (pc + len) ls (kI (q.2 x.toNatClampNeg) :: st) M cs sl
      | none => i.1 = 8 ∧ M.1 i ∧ vp_in x (M.2.2.2.2 i) ∧ K (pc + len) ls (kI (M.2.2.1 i x.toNatClampNeg) :: st) M cs sl
    | _ => False
  | .laload => match st with
    | .inl x :: .inr (.inr (.inr (some i))) :: st => i.1 = 12 ∧ M.1 i ∧ vp_in x (M.2.2.2.2 i) ∧ K (pc + len) ls (kL (M.2.2.2.1 i x.toNatClampNeg) :: st) M cs sl
    | _ => False
  | .aaload => match st with
    | .inl x :: .inr (.inr (.inr (some i))) :: st => (i.1 = 9 ∨ i.1 = 10 ∨ i.1 = 11) ∧ M.1 i ∧ vp_in x (M.2.2.2.2 i) ∧ K (pc + len) ls (kR (M.2.1 i x.toNatClampNeg) :: st) M cs sl
    | _ => False
  | .iastore => match st with
    | .inl y :: .inl x :: .inr (.inr (.inr (some i))) :: st => i.1 = 8 ∧ M.1 i ∧ vp_in x (M.2.2.2.2 i) ∧ K (pc + len) ls st (kputD M i x.toNatClampNeg y) cs sl
    | _ => False
  | .lastore => match st with
    | .inr (.inl y) :: .inl x :: .inr (.inr (.inr (some i))) :: st => i.1 = 12 ∧ M.1 i ∧ vp_in x (M.2.2.2.2 i) ∧ K (pc + len) ls st (kputG M i x.toNatClampNeg y) cs sl
    | _ => False
  | .aastore => match st with
    | .inr (.inr (.inr (some o))) :: .inl x :: .inr (.inr (.inr (some i))) :: st => (i.1 = 9 ∨ i.1 = 10 ∨ i.1 = 11) ∧ o.1 = kelem i.1 ∧ M.1 o ∧ M.1 i ∧ vp_in x (M.2.2.2.2 i) ∧ K (pc + len) ls st (kputR M i x.toNatClampNeg (some o)) cs sl
    | _ => False
  | .newarray _ => match st with
    | .inl x :: st => ∃ i : KI, i.1 = a ∧ ¬ M.1 i ∧ kOkL M ls ∧ kOkS M st ∧ ¬ x < 0 ∧ x.toNatClampNeg ≤ 1000 ∧ cs + 1 ≤ R.cells ∧ sl + x.toNatClampNeg ≤ R.slots ∧ K (pc + len) ls (kR (some i) :: st) (knew M i x.toNatClampNeg) (cs + 1) (sl + x.toNatClampNeg)
    | _ => False
  | .anewarray _ => match st with
    | .inl x :: st => ∃ i : KI, i.1 = a ∧ ¬ M.1 i ∧ kOkL M ls ∧ kOkS M st ∧ ¬ x < 0 ∧ x.toNatClampNeg ≤ 1000 ∧ cs + 1 ≤ R.cells ∧ sl + x.toNatClampNeg ≤ R.slots ∧ K (pc + len) ls (kR (some i) :: st) (knew M i x.toNatClampNeg) (cs + 1) (sl + x.toNatClampNeg)
    | _ => False
  | .new _ => ∃ i : KI, i.1 = a ∧ ¬ M.1 i ∧ kOkL M ls ∧ kOkS M st ∧ cs + 1 ≤ R.cells ∧ sl + b ≤ R.slots ∧ K (pc + len) ls (kR (some i) :: st) (knew M i 0) (cs + 1) (sl + b)
  | .invokespecial _ => match st with
    | .inr (.inr (.inr (some _))) :: st => 1 ≤ R.frames ∧ kcats st + 12 ≤ R.locals ∧ K (pc + len) ls st M cs sl
    | _ => False
  | .invokestatic _ => match st with
    | .inl n :: .inl dp :: .inr (.inr (.inr (some d))) :: .inl sp :: .inr (.inr (.inr (some i))) :: st => i.1 = 8 ∧ d.1 = 8 ∧ M.1 i ∧ M.1 d ∧ ¬ sp < 0 ∧ ¬ dp < 0 ∧ ¬ n < 0 ∧ sp.toNatClampNeg + n.toNatClampNeg ≤ M.2.2.2.2 i ∧ dp.toNatClampNeg + n.toNatClampNeg ≤ M.2.2.2.2 d ∧ 1 ≤ R.frames ∧ kcats st + (nativeFrameWords "java/lang/System" "arraycopy" 5 + 11) ≤ R.locals ∧ K (pc + len) ls st (kcpy M i d sp.toNatClampNeg dp.toNatClampNeg n.toNatClampNeg) cs sl
    | _ => False
  | .ireturn => match st with | [.inl x] => E (some (kI x)) M cs sl | _ => False
  | .lreturn => match st with | [.inr (.inl x)] => E (some (kL x)) M cs sl | _ => False
  | .dreturn => match st with | [.inr (.inr (.inl x))] => E (some (kD x)) M cs sl | _ => False
  | .return_ => match st with | [] => E none M cs sl | _ => False
  | _ => False
/-- an instruction as our tables hold it: the instruction, its length, three numbers (target; cell kind, field, field type ..), an int, a long -/
abbrev KE : Type := Instr × Nat × (Nat × Nat × Nat) × Int32 × Int64
/-- a straight run of instructions; only the last may go elsewhere -/
def kblk (R : Room) (S : KS) (E : KEnd) (K : KK) : List KE → KK
  | [], pc, ls, st, M, cs, sl => K pc ls st M cs sl
  | e :: [], pc, ls, st, M, cs, sl => kstp R S E K e.1 e.2.1 e.2.2.1.1 e.2.2.1.2.1 e.2.2.1.2.2 e.2.2.2.1 e.2.2.2.2 pc ls st M cs sl
  | e :: f :: r, pc, ls, st, M, cs, sl => kstp R S E (fun pc1 ls1 st1 M1 cs1 sl1 => pc1 = pc + e.2.1 ∧ kblk R S E K (f :: r) (pc + e.2.1) ls1 st1 M1 cs1 sl1) e.1 e.2.1 e.2.2.1.1 e.2.2.1.2.1 e.2.2.1.2.2 e.2.2.2.1 e.2.2.2.2 pc ls st M cs sl
end
section
/-! What our numbered cells are on the machine's heap, and what reading and writing does. -/
def kRn : Nat → String
  | 0 => RX0
  | 1 => RX1
  | 2 => RX2
  | 3 => RX3
  | 4 => RX4
  | 5 => RX5
  | 6 => RX6
  | _ => RX7
def kT : Nat → u_T
  | 0 => TX0
  | 1 => TX1
  | 2 => TX2
  | 3 => TX3
  | 4 => TX4
  | 5 => TX5
  | 6 => TX6
  | _ => TX7
def kty : Nat → Nat → FieldType
  | 0 => tyX0
  | 1 => tyX1
  | 2 => tyX2
  | 3 => tyX3
  | 4 => tyX4
  | 5 => tyX5
  | 6 => tyX6
  | _ => tyX7
def kN : Nat → Nat
  | 0 => 5
  | 1 => 8
  | 2 => 3
  | 3 => 14
  | 4 => 2
  | 5 => 2
  | 6 => 23
  | _ => 9
theorem k8 {P : Nat → Prop} (h0 : P 0) (h1 : P 1) (h2 : P 2) (h3 : P 3) (h4 : P 4) (h5 : P 5) (h6 : P 6) (h7 : P 7) : ∀ c, c < 8 → P c := by
  intro c hc
  match c, hc with
  | 0, _ => exact h0
  | 1, _ => exact h1
  | 2, _ => exact h2
  | 3, _ => exact h3
  | 4, _ => exact h4
  | 5, _ => exact h5
  | 6, _ => exact h6
  | 7, _ => exact h7
  | c + 8, h => exact absurd h (by omega)
theorem kCl : ∀ c, c < 8 → vwCl[c]? = some (kRn c, kT c, kN c) := k8 rfl rfl rfl rfl rfl rfl rfl rfl
theorem kTy : ∀ c, c < 8 → ∀ k, k < kN c → parseFieldDescriptor (kT c k).2.2.1 = some (kty c k) := k8 tyX0_ok tyX1_ok tyX2_ok tyX3_ok tyX4_ok tyX5_ok tyX6_ok tyX7_ok
theorem kNm : ∀ c, c < 8 → ∀ a, a < kN c → ∀ b, b < kN c → a ≠ b → (kT c a).2.1 ≠ (kT c b).2.1 := k8 nmX0 nmX1 nmX2 nmX3 nmX4 nmX5 nmX6 nmX7
/-- the good words of the tables -/
def kGW : List Cond := lw_tbl.filter goodWord
theorem kGW_in {w : Cond} (h : w ∈ lw_tbl) (g : goodWord w = true) : w ∈ kGW := List.mem_filter.mpr ⟨h, g⟩
theorem kGW_all {ws : List Cond} (h : (ws.all fun w => decide (w ∈ lw_tbl) && goodWord w) = true) : ∀ w ∈ ws, w ∈ kGW := by
  intro w hw
  have h1 := List.all_eq_true.mp h w hw
  simp only [Bool.and_eq_true, decide_eq_true_eq] at h1
  exact kGW_in h1.1 h1.2
theorem kGW_good {ws : List Cond} (h : ∀ w ∈ ws, w ∈ kGW) : GoodIn kGW ws := fun w hw => ⟨h w hw, good_of_word (List.mem_filter.mp (h w hw)).2⟩
set_option maxRecDepth 100000 in
theorem kLay : ∀ c, c < 8 → ∀ w ∈ u_ws (kRn c) (kT c) (kN c), w ∈ kGW := k8 (kGW_all (by decide +kernel)) (kGW_all (by decide +kernel)) (kGW_all (by decide +kernel)) (kGW_all (by decide +kernel)) (kGW_all (by decide +kernel)) (kGW_all (by decide +kernel)) (kGW_all (by decide +kernel)) (kGW_all (by decide +kernel))
def kisref : FieldType → Bool
  | .object _ => true
  | .array _ => true
  | _ => false
def ktys (cA : Nat → ClassId) : List (ClassId × FieldType) := [(cA 0, .int), (cA 1, .object RX0), (cA 2, .object RX1), (cA 3, .object RX2), (cA 4, .long)]
def kv (ad : KI → Nat) : KV → Value
  | .inl x => .int x
  | .inr (.inl x) => .long x
  | .inr (.inr (.inl x)) => .double x
  | .inr (.inr (.inr r)) => va_rf (r.map ad)
def kslot (ad : KI → Nat) (M : KM) (i : KI) (j : Nat) : Value := bif kisref (kty i.1 j) then va_rf ((M.2.1 i j).map ad) else .int (M.2.2.1 i j)
def kobj (cA : Nat → ClassId) (ad : KI → Nat) (M : KM) (i : KI) : va_E :=
  if i.1 < 8 then .inr (i.1, (List.range (kN i.1)).map (kslot ad M i))
  else if i.1 = 8 then .inl (cA 0, M.2.2.2.2 i, .inl (M.2.2.1 i))
  else if i.1 = 12 then .inl (cA 4, M.2.2.2.2 i, .inr (.inl (M.2.2.2.1 i)))
  else .inl (cA (i.1 - 8), M.2.2.2.2 i, .inr (.inr (.inr (.inr (fun j => (M.2.1 i j).map ad)))))
def kws (cA : Nat → ClassId) (ad : KI → Nat) (M : KM) (Ls : List KI) : va_W := Ls.map (fun i => (ad i, kobj cA ad M i))
/-- the memory M lies in the heap H, its cells at ad -/
def KP (D : va_G) (cA : Nat → ClassId) (ad : KI → Nat) (A : Nat → Prop) (M : KM) (H : Heap) : Prop :=
  ∃ Ls : List KI, (∀ i, M.1 i ↔ i ∈ Ls) ∧ (∀ i j r, M.1 i → M.2.1 i j = some r → M.1 r) ∧ va_P D vwCl (kws cA ad M Ls) H ∧ va_D A (kws cA ad M Ls)
theorem kws_get {cA : Nat → ClassId} {ad : KI → Nat} {M : KM} {Ls : List KI} {k : Nat} {i : KI} (h : Ls[k]? = some i) : (kws cA ad M Ls)[k]? = some (ad i, kobj cA ad M i) := by
  simp [kws, h]
theorem kobj_c {cA : Nat → ClassId} {ad : KI → Nat} {M : KM} {i : KI} (h : i.1 < 8) : kobj cA ad M i = .inr (i.1, (List.range (kN i.1)).map (kslot ad M i)) := by simp [kobj, h]
theorem kobj_i {cA : Nat → ClassId} {ad : KI → Nat} {M : KM} {i : KI} (h : i.1 = 8) : kobj cA ad M i = .inl (cA 0, M.2.2.2.2 i, .inl (M.2.2.1 i)) := by simp [kobj, h]
theorem kobj_l {cA : Nat → ClassId} {ad : KI → Nat} {M : KM} {i : KI} (h : i.1 = 12) : kobj cA ad M i = .inl (cA 4, M.2.2.2.2 i, .inr (.inl (M.2.2.2.1 i))) := by simp [kobj, h]
theorem kobj_q {cA : Nat → ClassId} {ad : KI → Nat} {M : KM} {i : KI} (h : i.1 = 9 ∨ i.1 = 10 ∨ i.1 = 11) : kobj cA ad M i = .inl (cA (i.1 - 8), M.2.2.2.2 i, .inr (.inr (.inr (.inr (fun j => (M.2.1 i j).map ad))))) := by
  rcases h with h | h | h <;> simp [kobj, h]
theorem kobj_eq {cA : Nat → ClassId} {ad ad' : KI → Nat} {M M' : KM} {i : KI} (hR : ∀ j, (M.2.1 i j).map ad = (M'.2.1 i j).map ad') (hD : ∀ j, M.2.2.1 i j = M'.2.2.1 i j) (hG : ∀ j, M.2.2.2.1 i j = M'.2.2.2.1 i j) (hN : M.2.2.2.2 i = M'.2.2.2.2 i) : kobj cA ad M i = kobj cA ad' M' i := by
  have e1 : kslot ad M i = kslot ad' M' i := by funext j; simp only [kslot, hR, hD]
  have e2 : M.2.2.1 i = M'.2.2.1 i := funext hD
  have e3 : M.2.2.2.1 i = M'.2.2.2.1 i := funext hG
  have e4 : (fun j => (M.2.1 i j).map ad) = (fun j => (M'.2.1 i j).map ad') := funext hR
  simp only [kobj, e1, e2, e3, e4, hN]
theorem KP.get {D : va_G} {cA : Nat → ClassId} {ad : KI → Nat} {A : Nat → Prop} {M : KM} {H : Heap} (h : KP D cA ad A M H) {i : KI} (hi : M.1 i) : ∃ (ws : va_W) (k : Nat), ws[k]? = some (ad i, kobj cA ad M i) ∧ va_P D vwCl ws H ∧ va_D A ws := by
  obtain ⟨Ls, h1, -, h3, h4⟩ := h
  obtain ⟨k, hk⟩ := List.getElem?_of_mem ((h1 i).mp hi)
  exact ⟨_, k, kws_get hk, h3, h4⟩
theorem kws_inj {A : Nat → Prop} {cA : Nat → ClassId} {ad : KI → Nat} {M : KM} {Ls : List KI} (hD : va_D A (kws cA ad M Ls)) {k q : Nat} {i j : KI} (hk : Ls[k]? = some i) (hq : Ls[q]? = some j) (he : ad i = ad j) : k = q :=
  hD.1 k q _ _ (kws_get hk) (kws_get hq) he
/-- a cell has been written -/
theorem KP.set {D : va_G} {cA : Nat → ClassId} {ad : KI → Nat} {A : Nat → Prop} {M M' : KM} {H : Heap} (h : KP D cA ad A M H) {i : KI} (hi : M.1 i) (hL : M'.1 = M.1) (hC : ∀ j r, M'.2.1 i j = some r → M.1 r)
    (hR : ∀ a, a ≠ i → ∀ j, M'.2.1 a j = M.2.1 a j) (hD : ∀ a, a ≠ i → ∀ j, M'.2.2.1 a j = M.2.2.1 a j) (hG : ∀ a, a ≠ i → ∀ j, M'.2.2.2.1 a j = M.2.2.2.1 a j) (hN : ∀ a, a ≠ i → M'.2.2.2.2 a = M.2.2.2.2 a) :
    ∃ (ws : va_W) (k : Nat), ws[k]? = some (ad i, kobj cA ad M i) ∧ va_P D vwCl ws H ∧ va_D A ws ∧ (∀ (e : va_E) (H1 : Heap), e = kobj cA ad M' i → va_P D vwCl (ws.set k (ad i, e)) H1 → va_D A (ws.set k (ad i, e)) → KP D cA ad A M' H1) ∧ ∀ o, M.1 o → ∃ q : Nat, ws[q]? = some (ad o, kobj cA ad M o) := by
  obtain ⟨Ls, h1, h2, h3, h4⟩ := h
  obtain ⟨k, hk⟩ := List.getElem?_of_mem ((h1 i).mp hi)
  refine ⟨_, k, kws_get hk, h3, h4, ?_, fun o ho => by
    obtain ⟨q, hq⟩ := List.getElem?_of_mem ((h1 o).mp ho)
    exact ⟨q, kws_get hq⟩⟩
  intro e H1 he hP' hD'
  have hset : (kws cA ad M Ls).set k (ad i, e) = kws cA ad M' Ls := by
    subst he
    apply List.ext_getElem?
    intro q
    by_cases hqk : q = k
    · subst hqk
      have hl : q < (kws cA ad M Ls).length := (List.getElem?_eq_some_iff.mp (kws_get (cA := cA) (ad := ad) (M := M) hk)).1
      rw [List.getElem?_set_self hl, kws_get hk]
    · rw [List.getElem?_set_ne (Ne.symm hqk)]
      cases hq : Ls[q]? with
      | none => simp [kws, hq]
      | some a =>
        have hne : a ≠ i := fun z => hqk (kws_inj h4 hq hk (by rw [z]))
        rw [kws_get hq, kws_get hq]
        rw [kobj_eq (M := M) (M' := M') (ad' := ad) (fun j => by rw [hR a hne]) (fun j => (hD a hne j).symm) (fun j => (hG a hne j).symm) (hN a hne).symm]
  rw [hset] at hP' hD'
  refine ⟨Ls, fun a => by rw [hL]; exact h1 a, fun a j r ha hr => ?_, hP', hD'⟩
  rw [hL] at ha ⊢
  by_cases hai : a = i
  · subst hai; exact hC j r hr
  · rw [hR a hai] at hr; exact h2 a j r ha hr
/-- a cell has come -/
theorem KP.push {D : va_G} {cA : Nat → ClassId} {ad : KI → Nat} {A : Nat → Prop} {M : KM} {H : Heap} (h : KP D cA ad A M H) {i : KI} (hi : ¬ M.1 i) (n : Nat) :
    ∃ (ws : va_W), va_P D vwCl ws H ∧ va_D A ws ∧ ∀ (q : Nat) (e : va_E) (H1 : Heap), e = kobj cA (kset ad i q) (knew M i n) i → va_P D vwCl (ws ++ [(q, e)]) H1 → va_D A (ws ++ [(q, e)]) → KP D cA (kset ad i q) A (knew M i n) H1 := by
  obtain ⟨Ls, h1, h2, h3, h4⟩ := h
  refine ⟨_, h3, h4, ?_⟩
  intro q e H1 he hP' hD'
  have hpush : kws cA ad M Ls ++ [(q, e)] = kws cA (kset ad i q) (knew M i n) (Ls ++ [i]) := by
    subst he
    simp only [kws, List.map_append, List.map_cons, List.map_nil]
    congr 1
    · apply List.map_congr_left
      intro a ha
      have hal : M.1 a := (h1 a).mpr ha
      have hne : a ≠ i := fun z => hi (z ▸ hal)
      have e1 : kset ad i q a = ad a := by simp [kset, hne]
      rw [e1, kobj_eq (M := M) (M' := knew M i n) (ad' := kset ad i q)]
      · intro j
        have : (knew M i n).2.1 a j = M.2.1 a j := by simp [knew, kset, hne]
        rw [this]
        cases hr : M.2.1 a j with
        | none => rfl
        | some r =>
          have hrl := h2 a j r hal hr
          have : r ≠ i := fun z => hi (z ▸ hrl)
          simp [kset, this]
      · intro j; simp [knew, kset, hne]
      · intro j; simp [knew, kset, hne]
      · simp [knew, kset, hne]
    · simp [kset]
  rw [hpush] at hP' hD'
  refine ⟨Ls ++ [i], fun a => ?_, fun a j r ha hr => ?_, hP', hD'⟩
  · simp only [knew, List.mem_append, List.mem_singleton]
    rw [h1 a]
    exact Or.comm
  · by_cases hai : a = i
    · subst hai; simp [knew, kset] at hr
    · rcases ha with ha | ha
      · exact absurd ha hai
      · refine Or.inr (h2 a j r ha ?_)
        simpa [knew, kset, hai] using hr
/-- fewer cells, and of those the same -/
def KSub (M2 M : KM) : Prop := ∀ i, M2.1 i → M.1 i ∧ (∀ j, M2.2.1 i j = M.2.1 i j) ∧ (∀ j, M2.2.2.1 i j = M.2.2.1 i j) ∧ (∀ j, M2.2.2.2.1 i j = M.2.2.2.1 i j) ∧ M2.2.2.2.2 i = M.2.2.2.2 i ∧ ∀ j r, M2.2.1 i j = some r → M2.1 r
theorem KP.sub {D : va_G} {cA : Nat → ClassId} {ad : KI → Nat} {A : Nat → Prop} {M M2 : KM} {H : Heap} (h : KP D cA ad A M H) (hs : KSub M2 M) : KP D cA ad A M2 H := by
  obtain ⟨Ls, h1, h2, h3, h4⟩ := h
  have hd : DecidablePred M2.1 := fun a => Classical.propDecidable _
  refine ⟨Ls.filter (fun a => decide (M2.1 a)), fun a => ?_, fun a j r ha hr => (hs a ha).2.2.2.2.2 j r hr, ?_, ?_⟩
  · rw [List.mem_filter]
    constructor
    · intro ha; exact ⟨(h1 a).mp (hs a ha).1, by simpa using ha⟩
    · intro ha; simpa using ha.2
  all_goals
    have key : ∀ (k : Nat) (x : Nat × va_E), (kws cA ad M2 (Ls.filter (fun a => decide (M2.1 a))))[k]? = some x → ∃ q : Nat, (kws cA ad M Ls)[q]? = some x := by
      intro k x hx
      cases hq : (Ls.filter (fun a => decide (M2.1 a)))[k]? with
      | none => simp [kws, hq] at hx
      | some a =>
        rw [kws_get hq] at hx
        have hm := List.mem_of_getElem? hq
        rw [List.mem_filter] at hm
        have ha : M2.1 a := by simpa using hm.2
        obtain ⟨q, hq2⟩ := List.getElem?_of_mem hm.1
        refine ⟨q, ?_⟩
        rw [kws_get hq2, ← hx]
        obtain ⟨-, g1, g2, g3, g4, -⟩ := hs a ha
        rw [kobj_eq (M := M) (M' := M2) (ad' := ad) (fun j => by rw [g1]) (fun j => (g2 j).symm) (fun j => (g3 j).symm) g4.symm]
  · intro k x hx
    obtain ⟨q, hq⟩ := key k x hx
    exact h3 q x hq
  · refine ⟨fun k q x y hx hy hxy => ?_, fun k x hx => ?_⟩
    · cases hk : (Ls.filter (fun a => decide (M2.1 a)))[k]? with
      | none => simp [kws, hk] at hx
      | some a =>
        cases hq : (Ls.filter (fun a => decide (M2.1 a)))[q]? with
        | none => simp [kws, hq] at hy
        | some b =>
          rw [kws_get hk] at hx
          rw [kws_get hq] at hy
          cases hx; cases hy
          have hm := List.mem_of_getElem? hk
          have hm2 := List.mem_of_getElem? hq
          rw [List.mem_filter] at hm hm2
          obtain ⟨u, hu⟩ := List.getElem?_of_mem hm.1
          obtain ⟨w, hw⟩ := List.getElem?_of_mem hm2.1
          have huw := kws_inj h4 hu hw hxy
          subst huw
          have hab : a = b := Option.some.inj (hu.symm.trans hw)
          subst hab
          have hnod : Ls.Nodup := by
            refine List.pairwise_iff_getElem.mpr (fun i j hi hj hij hc => ?_)
            have := kws_inj h4 (List.getElem?_eq_getElem hi) (List.getElem?_eq_getElem hj) (by rw [hc])
            omega
          have hn : (Ls.filter (fun a => decide (M2.1 a))).Nodup := List.Pairwise.sublist List.filter_sublist hnod
          exact (List.getElem?_inj (List.getElem?_eq_some_iff.mp hk).1 hn).mp (hk.trans hq.symm)
    · obtain ⟨q, hq⟩ := key k x hx
      exact h4.2 q x hq
theorem KP.weaken {D : va_G} {cA : Nat → ClassId} {ad : KI → Nat} {A B : Nat → Prop} {M : KM} {H : Heap} (h : KP D cA ad A M H) (hAB : ∀ i, M.1 i → A (ad i) → B (ad i)) : KP D cA ad B M H := by
  obtain ⟨Ls, h1, h2, h3, h4⟩ := h
  refine ⟨Ls, h1, h2, h3, h4.weaken fun k q hk hq => ?_⟩
  cases hl : Ls[k]? with
  | none => simp [kws, hl] at hk
  | some a =>
    rw [kws_get hl] at hk
    cases hk
    exact hAB a ((h1 a).mpr (List.mem_of_getElem? hl)) hq
theorem KP.inA {D : va_G} {cA : Nat → ClassId} {ad : KI → Nat} {A : Nat → Prop} {M : KM} {H : Heap} (h : KP D cA ad A M H) {i : KI} (hi : M.1 i) : A (ad i) ∧ ad i < H.size := by
  obtain ⟨ws, k, hk, hP, hD⟩ := h.get hi
  exact ⟨hD.2 k _ hk, (hP k _ hk).lt⟩
/-- the locals -/
def klist (ad : KI → Nat) (nL : Nat) (ls : KL) : List (Nat × Value) := (List.range nL).filterMap (fun i => (kget ls i).map fun v => (i, kv ad v))
def kls (ad : KI → Nat) (nL : Nat) (lsA : Array Slot) (ls : KL) : Prop := lv_has lsA nL (klist ad nL ls) ∧ ls.length = nL
theorem kget_lt : ∀ {ls : KL} {i : Nat} {v : KV}, kget ls i = some v → i < ls.length
  | [], i, v, h => by simp [kget] at h
  | a :: l, 0, v, h => by simp
  | a :: l, i + 1, v, h => by
    have := kget_lt (ls := l) (i := i) (v := v) h
    simp; omega
theorem klist_mem {ad : KI → Nat} {nL : Nat} {ls : KL} {i : Nat} {w : Value} : (i, w) ∈ klist ad nL ls ↔ i < nL ∧ ∃ v, kget ls i = some v ∧ w = kv ad v := by
  simp only [klist, List.mem_filterMap, List.mem_range]
  constructor
  · rintro ⟨k, hk, he⟩
    cases hv : kget ls k with
    | none => simp [hv] at he
    | some v =>
      simp only [hv, Option.map_some, Option.some.injEq, Prod.mk.injEq] at he
      obtain ⟨rfl, rfl⟩ := he
      exact ⟨hk, v, hv, rfl⟩
  · rintro ⟨hk, v, hv, rfl⟩
    exact ⟨i, hk, by simp [hv]⟩
theorem kls.get {ad : KI → Nat} {nL : Nat} {lsA : Array Slot} {ls : KL} (h : kls ad nL lsA ls) {i : Nat} {v : KV} (hv : kget ls i = some v) : lsA[i]? = some (.val (kv ad v)) :=
  h.1.2.2 (i, kv ad v) (klist_mem.mpr ⟨by rw [← h.2]; exact kget_lt hv, v, hv, rfl⟩)
theorem kst1_len : ∀ (ls : KL) (a : Nat) (x : KV), (kst1 ls a x).length = ls.length
  | [], _, _ => rfl
  | _ :: l, 0, _ => rfl
  | _ :: l, 1, x => by simp [kst1, kst1_len l 0 x]
  | _ :: l, a + 2, x => by simp [kst1, kst1_len l (a + 1) x]
theorem kst2_len : ∀ (ls : KL) (a : Nat) (x : KV), (kst2 ls a x).length = ls.length
  | [], 0, _ => rfl
  | [_], 0, _ => rfl
  | _ :: _ :: l, 0, _ => rfl
  | [], 1, x => rfl
  | _ :: l, 1, x => by simp [kst2, kst2_len l 0 x]
  | [], a + 2, x => rfl
  | _ :: l, a + 2, x => by simp [kst2, kst2_len l (a + 1) x]
theorem kst1_get : ∀ (ls : KL) (a : Nat) (x : KV) (j : Nat) (w : KV), kget (kst1 ls a x) j = some w → (j = a ∧ w = x) ∨ (j ≠ a ∧ kget ls j = some w ∧ ¬ (j + 1 = a ∧ kc2 (some w) = true))
  | [], a, x, j, w, h => by simp [kst1, kget] at h
  | b :: l, 0, x, 0, w, h => by simp [kst1, kget] at h; exact Or.inl ⟨rfl, h.symm⟩
  | b :: l, 0, x, j + 1, w, h => by
    simp only [kst1, kget] at h
    exact Or.inr ⟨by omega, h, by omega⟩
  | b :: l, 1, x, 0, w, h => by
    simp only [kst1, kget] at h
    cases hc : kc2 b with
    | true => simp [hc] at h
    | false =>
      simp only [hc, cond_false] at h
      refine Or.inr ⟨by omega, h, fun z => ?_⟩
      rw [← h, hc] at z
      exact absurd z.2 (by decide)
  | b :: l, 1, x, j + 1, w, h => by
    simp only [kst1, kget] at h
    rcases kst1_get l 0 x j w h with ⟨h1, h2⟩ | ⟨h1, h2, h3⟩
    · exact Or.inl ⟨by omega, h2⟩
    · exact Or.inr ⟨by omega, h2, by omega⟩
  | b :: l, a + 2, x, 0, w, h => by
    simp only [kst1, kget] at h
    exact Or.inr ⟨by omega, h, by omega⟩
  | b :: l, a + 2, x, j + 1, w, h => by
    simp only [kst1, kget] at h
    rcases kst1_get l (a + 1) x j w h with ⟨h1, h2⟩ | ⟨h1, h2, h3⟩
    · exact Or.inl ⟨by omega, h2⟩
    · exact Or.inr ⟨by omega, h2, fun z => h3 ⟨by omega, z.2⟩⟩
theorem kst2_get : ∀ (ls : KL) (a : Nat) (x : KV) (j : Nat) (w : KV), a + 1 < ls.length → kget (kst2 ls a x) j = some w → (j = a ∧ w = x) ∨ (j ≠ a ∧ j ≠ a + 1 ∧ kget ls j = some w ∧ ¬ (j + 1 = a ∧ kc2 (some w) = true))
  | [], a, x, j, w, hl, h => by simp at hl
  | [b], a, x, j, w, hl, h => by simp at hl
  | b :: d :: l, 0, x, 0, w, hl, h => by simp [kst2, kget] at h; exact Or.inl ⟨rfl, h.symm⟩
  | b :: d :: l, 0, x, 1, w, hl, h => by simp [kst2, kget] at h
  | b :: d :: l, 0, x, j + 2, w, hl, h => by
    simp only [kst2, kget] at h
    exact Or.inr ⟨by omega, by omega, h, by omega⟩
  | b :: d :: l, 1, x, 0, w, hl, h => by
    simp only [kst2, kget] at h
    cases hc : kc2 b with
    | true => simp [hc] at h
    | false =>
      simp only [hc, cond_false] at h
      refine Or.inr ⟨by omega, by omega, h, fun z => ?_⟩
      rw [← h, hc] at z
      exact absurd z.2 (by decide)
  | b :: d :: l, 1, x, j + 1, w, hl, h => by
    simp only [kst2, kget] at h
    rcases kst2_get (d :: l) 0 x j w (by simp at hl ⊢; omega) h with ⟨h1, h2⟩ | ⟨h1, h2, h3, h4⟩
    · exact Or.inl ⟨by omega, h2⟩
    · exact Or.inr ⟨by omega, by omega, h3, by omega⟩
  | b :: d :: l, a + 2, x, 0, w, hl, h => by
    simp only [kst2, kget] at h
    exact Or.inr ⟨by omega, by omega, h, by omega⟩
  | b :: d :: l, a + 2, x, j + 1, w, hl, h => by
    simp only [kst2, kget] at h
    rcases kst2_get (d :: l) (a + 1) x j w (by simp at hl ⊢; omega) h with ⟨h1, h2⟩ | ⟨h1, h2, h3, h4⟩
    · exact Or.inl ⟨by omega, h2⟩
    · exact Or.inr ⟨by omega, by omega, h3, fun z => h4 ⟨by omega, z.2⟩⟩
theorem kc2_cat {ad : KI → Nat} {v : KV} : (kv ad v).category = if kc2 (some v) = true then 2 else 1 := by
  rcases v with x | x | x | x
  · rfl
  · rfl
  · rfl
  · cases x <;> rfl
theorem kls.st1 {ad : KI → Nat} {nL : Nat} {lsA lsB : Array Slot} {ls : KL} {a : Nat} {x : KV} (h : kls ad nL lsA ls) (h2 : lv_has lsB nL ((a, kv ad x) :: (klist ad nL ls).filter (fun q => !(q.1 == a) && !(q.1 + 1 == a && q.2.category == 2)))) : kls ad nL lsB (kst1 ls a x) := by
  refine ⟨⟨h2.1, h2.2.1, fun q hq => ?_⟩, by rw [kst1_len]; exact h.2⟩
  obtain ⟨j, w⟩ := q
  obtain ⟨hj, v, hv, rfl⟩ := klist_mem.mp hq
  refine h2.2.2 (j, kv ad v) ?_
  rcases kst1_get ls a x j v hv with ⟨rfl, rfl⟩ | ⟨h3, h4, h5⟩
  · exact List.mem_cons_self
  · refine List.mem_cons_of_mem _ (List.mem_filter.mpr ⟨klist_mem.mpr ⟨hj, v, h4, rfl⟩, ?_⟩)
    simp only [Bool.and_eq_true, Bool.not_eq_true', beq_eq_false_iff_ne, ne_eq, h3, not_false_eq_true, true_and, Bool.and_eq_false_iff, kc2_cat]
    by_cases hc : kc2 (some v) = true
    · left; exact fun z => h5 ⟨z, hc⟩
    · right; simp [hc]
theorem kls.st2 {ad : KI → Nat} {nL : Nat} {lsA lsB : Array Slot} {ls : KL} {a : Nat} {x : KV} (h : kls ad nL lsA ls) (ha : a + 1 < nL) (h2 : lv_has lsB nL ((a, kv ad x) :: (klist ad nL ls).filter (fun q => !(q.1 == a) && (!(q.1 == a + 1) && !(q.1 + 1 == a && q.2.category == 2))))) : kls ad nL lsB (kst2 ls a x) := by
  refine ⟨⟨h2.1, h2.2.1, fun q hq => ?_⟩, by rw [kst2_len]; exact h.2⟩
  obtain ⟨j, w⟩ := q
  obtain ⟨hj, v, hv, rfl⟩ := klist_mem.mp hq
  refine h2.2.2 (j, kv ad v) ?_
  rcases kst2_get ls a x j v (by rw [h.2]; exact ha) hv with ⟨rfl, rfl⟩ | ⟨h3, h6, h4, h5⟩
  · exact List.mem_cons_self
  · refine List.mem_cons_of_mem _ (List.mem_filter.mpr ⟨klist_mem.mpr ⟨hj, v, h4, rfl⟩, ?_⟩)
    simp only [Bool.and_eq_true, Bool.not_eq_true', beq_eq_false_iff_ne, ne_eq, h3, h6, not_false_eq_true, true_and, Bool.and_eq_false_iff, kc2_cat]
    by_cases hc : kc2 (some v) = true
    · left; exact fun z => h5 ⟨z, hc⟩
    · right; simp [hc]
/-- other addresses, the same where it matters -/
def kLV (M : KM) (ls : KL) (st : List KV) : Prop := (∀ (i : Nat) (r : KI), kget ls i = some (kR (some r)) → M.1 r ∨ r = (13, 0, 0)) ∧ ∀ r : KI, kR (some r) ∈ st → M.1 r ∨ r = (13, 0, 0)
theorem kOkL_spec {M : KM} : ∀ {ls : KL}, kOkL M ls → ∀ (i : Nat) (r : KI), kget ls i = some (kR (some r)) → M.1 r ∨ r = (13, 0, 0)
  | [], _, i, r, h => by simp [kget] at h
  | a :: l, h, 0, r, hg => by
    simp only [kget] at hg
    have h1 := h.1
    rw [hg] at h1
    exact h1
  | a :: l, h, i + 1, r, hg => kOkL_spec (ls := l) h.2 i r hg
theorem kOkS_spec {M : KM} : ∀ {st : List KV}, kOkS M st → ∀ r : KI, kR (some r) ∈ st → M.1 r ∨ r = (13, 0, 0)
  | [], _, r, h => by simp at h
  | a :: l, h, r, hg => by
    rcases List.mem_cons.mp hg with h1 | h1
    · have h2 := h.1
      rw [← h1] at h2
      exact h2
    · exact kOkS_spec (st := l) h.2 r h1
theorem kLV_of {M : KM} {ls : KL} {st : List KV} (h1 : kOkL M ls) (h2 : kOkS M st) : kLV M ls st := ⟨kOkL_spec h1, kOkS_spec h2⟩
theorem kv_same {ad ad' : KI → Nat} {v : KV} (h : ∀ r, v = kR (some r) → ad' r = ad r) : kv ad' v = kv ad v := by
  rcases v with x | x | x | x
  · rfl
  · rfl
  · rfl
  · cases x with
    | none => rfl
    | some r => simp [kv, h r rfl]
theorem kls.same {ad ad' : KI → Nat} {nL : Nat} {lsA : Array Slot} {ls : KL} (h : kls ad nL lsA ls) (he : ∀ (i : Nat) (r : KI), kget ls i = some (kR (some r)) → ad' r = ad r) : kls ad' nL lsA ls := by
  refine ⟨⟨h.1.1, h.1.2.1, fun q hq => ?_⟩, h.2⟩
  obtain ⟨j, w⟩ := q
  obtain ⟨hj, v, hv, rfl⟩ := klist_mem.mp hq
  show lsA[j]? = some (.val (kv ad' v))
  rw [kv_same (ad := ad) (fun r hr => he j r (by rw [hv, hr]))]
  exact h.get hv
theorem kst_same {ad ad' : KI → Nat} {st : List KV} (he : ∀ r : KI, kR (some r) ∈ st → ad' r = ad r) : st.map (kv ad') = st.map (kv ad) := by
  apply List.map_congr_left
  intro v hv
  exact kv_same fun r hr => he r (hr ▸ hv)
theorem kls.weak {ad : KI → Nat} {nL : Nat} {lsA : Array Slot} {ls ls' : KL} (h : kls ad nL lsA ls) (hl : ls'.length = ls.length) (he : ∀ (i : Nat) (v : KV), kget ls' i = some v → kget ls i = some v) : kls ad nL lsA ls' := by
  refine ⟨⟨h.1.1, h.1.2.1, fun q hq => ?_⟩, hl.trans h.2⟩
  obtain ⟨j, w⟩ := q
  obtain ⟨hj, v, hv, rfl⟩ := klist_mem.mp hq
  exact h.get (he j v hv)
theorem kcats_sum {ad : KI → Nat} : ∀ st : List KV, ((st.map (kv ad)).map fun v => v.category).sum = kcats st
  | [] => rfl
  | v :: r => by
    simp only [List.map_cons, List.sum_cons, kcats]
    rw [kcats_sum r]
    congr 1
    rcases v with x | x | x | x
    · rfl
    · rfl
    · rfl
    · cases x <;> rfl
end
section
/-! TABLES, by our own program out of the class files' listing: which constant pool entry names what (own: the kinds 0 to 7, 8 the law, 9 Math) -/
def ktabF : List (Nat × Nat × Nat × Nat) := [(0, 9, 0, 1), (0, 15, 0, 0), (0, 18, 0, 2), (0, 21, 0, 3), (0, 24, 0, 4), (1, 9, 1, 0), (1, 15, 1, 1), (1, 18, 1, 2), (1, 21, 1, 3), (1, 24, 1, 4), (1, 27, 1, 5), (1, 30, 1, 6), (1, 33, 1, 7), (2, 14, 2, 0), (2, 24, 2, 1), (2, 28, 2, 2), (3, 9, 3, 0), (3, 17, 3, 1), (3, 23, 3, 2), (3, 29, 3, 3), (3, 38, 3, 4), (3, 42, 3, 8), (3, 55, 3, 5), (3, 62, 3, 6), (3, 68, 3, 7), (3, 77, 3, 9), (3, 80, 3, 10), (3, 83, 3, 11), (3, 86, 3, 12), (3, 89, 3, 13), (3, 92, 0, 0), (3, 106, 1, 3), (3, 109, 2, 0), (3, 118, 1, 2), (3, 153, 1, 7), (3, 156, 0, 1), (3, 163, 1, 4), (3, 166, 1, 6), (3, 169, 0, 2), (3, 172, 0, 3), (3, 177, 4, 1), (3, 189, 1, 0), (3, 193, 2, 2), (3, 196, 0, 4), (3, 197, 1, 5), (3, 200, 1, 1), (3, 209, 2, 1), (4, 9, 4, 0), (4, 15, 4, 1), (5, 12, 5, 0), (5, 16, 5, 1), (5, 34, 3, 8), (5, 38, 3, 5), (5, 45, 3, 9), (5, 48, 3, 6), (5, 61, 3, 2), (5, 65, 2, 1), (5, 75, 3, 0), (5, 79, 3, 7), (5, 89, 3, 3), (5, 93, 1, 2), (5, 106, 2, 0), (5, 110, 4, 1), (5, 115, 1, 3), (5, 124, 3, 1), (5, 135, 4, 0), (5, 138, 3, 4), (5, 158, 3, 13), (6, 3, 6, 22), (6, 15, 6, 9), (6, 19, 6, 10), (6, 22, 6, 11), (6, 25, 6, 12), (6, 28, 6, 13), (6, 31, 6, 14), (6, 34, 6, 15), (6, 37, 6, 16), (6, 40, 6, 17), (6, 43, 6, 18), (6, 46, 6, 19), (6, 49, 6, 20), (6, 52, 6, 21), (6, 61, 6, 0), (6, 65, 6, 1), (6, 68, 6, 2), (6, 71, 6, 3), (6, 74, 6, 4), (6, 77, 6, 5), (6, 80, 6, 6), (6, 83, 6, 7), (6, 86, 6, 8), (7, 7, 7, 1), (7, 13, 7, 4), (7, 17, 7, 5), (7, 20, 7, 6), (7, 28, 7, 7), (7, 32, 7, 8), (7, 35, 7, 0), (7, 38, 7, 3), (7, 56, 7, 2)]
def ktabN : List (Nat × Nat × Nat × Nat) := [(6, 97, 7, 2), (6, 100, 7, 4), (6, 103, 7, 3), (6, 110, 7, 6), (6, 116, 7, 1), (7, 45, 6, 3), (7, 59, 6, 10), (7, 62, 6, 9), (7, 65, 6, 8), (7, 68, 6, 1), (7, 82, 6, 17), (7, 92, 6, 15), (7, 95, 6, 16), (7, 98, 6, 18), (7, 101, 6, 19), (7, 104, 6, 20), (7, 107, 6, 21), (7, 113, 6, 11), (7, 119, 6, 13), (7, 122, 6, 14), (7, 125, 6, 12), (7, 134, 6, 0), (7, 140, 6, 4), (7, 143, 6, 2), (7, 146, 6, 5), (7, 159, 6, 7), (7, 162, 6, 6)]
def ktabC : List (Nat × Nat × Nat) := [(2, 9, 4), (3, 15, 0), (3, 21, 2), (3, 27, 1), (3, 33, 4), (5, 9, 3), (7, 23, 6), (8, 8, 5), (8, 81, 7)]
def ktabL : List (Nat × Nat × Int64) := [(5, 164, 677), (5, 201, 31), (7, 165, 677), (7, 167, 31)]
def ktabO : List (Nat × Nat) := [(0, 3), (1, 3), (2, 3), (3, 3), (4, 3), (5, 3), (6, 9), (7, 1)]
def ktabA : List (Nat × Nat) := [(3, 49), (4, 19), (6, 55)]
/-- a method: its name, bytes, locals, answer, frames and locals' words that it needs -/
abbrev KMeth : Type := MethodName × ByteArray × Nat × Option FieldType × Nat × Nat
def mJ9_floorMod_7cf53 : KMeth := (yJ9_floorMod_7cf53, cJ9_floorMod_7cf53, 3, (some .int), 0, 0)
def mL_addChair : KMeth := (yL_addChair, cL_addChair, 4, (some .int), 8, 131)
def mL_addLane : KMeth := (yL_addLane, cL_addLane, 3, (some .int), 8, 130)
def mL_advise : KMeth := (yL_advise, cL_advise, 4, (some .int), 8, 163)
def mL_chair : KMeth := (yL_chair, cL_chair, 5, (some .int), 8, 132)
def mL_change : KMeth := (yL_change, cL_change, 5, (some .int), 8, 132)
def mL_count : KMeth := (yL_count, cL_count, 4, (some .int), 8, 131)
def mL_foresee : KMeth := (yL_foresee, cL_foresee, 5, (some .int), 8, 159)
def mL_group : KMeth := (yL_group, cL_group, 5, (some .int), 8, 132)
def mL_join : KMeth := (yL_join, cL_join, 6, (some .int), 8, 133)
def mL_lane : KMeth := (yL_lane, cL_lane, 5, (some .int), 8, 132)
def mL_law : KMeth := (yL_law, code, 9, (some .boolean), 11, 388)
def mL_leave : KMeth := (yL_leave, cL_leave, 4, (some .int), 8, 132)
def mL_needs : KMeth := (yL_needs, cL_needs, 5, (some .int), 8, 159)
def mL_pass : KMeth := (yL_pass, cL_pass, 4, (some .int), 8, 157)
def mL_queue : KMeth := (yL_queue, cL_queue, 5, (some .int), 8, 132)
def mL_setWind : KMeth := (yL_setWind, cL_setWind, 5, (some .int), 8, 133)
def mL_shed : KMeth := (yL_shed, cL_shed, 4, (some .int), 8, 131)
def mL_shut : KMeth := (yL_shut, cL_shut, 5, (some .int), 8, 133)
def mL_stretch : KMeth := (yL_stretch, cL_stretch, 4, (some .int), 8, 132)
def mL_want : KMeth := (yL_want, cL_want, 4, (some .int), 8, 132)
def mL_when : KMeth := (yL_when, cL_when, 4, (some .int), 8, 158)
def mX0_copyFrom : KMeth := (yX0_copyFrom, cX0_copyFrom, 2, none, 0, 0)
def mX0_fact : KMeth := (yX0_fact, cX0_fact, 2, (some .int), 0, 0)
def mX0_init : KMeth := (yX0_init, cX0_init, 1, none, 1, 20)
def mX1_copyFrom : KMeth := (yX1_copyFrom, cX1_copyFrom, 2, none, 0, 0)
def mX1_fact : KMeth := (yX1_fact, cX1_fact, 2, (some .int), 0, 0)
def mX1_init : KMeth := (yX1_init, cX1_init, 1, none, 1, 20)
def mX1_start : KMeth := (yX1_start, cX1_start, 4, none, 0, 0)
def mX2_copyFrom : KMeth := (yX2_copyFrom, cX2_copyFrom, 2, none, 2, 47)
def mX2_init : KMeth := (yX2_init, cX2_init, 1, none, 2, 41)
def mX3_board : KMeth := (yX3_board, cX3_board, 4, none, 2, 45)
def mX3_chairAt : KMeth := (yX3_chairAt, cX3_chairAt, 3, (some .int), 0, 0)
def mX3_chairsOnRope : KMeth := (yX3_chairsOnRope, cX3_chairsOnRope, 1, (some .int), 0, 0)
def mX3_coldness : KMeth := (yX3_coldness, cX3_coldness, 3, (some .int), 0, 0)
def mX3_coolRiders : KMeth := (yX3_coolRiders, cX3_coolRiders, 2, none, 0, 0)
def mX3_copyFrom : KMeth := (yX3_copyFrom, cX3_copyFrom, 3, none, 3, 68)
def mX3_exchangeAtValley : KMeth := (yX3_exchangeAtValley, cX3_exchangeAtValley, 3, none, 1, 23)
def mX3_fact : KMeth := (yX3_fact, cX3_fact, 2, (some .int), 1, 23)
def mX3_goOneStep : KMeth := (yX3_goOneStep, cX3_goOneStep, 3, (some .int), 4, 91)
def mX3_goSteps : KMeth := (yX3_goSteps, cX3_goSteps, 4, (some .int), 5, 113)
def mX3_groupToBoard : KMeth := (yX3_groupToBoard, cX3_groupToBoard, 5, (some .int), 1, 21)
def mX3_init : KMeth := (yX3_init, cX3_init, 2, none, 3, 61)
def mX3_laneBehind : KMeth := (yX3_laneBehind, cX3_laneBehind, 2, (some .int), 0, 0)
def mX3_laneFact : KMeth := (yX3_laneFact, cX3_laneFact, 4, (some .int), 1, 23)
def mX3_loadAtValley : KMeth := (yX3_loadAtValley, cX3_loadAtValley, 4, none, 3, 68)
def mX3_makeChair : KMeth := (yX3_makeChair, cX3_makeChair, 3, (some .int), 1, 21)
def mX3_makeGroup : KMeth := (yX3_makeGroup, cX3_makeGroup, 5, (some .int), 2, 43)
def mX3_makeLane : KMeth := (yX3_makeLane, cX3_makeLane, 2, (some .int), 0, 0)
def mX3_moveRope : KMeth := (yX3_moveRope, cX3_moveRope, 3, none, 0, 0)
def mX3_peopleInQueueOf : KMeth := (yX3_peopleInQueueOf, cX3_peopleInQueueOf, 4, (some .int), 0, 0)
def mX3_peopleWho : KMeth := (yX3_peopleWho, cX3_peopleWho, 4, (some .int), 0, 0)
def mX3_putIntoQueue : KMeth := (yX3_putIntoQueue, cX3_putIntoQueue, 3, none, 1, 21)
def mX3_ridersTaken : KMeth := (yX3_ridersTaken, cX3_ridersTaken, 3, (some .int), 0, 0)
def mX3_ropeStands : KMeth := (yX3_ropeStands, cX3_ropeStands, 3, (some .boolean), 0, 0)
def mX3_sendAway : KMeth := (yX3_sendAway, cX3_sendAway, 2, none, 2, 45)
def mX3_sendImpatientAway : KMeth := (yX3_sendImpatientAway, cX3_sendImpatientAway, 3, none, 3, 66)
def mX3_stepsUntilUp : KMeth := (yX3_stepsUntilUp, cX3_stepsUntilUp, 5, (some .int), 5, 113)
def mX3_takeOutOfQueue : KMeth := (yX3_takeOutOfQueue, cX3_takeOutOfQueue, 3, none, 1, 23)
def mX3_unloadAtTop : KMeth := (yX3_unloadAtTop, cX3_unloadAtTop, 3, (some .int), 1, 22)
def mX4_append : KMeth := (yX4_append, cX4_append, 2, none, 0, 0)
def mX4_copyFrom : KMeth := (yX4_copyFrom, cX4_copyFrom, 2, none, 1, 26)
def mX4_first : KMeth := (yX4_first, cX4_first, 1, (some .int), 0, 0)
def mX4_init : KMeth := (yX4_init, cX4_init, 2, none, 1, 20)
def mX4_remove : KMeth := (yX4_remove, cX4_remove, 4, none, 0, 0)
def mX5_addChair : KMeth := (yX5_addChair, cX5_addChair, 2, (some .int), 7, 110)
def mX5_addLane : KMeth := (yX5_addLane, cX5_addLane, 1, (some .int), 7, 110)
def mX5_advise : KMeth := (yX5_advise, cX5_advise, 7, (some .int), 7, 137)
def mX5_chair : KMeth := (yX5_chair, cX5_chair, 3, (some .int), 7, 110)
def mX5_change : KMeth := (yX5_change, cX5_change, 3, (some .int), 7, 110)
def mX5_count : KMeth := (yX5_count, cX5_count, 2, (some .int), 7, 110)
def mX5_digest : KMeth := (yX5_digest, cX5_digest, 4, (some .long), 3, 74)
def mX5_foresee : KMeth := (yX5_foresee, cX5_foresee, 4, (some .int), 7, 136)
def mX5_group : KMeth := (yX5_group, cX5_group, 3, (some .int), 7, 110)
def mX5_init : KMeth := (yX5_init, cX5_init, 1, none, 4, 82)
def mX5_isBelow : KMeth := (yX5_isBelow, cX5_isBelow, 2, (some .boolean), 0, 0)
def mX5_isGroup : KMeth := (yX5_isGroup, cX5_isGroup, 2, (some .boolean), 1, 21)
def mX5_isLane : KMeth := (yX5_isLane, cX5_isLane, 2, (some .boolean), 1, 21)
def mX5_isWithin : KMeth := (yX5_isWithin, cX5_isWithin, 3, (some .boolean), 0, 0)
def mX5_join : KMeth := (yX5_join, cX5_join, 4, (some .int), 7, 110)
def mX5_lane : KMeth := (yX5_lane, cX5_lane, 3, (some .int), 7, 110)
def mX5_leave : KMeth := (yX5_leave, cX5_leave, 3, (some .int), 7, 110)
def mX5_mean : KMeth := (yX5_mean, cX5_mean, 1, (some .double), 1, 22)
def mX5_mixed : KMeth := (yX5_mixed, cX5_mixed, 4, (some .long), 0, 0)
def mX5_mixedWithChairs : KMeth := (yX5_mixedWithChairs, cX5_mixedWithChairs, 7, (some .long), 1, 23)
def mX5_mixedWithGroups : KMeth := (yX5_mixedWithGroups, cX5_mixedWithGroups, 7, (some .long), 1, 23)
def mX5_mixedWithLanes : KMeth := (yX5_mixedWithLanes, cX5_mixedWithLanes, 7, (some .long), 2, 48)
def mX5_mixedWithRow : KMeth := (yX5_mixedWithRow, cX5_mixedWithRow, 6, (some .long), 1, 23)
def mX5_needs : KMeth := (yX5_needs, cX5_needs, 4, (some .int), 7, 136)
def mX5_pass : KMeth := (yX5_pass, cX5_pass, 2, (some .int), 7, 136)
def mX5_queue : KMeth := (yX5_queue, cX5_queue, 3, (some .int), 7, 110)
def mX5_requireArgument : KMeth := (yX5_requireArgument, cX5_requireArgument, 1, none, 6, 90)
def mX5_requireIndex : KMeth := (yX5_requireIndex, cX5_requireIndex, 1, none, 6, 90)
def mX5_requireState : KMeth := (yX5_requireState, cX5_requireState, 1, none, 6, 90)
def mX5_setWind : KMeth := (yX5_setWind, cX5_setWind, 4, (some .int), 7, 110)
def mX5_shed : KMeth := (yX5_shed, cX5_shed, 2, (some .int), 7, 110)
def mX5_shut : KMeth := (yX5_shut, cX5_shut, 4, (some .boolean), 7, 110)
def mX5_stretch : KMeth := (yX5_stretch, cX5_stretch, 3, (some .int), 7, 110)
def mX5_want : KMeth := (yX5_want, cX5_want, 3, (some .int), 7, 110)
def mX5_when : KMeth := (yX5_when, cX5_when, 2, (some .int), 7, 137)
def mX6_become : KMeth := (yX6_become, cX6_become, 2, none, 2, 48)
def mX6_chill : KMeth := (yX6_chill, cX6_chill, 2, none, 0, 0)
def mX6_copy : KMeth := (yX6_copy, cX6_copy, 3, none, 1, 26)
def mX6_drop : KMeth := (yX6_drop, cX6_drop, 5, (some .int), 1, 26)
def mX6_enter : KMeth := (yX6_enter, cX6_enter, 3, (some .int), 0, 0)
def mX6_find : KMeth := (yX6_find, cX6_find, 3, (some .int), 0, 0)
def mX6_init : KMeth := (yX6_init, cX6_init, 2, none, 1, 20)
def mX6_join : KMeth := (yX6_join, cX6_join, 5, (some .int), 1, 22)
def mX6_load : KMeth := (yX6_load, cX6_load, 7, none, 2, 50)
def mX6_onRope : KMeth := (yX6_onRope, cX6_onRope, 1, (some .int), 0, 0)
def mX6_pass : KMeth := (yX6_pass, cX6_pass, 6, (some .int), 4, 97)
def mX6_people : KMeth := (yX6_people, cX6_people, 4, (some .int), 0, 0)
def mX6_valley : KMeth := (yX6_valley, cX6_valley, 2, none, 3, 76)
def mX7_addChair : KMeth := (yX7_addChair, cX7_addChair, 2, (some .int), 1, 22)
def mX7_addLane : KMeth := (yX7_addLane, cX7_addLane, 1, (some .int), 1, 21)
def mX7_advise : KMeth := (yX7_advise, cX7_advise, 6, (some .int), 6, 145)
def mX7_chair : KMeth := (yX7_chair, cX7_chair, 3, (some .int), 1, 25)
def mX7_chairTold : KMeth := (yX7_chairTold, cX7_chairTold, 6, (some .int), 0, 0)
def mX7_change : KMeth := (yX7_change, cX7_change, 3, (some .int), 2, 50)
def mX7_count : KMeth := (yX7_count, cX7_count, 2, (some .int), 2, 45)
def mX7_counted : KMeth := (yX7_counted, cX7_counted, 3, (some .int), 1, 23)
def mX7_digest : KMeth := (yX7_digest, cX7_digest, 5, (some .long), 2, 45)
def mX7_foresee : KMeth := (yX7_foresee, cX7_foresee, 5, (some .int), 5, 122)
def mX7_group : KMeth := (yX7_group, cX7_group, 3, (some .int), 2, 43)
def mX7_groupTold : KMeth := (yX7_groupTold, cX7_groupTold, 5, (some .int), 0, 0)
def mX7_init : KMeth := (yX7_init, cX7_init, 1, none, 2, 41)
def mX7_isGroup : KMeth := (yX7_isGroup, cX7_isGroup, 2, (some .boolean), 1, 22)
def mX7_isIn : KMeth := (yX7_isIn, cX7_isIn, 3, (some .boolean), 0, 0)
def mX7_isLane : KMeth := (yX7_isLane, cX7_isLane, 2, (some .boolean), 1, 22)
def mX7_join : KMeth := (yX7_join, cX7_join, 4, (some .int), 2, 46)
def mX7_lane : KMeth := (yX7_lane, cX7_lane, 3, (some .int), 2, 43)
def mX7_laneTold : KMeth := (yX7_laneTold, cX7_laneTold, 5, (some .int), 0, 0)
def mX7_leave : KMeth := (yX7_leave, cX7_leave, 2, (some .int), 2, 50)
def mX7_mean : KMeth := (yX7_mean, cX7_mean, 1, (some .double), 0, 0)
def mX7_needs : KMeth := (yX7_needs, cX7_needs, 6, (some .int), 5, 122)
def mX7_no : KMeth := (yX7_no, cX7_no, 2, (some .int), 0, 0)
def mX7_pass : KMeth := (yX7_pass, cX7_pass, 4, (some .int), 5, 122)
def mX7_queue : KMeth := (yX7_queue, cX7_queue, 3, (some .int), 2, 43)
def mX7_rises : KMeth := (yX7_rises, cX7_rises, 4, (some .int), 5, 122)
def mX7_setWind : KMeth := (yX7_setWind, cX7_setWind, 4, (some .int), 1, 22)
def mX7_shed : KMeth := (yX7_shed, cX7_shed, 2, (some .int), 1, 22)
def mX7_shut : KMeth := (yX7_shut, cX7_shut, 4, (some .boolean), 2, 43)
def mX7_stretch : KMeth := (yX7_stretch, cX7_stretch, 3, (some .int), 1, 22)
def mX7_thrown : KMeth := (yX7_thrown, cX7_thrown, 1, (some .int), 0, 0)
def mX7_want : KMeth := (yX7_want, cX7_want, 3, (some .int), 1, 22)
def mX7_when : KMeth := (yX7_when, cX7_when, 2, (some .int), 6, 145)
def ktabI : List (Nat × Nat × MethodName) := [(3, 46, yX0_init), (3, 47, yX2_init), (3, 48, yX1_init), (7, 25, yX6_init)]
end
section
/-! The small machine's runs are the machine's runs: one law an instruction, then blocks. -/
def kown : Nat → String
  | 8 => RL
  | 9 => RJ9
  | c => kRn c
def kwF (e : Nat × Nat × Nat × Nat) : Cond := .fieldLink (kown e.1) e.2.1 (kT e.2.2.1 e.2.2.2).1 (kT e.2.2.1 e.2.2.2).2.1 (kT e.2.2.1 e.2.2.2).2.2.1
def kwN (e : Nat × Nat × Nat × Nat) : Cond := .fieldLinkNest (kown e.1) e.2.1 (kT e.2.2.1 e.2.2.2).1 (kT e.2.2.1 e.2.2.2).2.1 (kT e.2.2.1 e.2.2.2).2.2.1 "ChairLiftModel"
def khost (o : Nat) : String := if o = 3 then "ChairLift" else "ChairLiftModel"
def kwI (e : Nat × Nat × MethodName) : Cond := .methodLinkNest (kown e.1) e.2.1 e.2.2 (khost e.1)
def KNest (U : State) : Prop := (∀ e ∈ ktabN, va_Nw (kwN e) U) ∧ (∀ e ∈ ktabI, va_Nw (kwI e) U) ∧ ∀ k, (k = 9 ∨ k = 10 ∨ k = 11) → va_AO (kRn (kelem k)) U
set_option maxRecDepth 100000 in
theorem kF_ok : (ktabF.all fun e => decide (kwF e ∈ lw_tbl) && goodWord (kwF e)) = true := by decide +kernel
set_option maxRecDepth 100000 in
theorem kN_ok : (ktabN.all fun e => decide (kwN e ∈ lw_tbl) && (kwN e).onTables) = true := by decide +kernel
set_option maxRecDepth 100000 in
theorem kI_ok : (ktabI.all fun e => decide (kwI e ∈ lw_tbl) && (kwI e).onTables) = true := by decide +kernel
set_option maxRecDepth 100000 in
theorem kC_ok : (ktabC.all fun e => decide (Cond.classLink (kown e.1) e.2.1 (kRn e.2.2) ∈ lw_tbl) && goodWord (Cond.classLink (kown e.1) e.2.1 (kRn e.2.2))) = true := by decide +kernel
set_option maxRecDepth 100000 in
theorem kL_ok : (ktabL.all fun e => decide (Cond.constantLong (kown e.1) e.2.1 e.2.2 ∈ lw_tbl) && goodWord (Cond.constantLong (kown e.1) e.2.1 e.2.2)) = true := by decide +kernel
set_option maxRecDepth 100000 in
theorem kO_ok : (ktabO.all fun e => decide (Cond.methodLink (kown e.1) e.2 objectInit ∈ lw_tbl) && goodWord (Cond.methodLink (kown e.1) e.2 objectInit)) = true := by decide +kernel
set_option maxRecDepth 100000 in
theorem kA_ok : (ktabA.all fun e => decide (Cond.methodLink (kown e.1) e.2 arraycopyName ∈ lw_tbl) && goodWord (Cond.methodLink (kown e.1) e.2 arraycopyName)) = true := by decide +kernel
set_option maxRecDepth 100000 in
theorem kInst : ∀ c, c < 8 → Cond.instantiable (kRn c) (kN c) ∈ kGW ∧ Cond.initialized (kRn c) ∈ kGW := k8 ⟨kGW_in (by decide +kernel) (by decide +kernel), kGW_in (by decide +kernel) (by decide +kernel)⟩ ⟨kGW_in (by decide +kernel) (by decide +kernel), kGW_in (by decide +kernel) (by decide +kernel)⟩ ⟨kGW_in (by decide +kernel) (by decide +kernel), kGW_in (by decide +kernel) (by decide +kernel)⟩ ⟨kGW_in (by decide +kernel) (by decide +kernel), kGW_in (by decide +kernel) (by decide +kernel)⟩ ⟨kGW_in (by decide +kernel) (by decide +kernel), kGW_in (by decide +kernel) (by decide +kernel)⟩ ⟨kGW_in (by decide +kernel) (by decide +kernel), kGW_in (by decide +kernel) (by decide +kernel)⟩ ⟨kGW_in (by decide +kernel) (by decide +kernel), kGW_in (by decide +kernel) (by decide +kernel)⟩ ⟨kGW_in (by decide +kernel) (by decide +kernel), kGW_in (by decide +kernel) (by decide +kernel)⟩
set_option maxRecDepth 100000 in
theorem kMisc : ∀ w ∈ [Cond.instanceMethod objectInit, .code objectInit ⟨#[0xb1]⟩ 1 none, .native arraycopyName, .static arraycopyName, .initialized "java/lang/System", .arrayClass .int, .arrayClass .long], w ∈ kGW := kGW_all (by decide +kernel)
theorem kall {α : Type} [BEq α] [LawfulBEq α] {l : List α} {p : α → Bool} (h : l.all p = true) {x : α} (hx : l.contains x = true) : p x = true := List.all_eq_true.mp h x (List.contains_iff_mem.mp hx)
theorem kandW {w : Cond} (h : (decide (w ∈ lw_tbl) && goodWord w) = true) : w ∈ kGW := by
  simp only [Bool.and_eq_true, decide_eq_true_eq] at h
  exact kGW_in h.1 h.2
abbrev KX : Type := Program × Launch × Env × Room × State × MethodId × Array Value × List Frame × Method × Code × (Nat → Prop) × va_G × (Nat → ClassId) × (KI → Nat) × (KI → Prop) × (State → Prop)
/-- the addresses: those of the start stay -/
def KZ (ad0 : KI → Nat) (L0 : KI → Prop) (M : KM) (ad : KI → Nat) : Prop := ad (13, 0, 0) = ad0 (13, 0, 0) ∧ ∀ i, L0 i → M.1 i ∧ ad i = ad0 i
theorem KZ.new {ad0 : KI → Nat} {L0 : KI → Prop} {M : KM} {ad : KI → Nat} (h : KZ ad0 L0 M ad) {i : KI} (hi : ¬ M.1 i) (h13 : i.1 ≠ 13) (q n : Nat) : KZ ad0 L0 (knew M i n) (kset ad i q) := by
  refine ⟨?_, fun k hk => ⟨Or.inr (h.2 k hk).1, ?_⟩⟩
  · have : ((13, 0, 0) : KI) ≠ i := fun z => h13 (by rw [← z])
    simp [kset, this, h.1]
  · have : k ≠ i := fun z => hi (z ▸ (h.2 k hk).1)
    simp [kset, this, (h.2 k hk).2]
/-- from here, with this memory, the method comes to its end -/
def KW (X : KX) (pc : Nat) (ls : KL) (st : List KV) (M : KM) (cs sl : Nat) : Prop :=
  match X with
  | (p, l, e, R, s, m, args, below, meth, c, A, D, cA, ad0, L0, Q) => ∀ (ad : KI → Nat) (H : Heap) (locs : List Loc) (lsA : Array Slot), KP D cA ad A M H → va_S A s.heap H locs → kls ad c.maxLocals lsA ls → KZ ad0 L0 M ad → W p l e R s m args below meth c H locs cs sl Q (F0 m pc lsA (st.map (kv ad)))
def kroom (m : KMeth) (mc ms : Nat) : Room := { frames := m.2.2.2.2.1, cells := mc, slots := ms, locals := m.2.2.2.2.2 }
def KC (X : KX) (m : KMeth) (own : Nat) (ini : Bool) (S : KS) (mc ms : Nat) : Prop :=
  match X with
  | (p, _, _, R, s, mid, args, _, meth, c, A, D, cA, ad0, _, _) => p.tables.exec = Jvm.exec ∧ c.code = m.2.1 ∧ c.maxLocals = m.2.2.1 ∧ s.vm.findClass (kown own) = some mid.cls ∧ (∀ w ∈ kGW, w.before args s = true) ∧ va_K D vwCl (ktys cA) s ∧ KNest s ∧ (∀ q, s.heap.size ≤ q → A q) ∧ (ini = true → meth.name = "<init>") ∧ (match S with
    | none => True
    | some q => va_X (ad0 (13, 0, 0)) q.1 q.2 s s.heap ∧ ad0 (13, 0, 0) < s.heap.size ∧ ¬ A (ad0 (13, 0, 0))) ∧ meth.locks = false ∧ R = kroom m mc ms
def kretd (cc : ByteArray) (pc : Nat) : Option KV → Prop
  | none => decode cc pc = .ok (.return_, 1)
  | some (.inl _) => decode cc pc = .ok (.ireturn, 1)
  | some (.inr (.inl _)) => decode cc pc = .ok (.lreturn, 1)
  | some (.inr (.inr (.inl _))) => decode cc pc = .ok (.dreturn, 1)
  | some (.inr (.inr (.inr _))) => False
/-- what an end of the method owes -/
def KRet (X : KX) (m : KMeth) (E : KEnd) : Prop :=
  match X with
  | (p, l, e, R, s, mid, args, below, meth, c, A, D, cA, ad0, L0, Q) => ∀ (v : Option KV) (M : KM) (cs sl : Nat), E v M cs sl → ∀ (ad : KI → Nat) (H : Heap) (locs : List Loc) (lsA : Array Slot) (pc : Nat), KP D cA ad A M H → va_S A s.heap H locs → KZ ad0 L0 M ad → kretd m.2.1 pc v → W p l e R s mid args below meth c H locs cs sl Q (F0 mid pc lsA (v.toList.map (kv ad)))
def KL0 (X : KX) : KI → Prop := X.2.2.2.2.2.2.2.2.2.2.2.2.2.2.1
theorem KW.sub {X : KX} {pc : Nat} {ls : KL} {st : List KV} {M M2 : KM} {cs sl : Nat} (hs : KSub M2 M) (hL : ∀ i, KL0 X i → M2.1 i) (h : KW X pc ls st M2 cs sl) : KW X pc ls st M cs sl := by
  obtain ⟨p, l, e, R, s, mid, args, below, meth, c, A, D, cA, ad0, L0, Q⟩ := X
  intro ad H locs lsA hP hVS hl hbad
  exact h ad H locs lsA (hP.sub hs) hVS hl ⟨hbad.1, fun i hi => ⟨hL i hi, (hbad.2 i hi).2⟩⟩
theorem KW.weak {X : KX} {pc : Nat} {ls ls' : KL} {st : List KV} {M : KM} {cs sl : Nat} (hl' : ls'.length = ls.length) (he : ∀ (i : Nat) (v : KV), kget ls' i = some v → kget ls i = some v) (h : KW X pc ls' st M cs sl) : KW X pc ls st M cs sl := by
  obtain ⟨p, l, e, R, s, mid, args, below, meth, c, A, D, cA, ad0, L0, Q⟩ := X
  intro ad H locs lsA hP hVS hl hbad
  exact h ad H locs lsA hP hVS (hl.weak hl' he) hbad
theorem KW.widen {X : KX} {pc : Nat} {ls : KL} {st : List KV} {M : KM} {cs sl cs2 sl2 : Nat} (h1 : cs ≤ cs2) (h2 : sl ≤ sl2) (h : KW X pc ls st M cs2 sl2) : KW X pc ls st M cs sl := by
  obtain ⟨p, l, e, R, s, mid, args, below, meth, c, A, D, cA, ad0, L0, Q⟩ := X
  intro ad H locs lsA hP hVS hl hbad
  exact W.widen h1 h2 (h ad H locs lsA hP hVS hl hbad)
section KS
variable {X : KX} {m : KMeth} {own : Nat} {ini : Bool} {S : KS} {mc ms pc : Nat} {ls : KL} {st : List KV} {M : KM} {cs sl : Nat}
theorem ks_iconst (hC : KC X m own ini S mc ms) {n : Int} {v : Int32} (hv : Int32.ofInt n = v) (hd : decode m.2.1 pc = .ok (.iconst n, 1)) (h : KW X (pc + 1) ls (kI v :: st) M cs sl) : KW X pc ls (st) M cs sl := by
  obtain ⟨p, l, e, R, s, mid, args, below, meth, c, A, D, cA, ad0, L0, Q⟩ := X
  obtain ⟨hx, hb, hml, hown, hts, hK, hN, hA, hin, hS, hlk, hR⟩ := hC
  intro ad H locs lsA hP hVS hl hbad
  exact lv_iconst hx hb hd hv (h ad H locs lsA hP hVS hl hbad)
theorem ks_bipush (hC : KC X m own ini S mc ms) {n : Int} {v : Int32} (hv : (Int8.ofInt n).toInt32 = v) (hd : decode m.2.1 pc = .ok (.bipush n, 2)) (h : KW X (pc + 2) ls (kI v :: st) M cs sl) : KW X pc ls (st) M cs sl := by
  obtain ⟨p, l, e, R, s, mid, args, below, meth, c, A, D, cA, ad0, L0, Q⟩ := X
  obtain ⟨hx, hb, hml, hown, hts, hK, hN, hA, hin, hS, hlk, hR⟩ := hC
  intro ad H locs lsA hP hVS hl hbad
  exact lv_bipush hx hb hd hv (h ad H locs lsA hP hVS hl hbad)
theorem ks_sipush (hC : KC X m own ini S mc ms) {n : Int} {v : Int32} (hv : (Int16.ofInt n).toInt32 = v) (hd : decode m.2.1 pc = .ok (.sipush n, 3)) (h : KW X (pc + 3) ls (kI v :: st) M cs sl) : KW X pc ls (st) M cs sl := by
  obtain ⟨p, l, e, R, s, mid, args, below, meth, c, A, D, cA, ad0, L0, Q⟩ := X
  obtain ⟨hx, hb, hml, hown, hts, hK, hN, hA, hin, hS, hlk, hR⟩ := hC
  intro ad H locs lsA hP hVS hl hbad
  exact lv_sipush hx hb hd hv (h ad H locs lsA hP hVS hl hbad)
theorem ks_lconst (hC : KC X m own ini S mc ms) {n : Fin 2} {v : Int64} (hv : Int64.ofNat (n : Nat) = v) (hd : decode m.2.1 pc = .ok (.lconst n, 1)) (h : KW X (pc + 1) ls (kL v :: st) M cs sl) : KW X pc ls (st) M cs sl := by
  obtain ⟨p, l, e, R, s, mid, args, below, meth, c, A, D, cA, ad0, L0, Q⟩ := X
  obtain ⟨hx, hb, hml, hown, hts, hK, hN, hA, hin, hS, hlk, hR⟩ := hC
  intro ad H locs lsA hP hVS hl hbad
  exact lv_lconst hx hb hd hv (h ad H locs lsA hP hVS hl hbad)
theorem ks_ldc2 (hC : KC X m own ini S mc ms) {i : Nat} {v : Int64} (hw : Cond.constantLong (kown own) i v ∈ kGW) (hd : decode m.2.1 pc = .ok (.ldc2_w i, 3)) (h : KW X (pc + 3) ls (kL v :: st) M cs sl) : KW X pc ls (st) M cs sl := by
  obtain ⟨p, l, e, R, s, mid, args, below, meth, c, A, D, cA, ad0, L0, Q⟩ := X
  obtain ⟨hx, hb, hml, hown, hts, hK, hN, hA, hin, hS, hlk, hR⟩ := hC
  intro ad H locs lsA hP hVS hl hbad
  exact lv_ldc2 hx hb hown (hts _ hw) hd (h ad H locs lsA hP hVS hl hbad)
theorem ks_dconst (hC : KC X m own ini S mc ms) (hd : decode m.2.1 pc = .ok (.dconst 0, 1)) (h : KW X (pc + 1) ls (kD FP.dconst0 :: st) M cs sl) : KW X pc ls (st) M cs sl := by
  obtain ⟨p, l, e, R, s, mid, args, below, meth, c, A, D, cA, ad0, L0, Q⟩ := X
  obtain ⟨hx, hb, hml, hown, hts, hK, hN, hA, hin, hS, hlk, hR⟩ := hC
  intro ad H locs lsA hP hVS hl hbad
  exact lv_dconst0 hx hb hd (h ad H locs lsA hP hVS hl hbad)
theorem ks_iload_n (hC : KC X m own ini S mc ms) {k : Fin 4} {a : Nat} {x : Int32} (hk : (k : Nat) = a) (hg : kget ls a = some (kI x)) (hd : decode m.2.1 pc = .ok (.iload_n k, 1)) (h : KW X (pc + 1) ls (kI x :: st) M cs sl) : KW X pc ls (st) M cs sl := by
  obtain ⟨p, l, e, R, s, mid, args, below, meth, c, A, D, cA, ad0, L0, Q⟩ := X
  obtain ⟨hx, hb, hml, hown, hts, hK, hN, hA, hin, hS, hlk, hR⟩ := hC
  intro ad H locs lsA hP hVS hl hbad
  exact lv_iload_n hx hb hd hk (hl.get hg) (h ad H locs lsA hP hVS hl hbad)
theorem ks_iload (hC : KC X m own ini S mc ms) {a : Nat} {x : Int32} (hg : kget ls a = some (kI x)) (hd : decode m.2.1 pc = .ok (.iload a, 2)) (h : KW X (pc + 2) ls (kI x :: st) M cs sl) : KW X pc ls (st) M cs sl := by
  obtain ⟨p, l, e, R, s, mid, args, below, meth, c, A, D, cA, ad0, L0, Q⟩ := X
  obtain ⟨hx, hb, hml, hown, hts, hK, hN, hA, hin, hS, hlk, hR⟩ := hC
  intro ad H locs lsA hP hVS hl hbad
  exact lv_iload hx hb hd (hl.get hg) (h ad H locs lsA hP hVS hl hbad)
theorem ks_lload_n (hC : KC X m own ini S mc ms) {k : Fin 4} {a : Nat} {x : Int64} (hk : (k : Nat) = a) (hg : kget ls a = some (kL x)) (hd : decode m.2.1 pc = .ok (.lload_n k, 1)) (h : KW X (pc + 1) ls (kL x :: st) M cs sl) : KW X pc ls (st) M cs sl := by
  obtain ⟨p, l, e, R, s, mid, args, below, meth, c, A, D, cA, ad0, L0, Q⟩ := X
  obtain ⟨hx, hb, hml, hown, hts, hK, hN, hA, hin, hS, hlk, hR⟩ := hC
  intro ad H locs lsA hP hVS hl hbad
  exact lv_lload_n hx hb hd hk (hl.get hg) (h ad H locs lsA hP hVS hl hbad)
theorem ks_lload (hC : KC X m own ini S mc ms) {a : Nat} {x : Int64} (hg : kget ls a = some (kL x)) (hd : decode m.2.1 pc = .ok (.lload a, 2)) (h : KW X (pc + 2) ls (kL x :: st) M cs sl) : KW X pc ls (st) M cs sl := by
  obtain ⟨p, l, e, R, s, mid, args, below, meth, c, A, D, cA, ad0, L0, Q⟩ := X
  obtain ⟨hx, hb, hml, hown, hts, hK, hN, hA, hin, hS, hlk, hR⟩ := hC
  intro ad H locs lsA hP hVS hl hbad
  exact lv_lload hx hb hd (hl.get hg) (h ad H locs lsA hP hVS hl hbad)
theorem ks_dload (hC : KC X m own ini S mc ms) {a : Nat} {x : UInt64} (hg : kget ls a = some (kD x)) (hd : decode m.2.1 pc = .ok (.dload a, 2)) (h : KW X (pc + 2) ls (kD x :: st) M cs sl) : KW X pc ls (st) M cs sl := by
  obtain ⟨p, l, e, R, s, mid, args, below, meth, c, A, D, cA, ad0, L0, Q⟩ := X
  obtain ⟨hx, hb, hml, hown, hts, hK, hN, hA, hin, hS, hlk, hR⟩ := hC
  intro ad H locs lsA hP hVS hl hbad
  exact lv_dload hx hb hd (hl.get hg) (h ad H locs lsA hP hVS hl hbad)
theorem ks_aload_n (hC : KC X m own ini S mc ms) {a : Nat} {x : Option KI} {k : Fin 4} (hk : (k : Nat) = a) (hg : kget ls a = some (kR x)) (hd : decode m.2.1 pc = .ok (.aload_n k, 1)) (h : KW X (pc + 1) ls (kR x :: st) M cs sl) : KW X pc ls st M cs sl := by
  obtain ⟨p, l, e, R, s, mid, args, below, meth, c, A, D, cA, ad0, L0, Q⟩ := X
  obtain ⟨hx, hb, hml, hown, hts, hK, hN, hA, hin, hS, hlk, hR⟩ := hC
  intro ad H locs lsA hP hVS hl hbad
  have h2 := h ad H locs lsA hP hVS hl hbad
  have hgg := hl.get hg
  cases x with
  | none => exact lv_aload_nN hx hb hd hk hgg h2
  | some r => exact lv_aload_n hx hb hd hk hgg h2
theorem ks_aload (hC : KC X m own ini S mc ms) {a : Nat} {x : Option KI} (hg : kget ls a = some (kR x)) (hd : decode m.2.1 pc = .ok (.aload a, 2)) (h : KW X (pc + 2) ls (kR x :: st) M cs sl) : KW X pc ls st M cs sl := by
  obtain ⟨p, l, e, R, s, mid, args, below, meth, c, A, D, cA, ad0, L0, Q⟩ := X
  obtain ⟨hx, hb, hml, hown, hts, hK, hN, hA, hin, hS, hlk, hR⟩ := hC
  intro ad H locs lsA hP hVS hl hbad
  have h2 := h ad H locs lsA hP hVS hl hbad
  have hgg := hl.get hg
  cases x with
  | none => exact lv_aloadN hx hb hd hgg h2
  | some r => exact lv_aload hx hb hd hgg h2
theorem ks_istore_n (hC : KC X m own ini S mc ms) {a : Nat} {x : Int32} {k : Fin 4} (hk : (k : Nat) = a) (hn : a < m.2.2.1) (hd : decode m.2.1 pc = .ok (.istore_n k, 1)) (h : KW X (pc + 1) (kst1 ls a (kI x)) st M cs sl) : KW X pc ls (kI x :: st) M cs sl := by
  obtain ⟨p, l, e, R, s, mid, args, below, meth, c, A, D, cA, ad0, L0, Q⟩ := X
  obtain ⟨hx, hb, hml, hown, hts, hK, hN, hA, hin, hS, hlk, hR⟩ := hC
  intro ad H locs lsA hP hVS hl hbad
  rw [← hml] at hn
  exact lv_istore_n hx hb hd hk hl.1 hn rfl (fun lsB h2 => h ad H locs lsB hP hVS (hl.st1 h2) hbad)
theorem ks_istore (hC : KC X m own ini S mc ms) {a : Nat} {x : Int32} (hn : a < m.2.2.1) (hd : decode m.2.1 pc = .ok (.istore a, 2)) (h : KW X (pc + 2) (kst1 ls a (kI x)) st M cs sl) : KW X pc ls (kI x :: st) M cs sl := by
  obtain ⟨p, l, e, R, s, mid, args, below, meth, c, A, D, cA, ad0, L0, Q⟩ := X
  obtain ⟨hx, hb, hml, hown, hts, hK, hN, hA, hin, hS, hlk, hR⟩ := hC
  intro ad H locs lsA hP hVS hl hbad
  rw [← hml] at hn
  exact lv_istore hx hb hd hl.1 hn rfl (fun lsB h2 => h ad H locs lsB hP hVS (hl.st1 h2) hbad)
theorem ks_lstore_n (hC : KC X m own ini S mc ms) {a : Nat} {x : Int64} {k : Fin 4} (hk : (k : Nat) = a) (hn : a + 1 < m.2.2.1) (hd : decode m.2.1 pc = .ok (.lstore_n k, 1)) (h : KW X (pc + 1) (kst2 ls a (kL x)) st M cs sl) : KW X pc ls (kL x :: st) M cs sl := by
  obtain ⟨p, l, e, R, s, mid, args, below, meth, c, A, D, cA, ad0, L0, Q⟩ := X
  obtain ⟨hx, hb, hml, hown, hts, hK, hN, hA, hin, hS, hlk, hR⟩ := hC
  intro ad H locs lsA hP hVS hl hbad
  rw [← hml] at hn
  exact lv_lstore_n hx hb hd hk hl.1 hn rfl (fun lsB h2 => h ad H locs lsB hP hVS (hl.st2 hn h2) hbad)
theorem ks_lstore (hC : KC X m own ini S mc ms) {a : Nat} {x : Int64} (hn : a + 1 < m.2.2.1) (hd : decode m.2.1 pc = .ok (.lstore a, 2)) (h : KW X (pc + 2) (kst2 ls a (kL x)) st M cs sl) : KW X pc ls (kL x :: st) M cs sl := by
  obtain ⟨p, l, e, R, s, mid, args, below, meth, c, A, D, cA, ad0, L0, Q⟩ := X
  obtain ⟨hx, hb, hml, hown, hts, hK, hN, hA, hin, hS, hlk, hR⟩ := hC
  intro ad H locs lsA hP hVS hl hbad
  rw [← hml] at hn
  exact lv_lstore hx hb hd hl.1 hn rfl (fun lsB h2 => h ad H locs lsB hP hVS (hl.st2 hn h2) hbad)
theorem ks_dstore (hC : KC X m own ini S mc ms) {a : Nat} {x : UInt64} (hn : a + 1 < m.2.2.1) (hd : decode m.2.1 pc = .ok (.dstore a, 2)) (h : KW X (pc + 2) (kst2 ls a (kD x)) st M cs sl) : KW X pc ls (kD x :: st) M cs sl := by
  obtain ⟨p, l, e, R, s, mid, args, below, meth, c, A, D, cA, ad0, L0, Q⟩ := X
  obtain ⟨hx, hb, hml, hown, hts, hK, hN, hA, hin, hS, hlk, hR⟩ := hC
  intro ad H locs lsA hP hVS hl hbad
  rw [← hml] at hn
  exact lv_dstore hx hb hd hl.1 hn rfl (fun lsB h2 => h ad H locs lsB hP hVS (hl.st2 hn h2) hbad)
theorem ks_astore_n (hC : KC X m own ini S mc ms) {a : Nat} {x : Option KI} {k : Fin 4} (hk : (k : Nat) = a) (hn : a < m.2.2.1) (hd : decode m.2.1 pc = .ok (.astore_n k, 1)) (h : KW X (pc + 1) (kst1 ls a (kR x)) st M cs sl) : KW X pc ls (kR x :: st) M cs sl := by
  obtain ⟨p, l, e, R, s, mid, args, below, meth, c, A, D, cA, ad0, L0, Q⟩ := X
  obtain ⟨hx, hb, hml, hown, hts, hK, hN, hA, hin, hS, hlk, hR⟩ := hC
  intro ad H locs lsA hP hVS hl hbad
  rw [← hml] at hn
  cases x with
  | none => exact lv_astore_nN hx hb hd hk hl.1 hn rfl (fun lsB h2 => h ad H locs lsB hP hVS (hl.st1 h2) hbad)
  | some r => exact lv_astore_n hx hb hd hk hl.1 hn rfl (fun lsB h2 => h ad H locs lsB hP hVS (hl.st1 h2) hbad)
theorem ks_astore (hC : KC X m own ini S mc ms) {a : Nat} {x : Option KI} (hn : a < m.2.2.1) (hd : decode m.2.1 pc = .ok (.astore a, 2)) (h : KW X (pc + 2) (kst1 ls a (kR x)) st M cs sl) : KW X pc ls (kR x :: st) M cs sl := by
  obtain ⟨p, l, e, R, s, mid, args, below, meth, c, A, D, cA, ad0, L0, Q⟩ := X
  obtain ⟨hx, hb, hml, hown, hts, hK, hN, hA, hin, hS, hlk, hR⟩ := hC
  intro ad H locs lsA hP hVS hl hbad
  rw [← hml] at hn
  cases x with
  | none => exact lv_astoreN hx hb hd hl.1 hn rfl (fun lsB h2 => h ad H locs lsB hP hVS (hl.st1 h2) hbad)
  | some r => exact lv_astore hx hb hd hl.1 hn rfl (fun lsB h2 => h ad H locs lsB hP hVS (hl.st1 h2) hbad)
theorem ks_iinc (hC : KC X m own ini S mc ms) {a : Nat} {n : Int} {x v : Int32} (hv : Int32.ofInt n = v) (hg : kget ls a = some (kI x)) (hn : a < m.2.2.1) (hd : decode m.2.1 pc = .ok (.iinc a n, 3)) (h : KW X (pc + 3) (kst1 ls a (kI (x + v))) st M cs sl) : KW X pc ls st M cs sl := by
  obtain ⟨p, l, e, R, s, mid, args, below, meth, c, A, D, cA, ad0, L0, Q⟩ := X
  obtain ⟨hx, hb, hml, hown, hts, hK, hN, hA, hin, hS, hlk, hR⟩ := hC
  intro ad H locs lsA hP hVS hl hbad
  rw [← hml] at hn
  obtain ⟨k, hk⟩ := List.getElem?_of_mem (klist_mem (ad := ad) (nL := c.maxLocals).mpr ⟨hn, _, hg, rfl⟩)
  subst hv
  exact lv_iinc hx hb hd hl.1 hk rfl hn rfl (fun lsB h2 => h ad H locs lsB hP hVS (hl.st1 h2) hbad)
theorem ks_iadd (hC : KC X m own ini S mc ms) {x y : Int32} (hd : decode m.2.1 pc = .ok (.iadd, 1)) (h : KW X (pc + 1) ls (kI (x + y) :: st) M cs sl) : KW X pc ls (kI y :: kI x :: st) M cs sl := by
  obtain ⟨p, l, e, R, s, mid, args, below, meth, c, A, D, cA, ad0, L0, Q⟩ := X
  obtain ⟨hx, hb, hml, hown, hts, hK, hN, hA, hin, hS, hlk, hR⟩ := hC
  intro ad H locs lsA hP hVS hl hbad
  exact lv_iadd hx hb hd (h ad H locs lsA hP hVS hl hbad)
theorem ks_isub (hC : KC X m own ini S mc ms) {x y : Int32} (hd : decode m.2.1 pc = .ok (.isub, 1)) (h : KW X (pc + 1) ls (kI (x - y) :: st) M cs sl) : KW X pc ls (kI y :: kI x :: st) M cs sl := by
  obtain ⟨p, l, e, R, s, mid, args, below, meth, c, A, D, cA, ad0, L0, Q⟩ := X
  obtain ⟨hx, hb, hml, hown, hts, hK, hN, hA, hin, hS, hlk, hR⟩ := hC
  intro ad H locs lsA hP hVS hl hbad
  exact lv_isub hx hb hd (h ad H locs lsA hP hVS hl hbad)
theorem ks_imul (hC : KC X m own ini S mc ms) {x y : Int32} (hd : decode m.2.1 pc = .ok (.imul, 1)) (h : KW X (pc + 1) ls (kI (x * y) :: st) M cs sl) : KW X pc ls (kI y :: kI x :: st) M cs sl := by
  obtain ⟨p, l, e, R, s, mid, args, below, meth, c, A, D, cA, ad0, L0, Q⟩ := X
  obtain ⟨hx, hb, hml, hown, hts, hK, hN, hA, hin, hS, hlk, hR⟩ := hC
  intro ad H locs lsA hP hVS hl hbad
  exact lv_imul hx hb hd (h ad H locs lsA hP hVS hl hbad)
theorem ks_iand (hC : KC X m own ini S mc ms) {x y : Int32} (hd : decode m.2.1 pc = .ok (.iand, 1)) (h : KW X (pc + 1) ls (kI (x &&& y) :: st) M cs sl) : KW X pc ls (kI y :: kI x :: st) M cs sl := by
  obtain ⟨p, l, e, R, s, mid, args, below, meth, c, A, D, cA, ad0, L0, Q⟩ := X
  obtain ⟨hx, hb, hml, hown, hts, hK, hN, hA, hin, hS, hlk, hR⟩ := hC
  intro ad H locs lsA hP hVS hl hbad
  exact lv_iand hx hb hd (h ad H locs lsA hP hVS hl hbad)
theorem ks_ixor (hC : KC X m own ini S mc ms) {x y : Int32} (hd : decode m.2.1 pc = .ok (.ixor, 1)) (h : KW X (pc + 1) ls (kI (x ^^^ y) :: st) M cs sl) : KW X pc ls (kI y :: kI x :: st) M cs sl := by
  obtain ⟨p, l, e, R, s, mid, args, below, meth, c, A, D, cA, ad0, L0, Q⟩ := X
  obtain ⟨hx, hb, hml, hown, hts, hK, hN, hA, hin, hS, hlk, hR⟩ := hC
  intro ad H locs lsA hP hVS hl hbad
  exact lv_ixor hx hb hd (h ad H locs lsA hP hVS hl hbad)
theorem ks_irem (hC : KC X m own ini S mc ms) {x y : Int32} (hne : ¬ y = 0) (hd : decode m.2.1 pc = .ok (.irem, 1)) (h : KW X (pc + 1) ls (kI (x - x / y * y) :: st) M cs sl) : KW X pc ls (kI y :: kI x :: st) M cs sl := by
  obtain ⟨p, l, e, R, s, mid, args, below, meth, c, A, D, cA, ad0, L0, Q⟩ := X
  obtain ⟨hx, hb, hml, hown, hts, hK, hN, hA, hin, hS, hlk, hR⟩ := hC
  intro ad H locs lsA hP hVS hl hbad
  exact lv_irem hx hb hd hne (h ad H locs lsA hP hVS hl hbad)
theorem ks_ladd (hC : KC X m own ini S mc ms) {x y : Int64} (hd : decode m.2.1 pc = .ok (.ladd, 1)) (h : KW X (pc + 1) ls (kL (x + y) :: st) M cs sl) : KW X pc ls (kL y :: kL x :: st) M cs sl := by
  obtain ⟨p, l, e, R, s, mid, args, below, meth, c, A, D, cA, ad0, L0, Q⟩ := X
  obtain ⟨hx, hb, hml, hown, hts, hK, hN, hA, hin, hS, hlk, hR⟩ := hC
  intro ad H locs lsA hP hVS hl hbad
  exact lv_ladd hx hb hd (h ad H locs lsA hP hVS hl hbad)
theorem ks_lmul (hC : KC X m own ini S mc ms) {x y : Int64} (hd : decode m.2.1 pc = .ok (.lmul, 1)) (h : KW X (pc + 1) ls (kL (x * y) :: st) M cs sl) : KW X pc ls (kL y :: kL x :: st) M cs sl := by
  obtain ⟨p, l, e, R, s, mid, args, below, meth, c, A, D, cA, ad0, L0, Q⟩ := X
  obtain ⟨hx, hb, hml, hown, hts, hK, hN, hA, hin, hS, hlk, hR⟩ := hC
  intro ad H locs lsA hP hVS hl hbad
  exact lv_lmul hx hb hd (h ad H locs lsA hP hVS hl hbad)
theorem ks_lcmp (hC : KC X m own ini S mc ms) {x y : Int64} (hd : decode m.2.1 pc = .ok (.lcmp, 1)) (h : KW X (pc + 1) ls (kI (lg_cmp x y) :: st) M cs sl) : KW X pc ls (kL y :: kL x :: st) M cs sl := by
  obtain ⟨p, l, e, R, s, mid, args, below, meth, c, A, D, cA, ad0, L0, Q⟩ := X
  obtain ⟨hx, hb, hml, hown, hts, hK, hN, hA, hin, hS, hlk, hR⟩ := hC
  intro ad H locs lsA hP hVS hl hbad
  exact W.lcmp hx hb hd (h ad H locs lsA hP hVS hl hbad)
theorem ks_i2l (hC : KC X m own ini S mc ms) {x : Int32} (hd : decode m.2.1 pc = .ok (.i2l, 1)) (h : KW X (pc + 1) ls (kL x.toInt64 :: st) M cs sl) : KW X pc ls (kI x :: st) M cs sl := by
  obtain ⟨p, l, e, R, s, mid, args, below, meth, c, A, D, cA, ad0, L0, Q⟩ := X
  obtain ⟨hx, hb, hml, hown, hts, hK, hN, hA, hin, hS, hlk, hR⟩ := hC
  intro ad H locs lsA hP hVS hl hbad
  exact lv_i2l hx hb hd rfl (h ad H locs lsA hP hVS hl hbad)
theorem ks_i2d (hC : KC X m own ini S mc ms) {x : Int32} (hd : decode m.2.1 pc = .ok (.i2d, 1)) (h : KW X (pc + 1) ls (kD (FP.i2d x) :: st) M cs sl) : KW X pc ls (kI x :: st) M cs sl := by
  obtain ⟨p, l, e, R, s, mid, args, below, meth, c, A, D, cA, ad0, L0, Q⟩ := X
  obtain ⟨hx, hb, hml, hown, hts, hK, hN, hA, hin, hS, hlk, hR⟩ := hC
  intro ad H locs lsA hP hVS hl hbad
  exact lv_i2d hx hb hd (h ad H locs lsA hP hVS hl hbad)
theorem ks_ddiv (hC : KC X m own ini S mc ms) {x y : UInt64} (hne : vf_n64 (FP.ddiv x y)) (hd : decode m.2.1 pc = .ok (.ddiv, 1)) (h : KW X (pc + 1) ls (kD (FP.ddiv x y) :: st) M cs sl) : KW X pc ls (kD y :: kD x :: st) M cs sl := by
  obtain ⟨p, l, e, R, s, mid, args, below, meth, c, A, D, cA, ad0, L0, Q⟩ := X
  obtain ⟨hx, hb, hml, hown, hts, hK, hN, hA, hin, hS, hlk, hR⟩ := hC
  intro ad H locs lsA hP hVS hl hbad
  exact lv_ddiv hx hb hd hne (h ad H locs lsA hP hVS hl hbad)
theorem ks_dcmp (hC : KC X m own ini S mc ms) {x y : UInt64} {op : CmpOp} (hd : decode m.2.1 pc = .ok (.dcmp op, 1)) (h : KW X (pc + 1) ls (kI (Op.cmpValue (FP.dcmp x y) op) :: st) M cs sl) : KW X pc ls (kD y :: kD x :: st) M cs sl := by
  obtain ⟨p, l, e, R, s, mid, args, below, meth, c, A, D, cA, ad0, L0, Q⟩ := X
  obtain ⟨hx, hb, hml, hown, hts, hK, hN, hA, hin, hS, hlk, hR⟩ := hC
  intro ad H locs lsA hP hVS hl hbad
  exact lv_dcmp hx hb hd (h ad H locs lsA hP hVS hl hbad)
theorem ks_dupI (hC : KC X m own ini S mc ms) {x : Int32} (hd : decode m.2.1 pc = .ok (.dup, 1)) (h : KW X (pc + 1) ls (kI x :: kI x :: st) M cs sl) : KW X pc ls (kI x :: st) M cs sl := by
  obtain ⟨p, l, e, R, s, mid, args, below, meth, c, A, D, cA, ad0, L0, Q⟩ := X
  obtain ⟨hx, hb, hml, hown, hts, hK, hN, hA, hin, hS, hlk, hR⟩ := hC
  intro ad H locs lsA hP hVS hl hbad
  exact lv_dup hx hb hd rfl (h ad H locs lsA hP hVS hl hbad)
theorem ks_popI (hC : KC X m own ini S mc ms) {x : Int32} (hd : decode m.2.1 pc = .ok (.pop, 1)) (h : KW X (pc + 1) ls (st) M cs sl) : KW X pc ls (kI x :: st) M cs sl := by
  obtain ⟨p, l, e, R, s, mid, args, below, meth, c, A, D, cA, ad0, L0, Q⟩ := X
  obtain ⟨hx, hb, hml, hown, hts, hK, hN, hA, hin, hS, hlk, hR⟩ := hC
  intro ad H locs lsA hP hVS hl hbad
  exact lv_pop hx hb hd rfl (h ad H locs lsA hP hVS hl hbad)
theorem kcatR (ad : KI → Nat) (x : Option KI) : (kv ad (kR x)).category = 1 := by cases x <;> rfl
theorem ks_dupR (hC : KC X m own ini S mc ms) {x : Option KI} (hd : decode m.2.1 pc = .ok (.dup, 1)) (h : KW X (pc + 1) ls (kR x :: kR x :: st) M cs sl) : KW X pc ls (kR x :: st) M cs sl := by
  obtain ⟨p, l, e, R, s, mid, args, below, meth, c, A, D, cA, ad0, L0, Q⟩ := X
  obtain ⟨hx, hb, hml, hown, hts, hK, hN, hA, hin, hS, hlk, hR⟩ := hC
  intro ad H locs lsA hP hVS hl hbad
  exact lv_dup hx hb hd (kcatR ad x) (h ad H locs lsA hP hVS hl hbad)
theorem ks_popR (hC : KC X m own ini S mc ms) {x : Option KI} (hd : decode m.2.1 pc = .ok (.pop, 1)) (h : KW X (pc + 1) ls (st) M cs sl) : KW X pc ls (kR x :: st) M cs sl := by
  obtain ⟨p, l, e, R, s, mid, args, below, meth, c, A, D, cA, ad0, L0, Q⟩ := X
  obtain ⟨hx, hb, hml, hown, hts, hK, hN, hA, hin, hS, hlk, hR⟩ := hC
  intro ad H locs lsA hP hVS hl hbad
  exact lv_pop hx hb hd (kcatR ad x) (h ad H locs lsA hP hVS hl hbad)
theorem ks_dup2 (hC : KC X m own ini S mc ms) {x : Int32} {y : Option KI} (hd : decode m.2.1 pc = .ok (.dup2, 1)) (h : KW X (pc + 1) ls (kI x :: kR y :: kI x :: kR y :: st) M cs sl) : KW X pc ls (kI x :: kR y :: st) M cs sl := by
  obtain ⟨p, l, e, R, s, mid, args, below, meth, c, A, D, cA, ad0, L0, Q⟩ := X
  obtain ⟨hx, hb, hml, hown, hts, hK, hN, hA, hin, hS, hlk, hR⟩ := hC
  intro ad H locs lsA hP hVS hl hbad
  exact lv_dup2_11 hx hb hd rfl (kcatR ad y) (h ad H locs lsA hP hVS hl hbad)
theorem ks_goto (hC : KC X m own ini S mc ms) {off : Int} {tgt : Nat} (ht : (pc : Int) + off = (tgt : Int)) (hd : decode m.2.1 pc = .ok (.goto off, 3)) (h : KW X tgt ls st M cs sl) : KW X pc ls st M cs sl := by
  obtain ⟨p, l, e, R, s, mid, args, below, meth, c, A, D, cA, ad0, L0, Q⟩ := X
  obtain ⟨hx, hb, hml, hown, hts, hK, hN, hA, hin, hS, hlk, hR⟩ := hC
  intro ad H locs lsA hP hVS hl hbad
  exact lv_goto hx hb hd ht (h ad H locs lsA hP hVS hl hbad)
theorem ks_if_eq (hC : KC X m own ini S mc ms) {x : Int32} {off : Int} {tgt : Nat} (ht : (pc : Int) + off = (tgt : Int)) (hd : decode m.2.1 pc = .ok (.ifCond .eq off, 3)) (h1 : x = 0 → KW X tgt ls st M cs sl) (h2 : ¬ x = 0 → KW X (pc + 3) ls st M cs sl) : KW X pc ls (kI x :: st) M cs sl := by
  obtain ⟨p, l, e, R, s, mid, args, below, meth, c, A, D, cA, ad0, L0, Q⟩ := X
  obtain ⟨hx, hb, hml, hown, hts, hK, hN, hA, hin, hS, hlk, hR⟩ := hC
  intro ad H locs lsA hP hVS hl hbad
  exact lv_if_eq hx hb hd ht (fun z => h1 z ad H locs lsA hP hVS hl hbad) (fun z => h2 z ad H locs lsA hP hVS hl hbad)
theorem ks_if_ne (hC : KC X m own ini S mc ms) {x : Int32} {off : Int} {tgt : Nat} (ht : (pc : Int) + off = (tgt : Int)) (hd : decode m.2.1 pc = .ok (.ifCond .ne off, 3)) (h1 : ¬ x = 0 → KW X tgt ls st M cs sl) (h2 : x = 0 → KW X (pc + 3) ls st M cs sl) : KW X pc ls (kI x :: st) M cs sl := by
  obtain ⟨p, l, e, R, s, mid, args, below, meth, c, A, D, cA, ad0, L0, Q⟩ := X
  obtain ⟨hx, hb, hml, hown, hts, hK, hN, hA, hin, hS, hlk, hR⟩ := hC
  intro ad H locs lsA hP hVS hl hbad
  exact lv_if_ne hx hb hd ht (fun z => h1 z ad H locs lsA hP hVS hl hbad) (fun z => h2 z ad H locs lsA hP hVS hl hbad)
theorem ks_if_lt (hC : KC X m own ini S mc ms) {x : Int32} {off : Int} {tgt : Nat} (ht : (pc : Int) + off = (tgt : Int)) (hd : decode m.2.1 pc = .ok (.ifCond .lt off, 3)) (h1 : x < 0 → KW X tgt ls st M cs sl) (h2 : ¬ x < 0 → KW X (pc + 3) ls st M cs sl) : KW X pc ls (kI x :: st) M cs sl := by
  obtain ⟨p, l, e, R, s, mid, args, below, meth, c, A, D, cA, ad0, L0, Q⟩ := X
  obtain ⟨hx, hb, hml, hown, hts, hK, hN, hA, hin, hS, hlk, hR⟩ := hC
  intro ad H locs lsA hP hVS hl hbad
  exact lv_if_lt hx hb hd ht (fun z => h1 z ad H locs lsA hP hVS hl hbad) (fun z => h2 z ad H locs lsA hP hVS hl hbad)
theorem ks_if_ge (hC : KC X m own ini S mc ms) {x : Int32} {off : Int} {tgt : Nat} (ht : (pc : Int) + off = (tgt : Int)) (hd : decode m.2.1 pc = .ok (.ifCond .ge off, 3)) (h1 : 0 ≤ x → KW X tgt ls st M cs sl) (h2 : ¬ 0 ≤ x → KW X (pc + 3) ls st M cs sl) : KW X pc ls (kI x :: st) M cs sl := by
  obtain ⟨p, l, e, R, s, mid, args, below, meth, c, A, D, cA, ad0, L0, Q⟩ := X
  obtain ⟨hx, hb, hml, hown, hts, hK, hN, hA, hin, hS, hlk, hR⟩ := hC
  intro ad H locs lsA hP hVS hl hbad
  exact lv_if_ge hx hb hd ht (fun z => h1 z ad H locs lsA hP hVS hl hbad) (fun z => h2 z ad H locs lsA hP hVS hl hbad)
theorem ks_if_gt (hC : KC X m own ini S mc ms) {x : Int32} {off : Int} {tgt : Nat} (ht : (pc : Int) + off = (tgt : Int)) (hd : decode m.2.1 pc = .ok (.ifCond .gt off, 3)) (h1 : 0 < x → KW X tgt ls st M cs sl) (h2 : ¬ 0 < x → KW X (pc + 3) ls st M cs sl) : KW X pc ls (kI x :: st) M cs sl := by
  obtain ⟨p, l, e, R, s, mid, args, below, meth, c, A, D, cA, ad0, L0, Q⟩ := X
  obtain ⟨hx, hb, hml, hown, hts, hK, hN, hA, hin, hS, hlk, hR⟩ := hC
  intro ad H locs lsA hP hVS hl hbad
  exact lv_if_gt hx hb hd ht (fun z => h1 z ad H locs lsA hP hVS hl hbad) (fun z => h2 z ad H locs lsA hP hVS hl hbad)
theorem ks_if_le (hC : KC X m own ini S mc ms) {x : Int32} {off : Int} {tgt : Nat} (ht : (pc : Int) + off = (tgt : Int)) (hd : decode m.2.1 pc = .ok (.ifCond .le off, 3)) (h1 : x ≤ 0 → KW X tgt ls st M cs sl) (h2 : ¬ x ≤ 0 → KW X (pc + 3) ls st M cs sl) : KW X pc ls (kI x :: st) M cs sl := by
  obtain ⟨p, l, e, R, s, mid, args, below, meth, c, A, D, cA, ad0, L0, Q⟩ := X
  obtain ⟨hx, hb, hml, hown, hts, hK, hN, hA, hin, hS, hlk, hR⟩ := hC
  intro ad H locs lsA hP hVS hl hbad
  exact lv_if_le hx hb hd ht (fun z => h1 z ad H locs lsA hP hVS hl hbad) (fun z => h2 z ad H locs lsA hP hVS hl hbad)
theorem ks_icmp_eq (hC : KC X m own ini S mc ms) {x y : Int32} {off : Int} {tgt : Nat} (ht : (pc : Int) + off = (tgt : Int)) (hd : decode m.2.1 pc = .ok (.if_icmp .eq off, 3)) (h1 : x = y → KW X tgt ls st M cs sl) (h2 : ¬ x = y → KW X (pc + 3) ls st M cs sl) : KW X pc ls (kI y :: kI x :: st) M cs sl := by
  obtain ⟨p, l, e, R, s, mid, args, below, meth, c, A, D, cA, ad0, L0, Q⟩ := X
  obtain ⟨hx, hb, hml, hown, hts, hK, hN, hA, hin, hS, hlk, hR⟩ := hC
  intro ad H locs lsA hP hVS hl hbad
  exact lv_icmp_eq hx hb hd ht (fun z => h1 z ad H locs lsA hP hVS hl hbad) (fun z => h2 z ad H locs lsA hP hVS hl hbad)
theorem ks_icmp_ne (hC : KC X m own ini S mc ms) {x y : Int32} {off : Int} {tgt : Nat} (ht : (pc : Int) + off = (tgt : Int)) (hd : decode m.2.1 pc = .ok (.if_icmp .ne off, 3)) (h1 : ¬ x = y → KW X tgt ls st M cs sl) (h2 : x = y → KW X (pc + 3) ls st M cs sl) : KW X pc ls (kI y :: kI x :: st) M cs sl := by
  obtain ⟨p, l, e, R, s, mid, args, below, meth, c, A, D, cA, ad0, L0, Q⟩ := X
  obtain ⟨hx, hb, hml, hown, hts, hK, hN, hA, hin, hS, hlk, hR⟩ := hC
  intro ad H locs lsA hP hVS hl hbad
  exact lv_icmp_ne hx hb hd ht (fun z => h1 z ad H locs lsA hP hVS hl hbad) (fun z => h2 z ad H locs lsA hP hVS hl hbad)
theorem ks_icmp_lt (hC : KC X m own ini S mc ms) {x y : Int32} {off : Int} {tgt : Nat} (ht : (pc : Int) + off = (tgt : Int)) (hd : decode m.2.1 pc = .ok (.if_icmp .lt off, 3)) (h1 : x < y → KW X tgt ls st M cs sl) (h2 : ¬ x < y → KW X (pc + 3) ls st M cs sl) : KW X pc ls (kI y :: kI x :: st) M cs sl := by
  obtain ⟨p, l, e, R, s, mid, args, below, meth, c, A, D, cA, ad0, L0, Q⟩ := X
  obtain ⟨hx, hb, hml, hown, hts, hK, hN, hA, hin, hS, hlk, hR⟩ := hC
  intro ad H locs lsA hP hVS hl hbad
  exact lv_icmp_lt hx hb hd ht (fun z => h1 z ad H locs lsA hP hVS hl hbad) (fun z => h2 z ad H locs lsA hP hVS hl hbad)
theorem ks_icmp_ge (hC : KC X m own ini S mc ms) {x y : Int32} {off : Int} {tgt : Nat} (ht : (pc : Int) + off = (tgt : Int)) (hd : decode m.2.1 pc = .ok (.if_icmp .ge off, 3)) (h1 : y ≤ x → KW X tgt ls st M cs sl) (h2 : ¬ y ≤ x → KW X (pc + 3) ls st M cs sl) : KW X pc ls (kI y :: kI x :: st) M cs sl := by
  obtain ⟨p, l, e, R, s, mid, args, below, meth, c, A, D, cA, ad0, L0, Q⟩ := X
  obtain ⟨hx, hb, hml, hown, hts, hK, hN, hA, hin, hS, hlk, hR⟩ := hC
  intro ad H locs lsA hP hVS hl hbad
  exact lv_icmp_ge hx hb hd ht (fun z => h1 z ad H locs lsA hP hVS hl hbad) (fun z => h2 z ad H locs lsA hP hVS hl hbad)
theorem ks_icmp_gt (hC : KC X m own ini S mc ms) {x y : Int32} {off : Int} {tgt : Nat} (ht : (pc : Int) + off = (tgt : Int)) (hd : decode m.2.1 pc = .ok (.if_icmp .gt off, 3)) (h1 : y < x → KW X tgt ls st M cs sl) (h2 : ¬ y < x → KW X (pc + 3) ls st M cs sl) : KW X pc ls (kI y :: kI x :: st) M cs sl := by
  obtain ⟨p, l, e, R, s, mid, args, below, meth, c, A, D, cA, ad0, L0, Q⟩ := X
  obtain ⟨hx, hb, hml, hown, hts, hK, hN, hA, hin, hS, hlk, hR⟩ := hC
  intro ad H locs lsA hP hVS hl hbad
  exact lv_icmp_gt hx hb hd ht (fun z => h1 z ad H locs lsA hP hVS hl hbad) (fun z => h2 z ad H locs lsA hP hVS hl hbad)
theorem ks_icmp_le (hC : KC X m own ini S mc ms) {x y : Int32} {off : Int} {tgt : Nat} (ht : (pc : Int) + off = (tgt : Int)) (hd : decode m.2.1 pc = .ok (.if_icmp .le off, 3)) (h1 : x ≤ y → KW X tgt ls st M cs sl) (h2 : ¬ x ≤ y → KW X (pc + 3) ls st M cs sl) : KW X pc ls (kI y :: kI x :: st) M cs sl := by
  obtain ⟨p, l, e, R, s, mid, args, below, meth, c, A, D, cA, ad0, L0, Q⟩ := X
  obtain ⟨hx, hb, hml, hown, hts, hK, hN, hA, hin, hS, hlk, hR⟩ := hC
  intro ad H locs lsA hP hVS hl hbad
  exact lv_icmp_le hx hb hd ht (fun z => h1 z ad H locs lsA hP hVS hl hbad) (fun z => h2 z ad H locs lsA hP hVS hl hbad)
theorem kcases_spec {K : Nat → Prop} {pc : Nat} {x : Int32} : ∀ (l : List Int) (i : Int), kcases K pc x l i → ∀ (k : Nat) (o : Int), l[k]? = some o → x.toInt = i + k → K ((pc : Int) + o).toNat
  | [], i, _, k, o, hk, _ => by simp at hk
  | o :: r, i, h, 0, o', hk, hx => by
    simp only [List.getElem?_cons_zero, Option.some.injEq] at hk
    subst hk
    exact h.1 (by omega)
  | o :: r, i, h, k + 1, o', hk, hx => by
    simp only [List.getElem?_cons_succ] at hk
    exact kcases_spec r (i + 1) h.2 k o' hk (by omega)
theorem ks_table (hC : KC X m own ini S mc ms) {x : Int32} {d lo hi : Int} {offs : Array Int} {len : Nat} (hd0 : 0 ≤ (pc : Int) + d) (hof : ∀ o ∈ offs.toList, 0 ≤ (pc : Int) + o) (hsz : (offs.size : Int) = hi - lo + 1) (hd : decode m.2.1 pc = .ok (.tableswitch d lo hi offs, len))
    (h1 : (x.toInt < lo ∨ hi < x.toInt) → KW X ((pc : Int) + d).toNat ls st M cs sl) (h2 : kcases (fun q => KW X q ls st M cs sl) pc x offs.toList lo) : KW X pc ls (kI x :: st) M cs sl := by
  obtain ⟨p, l, e, R, s, mid, args, below, meth, c, A, D, cA, ad0, L0, Q⟩ := X
  obtain ⟨hx, hb, hml, hown, hts, hK, hN, hA, hin, hS, hlk, hR⟩ := hC
  intro ad H locs lsA hP hVS hl hbad
  by_cases hr : x.toInt < lo ∨ hi < x.toInt
  · exact lv_tableOut hx hb hd hr (by omega) (h1 hr ad H locs lsA hP hVS hl hbad)
  · have hlt : (x.toInt - lo).toNat < offs.size := by omega
    have ho : offs[(x.toInt - lo).toNat]? = some offs[(x.toInt - lo).toNat] := Array.getElem?_eq_getElem hlt
    have hmem : offs[(x.toInt - lo).toNat] ∈ offs.toList := by simp
    have hnn := hof _ hmem
    have h3 := kcases_spec offs.toList lo h2 (x.toInt - lo).toNat _ (by rw [Array.getElem?_toList]; exact ho) (by omega)
    exact lv_tableIn hx hb hd (fun z => hr (Or.inl z)) (fun z => hr (Or.inr z)) ho (by omega) (h3 ad H locs lsA hP hVS hl hbad)
theorem klook_spec {K : Nat → Prop} {pc : Nat} {x : Int32} {d : Int} : ∀ (l : List (Int × Int)), klook K pc x d l → K ((pc : Int) + Op.lookupswitch.offset l d x.toInt).toNat
  | [], h => h
  | (k, o) :: r, h => by
    by_cases hk : x.toInt = k
    · have e : Op.lookupswitch.offset ((k, o) :: r) d x.toInt = o := by simp [Op.lookupswitch.offset, hk]
      rw [e]; exact h.1 hk
    · have e : Op.lookupswitch.offset ((k, o) :: r) d x.toInt = Op.lookupswitch.offset r d x.toInt := by
        simp only [Op.lookupswitch.offset]
        rw [if_neg (fun z9 => hk z9.symm)]
      rw [e]; exact klook_spec r (h.2 hk)
theorem klook_mem {d z : Int} : ∀ (l : List (Int × Int)), Op.lookupswitch.offset l d z = d ∨ ∃ q ∈ l, Op.lookupswitch.offset l d z = q.2
  | [] => Or.inl rfl
  | (k, o) :: r => by
    by_cases hk : z = k
    · exact Or.inr ⟨(k, o), List.mem_cons_self, by simp [Op.lookupswitch.offset, hk]⟩
    · have e : Op.lookupswitch.offset ((k, o) :: r) d z = Op.lookupswitch.offset r d z := by
        simp only [Op.lookupswitch.offset]
        rw [if_neg (fun z9 => hk z9.symm)]
      rw [e]
      rcases klook_mem (d := d) (z := z) r with h | ⟨q, h1, h2⟩
      · exact Or.inl h
      · exact Or.inr ⟨q, List.mem_cons_of_mem _ h1, h2⟩
theorem ks_lookup (hC : KC X m own ini S mc ms) {x : Int32} {d : Int} {ps : Array (Int × Int)} {len : Nat} (hp : (ps.toList.zip (ps.toList.drop 1)).all (fun (a, next) => a.1 < next.1) = true) (hd0 : 0 ≤ (pc : Int) + d) (hof : ∀ o ∈ ps.toList, 0 ≤ (pc : Int) + o.2) (hd : decode m.2.1 pc = .ok (.lookupswitch d ps, len))
    (h1 : klook (fun q => KW X q ls st M cs sl) pc x d ps.toList) : KW X pc ls (kI x :: st) M cs sl := by
  obtain ⟨p, l, e, R, s, mid, args, below, meth, c, A, D, cA, ad0, L0, Q⟩ := X
  obtain ⟨hx, hb, hml, hown, hts, hK, hN, hA, hin, hS, hlk, hR⟩ := hC
  intro ad H locs lsA hP hVS hl hbad
  have h3 := klook_spec ps.toList h1
  have hnn : 0 ≤ (pc : Int) + Op.lookupswitch.offset ps.toList d x.toInt := by
    rcases klook_mem (d := d) (z := x.toInt) ps.toList with h | ⟨q, hq, h⟩
    · rw [h]; exact hd0
    · rw [h]; exact hof q hq
  exact lv_lookup hx hb hd hp rfl (by omega) (h3 ad H locs lsA hP hVS hl hbad)
theorem kslot_get (ad : KI → Nat) (M : KM) (i : KI) {kc j : Nat} (hc : i.1 = kc) (hj : j < kN kc) : ((List.range (kN i.1)).map (kslot ad M i))[j]? = some (kslot ad M i j) := by
  subst hc
  rw [List.getElem?_map, List.getElem?_range hj]; rfl
theorem ks_get (hC : KC X m own ini S mc ms) {i : KI} {kc j t idx : Nat} (hc : kc < 8) (hj : j < kN kc) (ht : (bif kisref (kty kc j) then 1 else 0) = t) (hw : ktabF.contains (own, idx, kc, j) = true ∨ ktabN.contains (own, idx, kc, j) = true) (hi : i.1 = kc) (hM : M.1 i) (hd : decode m.2.1 pc = .ok (.getfield idx, 3))
    (h : KW X (pc + 3) ls (kfv M i j t :: st) M cs sl) : KW X pc ls (kR (some i) :: st) M cs sl := by
  obtain ⟨p, l, e, R, s, mid, args, below, meth, c, A, D, cA, ad0, L0, Q⟩ := X
  obtain ⟨hx, hb, hml, hown, hts, hK, hN, hA, hin, hS, hlk, hR⟩ := hC
  intro ad H locs lsA hP hVS hl hbad
  obtain ⟨ws, k, hk, hP1, hD1⟩ := hP.get hM
  rw [kobj_c (by rw [hi]; exact hc), hi] at hk
  have hv := kslot_get ad M i hi hj
  rw [hi] at hv
  have hsl : kslot ad M i j = kv ad (kfv M i j t) := by
    subst ht
    simp only [kslot, hi]
    cases kisref (kty kc j) <;> rfl
  have h2 := h ad H locs lsA hP hVS hl hbad
  rw [List.map_cons, ← hsl] at h2
  rcases hw with hw | hw
  · exact va_get hx hb hts (kLay kc hc) hown hK hP1 k hk (kCl kc hc) j hj (hts _ (kandW (kall kF_ok hw))) (fun _ h9 => h9) hv hd h2
  · have hwN := hN.1 _ (List.contains_iff_mem.mp hw)
    have hon := kall kN_ok hw
    simp only [Bool.and_eq_true, decide_eq_true_eq] at hon
    exact va_getN hx hb hts (kLay kc hc) hown hK hP1 k hk (kCl kc hc) j hj (va_Nw.use hon.2 hwN) (fun _ h9 => h9) hv hd h2
def kft (kc j : Nat) : Nat := match kty kc j with
  | .int => 0
  | .boolean => 2
  | .object _ => 1
  | .array _ => 1
  | _ => 9
theorem kslot_up (ad : KI → Nat) (M M' : KM) (i : KI) {kc j : Nat} {w : Value} (hj : j < kN kc) (hw : w = kslot ad M' i j) (ho : ∀ k, k ≠ j → kslot ad M' i k = kslot ad M i k) : ((List.range (kN kc)).map (kslot ad M i)).set j w = (List.range (kN kc)).map (kslot ad M' i) := by
  apply List.ext_getElem?
  intro k
  by_cases hkj : k = j
  · subst hkj
    rw [List.getElem?_set_self (by simpa using hj), List.getElem?_map, List.getElem?_range hj, hw]; rfl
  · rw [List.getElem?_set_ne (Ne.symm hkj), List.getElem?_map, List.getElem?_map]
    by_cases hk : k < kN kc
    · rw [List.getElem?_range hk]
      simp only [Option.map_some, ho k hkj]
    · rw [List.getElem?_eq_none (by simpa using hk)]; rfl
/-- what may be stored into a field: of its type, and a live cell if a reference -/
def kfits (t : Nat) (M : KM) (x : KV) : Prop := kfit t x ∧ ∀ r, x = kR (some r) → M.1 r
theorem kputv_slot (ad : KI → Nat) (M : KM) (i : KI) {kc j t : Nat} {x : KV} (hi : i.1 = kc) (ht : kft kc j = t) (hx : kfit t x) : kv ad x = kslot ad (kputv M i j x) i j ∧ ∀ k, k ≠ j → kslot ad (kputv M i j x) i k = kslot ad M i k := by
  subst ht
  rcases x with x | x | x | x
  · have hr : kisref (kty kc j) = false := by
      simp only [kft] at hx
      cases hk : kty kc j <;> simp_all [kfit, kisref]
    refine ⟨?_, fun k hk => ?_⟩
    · simp [kslot, hi, hr, kputv, kputD, kput, kv]
    · simp [kslot, kputv, kputD, kput, hk]
  · simp only [kfit] at hx; split at hx <;> simp_all
  · simp only [kfit] at hx; split at hx <;> simp_all
  · have hr : kisref (kty kc j) = true := by
      simp only [kft] at hx
      cases hk : kty kc j <;> simp_all [kfit, kisref]
    refine ⟨?_, fun k hk => ?_⟩
    · simp [kslot, hi, hr, kputv, kputR, kput, kv]
    · simp [kslot, kputv, kputR, kput, hk]
theorem kfit_nar (ad : KI → Nat) {kc j t : Nat} {x : KV} (ht : kft kc j = t) (hx : kfit t x) : narrow (kty kc j) (kv ad x) = kv ad x ∧ fits (kty kc j) (kv ad x) = true := by
  subst ht
  simp only [kft] at hx
  cases hk : kty kc j <;> rw [hk] at hx <;> rcases x with x | x | x | x <;> simp only [kfit] at hx
  all_goals first
    | exact hx.elim
    | exact ⟨rfl, rfl⟩
    | (rcases hx with rfl | rfl <;> exact ⟨rfl, rfl⟩)
    | (cases x <;> exact ⟨rfl, rfl⟩)
theorem kputv_frame {M : KM} {i : KI} {j : Nat} {x : KV} : (kputv M i j x).1 = M.1 ∧ (∀ a, a ≠ i → ∀ k, (kputv M i j x).2.1 a k = M.2.1 a k) ∧ (∀ a, a ≠ i → ∀ k, (kputv M i j x).2.2.1 a k = M.2.2.1 a k) ∧ (∀ a, a ≠ i → ∀ k, (kputv M i j x).2.2.2.1 a k = M.2.2.2.1 a k) ∧ (∀ a, a ≠ i → (kputv M i j x).2.2.2.2 a = M.2.2.2.2 a) := by
  rcases x with x | x | x | x
  · exact ⟨rfl, fun _ _ _ => rfl, fun a ha k => by simp [kputv, kputD, kput, ha], fun _ _ _ => rfl, fun _ _ => rfl⟩
  · exact ⟨rfl, fun _ _ _ => rfl, fun _ _ _ => rfl, fun _ _ _ => rfl, fun _ _ => rfl⟩
  · exact ⟨rfl, fun _ _ _ => rfl, fun _ _ _ => rfl, fun _ _ _ => rfl, fun _ _ => rfl⟩
  · exact ⟨rfl, fun a ha k => by simp [kputv, kputR, kput, ha], fun _ _ _ => rfl, fun _ _ _ => rfl, fun _ _ => rfl⟩
theorem KP.closed {D : va_G} {cA : Nat → ClassId} {ad : KI → Nat} {A : Nat → Prop} {M : KM} {H : Heap} (h : KP D cA ad A M H) : ∀ i j r, M.1 i → M.2.1 i j = some r → M.1 r := h.choose_spec.2.1
theorem ks_put (hC : KC X m own ini S mc ms) {i : KI} {x : KV} {kc j t idx : Nat} (hc : kc < 8) (hj : j < kN kc) (ht : kft kc j = t) (hw : (ktabF.contains (own, idx, kc, j) = true ∧ ((kT kc j).2.2.2 = true → ini = true ∧ (kT kc j).1 = kown own)) ∨ (ktabN.contains (own, idx, kc, j) = true ∧ (kT kc j).2.2.2 = false)) (hi : i.1 = kc) (hM : M.1 i) (hf : kfits t M x) (hd : decode m.2.1 pc = .ok (.putfield idx, 3))
    (h : KW X (pc + 3) ls st (kputv M i j x) cs sl) : KW X pc ls (x :: kR (some i) :: st) M cs sl := by
  obtain ⟨p, l, e, R, s, mid, args, below, meth, c, A, D, cA, ad0, L0, Q⟩ := X
  obtain ⟨hx, hb, hml, hown, hts, hK, hN, hA, hin, hS, hlk, hR⟩ := hC
  intro ad H locs lsA hP hVS hl hbad
  have hM2 := hP.inA hM
  have hcl := hP.closed
  obtain ⟨f1, f2, f3, f4, f5⟩ := kputv_frame (M := M) (i := i) (j := j) (x := x)
  have hC2 : ∀ k r, (kputv M i j x).2.1 i k = some r → M.1 r := by
    intro k r hr
    rcases x with x | x | x | x
    · exact hcl i k r hM hr
    · exact hcl i k r hM hr
    · exact hcl i k r hM hr
    · simp only [kputv, kputR, kput, true_and] at hr
      by_cases hkj : k = j
      · rw [if_pos hkj] at hr; exact hf.2 r (by rw [hr])
      · rw [if_neg hkj] at hr; exact hcl i k r hM hr
  obtain ⟨ws, k, hk, hP1, hD1, hset, -⟩ := hP.set (M' := kputv M i j x) hM f1 hC2 f2 f3 f4 f5
  rw [kobj_c (by rw [hi]; exact hc), hi] at hk
  obtain ⟨e1, e2⟩ := kputv_slot ad M i (j := j) hi ht hf.1
  obtain ⟨n1, n2⟩ := kfit_nar ad (kc := kc) (j := j) ht hf.1
  have hup := kslot_up ad M (kputv M i j x) i hj e1 e2
  have hlen : j < ((List.range (kN kc)).map (kslot ad M i)).length := by simpa using hj
  have go : ∀ (H1 : Heap) (locs1 : List Loc), va_P D vwCl (ws.set k (ad i, .inr (kc, ((List.range (kN kc)).map (kslot ad M i)).set j (kv ad x)))) H1 → va_D A (ws.set k (ad i, .inr (kc, ((List.range (kN kc)).map (kslot ad M i)).set j (kv ad x)))) → va_S A s.heap H1 locs1 → W p l e R s mid args below meth c H1 locs1 cs sl Q (F0 mid (pc + 3) lsA (st.map (kv ad))) := by
    intro H1 locs1 g1 g2 g3
    exact h ad H1 locs1 lsA (hset _ H1 (by rw [hup, kobj_c (by rw [hi]; exact hc), hi]) g1 g2) g3 hl ⟨hbad.1, fun k9 hk9 => ⟨by rw [f1]; exact (hbad.2 k9 hk9).1, (hbad.2 k9 hk9).2⟩⟩
  rcases hw with ⟨hw, hfin⟩ | ⟨hw, hfin⟩
  · cases hfn : (kT kc j).2.2.2 with
    | false => exact va_put hx hb hts (kLay kc hc) (kty kc) (kTy kc hc) (kNm kc hc) hown hK hP1 hD1 hVS k hk (kCl kc hc) j hj (hts _ (kandW (kall kF_ok hw))) (fun _ h9 => h9) hfn (kTy kc hc j hj) n1 n2 hlen hd go
    | true => exact va_putF hx hb hts (kLay kc hc) (kty kc) (kTy kc hc) (kNm kc hc) hown hK hP1 hD1 hVS k hk (kCl kc hc) j hj (hts _ (kandW (kall kF_ok hw))) (fun _ h9 => h9) hfn (hin (hfin hfn).1) (hfin hfn).2 (kTy kc hc j hj) n1 n2 hlen hd go
  · have hwN := hN.1 _ (List.contains_iff_mem.mp hw)
    have hon := kall kN_ok hw
    simp only [Bool.and_eq_true, decide_eq_true_eq] at hon
    exact va_putN hx hb hts (kLay kc hc) (kty kc) (kTy kc hc) (kNm kc hc) hown hK hP1 hD1 hVS k hk (kCl kc hc) j hj (va_Nw.use hon.2 hwN) (fun _ h9 => h9) hfin (kTy kc hc j hj) n1 n2 hlen hd go
theorem kspec {q : KS} {P1 : Prop} {P2 : Nat × (Nat → Int32) → Prop} (h : match q with | none => P1 | some z => P2 z) {z : Nat × (Nat → Int32)} (hz : q = some z) : P2 z := by subst hz; exact h
theorem ks_slen (hC : KC X m own ini S mc ms) {q : Nat × (Nat → Int32)} (hq : S = some q) (hd : decode m.2.1 pc = .ok (.arraylength, 1)) (h : KW X (pc + 1) ls (kI (Int32.ofNat q.1) :: st) M cs sl) : KW X pc ls (kR (some (13, 0, 0)) :: st) M cs sl := by
  obtain ⟨p, l, e, R, s, mid, args, below, meth, c, A, D, cA, ad0, L0, Q⟩ := X
  obtain ⟨hx, hb, hml, hown, hts, hK, hN, hA, hin, hS, hlk, hR⟩ := hC
  intro ad H locs lsA hP hVS hl hbad
  obtain ⟨h1, h2, h3⟩ := kspec hS hq
  rw [← hbad.1] at h1 h2 h3
  exact va_slen hx hb h1 h2 h3 hVS hd (h ad H locs lsA hP hVS hl hbad)
theorem ks_sld (hC : KC X m own ini S mc ms) {q : Nat × (Nat → Int32)} (hq : S = some q) {x : Int32} (hin9 : vp_in x q.1) (hd : decode m.2.1 pc = .ok (.iaload, 1)) (h : KW X (pc + 1) ls (kI (q.2 x.toNatClampNeg) :: st) M cs sl) : KW X pc ls (kI x :: kR (some (13, 0, 0)) :: st) M cs sl := by
  obtain ⟨p, l, e, R, s, mid, args, below, meth, c, A, D, cA, ad0, L0, Q⟩ := X
  obtain ⟨hx, hb, hml, hown, hts, hK, hN, hA, hin, hS, hlk, hR⟩ := hC
  intro ad H locs lsA hP hVS hl hbad
  obtain ⟨h1, h2, h3⟩ := kspec hS hq
  rw [← hbad.1] at h1 h2 h3
  exact va_sld hx hb h1 h2 h3 hVS hin9 hd (h ad H locs lsA hP hVS hl hbad)
theorem ktys_q {cA : Nat → ClassId} {k : Nat} (hk : k = 9 ∨ k = 10 ∨ k = 11) : (ktys cA)[k - 8]? = some (cA (k - 8), .object (kRn (kelem k))) := by
  rcases hk with rfl | rfl | rfl <;> rfl
theorem ks_alen (hC : KC X m own ini S mc ms) {i : KI} (h8 : 8 ≤ i.1) (h12 : i.1 ≤ 12) (hM : M.1 i) (hd : decode m.2.1 pc = .ok (.arraylength, 1)) (h : KW X (pc + 1) ls (kI (Int32.ofNat (M.2.2.2.2 i)) :: st) M cs sl) : KW X pc ls (kR (some i) :: st) M cs sl := by
  obtain ⟨p, l, e, R, s, mid, args, below, meth, c, A, D, cA, ad0, L0, Q⟩ := X
  obtain ⟨hx, hb, hml, hown, hts, hK, hN, hA, hin, hS, hlk, hR⟩ := hC
  intro ad H locs lsA hP hVS hl hbad
  obtain ⟨ws, k, hk, hP1, hD1⟩ := hP.get hM
  have h2 := h ad H locs lsA hP hVS hl hbad
  by_cases e8 : i.1 = 8
  · rw [kobj_i e8] at hk
    exact va_alen hx hb hK hP1 k 0 hk (show (ktys cA)[0]? = some (cA 0, .int) from rfl) rfl hd h2
  · by_cases e12 : i.1 = 12
    · rw [kobj_l e12] at hk
      exact va_alen hx hb hK hP1 k 4 hk (show (ktys cA)[4]? = some (cA 4, .long) from rfl) rfl hd h2
    · have eq : i.1 = 9 ∨ i.1 = 10 ∨ i.1 = 11 := by omega
      rw [kobj_q eq] at hk
      exact va_alen hx hb hK hP1 k (i.1 - 8) hk (ktys_q eq) rfl hd h2
theorem ks_iald (hC : KC X m own ini S mc ms) {i : KI} {x : Int32} (h8 : i.1 = 8) (hM : M.1 i) (hin9 : vp_in x (M.2.2.2.2 i)) (hd : decode m.2.1 pc = .ok (.iaload, 1)) (h : KW X (pc + 1) ls (kI (M.2.2.1 i x.toNatClampNeg) :: st) M cs sl) : KW X pc ls (kI x :: kR (some i) :: st) M cs sl := by
  obtain ⟨p, l, e, R, s, mid, args, below, meth, c, A, D, cA, ad0, L0, Q⟩ := X
  obtain ⟨hx, hb, hml, hown, hts, hK, hN, hA, hin, hS, hlk, hR⟩ := hC
  intro ad H locs lsA hP hVS hl hbad
  obtain ⟨ws, k, hk, hP1, hD1⟩ := hP.get hM
  rw [kobj_i h8] at hk
  exact va_iald hx hb hK hP1 k 0 hk rfl hin9 hd (h ad H locs lsA hP hVS hl hbad)
theorem ks_lald (hC : KC X m own ini S mc ms) {i : KI} {x : Int32} (h8 : i.1 = 12) (hM : M.1 i) (hin9 : vp_in x (M.2.2.2.2 i)) (hd : decode m.2.1 pc = .ok (.laload, 1)) (h : KW X (pc + 1) ls (kL (M.2.2.2.1 i x.toNatClampNeg) :: st) M cs sl) : KW X pc ls (kI x :: kR (some i) :: st) M cs sl := by
  obtain ⟨p, l, e, R, s, mid, args, below, meth, c, A, D, cA, ad0, L0, Q⟩ := X
  obtain ⟨hx, hb, hml, hown, hts, hK, hN, hA, hin, hS, hlk, hR⟩ := hC
  intro ad H locs lsA hP hVS hl hbad
  obtain ⟨ws, k, hk, hP1, hD1⟩ := hP.get hM
  rw [kobj_l h8] at hk
  exact va_lald hx hb hK hP1 k 4 hk rfl hin9 hd (h ad H locs lsA hP hVS hl hbad)
theorem ks_aald (hC : KC X m own ini S mc ms) {i : KI} {x : Int32} (h8 : i.1 = 9 ∨ i.1 = 10 ∨ i.1 = 11) (hM : M.1 i) (hin9 : vp_in x (M.2.2.2.2 i)) (hd : decode m.2.1 pc = .ok (.aaload, 1)) (h : KW X (pc + 1) ls (kR (M.2.1 i x.toNatClampNeg) :: st) M cs sl) : KW X pc ls (kI x :: kR (some i) :: st) M cs sl := by
  obtain ⟨p, l, e, R, s, mid, args, below, meth, c, A, D, cA, ad0, L0, Q⟩ := X
  obtain ⟨hx, hb, hml, hown, hts, hK, hN, hA, hin, hS, hlk, hR⟩ := hC
  intro ad H locs lsA hP hVS hl hbad
  obtain ⟨ws, k, hk, hP1, hD1⟩ := hP.get hM
  rw [kobj_q h8] at hk
  exact va_aldq hx hb hK hP1 k (i.1 - 8) hk (ktys_q h8) hin9 hd (h ad H locs lsA hP hVS hl hbad)
theorem ks_iast (hC : KC X m own ini S mc ms) {i : KI} {x y : Int32} (h8 : i.1 = 8) (hM : M.1 i) (hin9 : vp_in x (M.2.2.2.2 i)) (hd : decode m.2.1 pc = .ok (.iastore, 1)) (h : KW X (pc + 1) ls st (kputD M i x.toNatClampNeg y) cs sl) : KW X pc ls (kI y :: kI x :: kR (some i) :: st) M cs sl := by
  obtain ⟨p, l, e, R, s, mid, args, below, meth, c, A, D, cA, ad0, L0, Q⟩ := X
  obtain ⟨hx, hb, hml, hown, hts, hK, hN, hA, hin, hS, hlk, hR⟩ := hC
  intro ad H locs lsA hP hVS hl hbad
  obtain ⟨ws, k, hk, hP1, hD1, hset, -⟩ := hP.set (M' := kputD M i x.toNatClampNeg y) hM rfl (fun j r hr => hP.closed i j r hM hr) (fun _ _ _ => rfl) (fun a ha j => by simp [kputD, kput, ha]) (fun _ _ _ => rfl) (fun _ _ => rfl)
  rw [kobj_i h8] at hk
  refine va_iast hx hb hK hP1 hD1 hVS k 0 hk rfl hin9 hd (fun H1 locs1 g1 g2 g3 => h ad H1 locs1 lsA (hset _ H1 ?_ g1 g2) g3 hl hbad)
  rw [kobj_i h8]
  have e : upd (M.2.2.1 i) x.toNatClampNeg y = (kputD M i x.toNatClampNeg y).2.2.1 i := by
    funext j
    simp [upd, kputD, kput]
  rw [e]; rfl
theorem ks_last (hC : KC X m own ini S mc ms) {i : KI} {x : Int32} {y : Int64} (h8 : i.1 = 12) (hM : M.1 i) (hin9 : vp_in x (M.2.2.2.2 i)) (hd : decode m.2.1 pc = .ok (.lastore, 1)) (h : KW X (pc + 1) ls st (kputG M i x.toNatClampNeg y) cs sl) : KW X pc ls (kL y :: kI x :: kR (some i) :: st) M cs sl := by
  obtain ⟨p, l, e, R, s, mid, args, below, meth, c, A, D, cA, ad0, L0, Q⟩ := X
  obtain ⟨hx, hb, hml, hown, hts, hK, hN, hA, hin, hS, hlk, hR⟩ := hC
  intro ad H locs lsA hP hVS hl hbad
  obtain ⟨ws, k, hk, hP1, hD1, hset, -⟩ := hP.set (M' := kputG M i x.toNatClampNeg y) hM rfl (fun j r hr => hP.closed i j r hM hr) (fun _ _ _ => rfl) (fun _ _ _ => rfl) (fun a ha j => by simp [kputG, kput, ha]) (fun _ _ => rfl)
  rw [kobj_l h8] at hk
  refine va_last hx hb hK hP1 hD1 hVS k 4 hk rfl hin9 hd (fun H1 locs1 g1 g2 g3 => h ad H1 locs1 lsA (hset _ H1 ?_ g1 g2) g3 hl hbad)
  rw [kobj_l h8]
  have e : vp_updL (M.2.2.2.1 i) x.toNatClampNeg y = (kputG M i x.toNatClampNeg y).2.2.2.1 i := by
    funext j
    simp [vp_updL, kputG, kput]
  rw [e]; rfl
theorem kelem_lt {k : Nat} (h : k = 9 ∨ k = 10 ∨ k = 11) : kelem k < 8 := by rcases h with rfl | rfl | rfl <;> decide
theorem ks_aast (hC : KC X m own ini S mc ms) {i o : KI} {x : Int32} (h8 : i.1 = 9 ∨ i.1 = 10 ∨ i.1 = 11) (ho : o.1 = kelem i.1) (hMo : M.1 o) (hM : M.1 i) (hin9 : vp_in x (M.2.2.2.2 i)) (hd : decode m.2.1 pc = .ok (.aastore, 1)) (h : KW X (pc + 1) ls st (kputR M i x.toNatClampNeg (some o)) cs sl) : KW X pc ls (kR (some o) :: kI x :: kR (some i) :: st) M cs sl := by
  obtain ⟨p, l, e, R, s, mid, args, below, meth, c, A, D, cA, ad0, L0, Q⟩ := X
  obtain ⟨hx, hb, hml, hown, hts, hK, hN, hA, hin, hS, hlk, hR⟩ := hC
  intro ad H locs lsA hP hVS hl hbad
  have hlt := kelem_lt h8
  have hC2 : ∀ j r, (kputR M i x.toNatClampNeg (some o)).2.1 i j = some r → M.1 r := by
    intro j r hr
    simp only [kputR, kput, true_and] at hr
    by_cases hkj : j = x.toNatClampNeg
    · rw [if_pos hkj] at hr; cases hr; exact hMo
    · rw [if_neg hkj] at hr; exact hP.closed i j r hM hr
  obtain ⟨ws, k, hk, hP1, hD1, hset, hall⟩ := hP.set (M' := kputR M i x.toNatClampNeg (some o)) hM rfl hC2 (fun a ha j => by simp [kputR, kput, ha]) (fun _ _ _ => rfl) (fun _ _ _ => rfl) (fun _ _ => rfl)
  obtain ⟨ko, hko⟩ := hall o hMo
  rw [kobj_q h8] at hk
  rw [kobj_c (by rw [ho]; exact hlt), ho] at hko
  refine va_astq hx hb hK hP1 hD1 hVS k (i.1 - 8) ko (kelem i.1) hk (ktys_q h8) hko (kCl _ hlt) hin9 hd (fun H1 locs1 g1 g2 g3 => h ad H1 locs1 lsA (hset _ H1 ?_ g1 g2) g3 hl hbad)
  rw [kobj_q h8]
  have e : va_up (fun j => (M.2.1 i j).map ad) x.toNatClampNeg (some (ad o)) = (fun j => ((kputR M i x.toNatClampNeg (some o)).2.1 i j).map ad) := by
    funext j
    by_cases hj : j = x.toNatClampNeg
    · simp [va_up, kputR, kput, hj]
    · simp [va_up, kputR, kput, hj]
  rw [e]; rfl
theorem kstAd {ad : KI → Nat} {i : KI} {q : Nat} {st : List KV} (h : ∀ r : KI, kR (some r) ∈ st → r ≠ i) : st.map (kv (kset ad i q)) = st.map (kv ad) := kst_same fun r hr => by simp [kset, h r hr]
theorem klsAd {ad : KI → Nat} {i : KI} {q nL : Nat} {lsA : Array Slot} {ls : KL} (hl : kls ad nL lsA ls) (h : ∀ (k : Nat) (r : KI), kget ls k = some (kR (some r)) → r ≠ i) : kls (kset ad i q) nL lsA ls := hl.same fun k r hr => by simp [kset, h k r hr]
/-- no live cell is the new one -/
theorem kLV_ne {M : KM} {ls : KL} {st : List KV} {i : KI} (h : kLV M ls st) (hi : ¬ M.1 i) (h13 : i.1 ≠ 13) : (∀ (k : Nat) (r : KI), kget ls k = some (kR (some r)) → r ≠ i) ∧ ∀ r : KI, kR (some r) ∈ st → r ≠ i := by
  refine ⟨fun k r hr z => ?_, fun r hr z => ?_⟩
  · rcases h.1 k r hr with h1 | h1
    · exact hi (z ▸ h1)
    · rw [← z, h1] at h13; exact h13 rfl
  · rcases h.2 r hr with h1 | h1
    · exact hi (z ▸ h1)
    · rw [← z, h1] at h13; exact h13 rfl
theorem ks_new (hC : KC X m own ini S mc ms) {i : KI} {kc idx : Nat} (hc : kc < 8) (hw : ktabC.contains (own, idx, kc) = true) (hi : i.1 = kc) (hM : ¬ M.1 i) (hLV : kLV M ls st) (h1 : cs + 1 ≤ mc) (h2 : sl + kN kc ≤ ms) (hd : decode m.2.1 pc = .ok (.new idx, 3))
    (h : KW X (pc + 3) ls (kR (some i) :: st) (knew M i 0) (cs + 1) (sl + kN kc)) : KW X pc ls st M cs sl := by
  obtain ⟨p, l, e, R, s, mid, args, below, meth, c, A, D, cA, ad0, L0, Q⟩ := X
  obtain ⟨hx, hb, hml, hown, hts, hK, hN, hA, hin, hS, hlk, hR⟩ := hC
  intro ad H locs lsA hP hVS hl hbad
  subst hR
  have h13 : i.1 ≠ 13 := by omega
  obtain ⟨n1, n2⟩ := kLV_ne hLV hM h13
  obtain ⟨ws, hP1, hD1, hpush⟩ := hP.push hM 0
  refine va_new hx hb hts (kLay kc hc) (kty kc) (kTy kc hc) hown (hts _ (kandW (kall kC_ok hw))) (hts _ (kInst kc hc).1) (hts _ (kInst kc hc).2) hK hP1 hD1 hVS hA (kCl kc hc) (fs := (List.range (kN kc)).map (kslot (fun _ => 0) (knew M i 0) i)) (fun j hj => ?_) h1 h2 hd (fun q H1 g1 g2 g3 => ?_)
  · rw [← hi] at hj ⊢
    simp only [vp_V, List.getD_eq_getElem?_getD]
    rw [List.getElem?_map, List.getElem?_range hj]
    simp only [Option.map_some, Option.getD_some, kslot, knew, kset, if_true, Option.map_none]
    have key : ∀ k, k < 8 → ∀ j, j < kN k → defaultValue (kty k j) = bif kisref (kty k j) then va_rf none else Value.int 0 := by
      refine k8 ?_ ?_ ?_ ?_ ?_ ?_ ?_ ?_ <;> decide +kernel
    exact key i.1 (by rw [hi]; exact hc) j hj
  · have hk := hpush q _ H1 (by
      rw [kobj_c (by rw [hi]; exact hc), hi]
      congr 2
      apply List.map_congr_left
      intro j hj
      simp only [kslot, knew, kset, if_true, Option.map_none]) g1 g2
    have hz := h (kset ad i q) H1 locs lsA hk g3 (klsAd hl n1) (hbad.new hM h13 q _)
    rw [List.map_cons, kstAd n2] at hz
    have e : kv (kset ad i q) (kR (some i)) = .ref q := by simp [kv, kset, va_rf]
    rw [e] at hz
    exact hz
theorem kcA {D : va_G} {cA : Nat → ClassId} {s : State} (hK : va_K D vwCl (ktys cA) s) {k : Nat} {c2 : ClassId} {ty : FieldType} (hk : (ktys cA)[k]? = some (cA k, ty)) (h2 : va_K D vwCl (ktys cA ++ [(c2, ty)]) s) : c2 = cA k := by
  have a1 := (hK.2 k _ hk).2
  have a2 := (h2.2 (ktys cA).length (c2, ty) (by simp)).2
  cases ty with
  | object C =>
    obtain ⟨-, -, -, -, -, q1⟩ := a1
    obtain ⟨-, -, -, -, -, q2⟩ := a2
    exact Option.some.inj (q2.symm.trans q1)
  | _ => exact Option.some.inj (a2.symm.trans a1)
theorem kbytes4 {n : Nat} (h : n ≤ 1000) : n * componentBytes .int ≤ 536870912 := by
  have e : componentBytes .int = 4 := rfl
  rw [e]; omega
theorem kbytes8 {n : Nat} (h : n ≤ 1000) : n * componentBytes .long ≤ 536870912 := by
  have e : componentBytes .long = 8 := rfl
  rw [e]; omega
theorem ks_newi (hC : KC X m own ini S mc ms) {i : KI} {x : Int32} (hi : i.1 = 8) (hM : ¬ M.1 i) (hLV : kLV M ls st) (h0 : ¬ x < 0) (hb9 : x.toNatClampNeg ≤ 1000) (h1 : cs + 1 ≤ mc) (h2 : sl + x.toNatClampNeg ≤ ms) (hd : decode m.2.1 pc = .ok (.newarray .int, 2))
    (h : KW X (pc + 2) ls (kR (some i) :: st) (knew M i x.toNatClampNeg) (cs + 1) (sl + x.toNatClampNeg)) : KW X pc ls (kI x :: st) M cs sl := by
  obtain ⟨p, l, e, R, s, mid, args, below, meth, c, A, D, cA, ad0, L0, Q⟩ := X
  obtain ⟨hx, hb, hml, hown, hts, hK, hN, hA, hin, hS, hlk, hR⟩ := hC
  intro ad H locs lsA hP hVS hl hbad
  subst hR
  have h13 : i.1 ≠ 13 := by omega
  obtain ⟨n1, n2⟩ := kLV_ne hLV hM h13
  obtain ⟨ws, hP1, hD1, hpush⟩ := hP.push hM x.toNatClampNeg
  refine va_newa (atype := .int) (ty := .int) (N' := x.toNatClampNeg) hx hb (hts (.arrayClass .int) (kMisc _ (by simp))) rfl hK hP1 hD1 hVS hA (a0 := (x.toNatClampNeg, .inl (fun _ => 0))) (fun cA2 => vp_cell_i cA2 _ _) h0 rfl (kbytes4 hb9) h1 h2 hd (fun q c2 H1 g0 g1 g2 g3 => ?_)
  have hcA := kcA hK (k := 0) rfl g0
  subst hcA
  have hk := hpush q _ H1 (by rw [kobj_i hi]; simp [knew, kset]) g1 g2
  have hz := h (kset ad i q) H1 locs lsA hk g3 (klsAd hl n1) (hbad.new hM h13 q _)
  rw [List.map_cons, kstAd n2] at hz
  have e : kv (kset ad i q) (kR (some i)) = .ref q := by simp [kv, kset, va_rf]
  rw [e] at hz
  exact hz
theorem ks_newl (hC : KC X m own ini S mc ms) {i : KI} {x : Int32} (hi : i.1 = 12) (hM : ¬ M.1 i) (hLV : kLV M ls st) (h0 : ¬ x < 0) (hb9 : x.toNatClampNeg ≤ 1000) (h1 : cs + 1 ≤ mc) (h2 : sl + x.toNatClampNeg ≤ ms) (hd : decode m.2.1 pc = .ok (.newarray .long, 2))
    (h : KW X (pc + 2) ls (kR (some i) :: st) (knew M i x.toNatClampNeg) (cs + 1) (sl + x.toNatClampNeg)) : KW X pc ls (kI x :: st) M cs sl := by
  obtain ⟨p, l, e, R, s, mid, args, below, meth, c, A, D, cA, ad0, L0, Q⟩ := X
  obtain ⟨hx, hb, hml, hown, hts, hK, hN, hA, hin, hS, hlk, hR⟩ := hC
  intro ad H locs lsA hP hVS hl hbad
  subst hR
  have h13 : i.1 ≠ 13 := by omega
  obtain ⟨n1, n2⟩ := kLV_ne hLV hM h13
  obtain ⟨ws, hP1, hD1, hpush⟩ := hP.push hM x.toNatClampNeg
  refine va_newa (atype := .long) (ty := .long) (N' := x.toNatClampNeg) hx hb (hts (.arrayClass .long) (kMisc _ (by simp))) rfl hK hP1 hD1 hVS hA (a0 := (x.toNatClampNeg, .inr (.inl (fun _ => 0)))) (fun cA2 => vp_cell_l cA2 _ _) h0 rfl (kbytes8 hb9) h1 h2 hd (fun q c2 H1 g0 g1 g2 g3 => ?_)
  have hcA := kcA hK (k := 4) rfl g0
  subst hcA
  have hk := hpush q _ H1 (by rw [kobj_l hi]; simp [knew, kset]) g1 g2
  have hz := h (kset ad i q) H1 locs lsA hk g3 (klsAd hl n1) (hbad.new hM h13 q _)
  rw [List.map_cons, kstAd n2] at hz
  have e : kv (kset ad i q) (kR (some i)) = .ref q := by simp [kv, kset, va_rf]
  rw [e] at hz
  exact hz
theorem ks_newq (hC : KC X m own ini S mc ms) {i : KI} {x : Int32} {idx : Nat} (hw : ktabC.contains (own, idx, kelem i.1) = true) (hi : i.1 = 9 ∨ i.1 = 10 ∨ i.1 = 11) (hM : ¬ M.1 i) (hLV : kLV M ls st) (h0 : ¬ x < 0) (hb9 : x.toNatClampNeg ≤ 1000) (h1 : cs + 1 ≤ mc) (h2 : sl + x.toNatClampNeg ≤ ms) (hd : decode m.2.1 pc = .ok (.anewarray idx, 3))
    (h : KW X (pc + 3) ls (kR (some i) :: st) (knew M i x.toNatClampNeg) (cs + 1) (sl + x.toNatClampNeg)) : KW X pc ls (kI x :: st) M cs sl := by
  obtain ⟨p, l, e, R, s, mid, args, below, meth, c, A, D, cA, ad0, L0, Q⟩ := X
  obtain ⟨hx, hb, hml, hown, hts, hK, hN, hA, hin, hS, hlk, hR⟩ := hC
  intro ad H locs lsA hP hVS hl hbad
  subst hR
  have h13 : i.1 ≠ 13 := by omega
  obtain ⟨n1, n2⟩ := kLV_ne hLV hM h13
  obtain ⟨ws, hP1, hD1, hpush⟩ := hP.push hM x.toNatClampNeg
  refine va_newq hx hb hown (hts _ (kandW (kall kC_ok hw))) (hN.2.2 _ hi) hK hP1 hD1 hVS hA h0 rfl (by omega) h1 h2 hd (fun q c2 H1 g0 g1 g2 g3 => ?_)
  have hcA := kcA hK (k := i.1 - 8) (ktys_q hi) g0
  subst hcA
  have hk := hpush q _ H1 (by rw [kobj_q hi]; simp [knew, kset]) g1 g2
  have hz := h (kset ad i q) H1 locs lsA hk g3 (klsAd hl n1) (hbad.new hM h13 q _)
  rw [List.map_cons, kstAd n2] at hz
  have e : kv (kset ad i q) (kR (some i)) = .ref q := by simp [kv, kset, va_rf]
  rw [e] at hz
  exact hz
theorem ks_objInit (hC : KC X m own ini S mc ms) {r : KI} {idx : Nat} (hw : ktabO.contains (own, idx) = true) (h1 : 1 ≤ m.2.2.2.2.1) (h2 : kcats st + 12 ≤ m.2.2.2.2.2) (hd : decode m.2.1 pc = .ok (.invokespecial idx, 3)) (h : KW X (pc + 3) ls st M cs sl) : KW X pc ls (kR (some r) :: st) M cs sl := by
  obtain ⟨p, l, e, R, s, mid, args, below, meth, c, A, D, cA, ad0, L0, Q⟩ := X
  obtain ⟨hx, hb, hml, hown, hts, hK, hN, hA, hin, hS, hlk, hR⟩ := hC
  intro ad H locs lsA hP hVS hl hbad
  subst hR
  refine W.objInit hx hb hown (hts _ (kandW (kall kO_ok hw))) (hts _ (kMisc _ (by simp))) (hts _ (kMisc _ (by simp))) rfl (show lsA.size = c.maxLocals from hl.1.1) rfl hd h1 ?_ (h ad H locs lsA hP hVS hl hbad)
  rw [kcats_sum]
  show 2 * 0 + kcats st + 12 ≤ m.2.2.2.2.2
  omega
theorem ks_copy (hC : KC X m own ini S mc ms) {i d : KI} {sp dp n : Int32} {idx : Nat} (hw : ktabA.contains (own, idx) = true) (hi : i.1 = 8) (hd8 : d.1 = 8) (hM : M.1 i) (hMd : M.1 d) (h1 : ¬ sp < 0) (h2 : ¬ dp < 0) (h3 : ¬ n < 0) (h4 : sp.toNatClampNeg + n.toNatClampNeg ≤ M.2.2.2.2 i) (h5 : dp.toNatClampNeg + n.toNatClampNeg ≤ M.2.2.2.2 d)
    (h6 : 1 ≤ m.2.2.2.2.1) (h7 : kcats st + (nativeFrameWords "java/lang/System" "arraycopy" 5 + 11) ≤ m.2.2.2.2.2) (hd : decode m.2.1 pc = .ok (.invokestatic idx, 3)) (h : KW X (pc + 3) ls st (kcpy M i d sp.toNatClampNeg dp.toNatClampNeg n.toNatClampNeg) cs sl) : KW X pc ls (kI n :: kI dp :: kR (some d) :: kI sp :: kR (some i) :: st) M cs sl := by
  obtain ⟨p, l, e, R, s, mid, args, below, meth, c, A, D, cA, ad0, L0, Q⟩ := X
  obtain ⟨hx, hb, hml, hown, hts, hK, hN, hA, hin, hS, hlk, hR⟩ := hC
  intro ad H locs lsA hP hVS hl hbad
  subst hR
  obtain ⟨ws, k, hk, hP1, hD1, hset, hall⟩ := hP.set (M' := kcpy M i d sp.toNatClampNeg dp.toNatClampNeg n.toNatClampNeg) hMd rfl (fun j r hr => hP.closed d j r hMd hr) (fun _ _ _ => rfl) (fun a ha j => by simp [kcpy, kset, ha]) (fun _ _ _ => rfl) (fun _ _ => rfl)
  obtain ⟨k0, hk0⟩ := hall i hM
  rw [kobj_i hd8] at hk
  rw [kobj_i hi] at hk0
  refine va_copyi hx hb (show c.maxLocals = lsA.size from hl.1.1.symm) hown (hts _ (kandW (kall kA_ok hw))) (hts _ (kMisc _ (by simp))) (hts _ (kMisc _ (by simp))) (hts _ (kMisc _ (by simp))) hK hP1 hD1 hVS k0 k 0 0 hk0 hk (show (ktys cA)[0]? = some (cA 0, .int) from rfl) rfl rfl h1 h2 h3 h4 h5 (fun _ _ => rfl) h6 (by rw [kcats_sum]; exact h7) hd (fun H1 locs1 g1 g2 g3 => h ad H1 locs1 lsA (hset _ H1 ?_ g1 g2) g3 hl hbad)
  rw [kobj_i hd8]
  simp [kcpy, kset]
end KS
end
section
/-! Blocks: what is checked of a table's row, and that a block's Prop brings the machine on. -/
def kaux (nL own : Nat) (ini : Bool) (ins : Instr) (len a b t : Nat) (v : Int32) (w : Int64) (pc : Nat) : Bool :=
  match ins with
  | .iconst n => len == 1 && Int32.ofInt n == v
  | .bipush n => len == 2 && (Int8.ofInt n).toInt32 == v
  | .sipush n => len == 3 && (Int16.ofInt n).toInt32 == v
  | .lconst n => len == 1 && Int64.ofNat n.val == w
  | .ldc2_w i => len == 3 && ktabL.contains (own, i, w)
  | .dconst n => len == 1 && n == 0
  | .iload_n k => len == 1 && k.val == a
  | .iload k => len == 2 && k == a
  | .lload_n k => len == 1 && k.val == a
  | .lload k => len == 2 && k == a
  | .dload k => len == 2 && k == a
  | .aload_n k => len == 1 && k.val == a
  | .aload k => len == 2 && k == a
  | .istore_n k => len == 1 && (k.val == a && decide (a < nL))
  | .istore k => len == 2 && (k == a && decide (a < nL))
  | .astore_n k => len == 1 && (k.val == a && decide (a < nL))
  | .astore k => len == 2 && (k == a && decide (a < nL))
  | .lstore_n k => len == 1 && (k.val == a && decide (a + 1 < nL))
  | .lstore k => len == 2 && (k == a && decide (a + 1 < nL))
  | .dstore k => len == 2 && (k == a && decide (a + 1 < nL))
  | .iinc i n => len == 3 && (i == a && (Int32.ofInt n == v && decide (a < nL)))
  | .iadd => len == 1
  | .isub => len == 1
  | .imul => len == 1
  | .iand => len == 1
  | .ixor => len == 1
  | .irem => len == 1
  | .ladd => len == 1
  | .lmul => len == 1
  | .lcmp => len == 1
  | .i2l => len == 1
  | .i2d => len == 1
  | .ddiv => len == 1
  | .dcmp _ => len == 1
  | .dup => len == 1
  | .dup2 => len == 1
  | .pop => len == 1
  | .goto off => len == 3 && (pc : Int) + off == (a : Int)
  | .ifCond _ off => len == 3 && (pc : Int) + off == (a : Int)
  | .if_icmp _ off => len == 3 && (pc : Int) + off == (a : Int)
  | .tableswitch d lo hi offs => decide (0 ≤ (pc : Int) + d) && (offs.toList.all (fun o => decide (0 ≤ (pc : Int) + o)) && decide ((offs.size : Int) = hi - lo + 1))
  | .lookupswitch d ps => decide (0 ≤ (pc : Int) + d) && (ps.toList.all (fun o => decide (0 ≤ (pc : Int) + o.2)) && (ps.toList.zip (ps.toList.drop 1)).all (fun (a, next) => a.1 < next.1))
  | .getfield i => len == 3 && (decide (a < 8) && (decide (b < kN a) && ((bif kisref (kty a b) then 1 else 0) == t && (ktabF.contains (own, i, a, b) || ktabN.contains (own, i, a, b)))))
  | .putfield i => len == 3 && (decide (a < 8) && (decide (b < kN a) && (kft a b == t && ((ktabF.contains (own, i, a, b) && (!(kT a b).2.2.2 || (ini && (kT a b).1 == kown own))) || (ktabN.contains (own, i, a, b) && !(kT a b).2.2.2)))))
  | .arraylength => len == 1
  | .iaload => len == 1
  | .laload => len == 1
  | .aaload => len == 1
  | .iastore => len == 1
  | .lastore => len == 1
  | .aastore => len == 1
  | .newarray ty => len == 2 && ((decide (ty = .int) && a == 8) || (decide (ty = .long) && a == 12))
  | .anewarray i => len == 3 && ((a == 9 || a == 10 || a == 11) && ktabC.contains (own, i, kelem a))
  | .new i => len == 3 && (decide (a < 8) && (b == kN a && ktabC.contains (own, i, a)))
  | .invokespecial i => len == 3 && ktabO.contains (own, i)
  | .invokestatic i => len == 3 && ktabA.contains (own, i)
  | .ireturn => len == 1
  | .lreturn => len == 1
  | .dreturn => len == 1
  | .return_ => len == 1
  | _ => false
def kchk1 (m : KMeth) (own : Nat) (ini : Bool) (e : KE) (pc : Nat) : Bool := decide (decode m.2.1 pc = .ok (e.1, e.2.1)) && kaux m.2.2.1 own ini e.1 e.2.1 e.2.2.1.1 e.2.2.1.2.1 e.2.2.1.2.2 e.2.2.2.1 e.2.2.2.2 pc
def kchk (m : KMeth) (own : Nat) (ini : Bool) : List KE → Nat → Bool
  | [], _ => true
  | e :: r, pc => kchk1 m own ini e pc && kchk m own ini r (pc + e.2.1)
theorem kcases_mono {K K' : Nat → Prop} {pc : Nat} {x : Int32} (hK : ∀ q, K q → K' q) : ∀ (l : List Int) (i : Int), kcases K pc x l i → kcases K' pc x l i
  | [], _, _ => trivial
  | o :: r, i, h => ⟨fun z => hK _ (h.1 z), kcases_mono hK r (i + 1) h.2⟩
theorem klook_mono {K K' : Nat → Prop} {pc : Nat} {x : Int32} {d : Int} (hK : ∀ q, K q → K' q) : ∀ (l : List (Int × Int)), klook K pc x d l → klook K' pc x d l
  | [], h => hK _ h
  | q :: r, h => ⟨fun z => hK _ (h.1 z), fun z => klook_mono hK r (h.2 z)⟩
section KB
variable {X : KX} {m : KMeth} {own : Nat} {ini : Bool} {S : KS} {mc ms : Nat} {E : KEnd}
theorem KW_ret (hC : KC X m own ini S mc ms) (hE : KRet X m E) {v : Option KV} {pc : Nat} {ls : KL} {M : KM} {cs sl : Nat} (h : E v M cs sl) (hd : kretd m.2.1 pc v) : KW X pc ls v.toList M cs sl := by
  obtain ⟨p, l, e, R, s, mid, args, below, meth, c, A, D, cA, ad0, L0, Q⟩ := X
  intro ad H locs lsA hP hVS hl hbad
  exact hE v M cs sl h ad H locs lsA pc hP hVS hbad hd
theorem KW_stp (hC : KC X m own ini S mc ms) (hE : KRet X m E) {K : KK} (hK : ∀ pc ls st M cs sl, K pc ls st M cs sl → KW X pc ls st M cs sl) {ins : Instr} {len a b t : Nat} {v : Int32} {w : Int64} {pc : Nat} {ls : KL} {st : List KV} {M : KM} {cs sl : Nat}
    (hd : decode m.2.1 pc = .ok (ins, len)) (hx : kaux m.2.2.1 own ini ins len a b t v w pc = true) (h : kstp (kroom m mc ms) S E K ins len a b t v w pc ls st M cs sl) : KW X pc ls st M cs sl := by
  unfold kstp at h
  split at h <;> simp only [kaux, Bool.and_eq_true, beq_iff_eq, decide_eq_true_eq, Bool.or_eq_true] at hx
  · obtain ⟨rfl, hv⟩ := hx; exact ks_iconst hC hv hd (hK _ _ _ _ _ _ h)
  · obtain ⟨rfl, hv⟩ := hx; exact ks_bipush hC hv hd (hK _ _ _ _ _ _ h)
  · obtain ⟨rfl, hv⟩ := hx; exact ks_sipush hC hv hd (hK _ _ _ _ _ _ h)
  · obtain ⟨rfl, hv⟩ := hx; exact ks_lconst hC hv hd (hK _ _ _ _ _ _ h)
  · obtain ⟨rfl, hw⟩ := hx; exact ks_ldc2 hC (kandW (kall kL_ok hw)) hd (hK _ _ _ _ _ _ h)
  · obtain ⟨rfl, hv⟩ := hx; subst hv; exact ks_dconst hC hd (hK _ _ _ _ _ _ h)
  · obtain ⟨rfl, hk⟩ := hx
    split at h
    · rename_i hg; exact ks_iload_n hC hk hg hd (hK _ _ _ _ _ _ h)
    · exact h.elim
  · obtain ⟨rfl, rfl⟩ := hx
    split at h
    · rename_i hg; exact ks_iload hC hg hd (hK _ _ _ _ _ _ h)
    · exact h.elim
  · obtain ⟨rfl, hk⟩ := hx
    split at h
    · rename_i hg; exact ks_lload_n hC hk hg hd (hK _ _ _ _ _ _ h)
    · exact h.elim
  · obtain ⟨rfl, rfl⟩ := hx
    split at h
    · rename_i hg; exact ks_lload hC hg hd (hK _ _ _ _ _ _ h)
    · exact h.elim
  · obtain ⟨rfl, rfl⟩ := hx
    split at h
    · rename_i hg; exact ks_dload hC hg hd (hK _ _ _ _ _ _ h)
    · exact h.elim
  · obtain ⟨rfl, hk⟩ := hx
    split at h
    · rename_i hg; exact ks_aload_n hC hk hg hd (hK _ _ _ _ _ _ h)
    · exact h.elim
  · obtain ⟨rfl, rfl⟩ := hx
    split at h
    · rename_i hg; exact ks_aload hC hg hd (hK _ _ _ _ _ _ h)
    · exact h.elim
  · obtain ⟨rfl, hk, hn⟩ := hx
    split at h
    · exact ks_istore_n hC hk hn hd (hK _ _ _ _ _ _ h)
    · exact h.elim
  · obtain ⟨rfl, rfl, hn⟩ := hx
    split at h
    · exact ks_istore hC hn hd (hK _ _ _ _ _ _ h)
    · exact h.elim
  · obtain ⟨rfl, hk, hn⟩ := hx
    split at h
    · exact ks_astore_n hC hk hn hd (hK _ _ _ _ _ _ h)
    · exact h.elim
  · obtain ⟨rfl, rfl, hn⟩ := hx
    split at h
    · exact ks_astore hC hn hd (hK _ _ _ _ _ _ h)
    · exact h.elim
  · obtain ⟨rfl, hk, hn⟩ := hx
    split at h
    · exact ks_lstore_n hC hk hn hd (hK _ _ _ _ _ _ h)
    · exact h.elim
  · obtain ⟨rfl, rfl, hn⟩ := hx
    split at h
    · exact ks_lstore hC hn hd (hK _ _ _ _ _ _ h)
    · exact h.elim
  · obtain ⟨rfl, rfl, hn⟩ := hx
    split at h
    · exact ks_dstore hC hn hd (hK _ _ _ _ _ _ h)
    · exact h.elim
  · obtain ⟨rfl, rfl, hv, hn⟩ := hx
    split at h
    · rename_i hg; exact ks_iinc hC hv hg hn hd (hK _ _ _ _ _ _ h)
    · exact h.elim
  · subst hx; split at h
    · exact ks_iadd hC hd (hK _ _ _ _ _ _ h)
    · exact h.elim
  · subst hx; split at h
    · exact ks_isub hC hd (hK _ _ _ _ _ _ h)
    · exact h.elim
  · subst hx; split at h
    · exact ks_imul hC hd (hK _ _ _ _ _ _ h)
    · exact h.elim
  · subst hx; split at h
    · exact ks_iand hC hd (hK _ _ _ _ _ _ h)
    · exact h.elim
  · subst hx; split at h
    · exact ks_ixor hC hd (hK _ _ _ _ _ _ h)
    · exact h.elim
  · subst hx; split at h
    · exact ks_irem hC h.1 hd (hK _ _ _ _ _ _ h.2)
    · exact h.elim
  · subst hx; split at h
    · exact ks_ladd hC hd (hK _ _ _ _ _ _ h)
    · exact h.elim
  · subst hx; split at h
    · exact ks_lmul hC hd (hK _ _ _ _ _ _ h)
    · exact h.elim
  · subst hx; split at h
    · exact ks_lcmp hC hd (hK _ _ _ _ _ _ h)
    · exact h.elim
  · subst hx; split at h
    · exact ks_i2l hC hd (hK _ _ _ _ _ _ h)
    · exact h.elim
  · subst hx; split at h
    · exact ks_i2d hC hd (hK _ _ _ _ _ _ h)
    · exact h.elim
  · subst hx; split at h
    · exact ks_ddiv hC h.1 hd (hK _ _ _ _ _ _ h.2)
    · exact h.elim
  · subst hx; split at h
    · exact ks_dcmp hC hd (hK _ _ _ _ _ _ h)
    · exact h.elim
  · subst hx; split at h
    · exact ks_dupI hC hd (hK _ _ _ _ _ _ h)
    · exact ks_dupR hC hd (hK _ _ _ _ _ _ h)
    · exact h.elim
  · subst hx; split at h
    · exact ks_dup2 hC hd (hK _ _ _ _ _ _ h)
    · exact h.elim
  · subst hx; split at h
    · exact ks_popI hC hd (hK _ _ _ _ _ _ h)
    · exact ks_popR hC hd (hK _ _ _ _ _ _ h)
    · exact h.elim
  · obtain ⟨rfl, ht⟩ := hx; exact ks_goto hC ht hd (hK _ _ _ _ _ _ h)
  · obtain ⟨rfl, ht⟩ := hx
    split at h
    · exact ks_if_eq hC ht hd (fun z => hK _ _ _ _ _ _ (h.1 z)) (fun z => hK _ _ _ _ _ _ (h.2 z))
    · exact h.elim
  · obtain ⟨rfl, ht⟩ := hx
    split at h
    · exact ks_if_ne hC ht hd (fun z => hK _ _ _ _ _ _ (h.1 z)) (fun z => hK _ _ _ _ _ _ (h.2 z))
    · exact h.elim
  · obtain ⟨rfl, ht⟩ := hx
    split at h
    · exact ks_if_lt hC ht hd (fun z => hK _ _ _ _ _ _ (h.1 z)) (fun z => hK _ _ _ _ _ _ (h.2 z))
    · exact h.elim
  · obtain ⟨rfl, ht⟩ := hx
    split at h
    · exact ks_if_ge hC ht hd (fun z => hK _ _ _ _ _ _ (h.1 z)) (fun z => hK _ _ _ _ _ _ (h.2 z))
    · exact h.elim
  · obtain ⟨rfl, ht⟩ := hx
    split at h
    · exact ks_if_gt hC ht hd (fun z => hK _ _ _ _ _ _ (h.1 z)) (fun z => hK _ _ _ _ _ _ (h.2 z))
    · exact h.elim
  · obtain ⟨rfl, ht⟩ := hx
    split at h
    · exact ks_if_le hC ht hd (fun z => hK _ _ _ _ _ _ (h.1 z)) (fun z => hK _ _ _ _ _ _ (h.2 z))
    · exact h.elim
  · obtain ⟨rfl, ht⟩ := hx
    split at h
    · exact ks_icmp_eq hC ht hd (fun z => hK _ _ _ _ _ _ (h.1 z)) (fun z => hK _ _ _ _ _ _ (h.2 z))
    · exact h.elim
  · obtain ⟨rfl, ht⟩ := hx
    split at h
    · exact ks_icmp_ne hC ht hd (fun z => hK _ _ _ _ _ _ (h.1 z)) (fun z => hK _ _ _ _ _ _ (h.2 z))
    · exact h.elim
  · obtain ⟨rfl, ht⟩ := hx
    split at h
    · exact ks_icmp_lt hC ht hd (fun z => hK _ _ _ _ _ _ (h.1 z)) (fun z => hK _ _ _ _ _ _ (h.2 z))
    · exact h.elim
  · obtain ⟨rfl, ht⟩ := hx
    split at h
    · exact ks_icmp_ge hC ht hd (fun z => hK _ _ _ _ _ _ (h.1 z)) (fun z => hK _ _ _ _ _ _ (h.2 z))
    · exact h.elim
  · obtain ⟨rfl, ht⟩ := hx
    split at h
    · exact ks_icmp_gt hC ht hd (fun z => hK _ _ _ _ _ _ (h.1 z)) (fun z => hK _ _ _ _ _ _ (h.2 z))
    · exact h.elim
  · obtain ⟨rfl, ht⟩ := hx
    split at h
    · exact ks_icmp_le hC ht hd (fun z => hK _ _ _ _ _ _ (h.1 z)) (fun z => hK _ _ _ _ _ _ (h.2 z))
    · exact h.elim
  · obtain ⟨h0, h1, h2⟩ := hx
    split at h
    · exact ks_table hC h0 (fun o ho => by simpa using List.all_eq_true.mp h1 o ho) h2 hd (fun z => hK _ _ _ _ _ _ (h.1 z)) (kcases_mono (fun q hq => hK _ _ _ _ _ _ hq) _ _ h.2)
    · exact h.elim
  · obtain ⟨h0, h1, h2⟩ := hx
    split at h
    · exact ks_lookup hC h2 h0 (fun o ho => by simpa using List.all_eq_true.mp h1 o ho) hd (klook_mono (fun q hq => hK _ _ _ _ _ _ hq) _ h)
    · exact h.elim
  · obtain ⟨rfl, hc, hj, ht, hw⟩ := hx
    split at h
    · exact ks_get hC hc hj ht hw h.1 h.2.1 hd (hK _ _ _ _ _ _ h.2.2)
    · exact h.elim
  · obtain ⟨rfl, hc, hj, ht, hw⟩ := hx
    split at h
    · refine ks_put hC hc hj ht ?_ h.1 h.2.1 ⟨h.2.2.1, fun r hr => ?_⟩ hd (hK _ _ _ _ _ _ h.2.2.2.2)
      · rcases hw with ⟨hw, hf⟩ | ⟨hw, hf⟩
        · refine Or.inl ⟨hw, fun hfin => ?_⟩
          rcases hf with hf | hf
          · rw [hfin] at hf; simp at hf
          · exact hf
        · exact Or.inr ⟨hw, by simpa using hf⟩
      · have h4 := h.2.2.2.1
        rw [hr] at h4
        exact h4
    · exact h.elim
  · subst hx; split at h
    · split at h
      · rename_i q
        obtain ⟨rfl, h⟩ := h
        exact ks_slen hC rfl hd (hK _ _ _ _ _ _ h)
      · exact ks_alen hC h.1 h.2.1 h.2.2.1 hd (hK _ _ _ _ _ _ h.2.2.2)
    · exact h.elim
  · subst hx; split at h
    · split at h
      · rename_i q
        obtain ⟨rfl, h1, h⟩ := h
        exact ks_sld hC rfl h1 hd (hK _ _ _ _ _ _ h)
      · exact ks_iald hC h.1 h.2.1 h.2.2.1 hd (hK _ _ _ _ _ _ h.2.2.2)
    · exact h.elim
  · subst hx; split at h
    · exact ks_lald hC h.1 h.2.1 h.2.2.1 hd (hK _ _ _ _ _ _ h.2.2.2)
    · exact h.elim
  · subst hx; split at h
    · exact ks_aald hC h.1 h.2.1 h.2.2.1 hd (hK _ _ _ _ _ _ h.2.2.2)
    · exact h.elim
  · subst hx; split at h
    · exact ks_iast hC h.1 h.2.1 h.2.2.1 hd (hK _ _ _ _ _ _ h.2.2.2)
    · exact h.elim
  · subst hx; split at h
    · exact ks_last hC h.1 h.2.1 h.2.2.1 hd (hK _ _ _ _ _ _ h.2.2.2)
    · exact h.elim
  · subst hx; split at h
    · exact ks_aast hC h.1 h.2.1 h.2.2.1 h.2.2.2.1 h.2.2.2.2.1 hd (hK _ _ _ _ _ _ h.2.2.2.2.2)
    · exact h.elim
  · obtain ⟨rfl, hx⟩ := hx
    split at h
    · obtain ⟨i, hi, hM, o1, o2, h0, h9, h1, h2, h⟩ := h
      rcases hx with ⟨rfl, rfl⟩ | ⟨rfl, rfl⟩
      · exact ks_newi hC hi hM (kLV_of o1 o2) h0 h9 h1 h2 hd (hK _ _ _ _ _ _ h)
      · exact ks_newl hC hi hM (kLV_of o1 o2) h0 h9 h1 h2 hd (hK _ _ _ _ _ _ h)
    · exact h.elim
  · obtain ⟨rfl, ha, hw⟩ := hx
    split at h
    · obtain ⟨i, hi, hM, o1, o2, h0, h9, h1, h2, h⟩ := h
      subst hi
      exact ks_newq hC hw (by omega) hM (kLV_of o1 o2) h0 h9 h1 h2 hd (hK _ _ _ _ _ _ h)
    · exact h.elim
  · obtain ⟨rfl, ha, hb, hw⟩ := hx
    obtain ⟨i, hi, hM, o1, o2, h1, h2, h⟩ := h
    subst hb
    exact ks_new hC ha hw hi hM (kLV_of o1 o2) h1 h2 hd (hK _ _ _ _ _ _ h)
  · obtain ⟨rfl, hw⟩ := hx
    split at h
    · exact ks_objInit hC hw h.1 h.2.1 hd (hK _ _ _ _ _ _ h.2.2)
    · exact h.elim
  · obtain ⟨rfl, hw⟩ := hx
    split at h
    · obtain ⟨h1, h2, h3, h4, h5, h6, h7, h8, h9, h10, h11, h⟩ := h
      exact ks_copy hC hw h1 h2 h3 h4 h5 h6 h7 h8 h9 h10 h11 hd (hK _ _ _ _ _ _ h)
    · exact h.elim
  · subst hx; split at h
    · exact KW_ret hC hE h hd
    · exact h.elim
  · subst hx; split at h
    · exact KW_ret hC hE h hd
    · exact h.elim
  · subst hx; split at h
    · exact KW_ret hC hE h hd
    · exact h.elim
  · subst hx; split at h
    · exact KW_ret hC hE h hd
    · exact h.elim
  · exact h.elim
theorem KW_blk (hC : KC X m own ini S mc ms) (hE : KRet X m E) : ∀ (l : List KE) (pc : Nat) (ls : KL) (st : List KV) (M : KM) (cs sl : Nat), kchk m own ini l pc = true → kblk (kroom m mc ms) S E (KW X) l pc ls st M cs sl → KW X pc ls st M cs sl
  | [], pc, ls, st, M, cs, sl, _, h => h
  | [e], pc, ls, st, M, cs, sl, hc, h => by
    simp only [kchk, kchk1, Bool.and_eq_true, decide_eq_true_eq] at hc
    exact KW_stp hC hE (fun _ _ _ _ _ _ h => h) hc.1.1 hc.1.2 h
  | e :: f :: r, pc, ls, st, M, cs, sl, hc, h => by
    have hc2 := hc
    rw [kchk, Bool.and_eq_true] at hc2
    have hc1 := hc2.1
    simp only [kchk1, Bool.and_eq_true, decide_eq_true_eq] at hc1
    refine KW_stp hC hE (fun pc1 ls1 st1 M1 cs1 sl1 h1 => ?_) hc1.1 hc1.2 h
    obtain ⟨rfl, h1⟩ := h1
    exact KW_blk hC hE (f :: r) _ ls1 st1 M1 cs1 sl1 hc2.2 h1
end KB
end
section
/-! Contracts of our methods over the small machine's memory, and calls. -/
def KA (ad : KI → Nat) (M : KM) (sz : Nat) : Nat → Prop := fun q => (∃ i, M.1 i ∧ ad i = q) ∨ sz ≤ q
def kwsM (m : KMeth) : List Cond := .code m.1 m.2.1 m.2.2.1 m.2.2.2.1 :: kGW
def KPre (D : va_G) (cA : Nat → ClassId) (ad : KI → Nat) (sz : Nat) (M : KM) (av : List KV) (Z : State → Prop) : Array Value → State → Prop :=
  va_Pc (av.map (kv ad)) (fun U => U.heap.size = sz ∧ KP D cA ad (fun _ => True) M U.heap ∧ va_K D vwCl (ktys cA) U ∧ KNest U ∧ Z U)
def KPost (D : va_G) (cA : Nat → ClassId) (ad : KI → Nat) (sz : Nat) (M : KM) (Q : Option KV → KM → Prop) : Array Value → State → Outcome → State → Prop := fun _ st oc t =>
  (∃ (v : Option KV) (ad' : KI → Nat) (M' : KM), oc = .returned (v.map (kv ad')) ∧ Q v M' ∧ KP D cA ad' (KA ad M sz) M' t.heap ∧ KZ ad M.1 M' ad') ∧ va_F (KA ad M sz) st t
/-- the method, called with av over the memory M, returns v over M' with Q; it makes at most mc cells of ms slots -/
def SpQ (m : KMeth) (mc ms : Nat) (av : List KV) (M : KM) (Q : Option KV → KM → Prop) : Prop :=
  ∀ (l : Launch) (D : va_G) (cA : Nat → ClassId) (ad : KI → Nat) (sz : Nat), Met l m.1 (kwsM m) (kroom m mc ms) (KPre D cA ad sz M av (fun _ => True)) (KPost D cA ad sz M Q) mc ms (KA ad M sz)
def krt : Option FieldType → Option KV → Prop
  | none, none => True
  | some .int, some (.inl _) => True
  | some .boolean, some (.inl x) => x = 0 ∨ x = 1
  | some .long, some (.inr (.inl _)) => True
  | some .double, some (.inr (.inr (.inl _))) => True
  | _, _ => False
abbrev kEq (m : KMeth) (mc ms : Nat) (Q : Option KV → KM → Prop) : KEnd := fun v M cs sl => Q v M ∧ krt m.2.2.2.1 v ∧ cs ≤ mc ∧ sl ≤ ms
def kent : List KV → KL
  | [] => []
  | v :: r => if kcat v = 2 then some v :: none :: kent r else some v :: kent r
def kpad : Nat → KL → KL
  | 0, _ => []
  | n + 1, [] => none :: kpad n []
  | n + 1, a :: l => a :: kpad n l
theorem kpad_len : ∀ (n : Nat) (l : KL), (kpad n l).length = n
  | 0, _ => rfl
  | n + 1, [] => by simp [kpad, kpad_len n []]
  | n + 1, _ :: l => by simp [kpad, kpad_len n l]
theorem kpad_get : ∀ (n : Nat) (l : KL) (i : Nat) (v : KV), kget (kpad n l) i = some v → kget l i = some v
  | 0, _, i, v, h => by simp [kpad, kget] at h
  | n + 1, [], 0, v, h => by simp [kpad, kget] at h
  | n + 1, [], i + 1, v, h => by
    simp only [kpad, kget] at h
    have := kpad_get n [] i v h
    simp [kget] at this
  | n + 1, a :: l, 0, v, h => by simpa [kpad, kget] using h
  | n + 1, a :: l, i + 1, v, h => by
    simp only [kpad, kget] at h ⊢
    exact kpad_get n l i v h
theorem kcat_eq {ad : KI → Nat} (v : KV) : (kv ad v).category = kcat v := by
  rcases v with x | x | x | x
  · rfl
  · rfl
  · rfl
  · cases x <;> rfl
theorem kent_get {ad : KI → Nat} : ∀ (l : List KV) (i k : Nat) (v : KV), kget (kent l) i = some v → (k + i, kv ad v) ∈ lv_args k (l.map (kv ad))
  | [], i, k, v, h => by simp [kent, kget] at h
  | a :: r, i, k, v, h => by
    simp only [kent] at h
    simp only [List.map_cons, lv_args, kcat_eq]
    by_cases hc : kcat a = 2
    · rw [if_pos hc] at h ⊢
      match i, h with
      | 0, h => simp only [kget, Option.some.injEq] at h; subst h; exact List.mem_cons_self
      | 1, h => simp [kget] at h
      | i + 2, h =>
        simp only [kget] at h
        have := kent_get (ad := ad) r i (k + 2) v h
        rw [show k + (i + 2) = k + 2 + i by omega]
        exact List.mem_cons_of_mem _ this
    · rw [if_neg hc] at h ⊢
      match i, h with
      | 0, h => simp only [kget, Option.some.injEq] at h; subst h; exact List.mem_cons_self
      | i + 1, h =>
        simp only [kget] at h
        have := kent_get (ad := ad) r i (k + 1) v h
        rw [show k + (i + 1) = k + 1 + i by omega]
        exact List.mem_cons_of_mem _ this
theorem kent_len {ad : KI → Nat} : ∀ l : List KV, (lg_sl (l.map (kv ad))).length = (kent l).length
  | [] => rfl
  | a :: r => by
    have ih := kent_len (ad := ad) r
    simp only [lg_sl, List.map_cons, List.flatMap_cons, kent, kcat_eq] at ih ⊢
    by_cases hc : kcat a = 2
    · simp [hc, ih]
    · simp [hc, ih]
theorem kentry_has {ad : KI → Nat} {nL : Nat} {av : List KV} (h : (kent av).length ≤ nL) : kls ad nL ((lg_sl (av.map (kv ad)) ++ List.replicate (nL - (lg_sl (av.map (kv ad))).length) Slot.unset).toArray) (kpad nL (kent av)) := by
  have h1 := lv_entry (av.map (kv ad)) (n := nL) (by rw [kent_len]; exact h)
  refine ⟨⟨h1.1, h1.2.1, fun q hq => ?_⟩, kpad_len _ _⟩
  obtain ⟨j, w⟩ := q
  obtain ⟨hj, v, hv, rfl⟩ := klist_mem.mp hq
  have h2 := kent_get (ad := ad) av j 0 v (kpad_get _ _ _ _ hv)
  rw [Nat.zero_add] at h2
  exact h1.2.2 (j, kv ad v) h2
theorem KNest.warm {s U : State} (hW : s.WarmedH U.vm) (h : KNest s) : KNest U := by
  refine ⟨fun e he => va_Nw.warmF hW (h.1 e he), fun e he => va_Nw.warmM hW (h.2.1 e he), fun k hk => va_AO.moved hW.alike (h.2.2 k hk)⟩
theorem KNest.same {s U : State} (hv : s.vm = U.vm) (h : KNest s) : KNest U := by
  refine ⟨fun e he => ?_, fun e he => ?_, fun k hk => ?_⟩
  · have hon := List.all_eq_true.mp kN_ok e he
    simp only [Bool.and_eq_true, decide_eq_true_eq] at hon
    exact va_Nw.same hon.2 hv (h.1 e he)
  · have hon := List.all_eq_true.mp kI_ok e he
    simp only [Bool.and_eq_true, decide_eq_true_eq] at hon
    exact va_Nw.same hon.2 hv (h.2.1 e he)
  · exact va_AO.moved (by rw [hv]; exact Vm.Alike.refl U.vm) (h.2.2 k hk)
theorem KPre.blind {D : va_G} {cA : Nat → ClassId} {ad : KI → Nat} {sz : Nat} {M : KM} {av : List KV} {Z : State → Prop} (hZ : ∀ (a : Array Value) (U : State) (g : JFrame) (mk : MethodId), Z U → Z (U.calling g mk a)) : FrameBlind (KPre D cA ad sz M av Z) := by
  intro a U g mk q
  obtain ⟨q0, q1, qP, qK, qN, qZ⟩ := q
  exact ⟨q0, q1, qP, va_K.moved (u := U) (U := U.calling g mk a) (Vm.Alike.refl U.vm) qK, KNest.same (s := U) rfl qN, hZ a U g mk qZ⟩
theorem KP.full {D : va_G} {cA : Nat → ClassId} {ad : KI → Nat} {A : Nat → Prop} {M : KM} {H : Heap} (h : KP D cA ad A M H) : KP D cA ad (fun _ => True) M H := h.weaken fun _ _ _ => trivial
theorem SpQ_of {m : KMeth} {own : Nat} {ini : Bool} {mc ms : Nat} {av : List KV} {M : KM} {Q : Option KV → KM → Prop} (hp : plainFor m.1 = true) (ho : kown own = m.1.cls) (hi : ini = true → m.1.name = "<init>") (hfit : (kent av).length ≤ m.2.2.1)
    (body : ∀ X : KX, KC X m own ini none mc ms → KRet X m (kEq m mc ms Q) → KL0 X = M.1 → KW X 0 (kpad m.2.2.1 (kent av)) [] M 0 0) : SpQ m mc ms av M Q := by
  intro l D cA ad sz
  refine va_MetF (cc := m.2.1) (maxL := m.2.2.1) (ret := m.2.2.2.1) hp rfl ?_
  intro p e s mid args below meth c s₁ B hml hv
  obtain ⟨rfl, hsz, hP, hK, hN, -⟩ := hv
  subst hsz
  have hx := B.exec
  have hb := B.bytes
  have hr := B.returns
  have hts := atoms_spec (ws := kwsM m) B.pre
  have hown : s.vm.findClass m.1.cls = some mid.cls := findClass_of_methodNamed B.named
  have hlocks : meth.locks = false := B.notSynchronized
  have hPA : KP D cA ad (KA ad M s.heap.size) M s.heap := hP.weaken fun i hi _ => Or.inl ⟨i, hi, rfl⟩
  have hVS : va_S (KA ad M s.heap.size) s.heap s.heap [] := va_S.rf
  have hl := kentry_has (ad := ad) hfit
  rw [lg_entry_eq]
  generalize ((lg_sl (av.map (kv ad)) ++ List.replicate (m.2.2.1 - (lg_sl (av.map (kv ad))).length) Slot.unset).toArray) = lsA at hl ⊢
  have hX := body (p, l, e, kroom m mc ms, s, mid, (av.map (kv ad)).toArray, below, meth, c, KA ad M s.heap.size, D, cA, ad, M.1, MQ below (KPost D cA ad s.heap.size M Q) (av.map (kv ad)).toArray s mc ms (KA ad M s.heap.size))
    ⟨hx, hb, hml, by rw [ho]; exact hown, fun w hw => hts w (List.mem_cons_of_mem _ hw), hK, hN, fun q hq => Or.inr hq, fun h => by rw [(name_of_methodNamed B.named B.method).1]; exact hi h, trivial, hlocks, rfl⟩ ?_ rfl
  · exact hX ad s.heap [] lsA hPA hVS (by rw [hml]; exact hl) ⟨rfl, fun i hi => ⟨hi, rfl⟩⟩
  · intro v M' cs sl hE ad' H locs lsB pc hP' hVS' hZ hd
    obtain ⟨hQ, hrt, hcs, hsl⟩ := hE
    refine W.widen hcs hsl ?_
    have hpost : ∀ t : State, t.heap = H → s.WarmedH t.vm → KPost D cA ad s.heap.size M Q (av.map (kv ad)).toArray s (.returned (v.map (kv ad'))) t := fun t ht hW => ⟨⟨v, ad', M', rfl, hQ, by rw [ht]; exact hP', hZ⟩, hVS'.F ht⟩
    cases v with
    | none =>
      cases hret : m.2.2.2.1 with
      | none => exact W.vret hx hb (hr.trans hret) hpost hVS'.2.2 hd
      | some ty => rw [hret] at hrt; cases ty <;> exact hrt.elim
    | some x =>
      rcases x with x | x | x | x
      · cases hret : m.2.2.2.1 with
        | none => rw [hret] at hrt; exact hrt.elim
        | some ty =>
          rw [hret] at hrt
          cases ty
          case int => exact W.iret (v := x) hx hb (hr.trans hret) hpost hVS'.2.2 hd
          case boolean =>
            refine W.zret (v := x) hx hb (hr.trans hret) ?_ hpost hVS'.2.2 hd
            rcases hrt with rfl | rfl <;> rfl
          all_goals exact hrt.elim
      · cases hret : m.2.2.2.1 with
        | none => rw [hret] at hrt; exact hrt.elim
        | some ty =>
          rw [hret] at hrt
          cases ty
          case long => exact W.lret (v := x) hx hb (hr.trans hret) hpost hVS'.2.2 hd
          all_goals exact hrt.elim
      · cases hret : m.2.2.2.1 with
        | none => rw [hret] at hrt; exact hrt.elim
        | some ty =>
          rw [hret] at hrt
          cases ty
          case double => exact W.dret (v := x) hx hb (hr.trans hret) hpost hVS'.2.2 hd
          all_goals exact hrt.elim
      · exact hd.elim
/-- behind a call: from what the callee's run says to what holds here -/
theorem kAfter {p : Program} {l : Launch} {e : Env} {R : Room} {s : State} {mid : MethodId} {args : Array Value} {below : List Frame} {meth : Method} {c : Code} {A : Nat → Prop} {D : va_G} {cA : Nat → ClassId} {ad0 : KI → Nat} {L0 : KI → Prop} {Q : State → Prop} {ad : KI → Nat} {H : Heap} {locs : List Loc} {lsA : Array Slot} {pc cs sl mc2 ms2 : Nat} {ls : KL} {st : List KV} {M : KM} {Q2 : Option KV → KM → Prop} {a : Array Value} {st0 : List Value}
    (hA : ∀ q, s.heap.size ≤ q → A q) (hP : KP D cA ad A M H) (hVS : va_S A s.heap H locs) (hl : kls ad c.maxLocals lsA ls) (hZ : KZ ad0 L0 M ad) (hLV : kLV M ls st)
    (hr : va_Run p l e R s mid args below meth c H locs cs sl mc2 ms2 (F0 mid pc lsA st0) (st.map (kv ad)) (KPost D cA ad H.size M Q2 a) (KA ad M H.size))
    (hk : ∀ (v : Option KV) (M' : KM), Q2 v M' → KW (p, l, e, R, s, mid, args, below, meth, c, A, D, cA, ad0, L0, Q) (pc + 3) ls (v.toList ++ st) M' (cs + mc2) (sl + ms2)) : W p l e R s mid args below meth c H locs cs sl Q (F0 mid pc lsA st0) := by
  have hAA : ∀ q, KA ad M H.size q → A q := by
    intro q hq
    rcases hq with ⟨i, hi, rfl⟩ | hq
    · exact (hP.inA hi).1
    · exact hA q (Nat.le_trans hVS.1 hq)
  intro T hT X
  obtain ⟨v0, st₀, t, T', L, h0, X', hL, e1, e2, ⟨⟨v, ad', M', hv, hq, hP', hZ'⟩, hz, hkk⟩, stp⟩ := hr T hT X
  have hv : v0 = v.map (kv ad') := by cases hv; rfl
  rw [h0] at hz hkk
  have hVS2 : va_S A s.heap T'.heap (locs ++ L) := ⟨Nat.le_trans hVS.1 (by rw [e1]; exact hz), fun q h1 h2 => by rw [e1, hkk q (Nat.lt_of_lt_of_le h1 hVS.1) (fun z => h2 (hAA q z))]; exact hVS.2.1 q h1 h2, fun q hq => by
      rcases List.mem_append.mp hq with h | h
      · exact hVS.2.2 q h
      · exact hAA _ (hL q h)⟩
  have hP2 : KP D cA ad' A M' T'.heap := by rw [e1]; exact hP'.weaken fun i hi h => hAA _ h
  have hZ2 : KZ ad0 L0 M' ad' := ⟨hZ'.1.trans hZ.1, fun i hi => ⟨(hZ'.2 i (hZ.2 i hi).1).1, (hZ'.2 i (hZ.2 i hi).1).2.trans (hZ.2 i hi).2⟩⟩
  have hsame : ∀ r : KI, (M.1 r ∨ r = (13, 0, 0)) → ad' r = ad r := by
    intro r hr
    rcases hr with hr | rfl
    · exact (hZ'.2 r hr).2
    · exact hZ'.1
  have hl2 : kls ad' c.maxLocals lsA ls := hl.same fun i r hr => hsame r (hLV.1 i r hr)
  have hst2 : (v.toList ++ st).map (kv ad') = v0.toList ++ st.map (kv ad) := by
    rw [List.map_append, kst_same (ad := ad) (fun r hr => hsame r (hLV.2 r hr)), hv]
    cases v <;> rfl
  have hW := hk v M' hq ad' T'.heap (locs ++ L) lsA hP2 hVS2 hl2 hZ2
  rw [hst2] at hW
  obtain ⟨t2, a1, b1⟩ := hW T' rfl X'
  exact ⟨t2, stp t2 a1, b1⟩
/-- what a call's site needs of the tables: modes 0 virtual, 1 static, 2 a constructor, 3 a nest mate's constructor, 4 static with handlers of its own -/
def klk (mode own idx : Nat) (m2 : KMeth) (n : Nat) : Bool :=
  (if mode = 3 then ktabI.contains (own, idx, m2.1) else decide (Cond.methodLink (kown own) idx m2.1 ∈ lw_tbl) && goodWord (Cond.methodLink (kown own) idx m2.1)) &&
  (decide (Cond.initialized m2.1.cls ∈ lw_tbl) && (goodWord (Cond.initialized m2.1.cls) &&
  ((if mode = 0 then decide (Cond.selects m2.1.cls m2.1 m2.1 ∈ lw_tbl) && goodWord (Cond.selects m2.1.cls m2.1 m2.1) else true) &&
  ((if mode = 1 ∨ mode = 4 then decide (Cond.static m2.1 ∈ lw_tbl) && goodWord (Cond.static m2.1) else decide (Cond.instanceMethod m2.1 ∈ lw_tbl) && goodWord (Cond.instanceMethod m2.1)) &&
  ((if mode = 2 ∨ mode = 3 then decide (m2.1.name = "<init>") else true) &&
  ((if mode = 4 then true else decide (Cond.code m2.1 m2.2.1 m2.2.2.1 m2.2.2.2.1 ∈ lw_tbl) && goodWord (Cond.code m2.1 m2.2.1 m2.2.2.1 m2.2.2.2.1)) &&
  (decide (m2.1.cls ≠ "java/lang/invoke/MethodHandle" ∧ m2.1.cls ≠ "java/lang/invoke/VarHandle") && decide ((parseMethodDescriptor m2.1.desc).map (fun d => d.parameters.length) = some n))))))))
theorem kGoodAll : ∀ w ∈ kGW, w ∈ kGW := fun _ h => h
theorem kGood_ws {m2 : KMeth} (hc : Cond.code m2.1 m2.2.1 m2.2.2.1 m2.2.2.2.1 ∈ kGW) {pre : List Cond} (hpre : ∀ w ∈ pre, w ∈ kGW) : GoodIn kGW (pre ++ kwsM m2) := by
  refine kGW_good fun w hw => ?_
  rcases List.mem_append.mp hw with h | h
  · exact hpre w h
  · rcases List.mem_cons.mp h with rfl | h
    · exact hc
    · exact h
section KCL
variable {X : KX} {m m2 : KMeth} {own : Nat} {ini : Bool} {S : KS} {mc ms mc2 ms2 pc idx n : Nat} {ls : KL} {stk st av : List KV} {M : KM} {cs sl : Nat} {Q2 : Option KV → KM → Prop}
theorem KW_callV (hC : KC X m own ini S mc ms) (hd : decode m.2.1 pc = .ok (.invokevirtual idx, 3)) (hlk : klk 0 own idx m2 n = true) (hR : m2.2.2.2.2.1 + 1 ≤ m.2.2.2.2.1 ∧ 8 + (m2.2.2.1 + 11) + m2.2.2.2.2.2 ≤ m.2.2.2.2.2) {i : KI} {As : List KV} (hs : SpQ m2 mc2 ms2 (kR (some i) :: As) M Q2)
    (hn : As.length = n) (hst : stk = As.reverse ++ kR (some i) :: st) (hi8 : i.1 < 8) (hic : kRn i.1 = m2.1.cls) (hM : M.1 i) (h1 : kOkL M ls) (h2 : kOkS M st) (hcat : kcats st ≤ 8) (hcs : cs + mc2 ≤ mc) (hsl : sl + ms2 ≤ ms)
    (hk : ∀ (v : Option KV) (M' : KM), Q2 v M' → KW X (pc + 3) ls (v.toList ++ st) M' (cs + mc2) (sl + ms2)) : KW X pc ls stk M cs sl := by
  subst hst
  obtain ⟨p, l, e, R, s, mid, args, below, meth, c, A, D, cA, ad0, L0, Q⟩ := X
  obtain ⟨hx, hb, hml, hown, hts, hK, hN, hA, hin, hS, hlk9, rfl⟩ := hC
  intro ad H locs lsA hP hVS hl hbad
  simp only [klk, if_true, Bool.and_eq_true, decide_eq_true_eq, Nat.reduceEqDiff, if_false, or_self] at hlk
  obtain ⟨⟨a1, a2⟩, a3, a4, ⟨a5, a6⟩, ⟨a7, a8⟩, -, ⟨a9, a10⟩, ⟨a11, a12⟩, a13⟩ := hlk
  have hcode := kGW_in a9 a10
  have hgood : GoodIn kGW (wsV (kown own) idx m2.1.cls m2.1 (kwsM m2)) := kGood_ws hcode (pre := [.methodLink (kown own) idx m2.1, .instanceMethod m2.1, .selects m2.1.cls m2.1 m2.1, .initialized m2.1.cls]) (by
    intro w hw
    simp only [List.mem_cons, List.not_mem_nil, or_false] at hw
    rcases hw with rfl | rfl | rfl | rfl
    · exact kGW_in a1 a2
    · exact kGW_in a7 a8
    · exact kGW_in a5 a6
    · exact kGW_in a3 a4)
  obtain ⟨ws, k, hk0, hP1, hD1⟩ := hP.get hM
  rw [kobj_c hi8] at hk0
  have hrecv := va_recv hK hP1 (kCl _ hi8) hk0
  simp only [hic] at hrecv
  have cw : CallW (kroom m mc ms) s args (kown own) m2.1.cls idx m2.1 m2.2.1 m2.2.2.1 m2.2.2.2.1 (kwsM m2) (kroom m2 mc2 ms2) mc2 ms2 n := cwV n hts hgood rfl rfl rfl ⟨rfl, a11, a12, a13⟩ hR
  have hrun := va_runV (p := p) (l := l) (e := e) (R := kroom m mc ms) (s := s) (m := mid) (args := args) (below := below) (meth := meth) (c := c) (H := H) (locs := locs) (cells := cs) (slots := sl) (As := As.map (kv ad)) (rest := st.map (kv ad)) (g := F0 mid pc lsA ((As.reverse ++ kR (some i) :: st).map (kv ad))) (b := ad i) ⟨hx, hb, hml, hown, hts⟩ (hs l D cA ad H.size) cw
    ⟨KPre.blind (fun _ _ _ _ _ => trivial), hrecv, fun U hU hW => ⟨rfl, by rw [hU], by rw [hU]; exact hP.full, va_K.moved hW.alike hK, hN.warm hW, trivial⟩⟩ rfl (by simpa using hn) (by rw [← hml]; exact hl.1.1) (by simp [kv, va_rf]) (by
      rw [kcats_sum]
      show 2 * 0 + kcats st ≤ 8
      omega) hd ⟨hcs, hsl⟩
  exact kAfter hA hP hVS hl hbad (kLV_of h1 h2) hrun hk
theorem KW_callS (hC : KC X m own ini S mc ms) (hd : decode m.2.1 pc = .ok (.invokestatic idx, 3)) (hlk : klk 1 own idx m2 n = true) (hR : m2.2.2.2.2.1 + 1 ≤ m.2.2.2.2.1 ∧ 8 + (m2.2.2.1 + 11) + m2.2.2.2.2.2 ≤ m.2.2.2.2.2) (hs : SpQ m2 mc2 ms2 av M Q2)
    (hn : av.length = n) (hst : stk = av.reverse ++ st) (h1 : kOkL M ls) (h2 : kOkS M st) (hcat : kcats st ≤ 8) (hcs : cs + mc2 ≤ mc) (hsl : sl + ms2 ≤ ms)
    (hk : ∀ (v : Option KV) (M' : KM), Q2 v M' → KW X (pc + 3) ls (v.toList ++ st) M' (cs + mc2) (sl + ms2)) : KW X pc ls stk M cs sl := by
  subst hst
  obtain ⟨p, l, e, R, s, mid, args, below, meth, c, A, D, cA, ad0, L0, Q⟩ := X
  obtain ⟨hx, hb, hml, hown, hts, hK, hN, hA, hin, hS, hlk9, rfl⟩ := hC
  intro ad H locs lsA hP hVS hl hbad
  simp only [klk, if_true, Bool.and_eq_true, decide_eq_true_eq, Nat.reduceEqDiff, if_false, true_or, or_self, Nat.one_ne_zero] at hlk
  obtain ⟨⟨a1, a2⟩, a3, a4, -, ⟨a7, a8⟩, -, ⟨a9, a10⟩, ⟨a11, a12⟩, a13⟩ := hlk
  have hcode := kGW_in a9 a10
  have hgood : GoodIn kGW (va_wsS (kown own) idx m2.1 (kwsM m2)) := kGood_ws hcode (pre := [.methodLink (kown own) idx m2.1, .static m2.1, .initialized m2.1.cls]) (by
    intro w hw
    simp only [List.mem_cons, List.not_mem_nil, or_false] at hw
    rcases hw with rfl | rfl | rfl
    · exact kGW_in a1 a2
    · exact kGW_in a7 a8
    · exact kGW_in a3 a4)
  have cw := va_cwS (R := kroom m mc ms) (s := s) (args := args) (own := kown own) (index := idx) (y := m2.1) (bytes := m2.2.1) (maxL := m2.2.2.1) (ret := m2.2.2.2.1) (ws := kwsM m2) (rm := kroom m2 mc2 ms2) (mc := mc2) (ms := ms2) n hts hgood rfl rfl rfl ⟨a11, a12, a13⟩ hR
  have hrun := va_runS (p := p) (l := l) (e := e) (R := kroom m mc ms) (s := s) (m := mid) (args := args) (below := below) (meth := meth) (c := c) (H := H) (locs := locs) (cells := cs) (slots := sl) (As := av.map (kv ad)) (rest := st.map (kv ad)) (g := F0 mid pc lsA ((av.reverse ++ st).map (kv ad))) ⟨hx, hb, hml, hown, hts⟩ (hs l D cA ad H.size) cw
    ⟨KPre.blind (fun _ _ _ _ _ => trivial), fun U hU hW => ⟨rfl, by rw [hU], by rw [hU]; exact hP.full, va_K.moved hW.alike hK, hN.warm hW, trivial⟩⟩ rfl (by simpa using hn) (by rw [← hml]; exact hl.1.1) (by simp) (by
      rw [kcats_sum]
      show 2 * 0 + kcats st ≤ 8
      omega) hd ⟨hcs, hsl⟩
  exact kAfter hA hP hVS hl hbad (kLV_of h1 h2) hrun hk
end KCL
end
section
/-! Calls of constructors. -/
section KCI
theorem k2n : ((2 : Nat) = 3) = False ∧ ((2 : Nat) = 0) = False ∧ ((2 : Nat) = 1) = False ∧ ((2 : Nat) = 4) = False := by decide
theorem k3n : ((3 : Nat) = 2) = False ∧ ((3 : Nat) = 0) = False ∧ ((3 : Nat) = 1) = False ∧ ((3 : Nat) = 4) = False := by decide
variable {X : KX} {m m2 : KMeth} {own : Nat} {ini : Bool} {S : KS} {mc ms mc2 ms2 pc idx n : Nat} {ls : KL} {stk st : List KV} {M : KM} {cs sl : Nat} {Q2 : Option KV → KM → Prop}
theorem KW_callI (hC : KC X m own ini S mc ms) (hd : decode m.2.1 pc = .ok (.invokespecial idx, 3)) (hret : m2.2.2.2.1 = none) (hlk : klk 2 own idx m2 n = true) (hR : m2.2.2.2.2.1 + 1 ≤ m.2.2.2.2.1 ∧ 8 + (m2.2.2.1 + 11) + m2.2.2.2.2.2 ≤ m.2.2.2.2.2) {i : KI} {As : List KV} (hs : SpQ m2 mc2 ms2 (kR (some i) :: As) M Q2)
    (hn : As.length = n) (hst : stk = As.reverse ++ kR (some i) :: st) (h1 : kOkL M ls) (h2 : kOkS M st) (hcat : kcats st ≤ 8) (hcs : cs + mc2 ≤ mc) (hsl : sl + ms2 ≤ ms)
    (hk : ∀ (v : Option KV) (M' : KM), Q2 v M' → KW X (pc + 3) ls (v.toList ++ st) M' (cs + mc2) (sl + ms2)) : KW X pc ls stk M cs sl := by
  subst hst
  obtain ⟨p, l, e, R, s, mid, args, below, meth, c, A, D, cA, ad0, L0, Q⟩ := X
  obtain ⟨hx, hb, hml, hown, hts, hK, hN, hA, hin, hS, hlk9, rfl⟩ := hC
  intro ad H locs lsA hP hVS hl hbad
  simp only [klk, if_true, Bool.and_eq_true, decide_eq_true_eq, k2n.1, k2n.2.1, k2n.2.2.1, k2n.2.2.2, if_false, or_self, true_or] at hlk
  obtain ⟨⟨a1, a2⟩, a3, a4, -, ⟨a7, a8⟩, a5, ⟨a9, a10⟩, ⟨a11, a12⟩, a13⟩ := hlk
  have hcode := kGW_in a9 a10
  have hgood : GoodIn kGW (kwsM m2) := by
    have := kGood_ws hcode (pre := []) (fun w hw => by cases hw)
    exact this
  have hw2 : kwsM m2 = Cond.code m2.1 m2.2.1 m2.2.2.1 none :: kGW := by unfold kwsM; rw [hret]
  have cw := cwI (R := kroom m mc ms) (s := s) (args := args) (own := kown own) (index := idx) (y := m2.1) (bytes := m2.2.1) (maxL := m2.2.2.1) (ws := kwsM m2) (ws' := kGW) (rm := kroom m2 mc2 ms2) (mc := mc2) (ms := ms2) n hts hgood hw2 rfl rfl (hts _ (kGW_in a3 a4)) (hts _ (kGW_in a1 a2)) (hts _ (kGW_in a7 a8)) a5 ⟨a11, a12, a13⟩ hR
  have hrun := va_runI (p := p) (l := l) (e := e) (R := kroom m mc ms) (s := s) (m := mid) (args := args) (below := below) (meth := meth) (c := c) (H := H) (locs := locs) (cells := cs) (slots := sl) (As := As.map (kv ad)) (rest := st.map (kv ad)) (g := F0 mid pc lsA ((As.reverse ++ kR (some i) :: st).map (kv ad))) (b := ad i) ⟨hx, hb, hml, hown, hts⟩ (hs l D cA ad H.size) cw
    ⟨KPre.blind (fun _ _ _ _ _ => trivial), fun U hU hW => ⟨rfl, by rw [hU], by rw [hU]; exact hP.full, va_K.moved hW.alike hK, hN.warm hW, trivial⟩⟩ rfl (by simpa using hn) (by rw [← hml]; exact hl.1.1) (by simp [kv, va_rf]) (by
      rw [kcats_sum]
      show 2 * 0 + kcats st ≤ 8
      omega) hd ⟨hcs, hsl⟩
  exact kAfter hA hP hVS hl hbad (kLV_of h1 h2) hrun hk
theorem KW_callIN (hC : KC X m own ini S mc ms) (hd : decode m.2.1 pc = .ok (.invokespecial idx, 3)) (hret : m2.2.2.2.1 = none) (hlk : klk 3 own idx m2 n = true) (hR : m2.2.2.2.2.1 + 1 ≤ m.2.2.2.2.1 ∧ 8 + (m2.2.2.1 + 11) + m2.2.2.2.2.2 ≤ m.2.2.2.2.2) {i : KI} {As : List KV} (hs : SpQ m2 mc2 ms2 (kR (some i) :: As) M Q2)
    (hn : As.length = n) (hst : stk = As.reverse ++ kR (some i) :: st) (h1 : kOkL M ls) (h2 : kOkS M st) (hcat : kcats st ≤ 8) (hcs : cs + mc2 ≤ mc) (hsl : sl + ms2 ≤ ms)
    (hk : ∀ (v : Option KV) (M' : KM), Q2 v M' → KW X (pc + 3) ls (v.toList ++ st) M' (cs + mc2) (sl + ms2)) : KW X pc ls stk M cs sl := by
  subst hst
  obtain ⟨p, l, e, R, s, mid, args, below, meth, c, A, D, cA, ad0, L0, Q⟩ := X
  obtain ⟨hx, hb, hml, hown, hts, hK, hN, hA, hin, hS, hlk9, rfl⟩ := hC
  intro ad H locs lsA hP hVS hl hbad
  simp only [klk, if_true, Bool.and_eq_true, decide_eq_true_eq, k3n.1, k3n.2.1, k3n.2.2.1, k3n.2.2.2, if_false, or_self, or_true] at hlk
  obtain ⟨a1, a3, a4, -, ⟨a7, a8⟩, a5, ⟨a9, a10⟩, ⟨a11, a12⟩, a13⟩ := hlk
  have hcode := kGW_in a9 a10
  have hgood : GoodIn kGW (kwsM m2) := by
    have := kGood_ws hcode (pre := []) (fun w hw => by cases hw)
    exact this
  have hw2 : kwsM m2 = Cond.code m2.1 m2.2.1 m2.2.2.1 none :: kGW := by unfold kwsM; rw [hret]
  have hnst : va_Nw (.methodLinkNest (kown own) idx m2.1 (khost own)) s := hN.2.1 _ (List.contains_iff_mem.mp a1)
  have cw := va_cnB (R := kroom m mc ms) (s := s) (args := args) (own := kown own) (host := khost own) (index := idx) (y := m2.1) (bytes := m2.2.1) (maxL := m2.2.2.1) (ret := none) (ws := kwsM m2) (ws' := kGW) (rm := kroom m2 mc2 ms2) (mc := mc2) (ms := ms2) n hts hgood hw2 rfl rfl hnst (hts _ (kGW_in a3 a4)) ⟨a11, a12, a13⟩ hR
  have hrun := va_runIN (p := p) (l := l) (e := e) (R := kroom m mc ms) (s := s) (m := mid) (args := args) (below := below) (meth := meth) (c := c) (H := H) (locs := locs) (cells := cs) (slots := sl) (As := As.map (kv ad)) (rest := st.map (kv ad)) (g := F0 mid pc lsA ((As.reverse ++ kR (some i) :: st).map (kv ad))) (b := ad i) ⟨hx, hb, hml, hown, hts⟩ (hs l D cA ad H.size) ⟨cw, a5, hts _ (kGW_in a7 a8)⟩
    ⟨KPre.blind (fun _ _ _ _ _ => trivial), fun U hU hW => ⟨rfl, by rw [hU], by rw [hU]; exact hP.full, va_K.moved hW.alike hK, hN.warm hW, trivial⟩⟩ rfl (by simpa using hn) (by rw [← hml]; exact hl.1.1) (by simp [kv, va_rf]) (by
      rw [kcats_sum]
      show 2 * 0 + kcats st ≤ 8
      omega) hd ⟨hcs, hsl⟩
  exact kAfter hA hP hVS hl hbad (kLV_of h1 h2) hrun hk
end KCI
end
section
/-! Methods that may throw: contracts, calls, the three throwing places, catching. -/
abbrev kNames : List String := ["java/lang/RuntimeException", "java/lang/Exception"]
abbrev kIAE : String := "java/lang/IllegalArgumentException"
abbrev kISE : String := "java/lang/IllegalStateException"
abbrev kIOE : String := "java/lang/IndexOutOfBoundsException"
def kthrW : List Cond := (vx_atS RX5 188 kIOE kNames).filter (fun w => !goodWord w) ++ ((vx_atS RX5 195 kIAE kNames).filter (fun w => !goodWord w) ++ (vx_atS RX5 200 kISE kNames).filter (fun w => !goodWord w))
set_option maxRecDepth 100000 in
theorem kthrW_ok : (kthrW.all fun w => decide (w ∈ lw_tbl) && (w.onTables && w.faceAtom)) = true := by decide +kernel
theorem kFace {w : Cond} (h1 : w.onTables = true) (h2 : w.faceAtom = true) {s U : State} (hv : s.vm.Alike U.vm) (h : va_Nw w s) : va_Nw w U :=
  va_tabs h1 (show (s.setVm U.vm).vm = U.vm from rfl) (Cond.faceAtom_setVm hv w h2 h)
def kE3 : List String := [kIAE, kISE, kIOE]
def KThr (A : Nat → Prop) (U : State) : Prop := (∀ E ∈ kE3, ∀ F ∈ kE3, E ≠ F → va_Nc E F U) ∧ vx_Zq Bundle.tN "UNASSIGNED_STACK" Bundle.steD A U U.heap ∧ vx_Zq Bundle.tN "SUPPRESSED_SENTINEL" Bundle.listD A U U.heap ∧ (∀ w ∈ kthrW, va_Nw w U) ∧ (∃ a, vk_R RX5 186 "there is none with this number" a U) ∧ (∃ a, vk_R RX5 193 "the argument is out of its range" a U) ∧ ∃ a, vk_R RX5 198 "the lift does not allow this now" a U
theorem KThr.blind {A : Nat → Prop} (a : Array Value) (U : State) (g : JFrame) (mk : MethodId) (h : KThr A U) : KThr A (U.calling g mk a) := by
  obtain ⟨h0, h1, h2, h3, ⟨b1, h4⟩, ⟨b2, h5⟩, b3, h6⟩ := h
  refine ⟨fun E hE F hF hne => va_Nc.moved (u := U) (Vm.Alike.refl U.vm) (h0 E hE F hF hne), vx_Zq.moved (Vm.Alike.refl U.vm) h1, vx_Zq.moved (Vm.Alike.refl U.vm) h2, fun w hw => ?_, ⟨b1, vk_R.same (u := U) rfl h4⟩, ⟨b2, vk_R.same (u := U) rfl h5⟩, b3, vk_R.same (u := U) rfl h6⟩
  have hon := List.all_eq_true.mp kthrW_ok w hw
  simp only [Bool.and_eq_true, decide_eq_true_eq] at hon
  exact va_Nw.same hon.2.1 (u := U) rfl (h3 w hw)
theorem KThr.carry {A B : Nat → Prop} {s U : State} {H : Heap} {locs : List Loc} (h : KThr A s) (hVS : va_S A s.heap H locs) (hU : U.heap = H) (hW : s.WarmedH U.vm) (hBA : ∀ q, B q → A q) : KThr B U := by
  obtain ⟨h0, h1, h2, h3, ⟨b1, h4⟩, ⟨b2, h5⟩, b3, h6⟩ := h
  subst hU
  refine ⟨fun E hE F hF hne => va_Nc.moved hW.alike (h0 E hE F hF hne), ((vx_Zq.moved hW.alike h1).kept hVS.2.1).narrow hBA, ((vx_Zq.moved hW.alike h2).kept hVS.2.1).narrow hBA, fun w hw => ?_, ⟨b1, h4.warm hW⟩, ⟨b2, h5.warm hW⟩, b3, h6.warm hW⟩
  have hon := List.all_eq_true.mp kthrW_ok w hw
  simp only [Bool.and_eq_true, decide_eq_true_eq] at hon
  exact kFace hon.2.1 hon.2.2 hW.alike (h3 w hw)
/-- the context may throw -/
def KCX (X : KX) : Prop := match X with
  | (_, l, _, _, s, _, _, _, _, _, A, _, _, _, _, _) => l.stackTraces = false ∧ KThr A s
def KXC (D : va_G) (cA : Nat → ClassId) (ad : KI → Nat) (sz : Nat) (M : KM) (T : String → KM → Prop) : String → State → State → Prop := fun E st t =>
  (∃ (ad' : KI → Nat) (M' : KM), T E M' ∧ KP D cA ad' (KA ad M sz) M' t.heap ∧ KZ ad M.1 M' ad') ∧ va_F (KA ad M sz) st t
/-- the method returns with Q, or throws with T -/
def SpX (m : KMeth) (mc ms : Nat) (av : List KV) (M : KM) (Q : Option KV → KM → Prop) (T : String → KM → Prop) : Prop :=
  ∀ (l : Launch), l.stackTraces = false → ∀ (D : va_G) (cA : Nat → ClassId) (ad : KI → Nat) (sz : Nat), vx_Met l m.1 (kwsM m) (kroom m mc ms) (KPre D cA ad sz M av (KThr (KA ad M sz))) (KPost D cA ad sz M Q) (KXC D cA ad sz M T) mc ms (KA ad M sz)
/-- what is owed where a call at pc has thrown E -/
def KThw (X : KX) (pc : Nat) (E : String) (M : KM) (cs sl : Nat) : Prop := match X with
  | (p, l, e, R, s, mid, args, below, meth, c, A, D, cA, ad0, L0, Q) => ∀ (ad : KI → Nat) (H : Heap) (locs : List Loc) (lsA : Array Slot) (q : Addr) (ce : Cell) (rest : List Value), KP D cA ad A M H → va_S A s.heap H locs → KZ ad0 L0 M ad → lsA.size = c.maxLocals → lv_has lsA c.maxLocals [] → H[q]? = some ce → ce.vm = .none → s.vm.findClass E = some ce.cls → vx_W p l e R s mid args below meth c H locs cs sl Q (F0 mid pc lsA rest) q
def kEnames (E : String) : Option (Nat × Nat × Nat × String) :=
  if E = kIAE then some (191, 193, 195, "the argument is out of its range") else if E = kISE then some (196, 198, 200, "the lift does not allow this now") else if E = kIOE then some (184, 186, 188, "there is none with this number") else none
def kthrowAt (m : KMeth) (pc : Nat) (E : String) : Prop := ∃ q, kEnames E = some q ∧ m.1.cls = RX5 ∧ decode m.2.1 pc = .ok (.new q.1, 3) ∧ decode m.2.1 (pc + 3) = .ok (.dup, 1) ∧ decode m.2.1 (pc + 4) = .ok (.ldc q.2.1, 2) ∧ decode m.2.1 (pc + 6) = .ok (.invokespecial q.2.2.1, 3) ∧ decode m.2.1 (pc + 9) = .ok (.athrow, 1)
/-- the words of the three throws -/
def kthrOK (E : String) (q : Nat × Nat × Nat × String) : Bool := (decide (Cond.classLink RX5 q.1 E ∈ lw_tbl) && goodWord (Cond.classLink RX5 q.1 E)) && ((decide (Cond.initialized E ∈ lw_tbl) && goodWord (Cond.initialized E)) && (((vx_atS RX5 q.2.2.1 E kNames).filter goodWord).all (fun w => decide (w ∈ lw_tbl) && goodWord w) && (((vx_atS RX5 q.2.2.1 E kNames).filter (fun w => !goodWord w)).all (fun w => decide (w ∈ kthrW)) && ((Cond.classLink RX5 q.1 E :: Cond.initialized E :: vx_atS RX5 q.2.2.1 E kNames).all vx_ot && (Bundle.fit E && kNames.all Bundle.fit)))))
set_option maxRecDepth 100000 in
theorem kthrOK_all {E : String} {q : Nat × Nat × Nat × String} (h : kEnames E = some q) : kthrOK E q = true := by
  unfold kEnames at h
  split at h
  · rename_i e; subst e; cases h; decide +kernel
  · split at h
    · rename_i e; subst e; cases h; decide +kernel
    · split at h
      · rename_i e; subst e; cases h; decide +kernel
      · cases h
theorem SpX_of {m : KMeth} {own : Nat} {mc ms : Nat} {av : List KV} {M : KM} {Q : Option KV → KM → Prop} {T : String → KM → Prop} (hp : plainName m.1.cls = true) (ho : kown own = m.1.cls) (hfit : (kent av).length ≤ m.2.2.1)
    (body : ∀ X : KX, KC X m own false none mc ms → KCX X → KRet X m (kEq m mc ms Q) → KL0 X = M.1 → (∀ (pc : Nat) (E : String) (M' : KM) (cs sl : Nat), T E M' → cs ≤ mc → sl ≤ ms → KThw X pc E M' cs sl) →
      (∀ (pc : Nat) (E : String) (ls : KL) (st : List KV) (M' : KM) (cs sl : Nat), kthrowAt m pc E → T E M' → 6 ≤ m.2.2.2.2.1 → kcats st + 82 ≤ m.2.2.2.2.2 → cs + 1 ≤ mc → sl + 6 ≤ ms → KW X pc ls st M' cs sl) → KW X 0 (kpad m.2.2.1 (kent av)) [] M 0 0) : SpX m mc ms av M Q T := by
  intro l hst D cA ad sz
  refine vx_ofW (cc := m.2.1) (maxL := m.2.2.1) (ret := m.2.2.2.1) hp rfl ?_
  intro p e s mid args below meth c s₁ B hml hnoex hv
  obtain ⟨rfl, hsz, hP, hK, hN, hThr⟩ := hv
  subst hsz
  have hx := B.exec
  have hb := B.bytes
  have hr := B.returns
  have hts := atoms_spec (ws := kwsM m) B.pre
  have hown : s.vm.findClass m.1.cls = some mid.cls := findClass_of_methodNamed B.named
  have hlocks : meth.locks = false := B.notSynchronized
  have hPA : KP D cA ad (KA ad M s.heap.size) M s.heap := hP.weaken fun i hi _ => Or.inl ⟨i, hi, rfl⟩
  have hVS : va_S (KA ad M s.heap.size) s.heap s.heap [] := va_S.rf
  have hl := kentry_has (ad := ad) hfit
  rw [lg_entry_eq]
  generalize ((lg_sl (av.map (kv ad)) ++ List.replicate (m.2.2.1 - (lg_sl (av.map (kv ad))).length) Slot.unset).toArray) = lsA at hl ⊢
  have htsG : ∀ w ∈ kGW, w.before (av.map (kv ad)).toArray s = true := fun w hw => hts w (List.mem_cons_of_mem _ hw)
  have hX := body (p, l, e, kroom m mc ms, s, mid, (av.map (kv ad)).toArray, below, meth, c, KA ad M s.heap.size, D, cA, ad, M.1, vx_MQ below (KPost D cA ad s.heap.size M Q) (KXC D cA ad s.heap.size M T) (av.map (kv ad)).toArray s mc ms (KA ad M s.heap.size))
    ⟨hx, hb, hml, by rw [ho]; exact hown, htsG, hK, hN, fun q hq => Or.inr hq, (fun h => by cases h), trivial, hlocks, rfl⟩ ⟨hst, hThr⟩ ?_ rfl ?_ ?_
  · exact hX ad s.heap [] lsA hPA hVS (by rw [hml]; exact hl) ⟨rfl, fun i hi => ⟨hi, rfl⟩⟩
  · intro v M' cs sl hE ad' H locs lsB pc hP' hVS' hZ hd
    obtain ⟨hQ, hrt, hcs, hsl⟩ := hE
    refine W.widen hcs hsl (vx_ret ?_)
    have hpost : ∀ t : State, t.heap = H → s.WarmedH t.vm → KPost D cA ad s.heap.size M Q (av.map (kv ad)).toArray s (.returned (v.map (kv ad'))) t := fun t ht hW => ⟨⟨v, ad', M', rfl, hQ, by rw [ht]; exact hP', hZ⟩, hVS'.F ht⟩
    cases v with
    | none =>
      cases hret : m.2.2.2.1 with
      | none => exact W.vret hx hb (hr.trans hret) hpost hVS'.2.2 hd
      | some ty => rw [hret] at hrt; cases ty <;> exact hrt.elim
    | some x =>
      rcases x with x | x | x | x
      · cases hret : m.2.2.2.1 with
        | none => rw [hret] at hrt; exact hrt.elim
        | some ty =>
          rw [hret] at hrt
          cases ty
          case int => exact W.iret (v := x) hx hb (hr.trans hret) hpost hVS'.2.2 hd
          case boolean =>
            refine W.zret (v := x) hx hb (hr.trans hret) ?_ hpost hVS'.2.2 hd
            rcases hrt with rfl | rfl <;> rfl
          all_goals exact hrt.elim
      · cases hret : m.2.2.2.1 with
        | none => rw [hret] at hrt; exact hrt.elim
        | some ty =>
          rw [hret] at hrt
          cases ty
          case long => exact W.lret (v := x) hx hb (hr.trans hret) hpost hVS'.2.2 hd
          all_goals exact hrt.elim
      · cases hret : m.2.2.2.1 with
        | none => rw [hret] at hrt; exact hrt.elim
        | some ty =>
          rw [hret] at hrt
          cases ty
          case double => exact W.dret (v := x) hx hb (hr.trans hret) hpost hVS'.2.2 hd
          all_goals exact hrt.elim
      · exact hd.elim
  · intro pc E M' cs sl hT hcs hsl ad' H locs lsB q ce rest hP' hVS' hZ _ _ hq hcv hcl
    exact vx_out (E := E) (ce := ce) (fun x hx9 => (hnoex x hx9).elim) hlocks hq hcv hcl (fun t ht _ => ⟨⟨ad', M', hT, by rw [ht]; exact hP', hZ⟩, hVS'.F ht⟩) hVS'.2.2 hcs hsl
  · intro pc E ls st M' cs sl hta hT hfr hlo hcs hsl ad' H locs lsB hP' hVS' hl' hZ
    obtain ⟨⟨ik, is, ic, tx⟩, hq, hcl5, d0, d3, d4, d6, d9⟩ := hta
    have hok := kthrOK_all hq
    simp only [kthrOK, Bool.and_eq_true, decide_eq_true_eq, List.all_eq_true] at hok
    obtain ⟨⟨a1, a2⟩, ⟨a3, a4⟩, a5, a6, a7, a8, a9⟩ := hok
    obtain ⟨-, t1, t2, t3, t4, t5, t6⟩ := hThr
    have hstr : ∃ a, vk_R RX5 is tx a s := by
      unfold kEnames at hq
      split at hq
      · cases hq; exact t5
      · split at hq
        · cases hq; exact t6
        · split at hq
          · cases hq; exact t4
          · cases hq
    obtain ⟨sa, hsa⟩ := hstr
    have hat : ∀ w ∈ vx_atS RX5 ic E kNames, w.before (av.map (kv ad)).toArray s = true := by
      refine vx_hat (B := kthrW) (fun w hw => ?_) (fun w hw => a6 w hw) (fun w hw => ?_)
      · obtain ⟨h1, h2⟩ := a5 w hw
        exact htsG w (kGW_in h1 h2)
      · have hon := List.all_eq_true.mp kthrW_ok w hw
        simp only [Bool.and_eq_true, decide_eq_true_eq] at hon
        exact va_Nw.use hon.2.1 (t3 w hw)
    have hgrow : H.size ≤ H.size := Nat.le_refl _
    refine vx_throwS (names := kNames) (cls := E) (text := tx) (ik := ik) (is := is) (ic := ic) (sa := sa) hx hb hst (by rw [← hcl5]; exact hown) a8 (fun n hn => a9 n hn) (htsG _ (kGW_in a1 a2)) (htsG _ (kGW_in a3 a4)) hsa hat (fun w hw => a7 w hw) t1 t2 hVS' (by rw [hml]; rw [hml] at hl'; exact hl'.1.1) d0 d3 d4 d6 d9 (fun x hx9 => (hnoex x hx9).elim) ?_ ?_ ?_ ?_ hlocks ?_ hVS'.2.2 hcs hsl
    · show 2 + 3 < m.2.2.2.2.1
      omega
    · rw [kcats_sum]
      show kcats st + (13 * (2 + 1) + 43) ≤ m.2.2.2.2.2
      omega
    · exact hcs
    · exact hsl
    · intro t hW9 hz hsame
      refine ⟨⟨ad', M', hT, ?_, hZ⟩, ?_, ?_⟩
      · obtain ⟨Ls, g1, g2, g3, g4⟩ := hP'
        refine ⟨Ls, g1, g2, g3.kept (fun k q9 hk9 => hsame _ ((g3 k q9 hk9).lt)), g4⟩
      · exact Nat.le_trans hVS'.1 hz
      · intro q9 h1 h2
        rw [hsame q9 (Nat.lt_of_lt_of_le h1 hVS'.1)]
        exact hVS'.2.1 q9 h1 h2
/-- behind a call that may have thrown -/
theorem kAfterX {p : Program} {l : Launch} {e : Env} {R : Room} {s : State} {mid : MethodId} {args : Array Value} {below : List Frame} {meth : Method} {c : Code} {A : Nat → Prop} {D : va_G} {cA : Nat → ClassId} {ad0 : KI → Nat} {L0 : KI → Prop} {Q : State → Prop} {ad : KI → Nat} {H : Heap} {locs : List Loc} {lsA : Array Slot} {pc cs sl mc2 ms2 : Nat} {ls : KL} {st : List KV} {M : KM} {Q2 : Option KV → KM → Prop} {T2 : String → KM → Prop} {a : Array Value} {st0 : List Value}
    (hA : ∀ q, s.heap.size ≤ q → A q) (hP : KP D cA ad A M H) (hVS : va_S A s.heap H locs) (hl : kls ad c.maxLocals lsA ls) (hZ : KZ ad0 L0 M ad) (hLV : kLV M ls st)
    (hr : vx_Run p l e R s mid args below meth c H locs cs sl mc2 ms2 (F0 mid pc lsA st0) (st.map (kv ad)) (KPost D cA ad H.size M Q2 a) (KXC D cA ad H.size M T2) (KA ad M H.size))
    (hk : ∀ (v : Option KV) (M' : KM), Q2 v M' → KW (p, l, e, R, s, mid, args, below, meth, c, A, D, cA, ad0, L0, Q) (pc + 3) ls (v.toList ++ st) M' (cs + mc2) (sl + ms2))
    (hkx : ∀ (E : String) (M' : KM), T2 E M' → KThw (p, l, e, R, s, mid, args, below, meth, c, A, D, cA, ad0, L0, Q) pc E M' (cs + mc2) (sl + ms2)) : W p l e R s mid args below meth c H locs cs sl Q (F0 mid pc lsA st0) := by
  have hAA : ∀ q, KA ad M H.size q → A q := by
    intro q hq
    rcases hq with ⟨i, hi, rfl⟩ | hq
    · exact (hP.inA hi).1
    · exact hA q (Nat.le_trans hVS.1 hq)
  intro T hT X
  rcases hr T hT X with ⟨v0, st₀, t, T', L, h0, X', hL, e1, e2, ⟨⟨v, ad', M', hv, hq, hP', hZ'⟩, hz, hkk⟩, stp⟩ | ⟨q9, st₀, t, T', L, E, ce, h0, X', hL, e1, e2, ⟨⟨ad', M', hq, hP', hZ'⟩, hz, hkk⟩, hce, hcv, hcl, stp⟩
  · have hv : v0 = v.map (kv ad') := by cases hv; rfl
    rw [h0] at hz hkk
    have hVS2 : va_S A s.heap T'.heap (locs ++ L) := ⟨Nat.le_trans hVS.1 (by rw [e1]; exact hz), fun q h1 h2 => by rw [e1, hkk q (Nat.lt_of_lt_of_le h1 hVS.1) (fun z => h2 (hAA q z))]; exact hVS.2.1 q h1 h2, fun q hq => by
        rcases List.mem_append.mp hq with h | h
        · exact hVS.2.2 q h
        · exact hAA _ (hL q h)⟩
    have hP2 : KP D cA ad' A M' T'.heap := by rw [e1]; exact hP'.weaken fun i hi h => hAA _ h
    have hZ2 : KZ ad0 L0 M' ad' := ⟨hZ'.1.trans hZ.1, fun i hi => ⟨(hZ'.2 i (hZ.2 i hi).1).1, (hZ'.2 i (hZ.2 i hi).1).2.trans (hZ.2 i hi).2⟩⟩
    have hsame : ∀ r : KI, (M.1 r ∨ r = (13, 0, 0)) → ad' r = ad r := by
      intro r hr
      rcases hr with hr | rfl
      · exact (hZ'.2 r hr).2
      · exact hZ'.1
    have hl2 : kls ad' c.maxLocals lsA ls := hl.same fun i r hr => hsame r (hLV.1 i r hr)
    have hst2 : (v.toList ++ st).map (kv ad') = v0.toList ++ st.map (kv ad) := by
      rw [List.map_append, kst_same (ad := ad) (fun r hr => hsame r (hLV.2 r hr)), hv]
      cases v <;> rfl
    have hW := hk v M' hq ad' T'.heap (locs ++ L) lsA hP2 hVS2 hl2 hZ2
    rw [hst2] at hW
    obtain ⟨t2, a1, b1⟩ := hW T' rfl X'
    exact ⟨t2, stp t2 a1, b1⟩
  · rw [h0] at hz hkk
    have hVS2 : va_S A s.heap T'.heap (locs ++ L) := ⟨Nat.le_trans hVS.1 (by rw [e1]; exact hz), fun q h1 h2 => by rw [e1, hkk q (Nat.lt_of_lt_of_le h1 hVS.1) (fun z => h2 (hAA q z))]; exact hVS.2.1 q h1 h2, fun q hq => by
        rcases List.mem_append.mp hq with h | h
        · exact hVS.2.2 q h
        · exact hAA _ (hL q h)⟩
    have hP2 : KP D cA ad' A M' T'.heap := by rw [e1]; exact hP'.weaken fun i hi h => hAA _ h
    have hZ2 : KZ ad0 L0 M' ad' := ⟨hZ'.1.trans hZ.1, fun i hi => ⟨(hZ'.2 i (hZ.2 i hi).1).1, (hZ'.2 i (hZ.2 i hi).1).2.trans (hZ.2 i hi).2⟩⟩
    obtain ⟨t2, a1, b1⟩ := hkx E M' hq ad' T'.heap (locs ++ L) lsA q9 ce (st.map (kv ad)) hP2 hVS2 hZ2 hl.1.1 ⟨hl.1.1, hl.1.2.1, fun q hq => by cases hq⟩ (by rw [e1]; exact hce) hcv hcl T' rfl X'
    exact ⟨t2, stp.trans a1, b1⟩
section KCX
variable {X : KX} {m m2 : KMeth} {own : Nat} {ini : Bool} {S : KS} {mc ms mc2 ms2 pc idx n : Nat} {ls : KL} {stk st av : List KV} {M : KM} {cs sl : Nat} {Q2 : Option KV → KM → Prop} {T2 : String → KM → Prop}
theorem KW_callVX (hC : KC X m own ini S mc ms) (hCX : KCX X) (hd : decode m.2.1 pc = .ok (.invokevirtual idx, 3)) (hlk : klk 0 own idx m2 n = true) (hR : m2.2.2.2.2.1 + 1 ≤ m.2.2.2.2.1 ∧ 8 + (m2.2.2.1 + 11) + m2.2.2.2.2.2 ≤ m.2.2.2.2.2) {i : KI} {As : List KV} (hs : SpX m2 mc2 ms2 (kR (some i) :: As) M Q2 T2)
    (hn : As.length = n) (hst : stk = As.reverse ++ kR (some i) :: st) (hi8 : i.1 < 8) (hic : kRn i.1 = m2.1.cls) (hM : M.1 i) (h1 : kOkL M ls) (h2 : kOkS M st) (hcat : kcats st ≤ 8) (hcs : cs + mc2 ≤ mc) (hsl : sl + ms2 ≤ ms)
    (hk : ∀ (v : Option KV) (M' : KM), Q2 v M' → KW X (pc + 3) ls (v.toList ++ st) M' (cs + mc2) (sl + ms2)) (hkx : ∀ (E : String) (M' : KM), T2 E M' → KThw X pc E M' (cs + mc2) (sl + ms2)) : KW X pc ls stk M cs sl := by
  subst hst
  obtain ⟨p, l, e, R, s, mid, args, below, meth, c, A, D, cA, ad0, L0, Q⟩ := X
  obtain ⟨hx, hb, hml, hown, hts, hK, hN, hA, hin, hS, hlk9, rfl⟩ := hC
  obtain ⟨hst, hThr⟩ := hCX
  intro ad H locs lsA hP hVS hl hbad
  simp only [klk, if_true, Bool.and_eq_true, decide_eq_true_eq, Nat.reduceEqDiff, if_false, or_self] at hlk
  obtain ⟨⟨a1, a2⟩, a3, a4, ⟨a5, a6⟩, ⟨a7, a8⟩, -, ⟨a9, a10⟩, ⟨a11, a12⟩, a13⟩ := hlk
  have hcode := kGW_in a9 a10
  have hgood : GoodIn kGW (wsV (kown own) idx m2.1.cls m2.1 (kwsM m2)) := kGood_ws hcode (pre := [.methodLink (kown own) idx m2.1, .instanceMethod m2.1, .selects m2.1.cls m2.1 m2.1, .initialized m2.1.cls]) (by
    intro w hw
    simp only [List.mem_cons, List.not_mem_nil, or_false] at hw
    rcases hw with rfl | rfl | rfl | rfl
    · exact kGW_in a1 a2
    · exact kGW_in a7 a8
    · exact kGW_in a5 a6
    · exact kGW_in a3 a4)
  obtain ⟨ws, k, hk0, hP1, hD1⟩ := hP.get hM
  rw [kobj_c hi8] at hk0
  have hrecv := va_recv hK hP1 (kCl _ hi8) hk0
  simp only [hic] at hrecv
  have hAA : ∀ q, KA ad M H.size q → A q := by
    intro q hq
    rcases hq with ⟨i, hi, rfl⟩ | hq
    · exact (hP.inA hi).1
    · exact hA q (Nat.le_trans hVS.1 hq)
  have cw : CallW (kroom m mc ms) s args (kown own) m2.1.cls idx m2.1 m2.2.1 m2.2.2.1 m2.2.2.2.1 (kwsM m2) (kroom m2 mc2 ms2) mc2 ms2 n := cwV n hts hgood rfl rfl rfl ⟨rfl, a11, a12, a13⟩ hR
  have hrun := vx_runV (p := p) (l := l) (e := e) (R := kroom m mc ms) (s := s) (m := mid) (args := args) (below := below) (meth := meth) (c := c) (H := H) (locs := locs) (cells := cs) (slots := sl) (As := As.map (kv ad)) (rest := st.map (kv ad)) (g := F0 mid pc lsA ((As.reverse ++ kR (some i) :: st).map (kv ad))) (b := ad i) ⟨hx, hb, hml, hown, hts⟩ (hs l hst D cA ad H.size) cw
    ⟨KPre.blind KThr.blind, hrecv, fun U hU hW => ⟨rfl, by rw [hU], by rw [hU]; exact hP.full, va_K.moved hW.alike hK, hN.warm hW, hThr.carry hVS hU hW hAA⟩⟩ rfl (by simpa using hn) (by rw [← hml]; exact hl.1.1) (by simp [kv, va_rf]) (by
      rw [kcats_sum]
      show 2 * 0 + kcats st ≤ 8
      omega) hd ⟨hcs, hsl⟩
  exact kAfterX hA hP hVS hl hbad (kLV_of h1 h2) hrun hk hkx
theorem KW_callSX (hC : KC X m own ini S mc ms) (hCX : KCX X) (hd : decode m.2.1 pc = .ok (.invokestatic idx, 3)) (hlk : klk 1 own idx m2 n = true) (hR : m2.2.2.2.2.1 + 1 ≤ m.2.2.2.2.1 ∧ 8 + (m2.2.2.1 + 11) + m2.2.2.2.2.2 ≤ m.2.2.2.2.2) (hs : SpX m2 mc2 ms2 av M Q2 T2)
    (hn : av.length = n) (hst : stk = av.reverse ++ st) (h1 : kOkL M ls) (h2 : kOkS M st) (hcat : kcats st ≤ 8) (hcs : cs + mc2 ≤ mc) (hsl : sl + ms2 ≤ ms)
    (hk : ∀ (v : Option KV) (M' : KM), Q2 v M' → KW X (pc + 3) ls (v.toList ++ st) M' (cs + mc2) (sl + ms2)) (hkx : ∀ (E : String) (M' : KM), T2 E M' → KThw X pc E M' (cs + mc2) (sl + ms2)) : KW X pc ls stk M cs sl := by
  subst hst
  obtain ⟨p, l, e, R, s, mid, args, below, meth, c, A, D, cA, ad0, L0, Q⟩ := X
  obtain ⟨hx, hb, hml, hown, hts, hK, hN, hA, hin, hS, hlk9, rfl⟩ := hC
  obtain ⟨hst, hThr⟩ := hCX
  intro ad H locs lsA hP hVS hl hbad
  simp only [klk, if_true, Bool.and_eq_true, decide_eq_true_eq, Nat.reduceEqDiff, if_false, true_or, or_self, Nat.one_ne_zero] at hlk
  obtain ⟨⟨a1, a2⟩, a3, a4, -, ⟨a7, a8⟩, -, ⟨a9, a10⟩, ⟨a11, a12⟩, a13⟩ := hlk
  have hcode := kGW_in a9 a10
  have hgood : GoodIn kGW (va_wsS (kown own) idx m2.1 (kwsM m2)) := kGood_ws hcode (pre := [.methodLink (kown own) idx m2.1, .static m2.1, .initialized m2.1.cls]) (by
    intro w hw
    simp only [List.mem_cons, List.not_mem_nil, or_false] at hw
    rcases hw with rfl | rfl | rfl
    · exact kGW_in a1 a2
    · exact kGW_in a7 a8
    · exact kGW_in a3 a4)
  have hAA : ∀ q, KA ad M H.size q → A q := by
    intro q hq
    rcases hq with ⟨i, hi, rfl⟩ | hq
    · exact (hP.inA hi).1
    · exact hA q (Nat.le_trans hVS.1 hq)
  have cw := va_cwS (R := kroom m mc ms) (s := s) (args := args) (own := kown own) (index := idx) (y := m2.1) (bytes := m2.2.1) (maxL := m2.2.2.1) (ret := m2.2.2.2.1) (ws := kwsM m2) (rm := kroom m2 mc2 ms2) (mc := mc2) (ms := ms2) n hts hgood rfl rfl rfl ⟨a11, a12, a13⟩ hR
  have hrun := vx_runS (p := p) (l := l) (e := e) (R := kroom m mc ms) (s := s) (m := mid) (args := args) (below := below) (meth := meth) (c := c) (H := H) (locs := locs) (cells := cs) (slots := sl) (As := av.map (kv ad)) (rest := st.map (kv ad)) (g := F0 mid pc lsA ((av.reverse ++ st).map (kv ad))) ⟨hx, hb, hml, hown, hts⟩ (hs l hst D cA ad H.size) cw
    ⟨KPre.blind KThr.blind, fun U hU hW => ⟨rfl, by rw [hU], by rw [hU]; exact hP.full, va_K.moved hW.alike hK, hN.warm hW, hThr.carry hVS hU hW hAA⟩⟩ rfl (by simpa using hn) (by rw [← hml]; exact hl.1.1) (by simp) (by
      rw [kcats_sum]
      show 2 * 0 + kcats st ≤ 8
      omega) hd ⟨hcs, hsl⟩
  exact kAfterX hA hP hVS hl hbad (kLV_of h1 h2) hrun hk hkx
end KCX
end
section
/-! The law's helpers: methods that catch what they call. -/
abbrev KHH : Type := List (Nat × Nat × Nat × Nat)
def kwsH (m : KMeth) (hh : KHH) : List Cond := .codeWith m.1 m.2.1 m.2.2.1 m.2.2.2.1 hh :: kGW
def SpW (m : KMeth) (hh : KHH) (mc ms : Nat) (av : List KV) (M : KM) (Q : Option KV → KM → Prop) : Prop :=
  ∀ (l : Launch), l.stackTraces = false → ∀ (D : va_G) (cA : Nat → ClassId) (ad : KI → Nat) (sz : Nat), Met l m.1 (kwsH m hh) (kroom m mc ms) (KPre D cA ad sz M av (KThr (KA ad M sz))) (KPost D cA ad sz M Q) mc ms (KA ad M sz)
/-- the names of the law's catch types -/
def kcn : Nat → Option String
  | 13 => some kIAE
  | 15 => some kISE
  | 31 => some kIOE
  | _ => none
def khfind : KHH → Nat → String → Option Nat
  | [], _, _ => none
  | z :: r, pc, E => if covers ⟨z.1, z.2.1, z.2.2.1, z.2.2.2⟩ pc = true then (if kcn z.2.2.2 = some E then some z.2.2.1 else if (kcn z.2.2.2).isSome = true then khfind r pc E else none) else khfind r pc E
theorem kcn_E3 {k : Nat} {nm : String} (h : kcn k = some nm) : nm ∈ kE3 ∧ k ≠ 0 := by
  unfold kcn at h
  split at h <;> cases h <;> decide
theorem khfind_spec : ∀ (hh : KHH) (pc : Nat) (E : String) (h : Nat), khfind hh pc E = some h → ∃ (pre : KHH) (x : Nat × Nat × Nat × Nat) (suf : KHH), hh = pre ++ x :: suf ∧ (∀ z ∈ pre, covers ⟨z.1, z.2.1, z.2.2.1, z.2.2.2⟩ pc = false ∨ ∃ nm, kcn z.2.2.2 = some nm ∧ nm ≠ E) ∧ covers ⟨x.1, x.2.1, x.2.2.1, x.2.2.2⟩ pc = true ∧ kcn x.2.2.2 = some E ∧ x.2.2.1 = h
  | [], pc, E, h, he => by simp [khfind] at he
  | z :: r, pc, E, h, he => by
    simp only [khfind] at he
    have rest : ∀ (hz : covers ⟨z.1, z.2.1, z.2.2.1, z.2.2.2⟩ pc = false ∨ ∃ nm, kcn z.2.2.2 = some nm ∧ nm ≠ E), khfind r pc E = some h → ∃ (pre : KHH) (x : Nat × Nat × Nat × Nat) (suf : KHH), z :: r = pre ++ x :: suf ∧ (∀ z ∈ pre, covers ⟨z.1, z.2.1, z.2.2.1, z.2.2.2⟩ pc = false ∨ ∃ nm, kcn z.2.2.2 = some nm ∧ nm ≠ E) ∧ covers ⟨x.1, x.2.1, x.2.2.1, x.2.2.2⟩ pc = true ∧ kcn x.2.2.2 = some E ∧ x.2.2.1 = h := by
      intro hz hr
      obtain ⟨pre, x, suf, h1, h2, h3⟩ := khfind_spec r pc E h hr
      refine ⟨z :: pre, x, suf, by rw [h1]; rfl, fun y hy => ?_, h3⟩
      rcases List.mem_cons.mp hy with rfl | hy
      · exact hz
      · exact h2 y hy
    split at he
    · rename_i hc
      split at he
      · rename_i hk
        cases he
        exact ⟨[], z, r, rfl, fun y hy => (by cases hy), hc, hk, rfl⟩
      · rename_i hk
        split at he
        · rename_i hs
          obtain ⟨nm, hnm⟩ := Option.isSome_iff_exists.mp hs
          exact rest (Or.inr ⟨nm, hnm, fun z9 => hk (by rw [hnm, z9])⟩) he
        · cases he
    · rename_i hc
      exact rest (Or.inl (by simpa using hc)) he
def KHT (X : KX) (hh : KHH) : Prop := match X with
  | (_, _, _, _, _, _, _, _, _, c, _, _, _, _, _, _) => c.exceptionTable.toList = tableOf hh
set_option maxRecDepth 100000 in
theorem kcn_ok : ∀ q ∈ [((13 : Nat), kIAE), (15, kISE), (31, kIOE)], Cond.classLink RL q.1 q.2 ∈ kGW ∧ Cond.castable q.2 q.2 ∈ kthrW := by
  intro q hq
  simp only [List.mem_cons, List.not_mem_nil, or_false] at hq
  rcases hq with rfl | rfl | rfl <;> exact ⟨kGW_in (by decide +kernel) (by decide +kernel), by decide +kernel⟩
theorem kcn_link {k : Nat} {nm : String} (h : kcn k = some nm) : Cond.classLink RL k nm ∈ kGW ∧ Cond.castable nm nm ∈ kthrW := by
  unfold kcn at h
  split at h <;> cases h
  · exact kcn_ok (13, kIAE) (by simp)
  · exact kcn_ok (15, kISE) (by simp)
  · exact kcn_ok (31, kIOE) (by simp)
/-- caught at pc: the handler stores the exception and returns the number k -/
theorem KThw_catch {X : KX} {m : KMeth} {E9 : KEnd} {hh : KHH} {mc ms : Nat} {S : KS} (hC : KC X m 8 false S mc ms) (hCX : KCX X) (hE : KRet X m E9) (hT : KHT X hh) {pc h a : Nat} {E : String} {M : KM} {cs sl : Nat} {n : Int} {v : Int32} (hf : khfind hh pc E = some h) (hv : Int32.ofInt n = v)
    (hda : (∃ k : Fin 4, k.val = a ∧ decode m.2.1 h = .ok (.astore_n k, 1) ∧ decode m.2.1 (h + 1) = .ok (.iconst n, 1) ∧ decode m.2.1 (h + 2) = .ok (.ireturn, 1)) ∨ (decode m.2.1 h = .ok (.astore a, 2) ∧ decode m.2.1 (h + 2) = .ok (.iconst n, 1) ∧ decode m.2.1 (h + 3) = .ok (.ireturn, 1))) (hn : a < m.2.2.1) (h9 : E9 (some (kI v)) M cs sl) : KThw X pc E M cs sl := by
  obtain ⟨p, l, e, R, s, mid, args, below, meth, c, A, D, cA, ad0, L0, Q⟩ := X
  obtain ⟨hx, hb, hml, hown, hts, hK, hN, hA, hin, hS, hlk, hR⟩ := hC
  obtain ⟨hst, hThr⟩ := hCX
  obtain ⟨hnc, -, -, hfw, -⟩ := hThr
  obtain ⟨pre, x, suf, hsp, hpass, hcov, hkx, rfl⟩ := khfind_spec hh pc E h hf
  intro ad H locs lsA q ce rest hP hVS hZ hsz hlv hq hcv hcl
  have htab : c.exceptionTable.toList = tableOf pre ++ ⟨x.1, x.2.1, x.2.2.1, x.2.2.2⟩ :: tableOf suf := by
    have h1 : c.exceptionTable.toList = tableOf hh := hT
    rw [h1, hsp]
    simp [tableOf]
  have hE3 := (kcn_E3 hkx).1
  have hon : ∀ w ∈ kthrW, w.onTables = true := fun w hw => by
    have h2 := List.all_eq_true.mp kthrW_ok w hw
    simp only [Bool.and_eq_true, decide_eq_true_eq] at h2
    exact h2.2.1
  refine vx_catch (E := E) (ce := ce) (name := E) (own := RL) hown (tableOf pre) ⟨x.1, x.2.1, x.2.2.1, x.2.2.2⟩ (tableOf suf) htab (fun z hz => ?_) hcov (kcn_E3 hkx).2 (hts _ (kcn_link hkx).1) (va_Nw.use (hon _ (kcn_link hkx).2) (hfw _ (kcn_link hkx).2)) hq hcv hcl ?_
  · obtain ⟨y, hy, rfl⟩ := List.mem_map.mp hz
    rcases hpass y hy with h1 | ⟨nm, h1, h2⟩
    · exact Or.inl h1
    · exact Or.inr ⟨(kcn_E3 h1).2, nm, hts _ (kcn_link h1).1, hnc E hE3 nm (kcn_E3 h1).1 (Ne.symm h2)⟩
  · rw [← hml] at hn
    rcases hda with ⟨k, hk, d1, d2, d3⟩ | ⟨d1, d2, d3⟩
    · refine lv_astore_n hx hb d1 hk hlv hn rfl (fun lsB h2 => ?_)
      refine lv_iconst hx hb d2 hv ?_
      exact hE (some (kI v)) M cs sl h9 ad H locs lsB _ hP hVS hZ d3
    · refine lv_astore hx hb d1 hlv hn rfl (fun lsB h2 => ?_)
      refine lv_iconst hx hb d2 hv ?_
      exact hE (some (kI v)) M cs sl h9 ad H locs lsB _ hP hVS hZ d3
theorem SpW_of {m : KMeth} {hh : KHH} {mc ms : Nat} {av : List KV} {M : KM} {Q : Option KV → KM → Prop} (hp : plainName m.1.cls = true) (ho : RL = m.1.cls) (hret : m.2.2.2.1 = some .int) (hfit : (kent av).length ≤ m.2.2.1)
    (body : ∀ X : KX, KC X m 8 false none mc ms → KCX X → KRet X m (kEq m mc ms Q) → KHT X hh → KL0 X = M.1 → KW X 0 (kpad m.2.2.1 (kent av)) [] M 0 0) : SpW m hh mc ms av M Q := by
  intro l hst D cA ad sz
  refine va_MetW (cc := m.2.1) (maxL := m.2.2.1) (ret := m.2.2.2.1) (hh := hh) hp rfl ?_
  intro p e s mid args below meth c s₁ B hml hv
  obtain ⟨rfl, hsz, hP, hK, hN, hThr⟩ := hv
  subst hsz
  have hx := B.exec
  have hb := B.bytes
  have hr := B.returns
  have hts := atoms_spec (ws := kwsH m hh) B.pre
  have hown : s.vm.findClass m.1.cls = some mid.cls := findClass_of_methodNamed B.named
  have hlocks : meth.locks = false := B.notSynchronized
  have hPA : KP D cA ad (KA ad M s.heap.size) M s.heap := hP.weaken fun i hi _ => Or.inl ⟨i, hi, rfl⟩
  have hVS : va_S (KA ad M s.heap.size) s.heap s.heap [] := va_S.rf
  have hl := kentry_has (ad := ad) hfit
  have htab := vx_table (x := m.1) B (hts _ List.mem_cons_self)
  rw [lg_entry_eq]
  generalize ((lg_sl (av.map (kv ad)) ++ List.replicate (m.2.2.1 - (lg_sl (av.map (kv ad))).length) Slot.unset).toArray) = lsA at hl ⊢
  have hX := body (p, l, e, kroom m mc ms, s, mid, (av.map (kv ad)).toArray, below, meth, c, KA ad M s.heap.size, D, cA, ad, M.1, MQ below (KPost D cA ad s.heap.size M Q) (av.map (kv ad)).toArray s mc ms (KA ad M s.heap.size))
    ⟨hx, hb, hml, by rw [← ho] at hown; exact hown, fun w hw => hts w (List.mem_cons_of_mem _ hw), hK, hN, fun q hq => Or.inr hq, (fun h => by cases h), trivial, hlocks, rfl⟩ ⟨hst, hThr⟩ ?_ htab rfl
  · exact hX ad s.heap [] lsA hPA hVS (by rw [hml]; exact hl) ⟨rfl, fun i hi => ⟨hi, rfl⟩⟩
  · intro v M' cs sl hE ad' H locs lsB pc hP' hVS' hZ hd
    obtain ⟨hQ, hrt, hcs, hsl⟩ := hE
    refine W.widen hcs hsl ?_
    have hpost : ∀ t : State, t.heap = H → s.WarmedH t.vm → KPost D cA ad s.heap.size M Q (av.map (kv ad)).toArray s (.returned (v.map (kv ad'))) t := fun t ht hW => ⟨⟨v, ad', M', rfl, hQ, by rw [ht]; exact hP', hZ⟩, hVS'.F ht⟩
    rw [hret] at hrt
    cases v with
    | none => exact hrt.elim
    | some x =>
      rcases x with x | x | x | x
      · exact W.iret (v := x) hx hb (hr.trans hret) hpost hVS'.2.2 hd
      all_goals exact hrt.elim
section KCW
variable {X : KX} {m m2 : KMeth} {hh : KHH} {own : Nat} {ini : Bool} {S : KS} {mc ms mc2 ms2 pc idx n : Nat} {ls : KL} {stk st av : List KV} {M : KM} {cs sl : Nat} {Q2 : Option KV → KM → Prop}
theorem k4n : ((4 : Nat) = 3) = False ∧ ((4 : Nat) = 0) = False ∧ ((4 : Nat) = 1) = False ∧ ((4 : Nat) = 2) = False := by decide
theorem KW_callSW (hC : KC X m own ini S mc ms) (hCX : KCX X) (hd : decode m.2.1 pc = .ok (.invokestatic idx, 3)) (hlk : klk 4 own idx m2 n = true) (hcw : Cond.codeWith m2.1 m2.2.1 m2.2.2.1 m2.2.2.2.1 hh ∈ kGW) (hR : m2.2.2.2.2.1 + 1 ≤ m.2.2.2.2.1 ∧ 8 + (m2.2.2.1 + 11) + m2.2.2.2.2.2 ≤ m.2.2.2.2.2) (hs : SpW m2 hh mc2 ms2 av M Q2)
    (hn : av.length = n) (hst : stk = av.reverse ++ st) (h1 : kOkL M ls) (h2 : kOkS M st) (hcat : kcats st ≤ 8) (hcs : cs + mc2 ≤ mc) (hsl : sl + ms2 ≤ ms)
    (hk : ∀ (v : Option KV) (M' : KM), Q2 v M' → KW X (pc + 3) ls (v.toList ++ st) M' (cs + mc2) (sl + ms2)) : KW X pc ls stk M cs sl := by
  subst hst
  obtain ⟨p, l, e, R, s, mid, args, below, meth, c, A, D, cA, ad0, L0, Q⟩ := X
  obtain ⟨hx, hb, hml, hown, hts, hK, hN, hA, hin, hS, hlk9, rfl⟩ := hC
  obtain ⟨hst, hThr⟩ := hCX
  intro ad H locs lsA hP hVS hl hbad
  simp only [klk, if_true, Bool.and_eq_true, decide_eq_true_eq, k4n.1, k4n.2.1, k4n.2.2.1, k4n.2.2.2, if_false, or_true, or_self] at hlk
  obtain ⟨⟨a1, a2⟩, a3, a4, -, ⟨a7, a8⟩, -, -, ⟨a11, a12⟩, a13⟩ := hlk
  have hgood : GoodIn kGW (va_wsS (kown own) idx m2.1 (kwsH m2 hh)) := kGW_good (by
    intro w hw
    rcases List.mem_append.mp hw with h | h
    · simp only [List.mem_cons, List.not_mem_nil, or_false] at h
      rcases h with rfl | rfl | rfl
      · exact kGW_in a1 a2
      · exact kGW_in a7 a8
      · exact kGW_in a3 a4
    · rcases List.mem_cons.mp h with rfl | h
      · exact hcw
      · exact h)
  have hAA : ∀ q, KA ad M H.size q → A q := by
    intro q hq
    rcases hq with ⟨i, hi, rfl⟩ | hq
    · exact (hP.inA hi).1
    · exact hA q (Nat.le_trans hVS.1 hq)
  have cw := vx_cwSW (R := kroom m mc ms) (s := s) (args := args) (own := kown own) (index := idx) (y := m2.1) (bytes := m2.2.1) (maxL := m2.2.2.1) (ret := m2.2.2.2.1) (hh := hh) (ws := kwsH m2 hh) (rm := kroom m2 mc2 ms2) (mc := mc2) (ms := ms2) n hts hgood rfl rfl rfl ⟨a11, a12, a13⟩ hR
  have hrun := vx_runSW (p := p) (l := l) (e := e) (R := kroom m mc ms) (s := s) (m := mid) (args := args) (below := below) (meth := meth) (c := c) (H := H) (locs := locs) (cells := cs) (slots := sl) (As := av.map (kv ad)) (rest := st.map (kv ad)) (g := F0 mid pc lsA ((av.reverse ++ st).map (kv ad))) ⟨hx, hb, hml, hown, hts⟩ (hs l hst D cA ad H.size) cw
    ⟨KPre.blind KThr.blind, fun U hU hW => ⟨rfl, by rw [hU], by rw [hU]; exact hP.full, va_K.moved hW.alike hK, hN.warm hW, hThr.carry hVS hU hW hAA⟩⟩ rfl (by simpa using hn) (by rw [← hml]; exact hl.1.1) (by simp) (by
      rw [kcats_sum]
      show 2 * 0 + kcats st ≤ 8
      omega) hd ⟨hcs, hsl⟩
  exact kAfter hA hP hVS hl hbad (kLV_of h1 h2) hrun hk
end KCW
end
section
/-! CODE: the methods' instructions in straight runs, by our own program; each checked against the bytes -/
def kbJ9_floorMod_7cf53_0 : List KE := [(.iload_n 0, 1, (0, 0, 0), 0, 0), (.iload_n 1, 1, (1, 0, 0), 0, 0), (.irem, 1, (0, 0, 0), 0, 0), (.istore_n 2, 1, (2, 0, 0), 0, 0), (.iload_n 0, 1, (0, 0, 0), 0, 0), (.iload_n 1, 1, (1, 0, 0), 0, 0), (.ixor, 1, (0, 0, 0), 0, 0), (.ifCond .ge (11), 3, (18, 0, 0), 0, 0)]
theorem kwJ9_floorMod_7cf53_0 {X : KX} {S : KS} {mc ms : Nat} {E : KEnd} {ls : KL} {st : List KV} {M : KM} {cs sl : Nat} (hC : KC X mJ9_floorMod_7cf53 9 false S mc ms) (hE : KRet X mJ9_floorMod_7cf53 E) (h : kblk (kroom mJ9_floorMod_7cf53 mc ms) S E (KW X) kbJ9_floorMod_7cf53_0 0 ls st M cs sl) : KW X 0 ls st M cs sl := KW_blk hC hE kbJ9_floorMod_7cf53_0 0 ls st M cs sl (by decide +kernel) h
def kbJ9_floorMod_7cf53_10 : List KE := [(.iload_n 2, 1, (2, 0, 0), 0, 0), (.ifCond .eq (7), 3, (18, 0, 0), 0, 0)]
theorem kwJ9_floorMod_7cf53_10 {X : KX} {S : KS} {mc ms : Nat} {E : KEnd} {ls : KL} {st : List KV} {M : KM} {cs sl : Nat} (hC : KC X mJ9_floorMod_7cf53 9 false S mc ms) (hE : KRet X mJ9_floorMod_7cf53 E) (h : kblk (kroom mJ9_floorMod_7cf53 mc ms) S E (KW X) kbJ9_floorMod_7cf53_10 10 ls st M cs sl) : KW X 10 ls st M cs sl := KW_blk hC hE kbJ9_floorMod_7cf53_10 10 ls st M cs sl (by decide +kernel) h
def kbJ9_floorMod_7cf53_14 : List KE := [(.iload_n 2, 1, (2, 0, 0), 0, 0), (.iload_n 1, 1, (1, 0, 0), 0, 0), (.iadd, 1, (0, 0, 0), 0, 0), (.ireturn, 1, (0, 0, 0), 0, 0)]
theorem kwJ9_floorMod_7cf53_14 {X : KX} {S : KS} {mc ms : Nat} {E : KEnd} {ls : KL} {st : List KV} {M : KM} {cs sl : Nat} (hC : KC X mJ9_floorMod_7cf53 9 false S mc ms) (hE : KRet X mJ9_floorMod_7cf53 E) (h : kblk (kroom mJ9_floorMod_7cf53 mc ms) S E (KW X) kbJ9_floorMod_7cf53_14 14 ls st M cs sl) : KW X 14 ls st M cs sl := KW_blk hC hE kbJ9_floorMod_7cf53_14 14 ls st M cs sl (by decide +kernel) h
def kbJ9_floorMod_7cf53_18 : List KE := [(.iload_n 2, 1, (2, 0, 0), 0, 0), (.ireturn, 1, (0, 0, 0), 0, 0)]
theorem kwJ9_floorMod_7cf53_18 {X : KX} {S : KS} {mc ms : Nat} {E : KEnd} {ls : KL} {st : List KV} {M : KM} {cs sl : Nat} (hC : KC X mJ9_floorMod_7cf53 9 false S mc ms) (hE : KRet X mJ9_floorMod_7cf53 E) (h : kblk (kroom mJ9_floorMod_7cf53 mc ms) S E (KW X) kbJ9_floorMod_7cf53_18 18 ls st M cs sl) : KW X 18 ls st M cs sl := KW_blk hC hE kbJ9_floorMod_7cf53_18 18 ls st M cs sl (by decide +kernel) h
def kbL_addChair_0 : List KE := [(.aload_n 2, 1, (2, 0, 0), 0, 0), (.iconst 0, 1, (0, 0, 0), 0, 0), (.aload_n 0, 1, (0, 0, 0), 0, 0), (.iload_n 1, 1, (1, 0, 0), 0, 0)]
theorem kwL_addChair_0 {X : KX} {S : KS} {mc ms : Nat} {E : KEnd} {ls : KL} {st : List KV} {M : KM} {cs sl : Nat} (hC : KC X mL_addChair 8 false S mc ms) (hE : KRet X mL_addChair E) (h : kblk (kroom mL_addChair mc ms) S E (KW X) kbL_addChair_0 0 ls st M cs sl) : KW X 0 ls st M cs sl := KW_blk hC hE kbL_addChair_0 0 ls st M cs sl (by decide +kernel) h
def kbL_addChair_7 : List KE := [(.i2l, 1, (0, 0, 0), 0, 0), (.lastore, 1, (0, 0, 0), 0, 0), (.goto (9), 3, (18, 0, 0), 0, 0)]
theorem kwL_addChair_7 {X : KX} {S : KS} {mc ms : Nat} {E : KEnd} {ls : KL} {st : List KV} {M : KM} {cs sl : Nat} (hC : KC X mL_addChair 8 false S mc ms) (hE : KRet X mL_addChair E) (h : kblk (kroom mL_addChair mc ms) S E (KW X) kbL_addChair_7 7 ls st M cs sl) : KW X 7 ls st M cs sl := KW_blk hC hE kbL_addChair_7 7 ls st M cs sl (by decide +kernel) h
def khL_addChair : KHH := [(0, 9, 12, 13), (0, 9, 15, 15)]
def kbL_addLane_0 : List KE := [(.aload_n 1, 1, (1, 0, 0), 0, 0), (.iconst 0, 1, (0, 0, 0), 0, 0), (.aload_n 0, 1, (0, 0, 0), 0, 0)]
theorem kwL_addLane_0 {X : KX} {S : KS} {mc ms : Nat} {E : KEnd} {ls : KL} {st : List KV} {M : KM} {cs sl : Nat} (hC : KC X mL_addLane 8 false S mc ms) (hE : KRet X mL_addLane E) (h : kblk (kroom mL_addLane mc ms) S E (KW X) kbL_addLane_0 0 ls st M cs sl) : KW X 0 ls st M cs sl := KW_blk hC hE kbL_addLane_0 0 ls st M cs sl (by decide +kernel) h
def kbL_addLane_6 : List KE := [(.i2l, 1, (0, 0, 0), 0, 0), (.lastore, 1, (0, 0, 0), 0, 0), (.goto (6), 3, (14, 0, 0), 0, 0)]
theorem kwL_addLane_6 {X : KX} {S : KS} {mc ms : Nat} {E : KEnd} {ls : KL} {st : List KV} {M : KM} {cs sl : Nat} (hC : KC X mL_addLane 8 false S mc ms) (hE : KRet X mL_addLane E) (h : kblk (kroom mL_addLane mc ms) S E (KW X) kbL_addLane_6 6 ls st M cs sl) : KW X 6 ls st M cs sl := KW_blk hC hE kbL_addLane_6 6 ls st M cs sl (by decide +kernel) h
def khL_addLane : KHH := [(0, 8, 11, 15)]
def kbL_advise_0 : List KE := [(.aload_n 2, 1, (2, 0, 0), 0, 0), (.iconst 0, 1, (0, 0, 0), 0, 0), (.aload_n 0, 1, (0, 0, 0), 0, 0), (.iload_n 1, 1, (1, 0, 0), 0, 0)]
theorem kwL_advise_0 {X : KX} {S : KS} {mc ms : Nat} {E : KEnd} {ls : KL} {st : List KV} {M : KM} {cs sl : Nat} (hC : KC X mL_advise 8 false S mc ms) (hE : KRet X mL_advise E) (h : kblk (kroom mL_advise mc ms) S E (KW X) kbL_advise_0 0 ls st M cs sl) : KW X 0 ls st M cs sl := KW_blk hC hE kbL_advise_0 0 ls st M cs sl (by decide +kernel) h
def kbL_advise_7 : List KE := [(.i2l, 1, (0, 0, 0), 0, 0), (.lastore, 1, (0, 0, 0), 0, 0), (.goto (6), 3, (15, 0, 0), 0, 0)]
theorem kwL_advise_7 {X : KX} {S : KS} {mc ms : Nat} {E : KEnd} {ls : KL} {st : List KV} {M : KM} {cs sl : Nat} (hC : KC X mL_advise 8 false S mc ms) (hE : KRet X mL_advise E) (h : kblk (kroom mL_advise mc ms) S E (KW X) kbL_advise_7 7 ls st M cs sl) : KW X 7 ls st M cs sl := KW_blk hC hE kbL_advise_7 7 ls st M cs sl (by decide +kernel) h
def khL_advise : KHH := [(0, 9, 12, 13)]
def kbL_chair_0 : List KE := [(.aload_n 3, 1, (3, 0, 0), 0, 0), (.iconst 0, 1, (0, 0, 0), 0, 0), (.aload_n 0, 1, (0, 0, 0), 0, 0), (.iload_n 1, 1, (1, 0, 0), 0, 0), (.iload_n 2, 1, (2, 0, 0), 0, 0)]
theorem kwL_chair_0 {X : KX} {S : KS} {mc ms : Nat} {E : KEnd} {ls : KL} {st : List KV} {M : KM} {cs sl : Nat} (hC : KC X mL_chair 8 false S mc ms) (hE : KRet X mL_chair E) (h : kblk (kroom mL_chair mc ms) S E (KW X) kbL_chair_0 0 ls st M cs sl) : KW X 0 ls st M cs sl := KW_blk hC hE kbL_chair_0 0 ls st M cs sl (by decide +kernel) h
def kbL_chair_8 : List KE := [(.i2l, 1, (0, 0, 0), 0, 0), (.lastore, 1, (0, 0, 0), 0, 0), (.goto (7), 3, (17, 0, 0), 0, 0)]
theorem kwL_chair_8 {X : KX} {S : KS} {mc ms : Nat} {E : KEnd} {ls : KL} {st : List KV} {M : KM} {cs sl : Nat} (hC : KC X mL_chair 8 false S mc ms) (hE : KRet X mL_chair E) (h : kblk (kroom mL_chair mc ms) S E (KW X) kbL_chair_8 8 ls st M cs sl) : KW X 8 ls st M cs sl := KW_blk hC hE kbL_chair_8 8 ls st M cs sl (by decide +kernel) h
def khL_chair : KHH := [(0, 10, 13, 31)]
def kbL_change_0 : List KE := [(.aload_n 3, 1, (3, 0, 0), 0, 0), (.iconst 0, 1, (0, 0, 0), 0, 0), (.aload_n 0, 1, (0, 0, 0), 0, 0), (.iload_n 1, 1, (1, 0, 0), 0, 0), (.iload_n 2, 1, (2, 0, 0), 0, 0)]
theorem kwL_change_0 {X : KX} {S : KS} {mc ms : Nat} {E : KEnd} {ls : KL} {st : List KV} {M : KM} {cs sl : Nat} (hC : KC X mL_change 8 false S mc ms) (hE : KRet X mL_change E) (h : kblk (kroom mL_change mc ms) S E (KW X) kbL_change_0 0 ls st M cs sl) : KW X 0 ls st M cs sl := KW_blk hC hE kbL_change_0 0 ls st M cs sl (by decide +kernel) h
def kbL_change_8 : List KE := [(.i2l, 1, (0, 0, 0), 0, 0), (.lastore, 1, (0, 0, 0), 0, 0), (.goto (11), 3, (21, 0, 0), 0, 0)]
theorem kwL_change_8 {X : KX} {S : KS} {mc ms : Nat} {E : KEnd} {ls : KL} {st : List KV} {M : KM} {cs sl : Nat} (hC : KC X mL_change 8 false S mc ms) (hE : KRet X mL_change E) (h : kblk (kroom mL_change mc ms) S E (KW X) kbL_change_8 8 ls st M cs sl) : KW X 8 ls st M cs sl := KW_blk hC hE kbL_change_8 8 ls st M cs sl (by decide +kernel) h
def khL_change : KHH := [(0, 10, 13, 31), (0, 10, 17, 15)]
def kbL_count_0 : List KE := [(.aload_n 2, 1, (2, 0, 0), 0, 0), (.iconst 0, 1, (0, 0, 0), 0, 0), (.aload_n 0, 1, (0, 0, 0), 0, 0), (.iload_n 1, 1, (1, 0, 0), 0, 0)]
theorem kwL_count_0 {X : KX} {S : KS} {mc ms : Nat} {E : KEnd} {ls : KL} {st : List KV} {M : KM} {cs sl : Nat} (hC : KC X mL_count 8 false S mc ms) (hE : KRet X mL_count E) (h : kblk (kroom mL_count mc ms) S E (KW X) kbL_count_0 0 ls st M cs sl) : KW X 0 ls st M cs sl := KW_blk hC hE kbL_count_0 0 ls st M cs sl (by decide +kernel) h
def kbL_count_7 : List KE := [(.i2l, 1, (0, 0, 0), 0, 0), (.lastore, 1, (0, 0, 0), 0, 0), (.goto (6), 3, (15, 0, 0), 0, 0)]
theorem kwL_count_7 {X : KX} {S : KS} {mc ms : Nat} {E : KEnd} {ls : KL} {st : List KV} {M : KM} {cs sl : Nat} (hC : KC X mL_count 8 false S mc ms) (hE : KRet X mL_count E) (h : kblk (kroom mL_count mc ms) S E (KW X) kbL_count_7 7 ls st M cs sl) : KW X 7 ls st M cs sl := KW_blk hC hE kbL_count_7 7 ls st M cs sl (by decide +kernel) h
def khL_count : KHH := [(0, 9, 12, 31)]
def kbL_foresee_0 : List KE := [(.aload_n 3, 1, (3, 0, 0), 0, 0), (.iconst 0, 1, (0, 0, 0), 0, 0), (.aload_n 0, 1, (0, 0, 0), 0, 0), (.iload_n 1, 1, (1, 0, 0), 0, 0), (.iload_n 2, 1, (2, 0, 0), 0, 0)]
theorem kwL_foresee_0 {X : KX} {S : KS} {mc ms : Nat} {E : KEnd} {ls : KL} {st : List KV} {M : KM} {cs sl : Nat} (hC : KC X mL_foresee 8 false S mc ms) (hE : KRet X mL_foresee E) (h : kblk (kroom mL_foresee mc ms) S E (KW X) kbL_foresee_0 0 ls st M cs sl) : KW X 0 ls st M cs sl := KW_blk hC hE kbL_foresee_0 0 ls st M cs sl (by decide +kernel) h
def kbL_foresee_8 : List KE := [(.i2l, 1, (0, 0, 0), 0, 0), (.lastore, 1, (0, 0, 0), 0, 0), (.goto (11), 3, (21, 0, 0), 0, 0)]
theorem kwL_foresee_8 {X : KX} {S : KS} {mc ms : Nat} {E : KEnd} {ls : KL} {st : List KV} {M : KM} {cs sl : Nat} (hC : KC X mL_foresee 8 false S mc ms) (hE : KRet X mL_foresee E) (h : kblk (kroom mL_foresee mc ms) S E (KW X) kbL_foresee_8 8 ls st M cs sl) : KW X 8 ls st M cs sl := KW_blk hC hE kbL_foresee_8 8 ls st M cs sl (by decide +kernel) h
def khL_foresee : KHH := [(0, 10, 13, 13), (0, 10, 17, 31)]
def kbL_group_0 : List KE := [(.aload_n 3, 1, (3, 0, 0), 0, 0), (.iconst 0, 1, (0, 0, 0), 0, 0), (.aload_n 0, 1, (0, 0, 0), 0, 0), (.iload_n 1, 1, (1, 0, 0), 0, 0), (.iload_n 2, 1, (2, 0, 0), 0, 0)]
theorem kwL_group_0 {X : KX} {S : KS} {mc ms : Nat} {E : KEnd} {ls : KL} {st : List KV} {M : KM} {cs sl : Nat} (hC : KC X mL_group 8 false S mc ms) (hE : KRet X mL_group E) (h : kblk (kroom mL_group mc ms) S E (KW X) kbL_group_0 0 ls st M cs sl) : KW X 0 ls st M cs sl := KW_blk hC hE kbL_group_0 0 ls st M cs sl (by decide +kernel) h
def kbL_group_8 : List KE := [(.i2l, 1, (0, 0, 0), 0, 0), (.lastore, 1, (0, 0, 0), 0, 0), (.goto (7), 3, (17, 0, 0), 0, 0)]
theorem kwL_group_8 {X : KX} {S : KS} {mc ms : Nat} {E : KEnd} {ls : KL} {st : List KV} {M : KM} {cs sl : Nat} (hC : KC X mL_group 8 false S mc ms) (hE : KRet X mL_group E) (h : kblk (kroom mL_group mc ms) S E (KW X) kbL_group_8 8 ls st M cs sl) : KW X 8 ls st M cs sl := KW_blk hC hE kbL_group_8 8 ls st M cs sl (by decide +kernel) h
def khL_group : KHH := [(0, 10, 13, 31)]
def kbL_join_0 : List KE := [(.aload 4, 2, (4, 0, 0), 0, 0), (.iconst 0, 1, (0, 0, 0), 0, 0), (.aload_n 0, 1, (0, 0, 0), 0, 0), (.iload_n 1, 1, (1, 0, 0), 0, 0), (.iload_n 2, 1, (2, 0, 0), 0, 0), (.iload_n 3, 1, (3, 0, 0), 0, 0)]
theorem kwL_join_0 {X : KX} {S : KS} {mc ms : Nat} {E : KEnd} {ls : KL} {st : List KV} {M : KM} {cs sl : Nat} (hC : KC X mL_join 8 false S mc ms) (hE : KRet X mL_join E) (h : kblk (kroom mL_join mc ms) S E (KW X) kbL_join_0 0 ls st M cs sl) : KW X 0 ls st M cs sl := KW_blk hC hE kbL_join_0 0 ls st M cs sl (by decide +kernel) h
def kbL_join_10 : List KE := [(.i2l, 1, (0, 0, 0), 0, 0), (.lastore, 1, (0, 0, 0), 0, 0), (.goto (15), 3, (27, 0, 0), 0, 0)]
theorem kwL_join_10 {X : KX} {S : KS} {mc ms : Nat} {E : KEnd} {ls : KL} {st : List KV} {M : KM} {cs sl : Nat} (hC : KC X mL_join 8 false S mc ms) (hE : KRet X mL_join E) (h : kblk (kroom mL_join mc ms) S E (KW X) kbL_join_10 10 ls st M cs sl) : KW X 10 ls st M cs sl := KW_blk hC hE kbL_join_10 10 ls st M cs sl (by decide +kernel) h
def khL_join : KHH := [(0, 12, 15, 31), (0, 12, 19, 13), (0, 12, 23, 15)]
def kbL_lane_0 : List KE := [(.aload_n 3, 1, (3, 0, 0), 0, 0), (.iconst 0, 1, (0, 0, 0), 0, 0), (.aload_n 0, 1, (0, 0, 0), 0, 0), (.iload_n 1, 1, (1, 0, 0), 0, 0), (.iload_n 2, 1, (2, 0, 0), 0, 0)]
theorem kwL_lane_0 {X : KX} {S : KS} {mc ms : Nat} {E : KEnd} {ls : KL} {st : List KV} {M : KM} {cs sl : Nat} (hC : KC X mL_lane 8 false S mc ms) (hE : KRet X mL_lane E) (h : kblk (kroom mL_lane mc ms) S E (KW X) kbL_lane_0 0 ls st M cs sl) : KW X 0 ls st M cs sl := KW_blk hC hE kbL_lane_0 0 ls st M cs sl (by decide +kernel) h
def kbL_lane_8 : List KE := [(.i2l, 1, (0, 0, 0), 0, 0), (.lastore, 1, (0, 0, 0), 0, 0), (.goto (7), 3, (17, 0, 0), 0, 0)]
theorem kwL_lane_8 {X : KX} {S : KS} {mc ms : Nat} {E : KEnd} {ls : KL} {st : List KV} {M : KM} {cs sl : Nat} (hC : KC X mL_lane 8 false S mc ms) (hE : KRet X mL_lane E) (h : kblk (kroom mL_lane mc ms) S E (KW X) kbL_lane_8 8 ls st M cs sl) : KW X 8 ls st M cs sl := KW_blk hC hE kbL_lane_8 8 ls st M cs sl (by decide +kernel) h
def khL_lane : KHH := [(0, 10, 13, 31)]
def kbL_law_0 : List KE := [(.new 8, 3, (5, 2, 0), 0, 0), (.dup, 1, (0, 0, 0), 0, 0)]
theorem kwL_law_0 {X : KX} {S : KS} {mc ms : Nat} {E : KEnd} {ls : KL} {st : List KV} {M : KM} {cs sl : Nat} (hC : KC X mL_law 8 false S mc ms) (hE : KRet X mL_law E) (h : kblk (kroom mL_law mc ms) S E (KW X) kbL_law_0 0 ls st M cs sl) : KW X 0 ls st M cs sl := KW_blk hC hE kbL_law_0 0 ls st M cs sl (by decide +kernel) h
def kbL_law_7 : List KE := [(.astore_n 1, 1, (1, 0, 0), 0, 0), (.new 81, 3, (7, 9, 0), 0, 0), (.dup, 1, (0, 0, 0), 0, 0)]
theorem kwL_law_7 {X : KX} {S : KS} {mc ms : Nat} {E : KEnd} {ls : KL} {st : List KV} {M : KM} {cs sl : Nat} (hC : KC X mL_law 8 false S mc ms) (hE : KRet X mL_law E) (h : kblk (kroom mL_law mc ms) S E (KW X) kbL_law_7 7 ls st M cs sl) : KW X 7 ls st M cs sl := KW_blk hC hE kbL_law_7 7 ls st M cs sl (by decide +kernel) h
def kbL_law_15 : List KE := [(.astore_n 2, 1, (2, 0, 0), 0, 0), (.iconst 1, 1, (0, 0, 0), 1, 0), (.newarray .long, 2, (12, 0, 0), 0, 0), (.astore_n 3, 1, (3, 0, 0), 0, 0), (.iconst 0, 1, (0, 0, 0), 0, 0), (.istore 4, 2, (4, 0, 0), 0, 0)]
theorem kwL_law_15 {X : KX} {S : KS} {mc ms : Nat} {E : KEnd} {ls : KL} {st : List KV} {M : KM} {cs sl : Nat} (hC : KC X mL_law 8 false S mc ms) (hE : KRet X mL_law E) (h : kblk (kroom mL_law mc ms) S E (KW X) kbL_law_15 15 ls st M cs sl) : KW X 15 ls st M cs sl := KW_blk hC hE kbL_law_15 15 ls st M cs sl (by decide +kernel) h
def kbL_law_23 : List KE := [(.iload 4, 2, (4, 0, 0), 0, 0), (.aload_n 0, 1, (0, 0, 0), 0, 0), (.arraylength, 1, (0, 0, 0), 0, 0), (.iconst 4, 1, (0, 0, 0), 4, 0), (.isub, 1, (0, 0, 0), 0, 0), (.if_icmp .gt (1435), 3, (1464, 0, 0), 0, 0)]
theorem kwL_law_23 {X : KX} {S : KS} {mc ms : Nat} {E : KEnd} {ls : KL} {st : List KV} {M : KM} {cs sl : Nat} (hC : KC X mL_law 8 false S mc ms) (hE : KRet X mL_law E) (h : kblk (kroom mL_law mc ms) S E (KW X) kbL_law_23 23 ls st M cs sl) : KW X 23 ls st M cs sl := KW_blk hC hE kbL_law_23 23 ls st M cs sl (by decide +kernel) h
def kbL_law_32 : List KE := [(.aload_n 0, 1, (0, 0, 0), 0, 0), (.iload 4, 2, (4, 0, 0), 0, 0), (.iaload, 1, (0, 0, 0), 0, 0), (.bipush (31), 2, (0, 0, 0), 31, 0), (.iand, 1, (0, 0, 0), 0, 0), (.tableswitch (1419) 0 21 #[101, 157, 213, 269, 313, 404, 472, 552, 620, 676, 744, 812, 880, 948, 1004, 1060, 1116, 1184, 1240, 1296, 1364, 1405], 101, (0, 0, 0), 0, 0)]
theorem kwL_law_32 {X : KX} {S : KS} {mc ms : Nat} {E : KEnd} {ls : KL} {st : List KV} {M : KM} {cs sl : Nat} (hC : KC X mL_law 8 false S mc ms) (hE : KRet X mL_law E) (h : kblk (kroom mL_law mc ms) S E (KW X) kbL_law_32 32 ls st M cs sl) : KW X 32 ls st M cs sl := KW_blk hC hE kbL_law_32 32 ls st M cs sl (by decide +kernel) h
def kbL_law_140 : List KE := [(.aload_n 1, 1, (1, 0, 0), 0, 0), (.aload_n 0, 1, (0, 0, 0), 0, 0), (.iload 4, 2, (4, 0, 0), 0, 0), (.iconst 1, 1, (0, 0, 0), 1, 0), (.iadd, 1, (0, 0, 0), 0, 0), (.iaload, 1, (0, 0, 0), 0, 0), (.aload_n 3, 1, (3, 0, 0), 0, 0)]
theorem kwL_law_140 {X : KX} {S : KS} {mc ms : Nat} {E : KEnd} {ls : KL} {st : List KV} {M : KM} {cs sl : Nat} (hC : KC X mL_law 8 false S mc ms) (hE : KRet X mL_law E) (h : kblk (kroom mL_law mc ms) S E (KW X) kbL_law_140 140 ls st M cs sl) : KW X 140 ls st M cs sl := KW_blk hC hE kbL_law_140 140 ls st M cs sl (by decide +kernel) h
def kbL_law_151 : List KE := [(.istore 5, 2, (5, 0, 0), 0, 0), (.aload_n 2, 1, (2, 0, 0), 0, 0), (.aload_n 0, 1, (0, 0, 0), 0, 0), (.iload 4, 2, (4, 0, 0), 0, 0), (.iconst 1, 1, (0, 0, 0), 1, 0), (.iadd, 1, (0, 0, 0), 0, 0), (.iaload, 1, (0, 0, 0), 0, 0)]
theorem kwL_law_151 {X : KX} {S : KS} {mc ms : Nat} {E : KEnd} {ls : KL} {st : List KV} {M : KM} {cs sl : Nat} (hC : KC X mL_law 8 false S mc ms) (hE : KRet X mL_law E) (h : kblk (kroom mL_law mc ms) S E (KW X) kbL_law_151 151 ls st M cs sl) : KW X 151 ls st M cs sl := KW_blk hC hE kbL_law_151 151 ls st M cs sl (by decide +kernel) h
def kbL_law_163 : List KE := [(.istore 6, 2, (6, 0, 0), 0, 0), (.aload_n 2, 1, (2, 0, 0), 0, 0)]
theorem kwL_law_163 {X : KX} {S : KS} {mc ms : Nat} {E : KEnd} {ls : KL} {st : List KV} {M : KM} {cs sl : Nat} (hC : KC X mL_law 8 false S mc ms) (hE : KRet X mL_law E) (h : kblk (kroom mL_law mc ms) S E (KW X) kbL_law_163 163 ls st M cs sl) : KW X 163 ls st M cs sl := KW_blk hC hE kbL_law_163 163 ls st M cs sl (by decide +kernel) h
def kbL_law_169 : List KE := [(.iload 5, 2, (5, 0, 0), 0, 0), (.if_icmp .eq (5), 3, (176, 0, 0), 0, 0)]
theorem kwL_law_169 {X : KX} {S : KS} {mc ms : Nat} {E : KEnd} {ls : KL} {st : List KV} {M : KM} {cs sl : Nat} (hC : KC X mL_law 8 false S mc ms) (hE : KRet X mL_law E) (h : kblk (kroom mL_law mc ms) S E (KW X) kbL_law_169 169 ls st M cs sl) : KW X 169 ls st M cs sl := KW_blk hC hE kbL_law_169 169 ls st M cs sl (by decide +kernel) h
def kbL_law_174 : List KE := [(.iconst 0, 1, (0, 0, 0), 0, 0), (.ireturn, 1, (0, 0, 0), 0, 0)]
theorem kwL_law_174 {X : KX} {S : KS} {mc ms : Nat} {E : KEnd} {ls : KL} {st : List KV} {M : KM} {cs sl : Nat} (hC : KC X mL_law 8 false S mc ms) (hE : KRet X mL_law E) (h : kblk (kroom mL_law mc ms) S E (KW X) kbL_law_174 174 ls st M cs sl) : KW X 174 ls st M cs sl := KW_blk hC hE kbL_law_174 174 ls st M cs sl (by decide +kernel) h
def kbL_law_176 : List KE := [(.iload 5, 2, (5, 0, 0), 0, 0), (.ifCond .ne (15), 3, (193, 0, 0), 0, 0)]
theorem kwL_law_176 {X : KX} {S : KS} {mc ms : Nat} {E : KEnd} {ls : KL} {st : List KV} {M : KM} {cs sl : Nat} (hC : KC X mL_law 8 false S mc ms) (hE : KRet X mL_law E) (h : kblk (kroom mL_law mc ms) S E (KW X) kbL_law_176 176 ls st M cs sl) : KW X 176 ls st M cs sl := KW_blk hC hE kbL_law_176 176 ls st M cs sl (by decide +kernel) h
def kbL_law_181 : List KE := [(.aload_n 3, 1, (3, 0, 0), 0, 0), (.iconst 0, 1, (0, 0, 0), 0, 0), (.laload, 1, (0, 0, 0), 0, 0), (.iload 6, 2, (6, 0, 0), 0, 0), (.i2l, 1, (0, 0, 0), 0, 0), (.lcmp, 1, (0, 0, 0), 0, 0), (.ifCond .eq (5), 3, (193, 0, 0), 0, 0)]
theorem kwL_law_181 {X : KX} {S : KS} {mc ms : Nat} {E : KEnd} {ls : KL} {st : List KV} {M : KM} {cs sl : Nat} (hC : KC X mL_law 8 false S mc ms) (hE : KRet X mL_law E) (h : kblk (kroom mL_law mc ms) S E (KW X) kbL_law_181 181 ls st M cs sl) : KW X 181 ls st M cs sl := KW_blk hC hE kbL_law_181 181 ls st M cs sl (by decide +kernel) h
def kbL_law_191 : List KE := [(.iconst 0, 1, (0, 0, 0), 0, 0), (.ireturn, 1, (0, 0, 0), 0, 0)]
theorem kwL_law_191 {X : KX} {S : KS} {mc ms : Nat} {E : KEnd} {ls : KL} {st : List KV} {M : KM} {cs sl : Nat} (hC : KC X mL_law 8 false S mc ms) (hE : KRet X mL_law E) (h : kblk (kroom mL_law mc ms) S E (KW X) kbL_law_191 191 ls st M cs sl) : KW X 191 ls st M cs sl := KW_blk hC hE kbL_law_191 191 ls st M cs sl (by decide +kernel) h
def kbL_law_193 : List KE := [(.goto (1265), 3, (1458, 0, 0), 0, 0)]
theorem kwL_law_193 {X : KX} {S : KS} {mc ms : Nat} {E : KEnd} {ls : KL} {st : List KV} {M : KM} {cs sl : Nat} (hC : KC X mL_law 8 false S mc ms) (hE : KRet X mL_law E) (h : kblk (kroom mL_law mc ms) S E (KW X) kbL_law_193 193 ls st M cs sl) : KW X 193 ls st M cs sl := KW_blk hC hE kbL_law_193 193 ls st M cs sl (by decide +kernel) h
def kbL_law_196 : List KE := [(.aload_n 1, 1, (1, 0, 0), 0, 0), (.aload_n 0, 1, (0, 0, 0), 0, 0), (.iload 4, 2, (4, 0, 0), 0, 0), (.iconst 1, 1, (0, 0, 0), 1, 0), (.iadd, 1, (0, 0, 0), 0, 0), (.iaload, 1, (0, 0, 0), 0, 0), (.aload_n 3, 1, (3, 0, 0), 0, 0)]
theorem kwL_law_196 {X : KX} {S : KS} {mc ms : Nat} {E : KEnd} {ls : KL} {st : List KV} {M : KM} {cs sl : Nat} (hC : KC X mL_law 8 false S mc ms) (hE : KRet X mL_law E) (h : kblk (kroom mL_law mc ms) S E (KW X) kbL_law_196 196 ls st M cs sl) : KW X 196 ls st M cs sl := KW_blk hC hE kbL_law_196 196 ls st M cs sl (by decide +kernel) h
def kbL_law_207 : List KE := [(.istore 5, 2, (5, 0, 0), 0, 0), (.aload_n 2, 1, (2, 0, 0), 0, 0), (.aload_n 0, 1, (0, 0, 0), 0, 0), (.iload 4, 2, (4, 0, 0), 0, 0), (.iconst 1, 1, (0, 0, 0), 1, 0), (.iadd, 1, (0, 0, 0), 0, 0), (.iaload, 1, (0, 0, 0), 0, 0)]
theorem kwL_law_207 {X : KX} {S : KS} {mc ms : Nat} {E : KEnd} {ls : KL} {st : List KV} {M : KM} {cs sl : Nat} (hC : KC X mL_law 8 false S mc ms) (hE : KRet X mL_law E) (h : kblk (kroom mL_law mc ms) S E (KW X) kbL_law_207 207 ls st M cs sl) : KW X 207 ls st M cs sl := KW_blk hC hE kbL_law_207 207 ls st M cs sl (by decide +kernel) h
def kbL_law_219 : List KE := [(.istore 6, 2, (6, 0, 0), 0, 0), (.aload_n 2, 1, (2, 0, 0), 0, 0)]
theorem kwL_law_219 {X : KX} {S : KS} {mc ms : Nat} {E : KEnd} {ls : KL} {st : List KV} {M : KM} {cs sl : Nat} (hC : KC X mL_law 8 false S mc ms) (hE : KRet X mL_law E) (h : kblk (kroom mL_law mc ms) S E (KW X) kbL_law_219 219 ls st M cs sl) : KW X 219 ls st M cs sl := KW_blk hC hE kbL_law_219 219 ls st M cs sl (by decide +kernel) h
def kbL_law_225 : List KE := [(.iload 5, 2, (5, 0, 0), 0, 0), (.if_icmp .eq (5), 3, (232, 0, 0), 0, 0)]
theorem kwL_law_225 {X : KX} {S : KS} {mc ms : Nat} {E : KEnd} {ls : KL} {st : List KV} {M : KM} {cs sl : Nat} (hC : KC X mL_law 8 false S mc ms) (hE : KRet X mL_law E) (h : kblk (kroom mL_law mc ms) S E (KW X) kbL_law_225 225 ls st M cs sl) : KW X 225 ls st M cs sl := KW_blk hC hE kbL_law_225 225 ls st M cs sl (by decide +kernel) h
def kbL_law_230 : List KE := [(.iconst 0, 1, (0, 0, 0), 0, 0), (.ireturn, 1, (0, 0, 0), 0, 0)]
theorem kwL_law_230 {X : KX} {S : KS} {mc ms : Nat} {E : KEnd} {ls : KL} {st : List KV} {M : KM} {cs sl : Nat} (hC : KC X mL_law 8 false S mc ms) (hE : KRet X mL_law E) (h : kblk (kroom mL_law mc ms) S E (KW X) kbL_law_230 230 ls st M cs sl) : KW X 230 ls st M cs sl := KW_blk hC hE kbL_law_230 230 ls st M cs sl (by decide +kernel) h
def kbL_law_232 : List KE := [(.iload 5, 2, (5, 0, 0), 0, 0), (.ifCond .ne (15), 3, (249, 0, 0), 0, 0)]
theorem kwL_law_232 {X : KX} {S : KS} {mc ms : Nat} {E : KEnd} {ls : KL} {st : List KV} {M : KM} {cs sl : Nat} (hC : KC X mL_law 8 false S mc ms) (hE : KRet X mL_law E) (h : kblk (kroom mL_law mc ms) S E (KW X) kbL_law_232 232 ls st M cs sl) : KW X 232 ls st M cs sl := KW_blk hC hE kbL_law_232 232 ls st M cs sl (by decide +kernel) h
def kbL_law_237 : List KE := [(.aload_n 3, 1, (3, 0, 0), 0, 0), (.iconst 0, 1, (0, 0, 0), 0, 0), (.laload, 1, (0, 0, 0), 0, 0), (.iload 6, 2, (6, 0, 0), 0, 0), (.i2l, 1, (0, 0, 0), 0, 0), (.lcmp, 1, (0, 0, 0), 0, 0), (.ifCond .eq (5), 3, (249, 0, 0), 0, 0)]
theorem kwL_law_237 {X : KX} {S : KS} {mc ms : Nat} {E : KEnd} {ls : KL} {st : List KV} {M : KM} {cs sl : Nat} (hC : KC X mL_law 8 false S mc ms) (hE : KRet X mL_law E) (h : kblk (kroom mL_law mc ms) S E (KW X) kbL_law_237 237 ls st M cs sl) : KW X 237 ls st M cs sl := KW_blk hC hE kbL_law_237 237 ls st M cs sl (by decide +kernel) h
def kbL_law_247 : List KE := [(.iconst 0, 1, (0, 0, 0), 0, 0), (.ireturn, 1, (0, 0, 0), 0, 0)]
theorem kwL_law_247 {X : KX} {S : KS} {mc ms : Nat} {E : KEnd} {ls : KL} {st : List KV} {M : KM} {cs sl : Nat} (hC : KC X mL_law 8 false S mc ms) (hE : KRet X mL_law E) (h : kblk (kroom mL_law mc ms) S E (KW X) kbL_law_247 247 ls st M cs sl) : KW X 247 ls st M cs sl := KW_blk hC hE kbL_law_247 247 ls st M cs sl (by decide +kernel) h
def kbL_law_249 : List KE := [(.goto (1209), 3, (1458, 0, 0), 0, 0)]
theorem kwL_law_249 {X : KX} {S : KS} {mc ms : Nat} {E : KEnd} {ls : KL} {st : List KV} {M : KM} {cs sl : Nat} (hC : KC X mL_law 8 false S mc ms) (hE : KRet X mL_law E) (h : kblk (kroom mL_law mc ms) S E (KW X) kbL_law_249 249 ls st M cs sl) : KW X 249 ls st M cs sl := KW_blk hC hE kbL_law_249 249 ls st M cs sl (by decide +kernel) h
def kbL_law_252 : List KE := [(.aload_n 1, 1, (1, 0, 0), 0, 0), (.aload_n 0, 1, (0, 0, 0), 0, 0), (.iload 4, 2, (4, 0, 0), 0, 0), (.iconst 1, 1, (0, 0, 0), 1, 0), (.iadd, 1, (0, 0, 0), 0, 0), (.iaload, 1, (0, 0, 0), 0, 0), (.aload_n 3, 1, (3, 0, 0), 0, 0)]
theorem kwL_law_252 {X : KX} {S : KS} {mc ms : Nat} {E : KEnd} {ls : KL} {st : List KV} {M : KM} {cs sl : Nat} (hC : KC X mL_law 8 false S mc ms) (hE : KRet X mL_law E) (h : kblk (kroom mL_law mc ms) S E (KW X) kbL_law_252 252 ls st M cs sl) : KW X 252 ls st M cs sl := KW_blk hC hE kbL_law_252 252 ls st M cs sl (by decide +kernel) h
def kbL_law_263 : List KE := [(.istore 5, 2, (5, 0, 0), 0, 0), (.aload_n 2, 1, (2, 0, 0), 0, 0), (.aload_n 0, 1, (0, 0, 0), 0, 0), (.iload 4, 2, (4, 0, 0), 0, 0), (.iconst 1, 1, (0, 0, 0), 1, 0), (.iadd, 1, (0, 0, 0), 0, 0), (.iaload, 1, (0, 0, 0), 0, 0)]
theorem kwL_law_263 {X : KX} {S : KS} {mc ms : Nat} {E : KEnd} {ls : KL} {st : List KV} {M : KM} {cs sl : Nat} (hC : KC X mL_law 8 false S mc ms) (hE : KRet X mL_law E) (h : kblk (kroom mL_law mc ms) S E (KW X) kbL_law_263 263 ls st M cs sl) : KW X 263 ls st M cs sl := KW_blk hC hE kbL_law_263 263 ls st M cs sl (by decide +kernel) h
def kbL_law_275 : List KE := [(.istore 6, 2, (6, 0, 0), 0, 0), (.aload_n 2, 1, (2, 0, 0), 0, 0)]
theorem kwL_law_275 {X : KX} {S : KS} {mc ms : Nat} {E : KEnd} {ls : KL} {st : List KV} {M : KM} {cs sl : Nat} (hC : KC X mL_law 8 false S mc ms) (hE : KRet X mL_law E) (h : kblk (kroom mL_law mc ms) S E (KW X) kbL_law_275 275 ls st M cs sl) : KW X 275 ls st M cs sl := KW_blk hC hE kbL_law_275 275 ls st M cs sl (by decide +kernel) h
def kbL_law_281 : List KE := [(.iload 5, 2, (5, 0, 0), 0, 0), (.if_icmp .eq (5), 3, (288, 0, 0), 0, 0)]
theorem kwL_law_281 {X : KX} {S : KS} {mc ms : Nat} {E : KEnd} {ls : KL} {st : List KV} {M : KM} {cs sl : Nat} (hC : KC X mL_law 8 false S mc ms) (hE : KRet X mL_law E) (h : kblk (kroom mL_law mc ms) S E (KW X) kbL_law_281 281 ls st M cs sl) : KW X 281 ls st M cs sl := KW_blk hC hE kbL_law_281 281 ls st M cs sl (by decide +kernel) h
def kbL_law_286 : List KE := [(.iconst 0, 1, (0, 0, 0), 0, 0), (.ireturn, 1, (0, 0, 0), 0, 0)]
theorem kwL_law_286 {X : KX} {S : KS} {mc ms : Nat} {E : KEnd} {ls : KL} {st : List KV} {M : KM} {cs sl : Nat} (hC : KC X mL_law 8 false S mc ms) (hE : KRet X mL_law E) (h : kblk (kroom mL_law mc ms) S E (KW X) kbL_law_286 286 ls st M cs sl) : KW X 286 ls st M cs sl := KW_blk hC hE kbL_law_286 286 ls st M cs sl (by decide +kernel) h
def kbL_law_288 : List KE := [(.iload 5, 2, (5, 0, 0), 0, 0), (.ifCond .ne (15), 3, (305, 0, 0), 0, 0)]
theorem kwL_law_288 {X : KX} {S : KS} {mc ms : Nat} {E : KEnd} {ls : KL} {st : List KV} {M : KM} {cs sl : Nat} (hC : KC X mL_law 8 false S mc ms) (hE : KRet X mL_law E) (h : kblk (kroom mL_law mc ms) S E (KW X) kbL_law_288 288 ls st M cs sl) : KW X 288 ls st M cs sl := KW_blk hC hE kbL_law_288 288 ls st M cs sl (by decide +kernel) h
def kbL_law_293 : List KE := [(.aload_n 3, 1, (3, 0, 0), 0, 0), (.iconst 0, 1, (0, 0, 0), 0, 0), (.laload, 1, (0, 0, 0), 0, 0), (.iload 6, 2, (6, 0, 0), 0, 0), (.i2l, 1, (0, 0, 0), 0, 0), (.lcmp, 1, (0, 0, 0), 0, 0), (.ifCond .eq (5), 3, (305, 0, 0), 0, 0)]
theorem kwL_law_293 {X : KX} {S : KS} {mc ms : Nat} {E : KEnd} {ls : KL} {st : List KV} {M : KM} {cs sl : Nat} (hC : KC X mL_law 8 false S mc ms) (hE : KRet X mL_law E) (h : kblk (kroom mL_law mc ms) S E (KW X) kbL_law_293 293 ls st M cs sl) : KW X 293 ls st M cs sl := KW_blk hC hE kbL_law_293 293 ls st M cs sl (by decide +kernel) h
def kbL_law_303 : List KE := [(.iconst 0, 1, (0, 0, 0), 0, 0), (.ireturn, 1, (0, 0, 0), 0, 0)]
theorem kwL_law_303 {X : KX} {S : KS} {mc ms : Nat} {E : KEnd} {ls : KL} {st : List KV} {M : KM} {cs sl : Nat} (hC : KC X mL_law 8 false S mc ms) (hE : KRet X mL_law E) (h : kblk (kroom mL_law mc ms) S E (KW X) kbL_law_303 303 ls st M cs sl) : KW X 303 ls st M cs sl := KW_blk hC hE kbL_law_303 303 ls st M cs sl (by decide +kernel) h
def kbL_law_305 : List KE := [(.goto (1153), 3, (1458, 0, 0), 0, 0)]
theorem kwL_law_305 {X : KX} {S : KS} {mc ms : Nat} {E : KEnd} {ls : KL} {st : List KV} {M : KM} {cs sl : Nat} (hC : KC X mL_law 8 false S mc ms) (hE : KRet X mL_law E) (h : kblk (kroom mL_law mc ms) S E (KW X) kbL_law_305 305 ls st M cs sl) : KW X 305 ls st M cs sl := KW_blk hC hE kbL_law_305 305 ls st M cs sl (by decide +kernel) h
def kbL_law_308 : List KE := [(.aload_n 1, 1, (1, 0, 0), 0, 0), (.aload_n 3, 1, (3, 0, 0), 0, 0)]
theorem kwL_law_308 {X : KX} {S : KS} {mc ms : Nat} {E : KEnd} {ls : KL} {st : List KV} {M : KM} {cs sl : Nat} (hC : KC X mL_law 8 false S mc ms) (hE : KRet X mL_law E) (h : kblk (kroom mL_law mc ms) S E (KW X) kbL_law_308 308 ls st M cs sl) : KW X 308 ls st M cs sl := KW_blk hC hE kbL_law_308 308 ls st M cs sl (by decide +kernel) h
def kbL_law_313 : List KE := [(.istore 5, 2, (5, 0, 0), 0, 0), (.aload_n 2, 1, (2, 0, 0), 0, 0)]
theorem kwL_law_313 {X : KX} {S : KS} {mc ms : Nat} {E : KEnd} {ls : KL} {st : List KV} {M : KM} {cs sl : Nat} (hC : KC X mL_law 8 false S mc ms) (hE : KRet X mL_law E) (h : kblk (kroom mL_law mc ms) S E (KW X) kbL_law_313 313 ls st M cs sl) : KW X 313 ls st M cs sl := KW_blk hC hE kbL_law_313 313 ls st M cs sl (by decide +kernel) h
def kbL_law_319 : List KE := [(.istore 6, 2, (6, 0, 0), 0, 0), (.aload_n 2, 1, (2, 0, 0), 0, 0)]
theorem kwL_law_319 {X : KX} {S : KS} {mc ms : Nat} {E : KEnd} {ls : KL} {st : List KV} {M : KM} {cs sl : Nat} (hC : KC X mL_law 8 false S mc ms) (hE : KRet X mL_law E) (h : kblk (kroom mL_law mc ms) S E (KW X) kbL_law_319 319 ls st M cs sl) : KW X 319 ls st M cs sl := KW_blk hC hE kbL_law_319 319 ls st M cs sl (by decide +kernel) h
def kbL_law_325 : List KE := [(.iload 5, 2, (5, 0, 0), 0, 0), (.if_icmp .eq (5), 3, (332, 0, 0), 0, 0)]
theorem kwL_law_325 {X : KX} {S : KS} {mc ms : Nat} {E : KEnd} {ls : KL} {st : List KV} {M : KM} {cs sl : Nat} (hC : KC X mL_law 8 false S mc ms) (hE : KRet X mL_law E) (h : kblk (kroom mL_law mc ms) S E (KW X) kbL_law_325 325 ls st M cs sl) : KW X 325 ls st M cs sl := KW_blk hC hE kbL_law_325 325 ls st M cs sl (by decide +kernel) h
def kbL_law_330 : List KE := [(.iconst 0, 1, (0, 0, 0), 0, 0), (.ireturn, 1, (0, 0, 0), 0, 0)]
theorem kwL_law_330 {X : KX} {S : KS} {mc ms : Nat} {E : KEnd} {ls : KL} {st : List KV} {M : KM} {cs sl : Nat} (hC : KC X mL_law 8 false S mc ms) (hE : KRet X mL_law E) (h : kblk (kroom mL_law mc ms) S E (KW X) kbL_law_330 330 ls st M cs sl) : KW X 330 ls st M cs sl := KW_blk hC hE kbL_law_330 330 ls st M cs sl (by decide +kernel) h
def kbL_law_332 : List KE := [(.iload 5, 2, (5, 0, 0), 0, 0), (.ifCond .ne (15), 3, (349, 0, 0), 0, 0)]
theorem kwL_law_332 {X : KX} {S : KS} {mc ms : Nat} {E : KEnd} {ls : KL} {st : List KV} {M : KM} {cs sl : Nat} (hC : KC X mL_law 8 false S mc ms) (hE : KRet X mL_law E) (h : kblk (kroom mL_law mc ms) S E (KW X) kbL_law_332 332 ls st M cs sl) : KW X 332 ls st M cs sl := KW_blk hC hE kbL_law_332 332 ls st M cs sl (by decide +kernel) h
def kbL_law_337 : List KE := [(.aload_n 3, 1, (3, 0, 0), 0, 0), (.iconst 0, 1, (0, 0, 0), 0, 0), (.laload, 1, (0, 0, 0), 0, 0), (.iload 6, 2, (6, 0, 0), 0, 0), (.i2l, 1, (0, 0, 0), 0, 0), (.lcmp, 1, (0, 0, 0), 0, 0), (.ifCond .eq (5), 3, (349, 0, 0), 0, 0)]
theorem kwL_law_337 {X : KX} {S : KS} {mc ms : Nat} {E : KEnd} {ls : KL} {st : List KV} {M : KM} {cs sl : Nat} (hC : KC X mL_law 8 false S mc ms) (hE : KRet X mL_law E) (h : kblk (kroom mL_law mc ms) S E (KW X) kbL_law_337 337 ls st M cs sl) : KW X 337 ls st M cs sl := KW_blk hC hE kbL_law_337 337 ls st M cs sl (by decide +kernel) h
def kbL_law_347 : List KE := [(.iconst 0, 1, (0, 0, 0), 0, 0), (.ireturn, 1, (0, 0, 0), 0, 0)]
theorem kwL_law_347 {X : KX} {S : KS} {mc ms : Nat} {E : KEnd} {ls : KL} {st : List KV} {M : KM} {cs sl : Nat} (hC : KC X mL_law 8 false S mc ms) (hE : KRet X mL_law E) (h : kblk (kroom mL_law mc ms) S E (KW X) kbL_law_347 347 ls st M cs sl) : KW X 347 ls st M cs sl := KW_blk hC hE kbL_law_347 347 ls st M cs sl (by decide +kernel) h
def kbL_law_349 : List KE := [(.goto (1109), 3, (1458, 0, 0), 0, 0)]
theorem kwL_law_349 {X : KX} {S : KS} {mc ms : Nat} {E : KEnd} {ls : KL} {st : List KV} {M : KM} {cs sl : Nat} (hC : KC X mL_law 8 false S mc ms) (hE : KRet X mL_law E) (h : kblk (kroom mL_law mc ms) S E (KW X) kbL_law_349 349 ls st M cs sl) : KW X 349 ls st M cs sl := KW_blk hC hE kbL_law_349 349 ls st M cs sl (by decide +kernel) h
def kbL_law_352 : List KE := [(.aload_n 1, 1, (1, 0, 0), 0, 0), (.aload_n 0, 1, (0, 0, 0), 0, 0), (.iload 4, 2, (4, 0, 0), 0, 0), (.iconst 1, 1, (0, 0, 0), 1, 0), (.iadd, 1, (0, 0, 0), 0, 0), (.iaload, 1, (0, 0, 0), 0, 0), (.aload_n 0, 1, (0, 0, 0), 0, 0), (.iload 4, 2, (4, 0, 0), 0, 0), (.iconst 2, 1, (0, 0, 0), 2, 0), (.iadd, 1, (0, 0, 0), 0, 0), (.iaload, 1, (0, 0, 0), 0, 0), (.ifCond .eq (7), 3, (372, 0, 0), 0, 0)]
theorem kwL_law_352 {X : KX} {S : KS} {mc ms : Nat} {E : KEnd} {ls : KL} {st : List KV} {M : KM} {cs sl : Nat} (hC : KC X mL_law 8 false S mc ms) (hE : KRet X mL_law E) (h : kblk (kroom mL_law mc ms) S E (KW X) kbL_law_352 352 ls st M cs sl) : KW X 352 ls st M cs sl := KW_blk hC hE kbL_law_352 352 ls st M cs sl (by decide +kernel) h
def kbL_law_368 : List KE := [(.iconst 1, 1, (0, 0, 0), 1, 0), (.goto (4), 3, (373, 0, 0), 0, 0)]
theorem kwL_law_368 {X : KX} {S : KS} {mc ms : Nat} {E : KEnd} {ls : KL} {st : List KV} {M : KM} {cs sl : Nat} (hC : KC X mL_law 8 false S mc ms) (hE : KRet X mL_law E) (h : kblk (kroom mL_law mc ms) S E (KW X) kbL_law_368 368 ls st M cs sl) : KW X 368 ls st M cs sl := KW_blk hC hE kbL_law_368 368 ls st M cs sl (by decide +kernel) h
def kbL_law_372 : List KE := [(.iconst 0, 1, (0, 0, 0), 0, 0)]
theorem kwL_law_372 {X : KX} {S : KS} {mc ms : Nat} {E : KEnd} {ls : KL} {st : List KV} {M : KM} {cs sl : Nat} (hC : KC X mL_law 8 false S mc ms) (hE : KRet X mL_law E) (h : kblk (kroom mL_law mc ms) S E (KW X) kbL_law_372 372 ls st M cs sl) : KW X 372 ls st M cs sl := KW_blk hC hE kbL_law_372 372 ls st M cs sl (by decide +kernel) h
def kbL_law_373 : List KE := [(.aload_n 3, 1, (3, 0, 0), 0, 0)]
theorem kwL_law_373 {X : KX} {S : KS} {mc ms : Nat} {E : KEnd} {ls : KL} {st : List KV} {M : KM} {cs sl : Nat} (hC : KC X mL_law 8 false S mc ms) (hE : KRet X mL_law E) (h : kblk (kroom mL_law mc ms) S E (KW X) kbL_law_373 373 ls st M cs sl) : KW X 373 ls st M cs sl := KW_blk hC hE kbL_law_373 373 ls st M cs sl (by decide +kernel) h
def kbL_law_377 : List KE := [(.istore 5, 2, (5, 0, 0), 0, 0), (.aload_n 2, 1, (2, 0, 0), 0, 0), (.aload_n 0, 1, (0, 0, 0), 0, 0), (.iload 4, 2, (4, 0, 0), 0, 0), (.iconst 1, 1, (0, 0, 0), 1, 0), (.iadd, 1, (0, 0, 0), 0, 0), (.iaload, 1, (0, 0, 0), 0, 0), (.aload_n 0, 1, (0, 0, 0), 0, 0), (.iload 4, 2, (4, 0, 0), 0, 0), (.iconst 2, 1, (0, 0, 0), 2, 0), (.iadd, 1, (0, 0, 0), 0, 0), (.iaload, 1, (0, 0, 0), 0, 0), (.ifCond .eq (7), 3, (399, 0, 0), 0, 0)]
theorem kwL_law_377 {X : KX} {S : KS} {mc ms : Nat} {E : KEnd} {ls : KL} {st : List KV} {M : KM} {cs sl : Nat} (hC : KC X mL_law 8 false S mc ms) (hE : KRet X mL_law E) (h : kblk (kroom mL_law mc ms) S E (KW X) kbL_law_377 377 ls st M cs sl) : KW X 377 ls st M cs sl := KW_blk hC hE kbL_law_377 377 ls st M cs sl (by decide +kernel) h
def kbL_law_395 : List KE := [(.iconst 1, 1, (0, 0, 0), 1, 0), (.goto (4), 3, (400, 0, 0), 0, 0)]
theorem kwL_law_395 {X : KX} {S : KS} {mc ms : Nat} {E : KEnd} {ls : KL} {st : List KV} {M : KM} {cs sl : Nat} (hC : KC X mL_law 8 false S mc ms) (hE : KRet X mL_law E) (h : kblk (kroom mL_law mc ms) S E (KW X) kbL_law_395 395 ls st M cs sl) : KW X 395 ls st M cs sl := KW_blk hC hE kbL_law_395 395 ls st M cs sl (by decide +kernel) h
def kbL_law_399 : List KE := [(.iconst 0, 1, (0, 0, 0), 0, 0)]
theorem kwL_law_399 {X : KX} {S : KS} {mc ms : Nat} {E : KEnd} {ls : KL} {st : List KV} {M : KM} {cs sl : Nat} (hC : KC X mL_law 8 false S mc ms) (hE : KRet X mL_law E) (h : kblk (kroom mL_law mc ms) S E (KW X) kbL_law_399 399 ls st M cs sl) : KW X 399 ls st M cs sl := KW_blk hC hE kbL_law_399 399 ls st M cs sl (by decide +kernel) h
def kbL_law_403 : List KE := [(.istore 6, 2, (6, 0, 0), 0, 0), (.aload_n 2, 1, (2, 0, 0), 0, 0)]
theorem kwL_law_403 {X : KX} {S : KS} {mc ms : Nat} {E : KEnd} {ls : KL} {st : List KV} {M : KM} {cs sl : Nat} (hC : KC X mL_law 8 false S mc ms) (hE : KRet X mL_law E) (h : kblk (kroom mL_law mc ms) S E (KW X) kbL_law_403 403 ls st M cs sl) : KW X 403 ls st M cs sl := KW_blk hC hE kbL_law_403 403 ls st M cs sl (by decide +kernel) h
def kbL_law_409 : List KE := [(.iload 5, 2, (5, 0, 0), 0, 0), (.if_icmp .eq (5), 3, (416, 0, 0), 0, 0)]
theorem kwL_law_409 {X : KX} {S : KS} {mc ms : Nat} {E : KEnd} {ls : KL} {st : List KV} {M : KM} {cs sl : Nat} (hC : KC X mL_law 8 false S mc ms) (hE : KRet X mL_law E) (h : kblk (kroom mL_law mc ms) S E (KW X) kbL_law_409 409 ls st M cs sl) : KW X 409 ls st M cs sl := KW_blk hC hE kbL_law_409 409 ls st M cs sl (by decide +kernel) h
def kbL_law_414 : List KE := [(.iconst 0, 1, (0, 0, 0), 0, 0), (.ireturn, 1, (0, 0, 0), 0, 0)]
theorem kwL_law_414 {X : KX} {S : KS} {mc ms : Nat} {E : KEnd} {ls : KL} {st : List KV} {M : KM} {cs sl : Nat} (hC : KC X mL_law 8 false S mc ms) (hE : KRet X mL_law E) (h : kblk (kroom mL_law mc ms) S E (KW X) kbL_law_414 414 ls st M cs sl) : KW X 414 ls st M cs sl := KW_blk hC hE kbL_law_414 414 ls st M cs sl (by decide +kernel) h
def kbL_law_416 : List KE := [(.iload 5, 2, (5, 0, 0), 0, 0), (.ifCond .ne (22), 3, (440, 0, 0), 0, 0)]
theorem kwL_law_416 {X : KX} {S : KS} {mc ms : Nat} {E : KEnd} {ls : KL} {st : List KV} {M : KM} {cs sl : Nat} (hC : KC X mL_law 8 false S mc ms) (hE : KRet X mL_law E) (h : kblk (kroom mL_law mc ms) S E (KW X) kbL_law_416 416 ls st M cs sl) : KW X 416 ls st M cs sl := KW_blk hC hE kbL_law_416 416 ls st M cs sl (by decide +kernel) h
def kbL_law_421 : List KE := [(.aload_n 3, 1, (3, 0, 0), 0, 0), (.iconst 0, 1, (0, 0, 0), 0, 0), (.laload, 1, (0, 0, 0), 0, 0), (.iload 6, 2, (6, 0, 0), 0, 0), (.ifCond .eq (7), 3, (433, 0, 0), 0, 0)]
theorem kwL_law_421 {X : KX} {S : KS} {mc ms : Nat} {E : KEnd} {ls : KL} {st : List KV} {M : KM} {cs sl : Nat} (hC : KC X mL_law 8 false S mc ms) (hE : KRet X mL_law E) (h : kblk (kroom mL_law mc ms) S E (KW X) kbL_law_421 421 ls st M cs sl) : KW X 421 ls st M cs sl := KW_blk hC hE kbL_law_421 421 ls st M cs sl (by decide +kernel) h
def kbL_law_429 : List KE := [(.lconst 1, 1, (0, 0, 0), 0, 1), (.goto (4), 3, (434, 0, 0), 0, 0)]
theorem kwL_law_429 {X : KX} {S : KS} {mc ms : Nat} {E : KEnd} {ls : KL} {st : List KV} {M : KM} {cs sl : Nat} (hC : KC X mL_law 8 false S mc ms) (hE : KRet X mL_law E) (h : kblk (kroom mL_law mc ms) S E (KW X) kbL_law_429 429 ls st M cs sl) : KW X 429 ls st M cs sl := KW_blk hC hE kbL_law_429 429 ls st M cs sl (by decide +kernel) h
def kbL_law_433 : List KE := [(.lconst 0, 1, (0, 0, 0), 0, 0)]
theorem kwL_law_433 {X : KX} {S : KS} {mc ms : Nat} {E : KEnd} {ls : KL} {st : List KV} {M : KM} {cs sl : Nat} (hC : KC X mL_law 8 false S mc ms) (hE : KRet X mL_law E) (h : kblk (kroom mL_law mc ms) S E (KW X) kbL_law_433 433 ls st M cs sl) : KW X 433 ls st M cs sl := KW_blk hC hE kbL_law_433 433 ls st M cs sl (by decide +kernel) h
def kbL_law_434 : List KE := [(.lcmp, 1, (0, 0, 0), 0, 0), (.ifCond .eq (5), 3, (440, 0, 0), 0, 0)]
theorem kwL_law_434 {X : KX} {S : KS} {mc ms : Nat} {E : KEnd} {ls : KL} {st : List KV} {M : KM} {cs sl : Nat} (hC : KC X mL_law 8 false S mc ms) (hE : KRet X mL_law E) (h : kblk (kroom mL_law mc ms) S E (KW X) kbL_law_434 434 ls st M cs sl) : KW X 434 ls st M cs sl := KW_blk hC hE kbL_law_434 434 ls st M cs sl (by decide +kernel) h
def kbL_law_438 : List KE := [(.iconst 0, 1, (0, 0, 0), 0, 0), (.ireturn, 1, (0, 0, 0), 0, 0)]
theorem kwL_law_438 {X : KX} {S : KS} {mc ms : Nat} {E : KEnd} {ls : KL} {st : List KV} {M : KM} {cs sl : Nat} (hC : KC X mL_law 8 false S mc ms) (hE : KRet X mL_law E) (h : kblk (kroom mL_law mc ms) S E (KW X) kbL_law_438 438 ls st M cs sl) : KW X 438 ls st M cs sl := KW_blk hC hE kbL_law_438 438 ls st M cs sl (by decide +kernel) h
def kbL_law_440 : List KE := [(.goto (1018), 3, (1458, 0, 0), 0, 0)]
theorem kwL_law_440 {X : KX} {S : KS} {mc ms : Nat} {E : KEnd} {ls : KL} {st : List KV} {M : KM} {cs sl : Nat} (hC : KC X mL_law 8 false S mc ms) (hE : KRet X mL_law E) (h : kblk (kroom mL_law mc ms) S E (KW X) kbL_law_440 440 ls st M cs sl) : KW X 440 ls st M cs sl := KW_blk hC hE kbL_law_440 440 ls st M cs sl (by decide +kernel) h
def kbL_law_443 : List KE := [(.aload_n 1, 1, (1, 0, 0), 0, 0), (.aload_n 0, 1, (0, 0, 0), 0, 0), (.iload 4, 2, (4, 0, 0), 0, 0), (.iconst 1, 1, (0, 0, 0), 1, 0), (.iadd, 1, (0, 0, 0), 0, 0), (.iaload, 1, (0, 0, 0), 0, 0), (.aload_n 0, 1, (0, 0, 0), 0, 0), (.iload 4, 2, (4, 0, 0), 0, 0), (.iconst 2, 1, (0, 0, 0), 2, 0), (.iadd, 1, (0, 0, 0), 0, 0), (.iaload, 1, (0, 0, 0), 0, 0), (.aload_n 3, 1, (3, 0, 0), 0, 0)]
theorem kwL_law_443 {X : KX} {S : KS} {mc ms : Nat} {E : KEnd} {ls : KL} {st : List KV} {M : KM} {cs sl : Nat} (hC : KC X mL_law 8 false S mc ms) (hE : KRet X mL_law E) (h : kblk (kroom mL_law mc ms) S E (KW X) kbL_law_443 443 ls st M cs sl) : KW X 443 ls st M cs sl := KW_blk hC hE kbL_law_443 443 ls st M cs sl (by decide +kernel) h
def kbL_law_460 : List KE := [(.istore 5, 2, (5, 0, 0), 0, 0), (.aload_n 2, 1, (2, 0, 0), 0, 0), (.aload_n 0, 1, (0, 0, 0), 0, 0), (.iload 4, 2, (4, 0, 0), 0, 0), (.iconst 1, 1, (0, 0, 0), 1, 0), (.iadd, 1, (0, 0, 0), 0, 0), (.iaload, 1, (0, 0, 0), 0, 0), (.aload_n 0, 1, (0, 0, 0), 0, 0), (.iload 4, 2, (4, 0, 0), 0, 0), (.iconst 2, 1, (0, 0, 0), 2, 0), (.iadd, 1, (0, 0, 0), 0, 0), (.iaload, 1, (0, 0, 0), 0, 0)]
theorem kwL_law_460 {X : KX} {S : KS} {mc ms : Nat} {E : KEnd} {ls : KL} {st : List KV} {M : KM} {cs sl : Nat} (hC : KC X mL_law 8 false S mc ms) (hE : KRet X mL_law E) (h : kblk (kroom mL_law mc ms) S E (KW X) kbL_law_460 460 ls st M cs sl) : KW X 460 ls st M cs sl := KW_blk hC hE kbL_law_460 460 ls st M cs sl (by decide +kernel) h
def kbL_law_478 : List KE := [(.istore 6, 2, (6, 0, 0), 0, 0), (.aload_n 2, 1, (2, 0, 0), 0, 0)]
theorem kwL_law_478 {X : KX} {S : KS} {mc ms : Nat} {E : KEnd} {ls : KL} {st : List KV} {M : KM} {cs sl : Nat} (hC : KC X mL_law 8 false S mc ms) (hE : KRet X mL_law E) (h : kblk (kroom mL_law mc ms) S E (KW X) kbL_law_478 478 ls st M cs sl) : KW X 478 ls st M cs sl := KW_blk hC hE kbL_law_478 478 ls st M cs sl (by decide +kernel) h
def kbL_law_484 : List KE := [(.iload 5, 2, (5, 0, 0), 0, 0), (.if_icmp .eq (5), 3, (491, 0, 0), 0, 0)]
theorem kwL_law_484 {X : KX} {S : KS} {mc ms : Nat} {E : KEnd} {ls : KL} {st : List KV} {M : KM} {cs sl : Nat} (hC : KC X mL_law 8 false S mc ms) (hE : KRet X mL_law E) (h : kblk (kroom mL_law mc ms) S E (KW X) kbL_law_484 484 ls st M cs sl) : KW X 484 ls st M cs sl := KW_blk hC hE kbL_law_484 484 ls st M cs sl (by decide +kernel) h
def kbL_law_489 : List KE := [(.iconst 0, 1, (0, 0, 0), 0, 0), (.ireturn, 1, (0, 0, 0), 0, 0)]
theorem kwL_law_489 {X : KX} {S : KS} {mc ms : Nat} {E : KEnd} {ls : KL} {st : List KV} {M : KM} {cs sl : Nat} (hC : KC X mL_law 8 false S mc ms) (hE : KRet X mL_law E) (h : kblk (kroom mL_law mc ms) S E (KW X) kbL_law_489 489 ls st M cs sl) : KW X 489 ls st M cs sl := KW_blk hC hE kbL_law_489 489 ls st M cs sl (by decide +kernel) h
def kbL_law_491 : List KE := [(.iload 5, 2, (5, 0, 0), 0, 0), (.ifCond .ne (15), 3, (508, 0, 0), 0, 0)]
theorem kwL_law_491 {X : KX} {S : KS} {mc ms : Nat} {E : KEnd} {ls : KL} {st : List KV} {M : KM} {cs sl : Nat} (hC : KC X mL_law 8 false S mc ms) (hE : KRet X mL_law E) (h : kblk (kroom mL_law mc ms) S E (KW X) kbL_law_491 491 ls st M cs sl) : KW X 491 ls st M cs sl := KW_blk hC hE kbL_law_491 491 ls st M cs sl (by decide +kernel) h
def kbL_law_496 : List KE := [(.aload_n 3, 1, (3, 0, 0), 0, 0), (.iconst 0, 1, (0, 0, 0), 0, 0), (.laload, 1, (0, 0, 0), 0, 0), (.iload 6, 2, (6, 0, 0), 0, 0), (.i2l, 1, (0, 0, 0), 0, 0), (.lcmp, 1, (0, 0, 0), 0, 0), (.ifCond .eq (5), 3, (508, 0, 0), 0, 0)]
theorem kwL_law_496 {X : KX} {S : KS} {mc ms : Nat} {E : KEnd} {ls : KL} {st : List KV} {M : KM} {cs sl : Nat} (hC : KC X mL_law 8 false S mc ms) (hE : KRet X mL_law E) (h : kblk (kroom mL_law mc ms) S E (KW X) kbL_law_496 496 ls st M cs sl) : KW X 496 ls st M cs sl := KW_blk hC hE kbL_law_496 496 ls st M cs sl (by decide +kernel) h
def kbL_law_506 : List KE := [(.iconst 0, 1, (0, 0, 0), 0, 0), (.ireturn, 1, (0, 0, 0), 0, 0)]
theorem kwL_law_506 {X : KX} {S : KS} {mc ms : Nat} {E : KEnd} {ls : KL} {st : List KV} {M : KM} {cs sl : Nat} (hC : KC X mL_law 8 false S mc ms) (hE : KRet X mL_law E) (h : kblk (kroom mL_law mc ms) S E (KW X) kbL_law_506 506 ls st M cs sl) : KW X 506 ls st M cs sl := KW_blk hC hE kbL_law_506 506 ls st M cs sl (by decide +kernel) h
def kbL_law_508 : List KE := [(.goto (950), 3, (1458, 0, 0), 0, 0)]
theorem kwL_law_508 {X : KX} {S : KS} {mc ms : Nat} {E : KEnd} {ls : KL} {st : List KV} {M : KM} {cs sl : Nat} (hC : KC X mL_law 8 false S mc ms) (hE : KRet X mL_law E) (h : kblk (kroom mL_law mc ms) S E (KW X) kbL_law_508 508 ls st M cs sl) : KW X 508 ls st M cs sl := KW_blk hC hE kbL_law_508 508 ls st M cs sl (by decide +kernel) h
def kbL_law_511 : List KE := [(.aload_n 1, 1, (1, 0, 0), 0, 0), (.aload_n 0, 1, (0, 0, 0), 0, 0), (.iload 4, 2, (4, 0, 0), 0, 0), (.iconst 1, 1, (0, 0, 0), 1, 0), (.iadd, 1, (0, 0, 0), 0, 0), (.iaload, 1, (0, 0, 0), 0, 0), (.aload_n 0, 1, (0, 0, 0), 0, 0), (.iload 4, 2, (4, 0, 0), 0, 0), (.iconst 2, 1, (0, 0, 0), 2, 0), (.iadd, 1, (0, 0, 0), 0, 0), (.iaload, 1, (0, 0, 0), 0, 0), (.aload_n 0, 1, (0, 0, 0), 0, 0), (.iload 4, 2, (4, 0, 0), 0, 0), (.iconst 3, 1, (0, 0, 0), 3, 0), (.iadd, 1, (0, 0, 0), 0, 0), (.iaload, 1, (0, 0, 0), 0, 0), (.aload_n 3, 1, (3, 0, 0), 0, 0)]
theorem kwL_law_511 {X : KX} {S : KS} {mc ms : Nat} {E : KEnd} {ls : KL} {st : List KV} {M : KM} {cs sl : Nat} (hC : KC X mL_law 8 false S mc ms) (hE : KRet X mL_law E) (h : kblk (kroom mL_law mc ms) S E (KW X) kbL_law_511 511 ls st M cs sl) : KW X 511 ls st M cs sl := KW_blk hC hE kbL_law_511 511 ls st M cs sl (by decide +kernel) h
def kbL_law_534 : List KE := [(.istore 5, 2, (5, 0, 0), 0, 0), (.aload_n 2, 1, (2, 0, 0), 0, 0), (.aload_n 0, 1, (0, 0, 0), 0, 0), (.iload 4, 2, (4, 0, 0), 0, 0), (.iconst 1, 1, (0, 0, 0), 1, 0), (.iadd, 1, (0, 0, 0), 0, 0), (.iaload, 1, (0, 0, 0), 0, 0), (.aload_n 0, 1, (0, 0, 0), 0, 0), (.iload 4, 2, (4, 0, 0), 0, 0), (.iconst 2, 1, (0, 0, 0), 2, 0), (.iadd, 1, (0, 0, 0), 0, 0), (.iaload, 1, (0, 0, 0), 0, 0), (.aload_n 0, 1, (0, 0, 0), 0, 0), (.iload 4, 2, (4, 0, 0), 0, 0), (.iconst 3, 1, (0, 0, 0), 3, 0), (.iadd, 1, (0, 0, 0), 0, 0), (.iaload, 1, (0, 0, 0), 0, 0)]
theorem kwL_law_534 {X : KX} {S : KS} {mc ms : Nat} {E : KEnd} {ls : KL} {st : List KV} {M : KM} {cs sl : Nat} (hC : KC X mL_law 8 false S mc ms) (hE : KRet X mL_law E) (h : kblk (kroom mL_law mc ms) S E (KW X) kbL_law_534 534 ls st M cs sl) : KW X 534 ls st M cs sl := KW_blk hC hE kbL_law_534 534 ls st M cs sl (by decide +kernel) h
def kbL_law_558 : List KE := [(.istore 6, 2, (6, 0, 0), 0, 0), (.aload_n 2, 1, (2, 0, 0), 0, 0)]
theorem kwL_law_558 {X : KX} {S : KS} {mc ms : Nat} {E : KEnd} {ls : KL} {st : List KV} {M : KM} {cs sl : Nat} (hC : KC X mL_law 8 false S mc ms) (hE : KRet X mL_law E) (h : kblk (kroom mL_law mc ms) S E (KW X) kbL_law_558 558 ls st M cs sl) : KW X 558 ls st M cs sl := KW_blk hC hE kbL_law_558 558 ls st M cs sl (by decide +kernel) h
def kbL_law_564 : List KE := [(.iload 5, 2, (5, 0, 0), 0, 0), (.if_icmp .eq (5), 3, (571, 0, 0), 0, 0)]
theorem kwL_law_564 {X : KX} {S : KS} {mc ms : Nat} {E : KEnd} {ls : KL} {st : List KV} {M : KM} {cs sl : Nat} (hC : KC X mL_law 8 false S mc ms) (hE : KRet X mL_law E) (h : kblk (kroom mL_law mc ms) S E (KW X) kbL_law_564 564 ls st M cs sl) : KW X 564 ls st M cs sl := KW_blk hC hE kbL_law_564 564 ls st M cs sl (by decide +kernel) h
def kbL_law_569 : List KE := [(.iconst 0, 1, (0, 0, 0), 0, 0), (.ireturn, 1, (0, 0, 0), 0, 0)]
theorem kwL_law_569 {X : KX} {S : KS} {mc ms : Nat} {E : KEnd} {ls : KL} {st : List KV} {M : KM} {cs sl : Nat} (hC : KC X mL_law 8 false S mc ms) (hE : KRet X mL_law E) (h : kblk (kroom mL_law mc ms) S E (KW X) kbL_law_569 569 ls st M cs sl) : KW X 569 ls st M cs sl := KW_blk hC hE kbL_law_569 569 ls st M cs sl (by decide +kernel) h
def kbL_law_571 : List KE := [(.iload 5, 2, (5, 0, 0), 0, 0), (.ifCond .ne (15), 3, (588, 0, 0), 0, 0)]
theorem kwL_law_571 {X : KX} {S : KS} {mc ms : Nat} {E : KEnd} {ls : KL} {st : List KV} {M : KM} {cs sl : Nat} (hC : KC X mL_law 8 false S mc ms) (hE : KRet X mL_law E) (h : kblk (kroom mL_law mc ms) S E (KW X) kbL_law_571 571 ls st M cs sl) : KW X 571 ls st M cs sl := KW_blk hC hE kbL_law_571 571 ls st M cs sl (by decide +kernel) h
def kbL_law_576 : List KE := [(.aload_n 3, 1, (3, 0, 0), 0, 0), (.iconst 0, 1, (0, 0, 0), 0, 0), (.laload, 1, (0, 0, 0), 0, 0), (.iload 6, 2, (6, 0, 0), 0, 0), (.i2l, 1, (0, 0, 0), 0, 0), (.lcmp, 1, (0, 0, 0), 0, 0), (.ifCond .eq (5), 3, (588, 0, 0), 0, 0)]
theorem kwL_law_576 {X : KX} {S : KS} {mc ms : Nat} {E : KEnd} {ls : KL} {st : List KV} {M : KM} {cs sl : Nat} (hC : KC X mL_law 8 false S mc ms) (hE : KRet X mL_law E) (h : kblk (kroom mL_law mc ms) S E (KW X) kbL_law_576 576 ls st M cs sl) : KW X 576 ls st M cs sl := KW_blk hC hE kbL_law_576 576 ls st M cs sl (by decide +kernel) h
def kbL_law_586 : List KE := [(.iconst 0, 1, (0, 0, 0), 0, 0), (.ireturn, 1, (0, 0, 0), 0, 0)]
theorem kwL_law_586 {X : KX} {S : KS} {mc ms : Nat} {E : KEnd} {ls : KL} {st : List KV} {M : KM} {cs sl : Nat} (hC : KC X mL_law 8 false S mc ms) (hE : KRet X mL_law E) (h : kblk (kroom mL_law mc ms) S E (KW X) kbL_law_586 586 ls st M cs sl) : KW X 586 ls st M cs sl := KW_blk hC hE kbL_law_586 586 ls st M cs sl (by decide +kernel) h
def kbL_law_588 : List KE := [(.goto (870), 3, (1458, 0, 0), 0, 0)]
theorem kwL_law_588 {X : KX} {S : KS} {mc ms : Nat} {E : KEnd} {ls : KL} {st : List KV} {M : KM} {cs sl : Nat} (hC : KC X mL_law 8 false S mc ms) (hE : KRet X mL_law E) (h : kblk (kroom mL_law mc ms) S E (KW X) kbL_law_588 588 ls st M cs sl) : KW X 588 ls st M cs sl := KW_blk hC hE kbL_law_588 588 ls st M cs sl (by decide +kernel) h
def kbL_law_591 : List KE := [(.aload_n 1, 1, (1, 0, 0), 0, 0), (.aload_n 0, 1, (0, 0, 0), 0, 0), (.iload 4, 2, (4, 0, 0), 0, 0), (.iconst 1, 1, (0, 0, 0), 1, 0), (.iadd, 1, (0, 0, 0), 0, 0), (.iaload, 1, (0, 0, 0), 0, 0), (.aload_n 0, 1, (0, 0, 0), 0, 0), (.iload 4, 2, (4, 0, 0), 0, 0), (.iconst 2, 1, (0, 0, 0), 2, 0), (.iadd, 1, (0, 0, 0), 0, 0), (.iaload, 1, (0, 0, 0), 0, 0), (.aload_n 3, 1, (3, 0, 0), 0, 0)]
theorem kwL_law_591 {X : KX} {S : KS} {mc ms : Nat} {E : KEnd} {ls : KL} {st : List KV} {M : KM} {cs sl : Nat} (hC : KC X mL_law 8 false S mc ms) (hE : KRet X mL_law E) (h : kblk (kroom mL_law mc ms) S E (KW X) kbL_law_591 591 ls st M cs sl) : KW X 591 ls st M cs sl := KW_blk hC hE kbL_law_591 591 ls st M cs sl (by decide +kernel) h
def kbL_law_608 : List KE := [(.istore 5, 2, (5, 0, 0), 0, 0), (.aload_n 2, 1, (2, 0, 0), 0, 0), (.aload_n 0, 1, (0, 0, 0), 0, 0), (.iload 4, 2, (4, 0, 0), 0, 0), (.iconst 1, 1, (0, 0, 0), 1, 0), (.iadd, 1, (0, 0, 0), 0, 0), (.iaload, 1, (0, 0, 0), 0, 0), (.aload_n 0, 1, (0, 0, 0), 0, 0), (.iload 4, 2, (4, 0, 0), 0, 0), (.iconst 2, 1, (0, 0, 0), 2, 0), (.iadd, 1, (0, 0, 0), 0, 0), (.iaload, 1, (0, 0, 0), 0, 0)]
theorem kwL_law_608 {X : KX} {S : KS} {mc ms : Nat} {E : KEnd} {ls : KL} {st : List KV} {M : KM} {cs sl : Nat} (hC : KC X mL_law 8 false S mc ms) (hE : KRet X mL_law E) (h : kblk (kroom mL_law mc ms) S E (KW X) kbL_law_608 608 ls st M cs sl) : KW X 608 ls st M cs sl := KW_blk hC hE kbL_law_608 608 ls st M cs sl (by decide +kernel) h
def kbL_law_626 : List KE := [(.istore 6, 2, (6, 0, 0), 0, 0), (.aload_n 2, 1, (2, 0, 0), 0, 0)]
theorem kwL_law_626 {X : KX} {S : KS} {mc ms : Nat} {E : KEnd} {ls : KL} {st : List KV} {M : KM} {cs sl : Nat} (hC : KC X mL_law 8 false S mc ms) (hE : KRet X mL_law E) (h : kblk (kroom mL_law mc ms) S E (KW X) kbL_law_626 626 ls st M cs sl) : KW X 626 ls st M cs sl := KW_blk hC hE kbL_law_626 626 ls st M cs sl (by decide +kernel) h
def kbL_law_632 : List KE := [(.iload 5, 2, (5, 0, 0), 0, 0), (.if_icmp .eq (5), 3, (639, 0, 0), 0, 0)]
theorem kwL_law_632 {X : KX} {S : KS} {mc ms : Nat} {E : KEnd} {ls : KL} {st : List KV} {M : KM} {cs sl : Nat} (hC : KC X mL_law 8 false S mc ms) (hE : KRet X mL_law E) (h : kblk (kroom mL_law mc ms) S E (KW X) kbL_law_632 632 ls st M cs sl) : KW X 632 ls st M cs sl := KW_blk hC hE kbL_law_632 632 ls st M cs sl (by decide +kernel) h
def kbL_law_637 : List KE := [(.iconst 0, 1, (0, 0, 0), 0, 0), (.ireturn, 1, (0, 0, 0), 0, 0)]
theorem kwL_law_637 {X : KX} {S : KS} {mc ms : Nat} {E : KEnd} {ls : KL} {st : List KV} {M : KM} {cs sl : Nat} (hC : KC X mL_law 8 false S mc ms) (hE : KRet X mL_law E) (h : kblk (kroom mL_law mc ms) S E (KW X) kbL_law_637 637 ls st M cs sl) : KW X 637 ls st M cs sl := KW_blk hC hE kbL_law_637 637 ls st M cs sl (by decide +kernel) h
def kbL_law_639 : List KE := [(.iload 5, 2, (5, 0, 0), 0, 0), (.ifCond .ne (15), 3, (656, 0, 0), 0, 0)]
theorem kwL_law_639 {X : KX} {S : KS} {mc ms : Nat} {E : KEnd} {ls : KL} {st : List KV} {M : KM} {cs sl : Nat} (hC : KC X mL_law 8 false S mc ms) (hE : KRet X mL_law E) (h : kblk (kroom mL_law mc ms) S E (KW X) kbL_law_639 639 ls st M cs sl) : KW X 639 ls st M cs sl := KW_blk hC hE kbL_law_639 639 ls st M cs sl (by decide +kernel) h
def kbL_law_644 : List KE := [(.aload_n 3, 1, (3, 0, 0), 0, 0), (.iconst 0, 1, (0, 0, 0), 0, 0), (.laload, 1, (0, 0, 0), 0, 0), (.iload 6, 2, (6, 0, 0), 0, 0), (.i2l, 1, (0, 0, 0), 0, 0), (.lcmp, 1, (0, 0, 0), 0, 0), (.ifCond .eq (5), 3, (656, 0, 0), 0, 0)]
theorem kwL_law_644 {X : KX} {S : KS} {mc ms : Nat} {E : KEnd} {ls : KL} {st : List KV} {M : KM} {cs sl : Nat} (hC : KC X mL_law 8 false S mc ms) (hE : KRet X mL_law E) (h : kblk (kroom mL_law mc ms) S E (KW X) kbL_law_644 644 ls st M cs sl) : KW X 644 ls st M cs sl := KW_blk hC hE kbL_law_644 644 ls st M cs sl (by decide +kernel) h
def kbL_law_654 : List KE := [(.iconst 0, 1, (0, 0, 0), 0, 0), (.ireturn, 1, (0, 0, 0), 0, 0)]
theorem kwL_law_654 {X : KX} {S : KS} {mc ms : Nat} {E : KEnd} {ls : KL} {st : List KV} {M : KM} {cs sl : Nat} (hC : KC X mL_law 8 false S mc ms) (hE : KRet X mL_law E) (h : kblk (kroom mL_law mc ms) S E (KW X) kbL_law_654 654 ls st M cs sl) : KW X 654 ls st M cs sl := KW_blk hC hE kbL_law_654 654 ls st M cs sl (by decide +kernel) h
def kbL_law_656 : List KE := [(.goto (802), 3, (1458, 0, 0), 0, 0)]
theorem kwL_law_656 {X : KX} {S : KS} {mc ms : Nat} {E : KEnd} {ls : KL} {st : List KV} {M : KM} {cs sl : Nat} (hC : KC X mL_law 8 false S mc ms) (hE : KRet X mL_law E) (h : kblk (kroom mL_law mc ms) S E (KW X) kbL_law_656 656 ls st M cs sl) : KW X 656 ls st M cs sl := KW_blk hC hE kbL_law_656 656 ls st M cs sl (by decide +kernel) h
def kbL_law_659 : List KE := [(.aload_n 1, 1, (1, 0, 0), 0, 0), (.aload_n 0, 1, (0, 0, 0), 0, 0), (.iload 4, 2, (4, 0, 0), 0, 0), (.iconst 1, 1, (0, 0, 0), 1, 0), (.iadd, 1, (0, 0, 0), 0, 0), (.iaload, 1, (0, 0, 0), 0, 0), (.aload_n 3, 1, (3, 0, 0), 0, 0)]
theorem kwL_law_659 {X : KX} {S : KS} {mc ms : Nat} {E : KEnd} {ls : KL} {st : List KV} {M : KM} {cs sl : Nat} (hC : KC X mL_law 8 false S mc ms) (hE : KRet X mL_law E) (h : kblk (kroom mL_law mc ms) S E (KW X) kbL_law_659 659 ls st M cs sl) : KW X 659 ls st M cs sl := KW_blk hC hE kbL_law_659 659 ls st M cs sl (by decide +kernel) h
def kbL_law_670 : List KE := [(.istore 5, 2, (5, 0, 0), 0, 0), (.aload_n 2, 1, (2, 0, 0), 0, 0), (.aload_n 0, 1, (0, 0, 0), 0, 0), (.iload 4, 2, (4, 0, 0), 0, 0), (.iconst 1, 1, (0, 0, 0), 1, 0), (.iadd, 1, (0, 0, 0), 0, 0), (.iaload, 1, (0, 0, 0), 0, 0)]
theorem kwL_law_670 {X : KX} {S : KS} {mc ms : Nat} {E : KEnd} {ls : KL} {st : List KV} {M : KM} {cs sl : Nat} (hC : KC X mL_law 8 false S mc ms) (hE : KRet X mL_law E) (h : kblk (kroom mL_law mc ms) S E (KW X) kbL_law_670 670 ls st M cs sl) : KW X 670 ls st M cs sl := KW_blk hC hE kbL_law_670 670 ls st M cs sl (by decide +kernel) h
def kbL_law_682 : List KE := [(.istore 6, 2, (6, 0, 0), 0, 0), (.aload_n 2, 1, (2, 0, 0), 0, 0)]
theorem kwL_law_682 {X : KX} {S : KS} {mc ms : Nat} {E : KEnd} {ls : KL} {st : List KV} {M : KM} {cs sl : Nat} (hC : KC X mL_law 8 false S mc ms) (hE : KRet X mL_law E) (h : kblk (kroom mL_law mc ms) S E (KW X) kbL_law_682 682 ls st M cs sl) : KW X 682 ls st M cs sl := KW_blk hC hE kbL_law_682 682 ls st M cs sl (by decide +kernel) h
def kbL_law_688 : List KE := [(.iload 5, 2, (5, 0, 0), 0, 0), (.if_icmp .eq (5), 3, (695, 0, 0), 0, 0)]
theorem kwL_law_688 {X : KX} {S : KS} {mc ms : Nat} {E : KEnd} {ls : KL} {st : List KV} {M : KM} {cs sl : Nat} (hC : KC X mL_law 8 false S mc ms) (hE : KRet X mL_law E) (h : kblk (kroom mL_law mc ms) S E (KW X) kbL_law_688 688 ls st M cs sl) : KW X 688 ls st M cs sl := KW_blk hC hE kbL_law_688 688 ls st M cs sl (by decide +kernel) h
def kbL_law_693 : List KE := [(.iconst 0, 1, (0, 0, 0), 0, 0), (.ireturn, 1, (0, 0, 0), 0, 0)]
theorem kwL_law_693 {X : KX} {S : KS} {mc ms : Nat} {E : KEnd} {ls : KL} {st : List KV} {M : KM} {cs sl : Nat} (hC : KC X mL_law 8 false S mc ms) (hE : KRet X mL_law E) (h : kblk (kroom mL_law mc ms) S E (KW X) kbL_law_693 693 ls st M cs sl) : KW X 693 ls st M cs sl := KW_blk hC hE kbL_law_693 693 ls st M cs sl (by decide +kernel) h
def kbL_law_695 : List KE := [(.iload 5, 2, (5, 0, 0), 0, 0), (.ifCond .ne (15), 3, (712, 0, 0), 0, 0)]
theorem kwL_law_695 {X : KX} {S : KS} {mc ms : Nat} {E : KEnd} {ls : KL} {st : List KV} {M : KM} {cs sl : Nat} (hC : KC X mL_law 8 false S mc ms) (hE : KRet X mL_law E) (h : kblk (kroom mL_law mc ms) S E (KW X) kbL_law_695 695 ls st M cs sl) : KW X 695 ls st M cs sl := KW_blk hC hE kbL_law_695 695 ls st M cs sl (by decide +kernel) h
def kbL_law_700 : List KE := [(.aload_n 3, 1, (3, 0, 0), 0, 0), (.iconst 0, 1, (0, 0, 0), 0, 0), (.laload, 1, (0, 0, 0), 0, 0), (.iload 6, 2, (6, 0, 0), 0, 0), (.i2l, 1, (0, 0, 0), 0, 0), (.lcmp, 1, (0, 0, 0), 0, 0), (.ifCond .eq (5), 3, (712, 0, 0), 0, 0)]
theorem kwL_law_700 {X : KX} {S : KS} {mc ms : Nat} {E : KEnd} {ls : KL} {st : List KV} {M : KM} {cs sl : Nat} (hC : KC X mL_law 8 false S mc ms) (hE : KRet X mL_law E) (h : kblk (kroom mL_law mc ms) S E (KW X) kbL_law_700 700 ls st M cs sl) : KW X 700 ls st M cs sl := KW_blk hC hE kbL_law_700 700 ls st M cs sl (by decide +kernel) h
def kbL_law_710 : List KE := [(.iconst 0, 1, (0, 0, 0), 0, 0), (.ireturn, 1, (0, 0, 0), 0, 0)]
theorem kwL_law_710 {X : KX} {S : KS} {mc ms : Nat} {E : KEnd} {ls : KL} {st : List KV} {M : KM} {cs sl : Nat} (hC : KC X mL_law 8 false S mc ms) (hE : KRet X mL_law E) (h : kblk (kroom mL_law mc ms) S E (KW X) kbL_law_710 710 ls st M cs sl) : KW X 710 ls st M cs sl := KW_blk hC hE kbL_law_710 710 ls st M cs sl (by decide +kernel) h
def kbL_law_712 : List KE := [(.goto (746), 3, (1458, 0, 0), 0, 0)]
theorem kwL_law_712 {X : KX} {S : KS} {mc ms : Nat} {E : KEnd} {ls : KL} {st : List KV} {M : KM} {cs sl : Nat} (hC : KC X mL_law 8 false S mc ms) (hE : KRet X mL_law E) (h : kblk (kroom mL_law mc ms) S E (KW X) kbL_law_712 712 ls st M cs sl) : KW X 712 ls st M cs sl := KW_blk hC hE kbL_law_712 712 ls st M cs sl (by decide +kernel) h
def kbL_law_715 : List KE := [(.aload_n 1, 1, (1, 0, 0), 0, 0), (.aload_n 0, 1, (0, 0, 0), 0, 0), (.iload 4, 2, (4, 0, 0), 0, 0), (.iconst 1, 1, (0, 0, 0), 1, 0), (.iadd, 1, (0, 0, 0), 0, 0), (.iaload, 1, (0, 0, 0), 0, 0), (.aload_n 0, 1, (0, 0, 0), 0, 0), (.iload 4, 2, (4, 0, 0), 0, 0), (.iconst 2, 1, (0, 0, 0), 2, 0), (.iadd, 1, (0, 0, 0), 0, 0), (.iaload, 1, (0, 0, 0), 0, 0), (.aload_n 3, 1, (3, 0, 0), 0, 0)]
theorem kwL_law_715 {X : KX} {S : KS} {mc ms : Nat} {E : KEnd} {ls : KL} {st : List KV} {M : KM} {cs sl : Nat} (hC : KC X mL_law 8 false S mc ms) (hE : KRet X mL_law E) (h : kblk (kroom mL_law mc ms) S E (KW X) kbL_law_715 715 ls st M cs sl) : KW X 715 ls st M cs sl := KW_blk hC hE kbL_law_715 715 ls st M cs sl (by decide +kernel) h
def kbL_law_732 : List KE := [(.istore 5, 2, (5, 0, 0), 0, 0), (.aload_n 2, 1, (2, 0, 0), 0, 0), (.aload_n 0, 1, (0, 0, 0), 0, 0), (.iload 4, 2, (4, 0, 0), 0, 0), (.iconst 1, 1, (0, 0, 0), 1, 0), (.iadd, 1, (0, 0, 0), 0, 0), (.iaload, 1, (0, 0, 0), 0, 0), (.aload_n 0, 1, (0, 0, 0), 0, 0), (.iload 4, 2, (4, 0, 0), 0, 0), (.iconst 2, 1, (0, 0, 0), 2, 0), (.iadd, 1, (0, 0, 0), 0, 0), (.iaload, 1, (0, 0, 0), 0, 0)]
theorem kwL_law_732 {X : KX} {S : KS} {mc ms : Nat} {E : KEnd} {ls : KL} {st : List KV} {M : KM} {cs sl : Nat} (hC : KC X mL_law 8 false S mc ms) (hE : KRet X mL_law E) (h : kblk (kroom mL_law mc ms) S E (KW X) kbL_law_732 732 ls st M cs sl) : KW X 732 ls st M cs sl := KW_blk hC hE kbL_law_732 732 ls st M cs sl (by decide +kernel) h
def kbL_law_750 : List KE := [(.istore 6, 2, (6, 0, 0), 0, 0), (.aload_n 2, 1, (2, 0, 0), 0, 0)]
theorem kwL_law_750 {X : KX} {S : KS} {mc ms : Nat} {E : KEnd} {ls : KL} {st : List KV} {M : KM} {cs sl : Nat} (hC : KC X mL_law 8 false S mc ms) (hE : KRet X mL_law E) (h : kblk (kroom mL_law mc ms) S E (KW X) kbL_law_750 750 ls st M cs sl) : KW X 750 ls st M cs sl := KW_blk hC hE kbL_law_750 750 ls st M cs sl (by decide +kernel) h
def kbL_law_756 : List KE := [(.iload 5, 2, (5, 0, 0), 0, 0), (.if_icmp .eq (5), 3, (763, 0, 0), 0, 0)]
theorem kwL_law_756 {X : KX} {S : KS} {mc ms : Nat} {E : KEnd} {ls : KL} {st : List KV} {M : KM} {cs sl : Nat} (hC : KC X mL_law 8 false S mc ms) (hE : KRet X mL_law E) (h : kblk (kroom mL_law mc ms) S E (KW X) kbL_law_756 756 ls st M cs sl) : KW X 756 ls st M cs sl := KW_blk hC hE kbL_law_756 756 ls st M cs sl (by decide +kernel) h
def kbL_law_761 : List KE := [(.iconst 0, 1, (0, 0, 0), 0, 0), (.ireturn, 1, (0, 0, 0), 0, 0)]
theorem kwL_law_761 {X : KX} {S : KS} {mc ms : Nat} {E : KEnd} {ls : KL} {st : List KV} {M : KM} {cs sl : Nat} (hC : KC X mL_law 8 false S mc ms) (hE : KRet X mL_law E) (h : kblk (kroom mL_law mc ms) S E (KW X) kbL_law_761 761 ls st M cs sl) : KW X 761 ls st M cs sl := KW_blk hC hE kbL_law_761 761 ls st M cs sl (by decide +kernel) h
def kbL_law_763 : List KE := [(.iload 5, 2, (5, 0, 0), 0, 0), (.ifCond .ne (15), 3, (780, 0, 0), 0, 0)]
theorem kwL_law_763 {X : KX} {S : KS} {mc ms : Nat} {E : KEnd} {ls : KL} {st : List KV} {M : KM} {cs sl : Nat} (hC : KC X mL_law 8 false S mc ms) (hE : KRet X mL_law E) (h : kblk (kroom mL_law mc ms) S E (KW X) kbL_law_763 763 ls st M cs sl) : KW X 763 ls st M cs sl := KW_blk hC hE kbL_law_763 763 ls st M cs sl (by decide +kernel) h
def kbL_law_768 : List KE := [(.aload_n 3, 1, (3, 0, 0), 0, 0), (.iconst 0, 1, (0, 0, 0), 0, 0), (.laload, 1, (0, 0, 0), 0, 0), (.iload 6, 2, (6, 0, 0), 0, 0), (.i2l, 1, (0, 0, 0), 0, 0), (.lcmp, 1, (0, 0, 0), 0, 0), (.ifCond .eq (5), 3, (780, 0, 0), 0, 0)]
theorem kwL_law_768 {X : KX} {S : KS} {mc ms : Nat} {E : KEnd} {ls : KL} {st : List KV} {M : KM} {cs sl : Nat} (hC : KC X mL_law 8 false S mc ms) (hE : KRet X mL_law E) (h : kblk (kroom mL_law mc ms) S E (KW X) kbL_law_768 768 ls st M cs sl) : KW X 768 ls st M cs sl := KW_blk hC hE kbL_law_768 768 ls st M cs sl (by decide +kernel) h
def kbL_law_778 : List KE := [(.iconst 0, 1, (0, 0, 0), 0, 0), (.ireturn, 1, (0, 0, 0), 0, 0)]
theorem kwL_law_778 {X : KX} {S : KS} {mc ms : Nat} {E : KEnd} {ls : KL} {st : List KV} {M : KM} {cs sl : Nat} (hC : KC X mL_law 8 false S mc ms) (hE : KRet X mL_law E) (h : kblk (kroom mL_law mc ms) S E (KW X) kbL_law_778 778 ls st M cs sl) : KW X 778 ls st M cs sl := KW_blk hC hE kbL_law_778 778 ls st M cs sl (by decide +kernel) h
def kbL_law_780 : List KE := [(.goto (678), 3, (1458, 0, 0), 0, 0)]
theorem kwL_law_780 {X : KX} {S : KS} {mc ms : Nat} {E : KEnd} {ls : KL} {st : List KV} {M : KM} {cs sl : Nat} (hC : KC X mL_law 8 false S mc ms) (hE : KRet X mL_law E) (h : kblk (kroom mL_law mc ms) S E (KW X) kbL_law_780 780 ls st M cs sl) : KW X 780 ls st M cs sl := KW_blk hC hE kbL_law_780 780 ls st M cs sl (by decide +kernel) h
def kbL_law_783 : List KE := [(.aload_n 1, 1, (1, 0, 0), 0, 0), (.aload_n 0, 1, (0, 0, 0), 0, 0), (.iload 4, 2, (4, 0, 0), 0, 0), (.iconst 1, 1, (0, 0, 0), 1, 0), (.iadd, 1, (0, 0, 0), 0, 0), (.iaload, 1, (0, 0, 0), 0, 0), (.aload_n 0, 1, (0, 0, 0), 0, 0), (.iload 4, 2, (4, 0, 0), 0, 0), (.iconst 2, 1, (0, 0, 0), 2, 0), (.iadd, 1, (0, 0, 0), 0, 0), (.iaload, 1, (0, 0, 0), 0, 0), (.aload_n 3, 1, (3, 0, 0), 0, 0)]
theorem kwL_law_783 {X : KX} {S : KS} {mc ms : Nat} {E : KEnd} {ls : KL} {st : List KV} {M : KM} {cs sl : Nat} (hC : KC X mL_law 8 false S mc ms) (hE : KRet X mL_law E) (h : kblk (kroom mL_law mc ms) S E (KW X) kbL_law_783 783 ls st M cs sl) : KW X 783 ls st M cs sl := KW_blk hC hE kbL_law_783 783 ls st M cs sl (by decide +kernel) h
def kbL_law_800 : List KE := [(.istore 5, 2, (5, 0, 0), 0, 0), (.aload_n 2, 1, (2, 0, 0), 0, 0), (.aload_n 0, 1, (0, 0, 0), 0, 0), (.iload 4, 2, (4, 0, 0), 0, 0), (.iconst 1, 1, (0, 0, 0), 1, 0), (.iadd, 1, (0, 0, 0), 0, 0), (.iaload, 1, (0, 0, 0), 0, 0), (.aload_n 0, 1, (0, 0, 0), 0, 0), (.iload 4, 2, (4, 0, 0), 0, 0), (.iconst 2, 1, (0, 0, 0), 2, 0), (.iadd, 1, (0, 0, 0), 0, 0), (.iaload, 1, (0, 0, 0), 0, 0)]
theorem kwL_law_800 {X : KX} {S : KS} {mc ms : Nat} {E : KEnd} {ls : KL} {st : List KV} {M : KM} {cs sl : Nat} (hC : KC X mL_law 8 false S mc ms) (hE : KRet X mL_law E) (h : kblk (kroom mL_law mc ms) S E (KW X) kbL_law_800 800 ls st M cs sl) : KW X 800 ls st M cs sl := KW_blk hC hE kbL_law_800 800 ls st M cs sl (by decide +kernel) h
def kbL_law_818 : List KE := [(.istore 6, 2, (6, 0, 0), 0, 0), (.aload_n 2, 1, (2, 0, 0), 0, 0)]
theorem kwL_law_818 {X : KX} {S : KS} {mc ms : Nat} {E : KEnd} {ls : KL} {st : List KV} {M : KM} {cs sl : Nat} (hC : KC X mL_law 8 false S mc ms) (hE : KRet X mL_law E) (h : kblk (kroom mL_law mc ms) S E (KW X) kbL_law_818 818 ls st M cs sl) : KW X 818 ls st M cs sl := KW_blk hC hE kbL_law_818 818 ls st M cs sl (by decide +kernel) h
def kbL_law_824 : List KE := [(.iload 5, 2, (5, 0, 0), 0, 0), (.if_icmp .eq (5), 3, (831, 0, 0), 0, 0)]
theorem kwL_law_824 {X : KX} {S : KS} {mc ms : Nat} {E : KEnd} {ls : KL} {st : List KV} {M : KM} {cs sl : Nat} (hC : KC X mL_law 8 false S mc ms) (hE : KRet X mL_law E) (h : kblk (kroom mL_law mc ms) S E (KW X) kbL_law_824 824 ls st M cs sl) : KW X 824 ls st M cs sl := KW_blk hC hE kbL_law_824 824 ls st M cs sl (by decide +kernel) h
def kbL_law_829 : List KE := [(.iconst 0, 1, (0, 0, 0), 0, 0), (.ireturn, 1, (0, 0, 0), 0, 0)]
theorem kwL_law_829 {X : KX} {S : KS} {mc ms : Nat} {E : KEnd} {ls : KL} {st : List KV} {M : KM} {cs sl : Nat} (hC : KC X mL_law 8 false S mc ms) (hE : KRet X mL_law E) (h : kblk (kroom mL_law mc ms) S E (KW X) kbL_law_829 829 ls st M cs sl) : KW X 829 ls st M cs sl := KW_blk hC hE kbL_law_829 829 ls st M cs sl (by decide +kernel) h
def kbL_law_831 : List KE := [(.iload 5, 2, (5, 0, 0), 0, 0), (.ifCond .ne (15), 3, (848, 0, 0), 0, 0)]
theorem kwL_law_831 {X : KX} {S : KS} {mc ms : Nat} {E : KEnd} {ls : KL} {st : List KV} {M : KM} {cs sl : Nat} (hC : KC X mL_law 8 false S mc ms) (hE : KRet X mL_law E) (h : kblk (kroom mL_law mc ms) S E (KW X) kbL_law_831 831 ls st M cs sl) : KW X 831 ls st M cs sl := KW_blk hC hE kbL_law_831 831 ls st M cs sl (by decide +kernel) h
def kbL_law_836 : List KE := [(.aload_n 3, 1, (3, 0, 0), 0, 0), (.iconst 0, 1, (0, 0, 0), 0, 0), (.laload, 1, (0, 0, 0), 0, 0), (.iload 6, 2, (6, 0, 0), 0, 0), (.i2l, 1, (0, 0, 0), 0, 0), (.lcmp, 1, (0, 0, 0), 0, 0), (.ifCond .eq (5), 3, (848, 0, 0), 0, 0)]
theorem kwL_law_836 {X : KX} {S : KS} {mc ms : Nat} {E : KEnd} {ls : KL} {st : List KV} {M : KM} {cs sl : Nat} (hC : KC X mL_law 8 false S mc ms) (hE : KRet X mL_law E) (h : kblk (kroom mL_law mc ms) S E (KW X) kbL_law_836 836 ls st M cs sl) : KW X 836 ls st M cs sl := KW_blk hC hE kbL_law_836 836 ls st M cs sl (by decide +kernel) h
def kbL_law_846 : List KE := [(.iconst 0, 1, (0, 0, 0), 0, 0), (.ireturn, 1, (0, 0, 0), 0, 0)]
theorem kwL_law_846 {X : KX} {S : KS} {mc ms : Nat} {E : KEnd} {ls : KL} {st : List KV} {M : KM} {cs sl : Nat} (hC : KC X mL_law 8 false S mc ms) (hE : KRet X mL_law E) (h : kblk (kroom mL_law mc ms) S E (KW X) kbL_law_846 846 ls st M cs sl) : KW X 846 ls st M cs sl := KW_blk hC hE kbL_law_846 846 ls st M cs sl (by decide +kernel) h
def kbL_law_848 : List KE := [(.goto (610), 3, (1458, 0, 0), 0, 0)]
theorem kwL_law_848 {X : KX} {S : KS} {mc ms : Nat} {E : KEnd} {ls : KL} {st : List KV} {M : KM} {cs sl : Nat} (hC : KC X mL_law 8 false S mc ms) (hE : KRet X mL_law E) (h : kblk (kroom mL_law mc ms) S E (KW X) kbL_law_848 848 ls st M cs sl) : KW X 848 ls st M cs sl := KW_blk hC hE kbL_law_848 848 ls st M cs sl (by decide +kernel) h
def kbL_law_851 : List KE := [(.aload_n 1, 1, (1, 0, 0), 0, 0), (.aload_n 0, 1, (0, 0, 0), 0, 0), (.iload 4, 2, (4, 0, 0), 0, 0), (.iconst 1, 1, (0, 0, 0), 1, 0), (.iadd, 1, (0, 0, 0), 0, 0), (.iaload, 1, (0, 0, 0), 0, 0), (.aload_n 0, 1, (0, 0, 0), 0, 0), (.iload 4, 2, (4, 0, 0), 0, 0), (.iconst 2, 1, (0, 0, 0), 2, 0), (.iadd, 1, (0, 0, 0), 0, 0), (.iaload, 1, (0, 0, 0), 0, 0), (.aload_n 3, 1, (3, 0, 0), 0, 0)]
theorem kwL_law_851 {X : KX} {S : KS} {mc ms : Nat} {E : KEnd} {ls : KL} {st : List KV} {M : KM} {cs sl : Nat} (hC : KC X mL_law 8 false S mc ms) (hE : KRet X mL_law E) (h : kblk (kroom mL_law mc ms) S E (KW X) kbL_law_851 851 ls st M cs sl) : KW X 851 ls st M cs sl := KW_blk hC hE kbL_law_851 851 ls st M cs sl (by decide +kernel) h
def kbL_law_868 : List KE := [(.istore 5, 2, (5, 0, 0), 0, 0), (.aload_n 2, 1, (2, 0, 0), 0, 0), (.aload_n 0, 1, (0, 0, 0), 0, 0), (.iload 4, 2, (4, 0, 0), 0, 0), (.iconst 1, 1, (0, 0, 0), 1, 0), (.iadd, 1, (0, 0, 0), 0, 0), (.iaload, 1, (0, 0, 0), 0, 0), (.aload_n 0, 1, (0, 0, 0), 0, 0), (.iload 4, 2, (4, 0, 0), 0, 0), (.iconst 2, 1, (0, 0, 0), 2, 0), (.iadd, 1, (0, 0, 0), 0, 0), (.iaload, 1, (0, 0, 0), 0, 0)]
theorem kwL_law_868 {X : KX} {S : KS} {mc ms : Nat} {E : KEnd} {ls : KL} {st : List KV} {M : KM} {cs sl : Nat} (hC : KC X mL_law 8 false S mc ms) (hE : KRet X mL_law E) (h : kblk (kroom mL_law mc ms) S E (KW X) kbL_law_868 868 ls st M cs sl) : KW X 868 ls st M cs sl := KW_blk hC hE kbL_law_868 868 ls st M cs sl (by decide +kernel) h
def kbL_law_886 : List KE := [(.istore 6, 2, (6, 0, 0), 0, 0), (.aload_n 2, 1, (2, 0, 0), 0, 0)]
theorem kwL_law_886 {X : KX} {S : KS} {mc ms : Nat} {E : KEnd} {ls : KL} {st : List KV} {M : KM} {cs sl : Nat} (hC : KC X mL_law 8 false S mc ms) (hE : KRet X mL_law E) (h : kblk (kroom mL_law mc ms) S E (KW X) kbL_law_886 886 ls st M cs sl) : KW X 886 ls st M cs sl := KW_blk hC hE kbL_law_886 886 ls st M cs sl (by decide +kernel) h
def kbL_law_892 : List KE := [(.iload 5, 2, (5, 0, 0), 0, 0), (.if_icmp .eq (5), 3, (899, 0, 0), 0, 0)]
theorem kwL_law_892 {X : KX} {S : KS} {mc ms : Nat} {E : KEnd} {ls : KL} {st : List KV} {M : KM} {cs sl : Nat} (hC : KC X mL_law 8 false S mc ms) (hE : KRet X mL_law E) (h : kblk (kroom mL_law mc ms) S E (KW X) kbL_law_892 892 ls st M cs sl) : KW X 892 ls st M cs sl := KW_blk hC hE kbL_law_892 892 ls st M cs sl (by decide +kernel) h
def kbL_law_897 : List KE := [(.iconst 0, 1, (0, 0, 0), 0, 0), (.ireturn, 1, (0, 0, 0), 0, 0)]
theorem kwL_law_897 {X : KX} {S : KS} {mc ms : Nat} {E : KEnd} {ls : KL} {st : List KV} {M : KM} {cs sl : Nat} (hC : KC X mL_law 8 false S mc ms) (hE : KRet X mL_law E) (h : kblk (kroom mL_law mc ms) S E (KW X) kbL_law_897 897 ls st M cs sl) : KW X 897 ls st M cs sl := KW_blk hC hE kbL_law_897 897 ls st M cs sl (by decide +kernel) h
def kbL_law_899 : List KE := [(.iload 5, 2, (5, 0, 0), 0, 0), (.ifCond .ne (15), 3, (916, 0, 0), 0, 0)]
theorem kwL_law_899 {X : KX} {S : KS} {mc ms : Nat} {E : KEnd} {ls : KL} {st : List KV} {M : KM} {cs sl : Nat} (hC : KC X mL_law 8 false S mc ms) (hE : KRet X mL_law E) (h : kblk (kroom mL_law mc ms) S E (KW X) kbL_law_899 899 ls st M cs sl) : KW X 899 ls st M cs sl := KW_blk hC hE kbL_law_899 899 ls st M cs sl (by decide +kernel) h
def kbL_law_904 : List KE := [(.aload_n 3, 1, (3, 0, 0), 0, 0), (.iconst 0, 1, (0, 0, 0), 0, 0), (.laload, 1, (0, 0, 0), 0, 0), (.iload 6, 2, (6, 0, 0), 0, 0), (.i2l, 1, (0, 0, 0), 0, 0), (.lcmp, 1, (0, 0, 0), 0, 0), (.ifCond .eq (5), 3, (916, 0, 0), 0, 0)]
theorem kwL_law_904 {X : KX} {S : KS} {mc ms : Nat} {E : KEnd} {ls : KL} {st : List KV} {M : KM} {cs sl : Nat} (hC : KC X mL_law 8 false S mc ms) (hE : KRet X mL_law E) (h : kblk (kroom mL_law mc ms) S E (KW X) kbL_law_904 904 ls st M cs sl) : KW X 904 ls st M cs sl := KW_blk hC hE kbL_law_904 904 ls st M cs sl (by decide +kernel) h
def kbL_law_914 : List KE := [(.iconst 0, 1, (0, 0, 0), 0, 0), (.ireturn, 1, (0, 0, 0), 0, 0)]
theorem kwL_law_914 {X : KX} {S : KS} {mc ms : Nat} {E : KEnd} {ls : KL} {st : List KV} {M : KM} {cs sl : Nat} (hC : KC X mL_law 8 false S mc ms) (hE : KRet X mL_law E) (h : kblk (kroom mL_law mc ms) S E (KW X) kbL_law_914 914 ls st M cs sl) : KW X 914 ls st M cs sl := KW_blk hC hE kbL_law_914 914 ls st M cs sl (by decide +kernel) h
def kbL_law_916 : List KE := [(.goto (542), 3, (1458, 0, 0), 0, 0)]
theorem kwL_law_916 {X : KX} {S : KS} {mc ms : Nat} {E : KEnd} {ls : KL} {st : List KV} {M : KM} {cs sl : Nat} (hC : KC X mL_law 8 false S mc ms) (hE : KRet X mL_law E) (h : kblk (kroom mL_law mc ms) S E (KW X) kbL_law_916 916 ls st M cs sl) : KW X 916 ls st M cs sl := KW_blk hC hE kbL_law_916 916 ls st M cs sl (by decide +kernel) h
def kbL_law_919 : List KE := [(.aload_n 1, 1, (1, 0, 0), 0, 0), (.aload_n 0, 1, (0, 0, 0), 0, 0), (.iload 4, 2, (4, 0, 0), 0, 0), (.iconst 1, 1, (0, 0, 0), 1, 0), (.iadd, 1, (0, 0, 0), 0, 0), (.iaload, 1, (0, 0, 0), 0, 0), (.aload_n 0, 1, (0, 0, 0), 0, 0), (.iload 4, 2, (4, 0, 0), 0, 0), (.iconst 2, 1, (0, 0, 0), 2, 0), (.iadd, 1, (0, 0, 0), 0, 0), (.iaload, 1, (0, 0, 0), 0, 0), (.aload_n 3, 1, (3, 0, 0), 0, 0)]
theorem kwL_law_919 {X : KX} {S : KS} {mc ms : Nat} {E : KEnd} {ls : KL} {st : List KV} {M : KM} {cs sl : Nat} (hC : KC X mL_law 8 false S mc ms) (hE : KRet X mL_law E) (h : kblk (kroom mL_law mc ms) S E (KW X) kbL_law_919 919 ls st M cs sl) : KW X 919 ls st M cs sl := KW_blk hC hE kbL_law_919 919 ls st M cs sl (by decide +kernel) h
def kbL_law_936 : List KE := [(.istore 5, 2, (5, 0, 0), 0, 0), (.aload_n 2, 1, (2, 0, 0), 0, 0), (.aload_n 0, 1, (0, 0, 0), 0, 0), (.iload 4, 2, (4, 0, 0), 0, 0), (.iconst 1, 1, (0, 0, 0), 1, 0), (.iadd, 1, (0, 0, 0), 0, 0), (.iaload, 1, (0, 0, 0), 0, 0), (.aload_n 0, 1, (0, 0, 0), 0, 0), (.iload 4, 2, (4, 0, 0), 0, 0), (.iconst 2, 1, (0, 0, 0), 2, 0), (.iadd, 1, (0, 0, 0), 0, 0), (.iaload, 1, (0, 0, 0), 0, 0)]
theorem kwL_law_936 {X : KX} {S : KS} {mc ms : Nat} {E : KEnd} {ls : KL} {st : List KV} {M : KM} {cs sl : Nat} (hC : KC X mL_law 8 false S mc ms) (hE : KRet X mL_law E) (h : kblk (kroom mL_law mc ms) S E (KW X) kbL_law_936 936 ls st M cs sl) : KW X 936 ls st M cs sl := KW_blk hC hE kbL_law_936 936 ls st M cs sl (by decide +kernel) h
def kbL_law_954 : List KE := [(.istore 6, 2, (6, 0, 0), 0, 0), (.aload_n 2, 1, (2, 0, 0), 0, 0)]
theorem kwL_law_954 {X : KX} {S : KS} {mc ms : Nat} {E : KEnd} {ls : KL} {st : List KV} {M : KM} {cs sl : Nat} (hC : KC X mL_law 8 false S mc ms) (hE : KRet X mL_law E) (h : kblk (kroom mL_law mc ms) S E (KW X) kbL_law_954 954 ls st M cs sl) : KW X 954 ls st M cs sl := KW_blk hC hE kbL_law_954 954 ls st M cs sl (by decide +kernel) h
def kbL_law_960 : List KE := [(.iload 5, 2, (5, 0, 0), 0, 0), (.if_icmp .eq (5), 3, (967, 0, 0), 0, 0)]
theorem kwL_law_960 {X : KX} {S : KS} {mc ms : Nat} {E : KEnd} {ls : KL} {st : List KV} {M : KM} {cs sl : Nat} (hC : KC X mL_law 8 false S mc ms) (hE : KRet X mL_law E) (h : kblk (kroom mL_law mc ms) S E (KW X) kbL_law_960 960 ls st M cs sl) : KW X 960 ls st M cs sl := KW_blk hC hE kbL_law_960 960 ls st M cs sl (by decide +kernel) h
def kbL_law_965 : List KE := [(.iconst 0, 1, (0, 0, 0), 0, 0), (.ireturn, 1, (0, 0, 0), 0, 0)]
theorem kwL_law_965 {X : KX} {S : KS} {mc ms : Nat} {E : KEnd} {ls : KL} {st : List KV} {M : KM} {cs sl : Nat} (hC : KC X mL_law 8 false S mc ms) (hE : KRet X mL_law E) (h : kblk (kroom mL_law mc ms) S E (KW X) kbL_law_965 965 ls st M cs sl) : KW X 965 ls st M cs sl := KW_blk hC hE kbL_law_965 965 ls st M cs sl (by decide +kernel) h
def kbL_law_967 : List KE := [(.iload 5, 2, (5, 0, 0), 0, 0), (.ifCond .ne (15), 3, (984, 0, 0), 0, 0)]
theorem kwL_law_967 {X : KX} {S : KS} {mc ms : Nat} {E : KEnd} {ls : KL} {st : List KV} {M : KM} {cs sl : Nat} (hC : KC X mL_law 8 false S mc ms) (hE : KRet X mL_law E) (h : kblk (kroom mL_law mc ms) S E (KW X) kbL_law_967 967 ls st M cs sl) : KW X 967 ls st M cs sl := KW_blk hC hE kbL_law_967 967 ls st M cs sl (by decide +kernel) h
def kbL_law_972 : List KE := [(.aload_n 3, 1, (3, 0, 0), 0, 0), (.iconst 0, 1, (0, 0, 0), 0, 0), (.laload, 1, (0, 0, 0), 0, 0), (.iload 6, 2, (6, 0, 0), 0, 0), (.i2l, 1, (0, 0, 0), 0, 0), (.lcmp, 1, (0, 0, 0), 0, 0), (.ifCond .eq (5), 3, (984, 0, 0), 0, 0)]
theorem kwL_law_972 {X : KX} {S : KS} {mc ms : Nat} {E : KEnd} {ls : KL} {st : List KV} {M : KM} {cs sl : Nat} (hC : KC X mL_law 8 false S mc ms) (hE : KRet X mL_law E) (h : kblk (kroom mL_law mc ms) S E (KW X) kbL_law_972 972 ls st M cs sl) : KW X 972 ls st M cs sl := KW_blk hC hE kbL_law_972 972 ls st M cs sl (by decide +kernel) h
def kbL_law_982 : List KE := [(.iconst 0, 1, (0, 0, 0), 0, 0), (.ireturn, 1, (0, 0, 0), 0, 0)]
theorem kwL_law_982 {X : KX} {S : KS} {mc ms : Nat} {E : KEnd} {ls : KL} {st : List KV} {M : KM} {cs sl : Nat} (hC : KC X mL_law 8 false S mc ms) (hE : KRet X mL_law E) (h : kblk (kroom mL_law mc ms) S E (KW X) kbL_law_982 982 ls st M cs sl) : KW X 982 ls st M cs sl := KW_blk hC hE kbL_law_982 982 ls st M cs sl (by decide +kernel) h
def kbL_law_984 : List KE := [(.goto (474), 3, (1458, 0, 0), 0, 0)]
theorem kwL_law_984 {X : KX} {S : KS} {mc ms : Nat} {E : KEnd} {ls : KL} {st : List KV} {M : KM} {cs sl : Nat} (hC : KC X mL_law 8 false S mc ms) (hE : KRet X mL_law E) (h : kblk (kroom mL_law mc ms) S E (KW X) kbL_law_984 984 ls st M cs sl) : KW X 984 ls st M cs sl := KW_blk hC hE kbL_law_984 984 ls st M cs sl (by decide +kernel) h
def kbL_law_987 : List KE := [(.aload_n 1, 1, (1, 0, 0), 0, 0), (.aload_n 0, 1, (0, 0, 0), 0, 0), (.iload 4, 2, (4, 0, 0), 0, 0), (.iconst 1, 1, (0, 0, 0), 1, 0), (.iadd, 1, (0, 0, 0), 0, 0), (.iaload, 1, (0, 0, 0), 0, 0), (.aload_n 3, 1, (3, 0, 0), 0, 0)]
theorem kwL_law_987 {X : KX} {S : KS} {mc ms : Nat} {E : KEnd} {ls : KL} {st : List KV} {M : KM} {cs sl : Nat} (hC : KC X mL_law 8 false S mc ms) (hE : KRet X mL_law E) (h : kblk (kroom mL_law mc ms) S E (KW X) kbL_law_987 987 ls st M cs sl) : KW X 987 ls st M cs sl := KW_blk hC hE kbL_law_987 987 ls st M cs sl (by decide +kernel) h
def kbL_law_998 : List KE := [(.istore 5, 2, (5, 0, 0), 0, 0), (.aload_n 2, 1, (2, 0, 0), 0, 0), (.aload_n 0, 1, (0, 0, 0), 0, 0), (.iload 4, 2, (4, 0, 0), 0, 0), (.iconst 1, 1, (0, 0, 0), 1, 0), (.iadd, 1, (0, 0, 0), 0, 0), (.iaload, 1, (0, 0, 0), 0, 0)]
theorem kwL_law_998 {X : KX} {S : KS} {mc ms : Nat} {E : KEnd} {ls : KL} {st : List KV} {M : KM} {cs sl : Nat} (hC : KC X mL_law 8 false S mc ms) (hE : KRet X mL_law E) (h : kblk (kroom mL_law mc ms) S E (KW X) kbL_law_998 998 ls st M cs sl) : KW X 998 ls st M cs sl := KW_blk hC hE kbL_law_998 998 ls st M cs sl (by decide +kernel) h
def kbL_law_1010 : List KE := [(.istore 6, 2, (6, 0, 0), 0, 0), (.aload_n 2, 1, (2, 0, 0), 0, 0)]
theorem kwL_law_1010 {X : KX} {S : KS} {mc ms : Nat} {E : KEnd} {ls : KL} {st : List KV} {M : KM} {cs sl : Nat} (hC : KC X mL_law 8 false S mc ms) (hE : KRet X mL_law E) (h : kblk (kroom mL_law mc ms) S E (KW X) kbL_law_1010 1010 ls st M cs sl) : KW X 1010 ls st M cs sl := KW_blk hC hE kbL_law_1010 1010 ls st M cs sl (by decide +kernel) h
def kbL_law_1016 : List KE := [(.iload 5, 2, (5, 0, 0), 0, 0), (.if_icmp .eq (5), 3, (1023, 0, 0), 0, 0)]
theorem kwL_law_1016 {X : KX} {S : KS} {mc ms : Nat} {E : KEnd} {ls : KL} {st : List KV} {M : KM} {cs sl : Nat} (hC : KC X mL_law 8 false S mc ms) (hE : KRet X mL_law E) (h : kblk (kroom mL_law mc ms) S E (KW X) kbL_law_1016 1016 ls st M cs sl) : KW X 1016 ls st M cs sl := KW_blk hC hE kbL_law_1016 1016 ls st M cs sl (by decide +kernel) h
def kbL_law_1021 : List KE := [(.iconst 0, 1, (0, 0, 0), 0, 0), (.ireturn, 1, (0, 0, 0), 0, 0)]
theorem kwL_law_1021 {X : KX} {S : KS} {mc ms : Nat} {E : KEnd} {ls : KL} {st : List KV} {M : KM} {cs sl : Nat} (hC : KC X mL_law 8 false S mc ms) (hE : KRet X mL_law E) (h : kblk (kroom mL_law mc ms) S E (KW X) kbL_law_1021 1021 ls st M cs sl) : KW X 1021 ls st M cs sl := KW_blk hC hE kbL_law_1021 1021 ls st M cs sl (by decide +kernel) h
def kbL_law_1023 : List KE := [(.iload 5, 2, (5, 0, 0), 0, 0), (.ifCond .ne (15), 3, (1040, 0, 0), 0, 0)]
theorem kwL_law_1023 {X : KX} {S : KS} {mc ms : Nat} {E : KEnd} {ls : KL} {st : List KV} {M : KM} {cs sl : Nat} (hC : KC X mL_law 8 false S mc ms) (hE : KRet X mL_law E) (h : kblk (kroom mL_law mc ms) S E (KW X) kbL_law_1023 1023 ls st M cs sl) : KW X 1023 ls st M cs sl := KW_blk hC hE kbL_law_1023 1023 ls st M cs sl (by decide +kernel) h
def kbL_law_1028 : List KE := [(.aload_n 3, 1, (3, 0, 0), 0, 0), (.iconst 0, 1, (0, 0, 0), 0, 0), (.laload, 1, (0, 0, 0), 0, 0), (.iload 6, 2, (6, 0, 0), 0, 0), (.i2l, 1, (0, 0, 0), 0, 0), (.lcmp, 1, (0, 0, 0), 0, 0), (.ifCond .eq (5), 3, (1040, 0, 0), 0, 0)]
theorem kwL_law_1028 {X : KX} {S : KS} {mc ms : Nat} {E : KEnd} {ls : KL} {st : List KV} {M : KM} {cs sl : Nat} (hC : KC X mL_law 8 false S mc ms) (hE : KRet X mL_law E) (h : kblk (kroom mL_law mc ms) S E (KW X) kbL_law_1028 1028 ls st M cs sl) : KW X 1028 ls st M cs sl := KW_blk hC hE kbL_law_1028 1028 ls st M cs sl (by decide +kernel) h
def kbL_law_1038 : List KE := [(.iconst 0, 1, (0, 0, 0), 0, 0), (.ireturn, 1, (0, 0, 0), 0, 0)]
theorem kwL_law_1038 {X : KX} {S : KS} {mc ms : Nat} {E : KEnd} {ls : KL} {st : List KV} {M : KM} {cs sl : Nat} (hC : KC X mL_law 8 false S mc ms) (hE : KRet X mL_law E) (h : kblk (kroom mL_law mc ms) S E (KW X) kbL_law_1038 1038 ls st M cs sl) : KW X 1038 ls st M cs sl := KW_blk hC hE kbL_law_1038 1038 ls st M cs sl (by decide +kernel) h
def kbL_law_1040 : List KE := [(.goto (418), 3, (1458, 0, 0), 0, 0)]
theorem kwL_law_1040 {X : KX} {S : KS} {mc ms : Nat} {E : KEnd} {ls : KL} {st : List KV} {M : KM} {cs sl : Nat} (hC : KC X mL_law 8 false S mc ms) (hE : KRet X mL_law E) (h : kblk (kroom mL_law mc ms) S E (KW X) kbL_law_1040 1040 ls st M cs sl) : KW X 1040 ls st M cs sl := KW_blk hC hE kbL_law_1040 1040 ls st M cs sl (by decide +kernel) h
def kbL_law_1043 : List KE := [(.aload_n 1, 1, (1, 0, 0), 0, 0), (.aload_n 0, 1, (0, 0, 0), 0, 0), (.iload 4, 2, (4, 0, 0), 0, 0), (.iconst 1, 1, (0, 0, 0), 1, 0), (.iadd, 1, (0, 0, 0), 0, 0), (.iaload, 1, (0, 0, 0), 0, 0), (.aload_n 3, 1, (3, 0, 0), 0, 0)]
theorem kwL_law_1043 {X : KX} {S : KS} {mc ms : Nat} {E : KEnd} {ls : KL} {st : List KV} {M : KM} {cs sl : Nat} (hC : KC X mL_law 8 false S mc ms) (hE : KRet X mL_law E) (h : kblk (kroom mL_law mc ms) S E (KW X) kbL_law_1043 1043 ls st M cs sl) : KW X 1043 ls st M cs sl := KW_blk hC hE kbL_law_1043 1043 ls st M cs sl (by decide +kernel) h
def kbL_law_1054 : List KE := [(.istore 5, 2, (5, 0, 0), 0, 0), (.aload_n 2, 1, (2, 0, 0), 0, 0), (.aload_n 0, 1, (0, 0, 0), 0, 0), (.iload 4, 2, (4, 0, 0), 0, 0), (.iconst 1, 1, (0, 0, 0), 1, 0), (.iadd, 1, (0, 0, 0), 0, 0), (.iaload, 1, (0, 0, 0), 0, 0)]
theorem kwL_law_1054 {X : KX} {S : KS} {mc ms : Nat} {E : KEnd} {ls : KL} {st : List KV} {M : KM} {cs sl : Nat} (hC : KC X mL_law 8 false S mc ms) (hE : KRet X mL_law E) (h : kblk (kroom mL_law mc ms) S E (KW X) kbL_law_1054 1054 ls st M cs sl) : KW X 1054 ls st M cs sl := KW_blk hC hE kbL_law_1054 1054 ls st M cs sl (by decide +kernel) h
def kbL_law_1066 : List KE := [(.istore 6, 2, (6, 0, 0), 0, 0), (.aload_n 2, 1, (2, 0, 0), 0, 0)]
theorem kwL_law_1066 {X : KX} {S : KS} {mc ms : Nat} {E : KEnd} {ls : KL} {st : List KV} {M : KM} {cs sl : Nat} (hC : KC X mL_law 8 false S mc ms) (hE : KRet X mL_law E) (h : kblk (kroom mL_law mc ms) S E (KW X) kbL_law_1066 1066 ls st M cs sl) : KW X 1066 ls st M cs sl := KW_blk hC hE kbL_law_1066 1066 ls st M cs sl (by decide +kernel) h
def kbL_law_1072 : List KE := [(.iload 5, 2, (5, 0, 0), 0, 0), (.if_icmp .eq (5), 3, (1079, 0, 0), 0, 0)]
theorem kwL_law_1072 {X : KX} {S : KS} {mc ms : Nat} {E : KEnd} {ls : KL} {st : List KV} {M : KM} {cs sl : Nat} (hC : KC X mL_law 8 false S mc ms) (hE : KRet X mL_law E) (h : kblk (kroom mL_law mc ms) S E (KW X) kbL_law_1072 1072 ls st M cs sl) : KW X 1072 ls st M cs sl := KW_blk hC hE kbL_law_1072 1072 ls st M cs sl (by decide +kernel) h
def kbL_law_1077 : List KE := [(.iconst 0, 1, (0, 0, 0), 0, 0), (.ireturn, 1, (0, 0, 0), 0, 0)]
theorem kwL_law_1077 {X : KX} {S : KS} {mc ms : Nat} {E : KEnd} {ls : KL} {st : List KV} {M : KM} {cs sl : Nat} (hC : KC X mL_law 8 false S mc ms) (hE : KRet X mL_law E) (h : kblk (kroom mL_law mc ms) S E (KW X) kbL_law_1077 1077 ls st M cs sl) : KW X 1077 ls st M cs sl := KW_blk hC hE kbL_law_1077 1077 ls st M cs sl (by decide +kernel) h
def kbL_law_1079 : List KE := [(.iload 5, 2, (5, 0, 0), 0, 0), (.ifCond .ne (15), 3, (1096, 0, 0), 0, 0)]
theorem kwL_law_1079 {X : KX} {S : KS} {mc ms : Nat} {E : KEnd} {ls : KL} {st : List KV} {M : KM} {cs sl : Nat} (hC : KC X mL_law 8 false S mc ms) (hE : KRet X mL_law E) (h : kblk (kroom mL_law mc ms) S E (KW X) kbL_law_1079 1079 ls st M cs sl) : KW X 1079 ls st M cs sl := KW_blk hC hE kbL_law_1079 1079 ls st M cs sl (by decide +kernel) h
def kbL_law_1084 : List KE := [(.aload_n 3, 1, (3, 0, 0), 0, 0), (.iconst 0, 1, (0, 0, 0), 0, 0), (.laload, 1, (0, 0, 0), 0, 0), (.iload 6, 2, (6, 0, 0), 0, 0), (.i2l, 1, (0, 0, 0), 0, 0), (.lcmp, 1, (0, 0, 0), 0, 0), (.ifCond .eq (5), 3, (1096, 0, 0), 0, 0)]
theorem kwL_law_1084 {X : KX} {S : KS} {mc ms : Nat} {E : KEnd} {ls : KL} {st : List KV} {M : KM} {cs sl : Nat} (hC : KC X mL_law 8 false S mc ms) (hE : KRet X mL_law E) (h : kblk (kroom mL_law mc ms) S E (KW X) kbL_law_1084 1084 ls st M cs sl) : KW X 1084 ls st M cs sl := KW_blk hC hE kbL_law_1084 1084 ls st M cs sl (by decide +kernel) h
def kbL_law_1094 : List KE := [(.iconst 0, 1, (0, 0, 0), 0, 0), (.ireturn, 1, (0, 0, 0), 0, 0)]
theorem kwL_law_1094 {X : KX} {S : KS} {mc ms : Nat} {E : KEnd} {ls : KL} {st : List KV} {M : KM} {cs sl : Nat} (hC : KC X mL_law 8 false S mc ms) (hE : KRet X mL_law E) (h : kblk (kroom mL_law mc ms) S E (KW X) kbL_law_1094 1094 ls st M cs sl) : KW X 1094 ls st M cs sl := KW_blk hC hE kbL_law_1094 1094 ls st M cs sl (by decide +kernel) h
def kbL_law_1096 : List KE := [(.goto (362), 3, (1458, 0, 0), 0, 0)]
theorem kwL_law_1096 {X : KX} {S : KS} {mc ms : Nat} {E : KEnd} {ls : KL} {st : List KV} {M : KM} {cs sl : Nat} (hC : KC X mL_law 8 false S mc ms) (hE : KRet X mL_law E) (h : kblk (kroom mL_law mc ms) S E (KW X) kbL_law_1096 1096 ls st M cs sl) : KW X 1096 ls st M cs sl := KW_blk hC hE kbL_law_1096 1096 ls st M cs sl (by decide +kernel) h
def kbL_law_1099 : List KE := [(.aload_n 1, 1, (1, 0, 0), 0, 0), (.aload_n 0, 1, (0, 0, 0), 0, 0), (.iload 4, 2, (4, 0, 0), 0, 0), (.iconst 1, 1, (0, 0, 0), 1, 0), (.iadd, 1, (0, 0, 0), 0, 0), (.iaload, 1, (0, 0, 0), 0, 0), (.aload_n 3, 1, (3, 0, 0), 0, 0)]
theorem kwL_law_1099 {X : KX} {S : KS} {mc ms : Nat} {E : KEnd} {ls : KL} {st : List KV} {M : KM} {cs sl : Nat} (hC : KC X mL_law 8 false S mc ms) (hE : KRet X mL_law E) (h : kblk (kroom mL_law mc ms) S E (KW X) kbL_law_1099 1099 ls st M cs sl) : KW X 1099 ls st M cs sl := KW_blk hC hE kbL_law_1099 1099 ls st M cs sl (by decide +kernel) h
def kbL_law_1110 : List KE := [(.istore 5, 2, (5, 0, 0), 0, 0), (.aload_n 2, 1, (2, 0, 0), 0, 0), (.aload_n 0, 1, (0, 0, 0), 0, 0), (.iload 4, 2, (4, 0, 0), 0, 0), (.iconst 1, 1, (0, 0, 0), 1, 0), (.iadd, 1, (0, 0, 0), 0, 0), (.iaload, 1, (0, 0, 0), 0, 0)]
theorem kwL_law_1110 {X : KX} {S : KS} {mc ms : Nat} {E : KEnd} {ls : KL} {st : List KV} {M : KM} {cs sl : Nat} (hC : KC X mL_law 8 false S mc ms) (hE : KRet X mL_law E) (h : kblk (kroom mL_law mc ms) S E (KW X) kbL_law_1110 1110 ls st M cs sl) : KW X 1110 ls st M cs sl := KW_blk hC hE kbL_law_1110 1110 ls st M cs sl (by decide +kernel) h
def kbL_law_1122 : List KE := [(.istore 6, 2, (6, 0, 0), 0, 0), (.aload_n 2, 1, (2, 0, 0), 0, 0)]
theorem kwL_law_1122 {X : KX} {S : KS} {mc ms : Nat} {E : KEnd} {ls : KL} {st : List KV} {M : KM} {cs sl : Nat} (hC : KC X mL_law 8 false S mc ms) (hE : KRet X mL_law E) (h : kblk (kroom mL_law mc ms) S E (KW X) kbL_law_1122 1122 ls st M cs sl) : KW X 1122 ls st M cs sl := KW_blk hC hE kbL_law_1122 1122 ls st M cs sl (by decide +kernel) h
def kbL_law_1128 : List KE := [(.iload 5, 2, (5, 0, 0), 0, 0), (.if_icmp .eq (5), 3, (1135, 0, 0), 0, 0)]
theorem kwL_law_1128 {X : KX} {S : KS} {mc ms : Nat} {E : KEnd} {ls : KL} {st : List KV} {M : KM} {cs sl : Nat} (hC : KC X mL_law 8 false S mc ms) (hE : KRet X mL_law E) (h : kblk (kroom mL_law mc ms) S E (KW X) kbL_law_1128 1128 ls st M cs sl) : KW X 1128 ls st M cs sl := KW_blk hC hE kbL_law_1128 1128 ls st M cs sl (by decide +kernel) h
def kbL_law_1133 : List KE := [(.iconst 0, 1, (0, 0, 0), 0, 0), (.ireturn, 1, (0, 0, 0), 0, 0)]
theorem kwL_law_1133 {X : KX} {S : KS} {mc ms : Nat} {E : KEnd} {ls : KL} {st : List KV} {M : KM} {cs sl : Nat} (hC : KC X mL_law 8 false S mc ms) (hE : KRet X mL_law E) (h : kblk (kroom mL_law mc ms) S E (KW X) kbL_law_1133 1133 ls st M cs sl) : KW X 1133 ls st M cs sl := KW_blk hC hE kbL_law_1133 1133 ls st M cs sl (by decide +kernel) h
def kbL_law_1135 : List KE := [(.iload 5, 2, (5, 0, 0), 0, 0), (.ifCond .ne (15), 3, (1152, 0, 0), 0, 0)]
theorem kwL_law_1135 {X : KX} {S : KS} {mc ms : Nat} {E : KEnd} {ls : KL} {st : List KV} {M : KM} {cs sl : Nat} (hC : KC X mL_law 8 false S mc ms) (hE : KRet X mL_law E) (h : kblk (kroom mL_law mc ms) S E (KW X) kbL_law_1135 1135 ls st M cs sl) : KW X 1135 ls st M cs sl := KW_blk hC hE kbL_law_1135 1135 ls st M cs sl (by decide +kernel) h
def kbL_law_1140 : List KE := [(.aload_n 3, 1, (3, 0, 0), 0, 0), (.iconst 0, 1, (0, 0, 0), 0, 0), (.laload, 1, (0, 0, 0), 0, 0), (.iload 6, 2, (6, 0, 0), 0, 0), (.i2l, 1, (0, 0, 0), 0, 0), (.lcmp, 1, (0, 0, 0), 0, 0), (.ifCond .eq (5), 3, (1152, 0, 0), 0, 0)]
theorem kwL_law_1140 {X : KX} {S : KS} {mc ms : Nat} {E : KEnd} {ls : KL} {st : List KV} {M : KM} {cs sl : Nat} (hC : KC X mL_law 8 false S mc ms) (hE : KRet X mL_law E) (h : kblk (kroom mL_law mc ms) S E (KW X) kbL_law_1140 1140 ls st M cs sl) : KW X 1140 ls st M cs sl := KW_blk hC hE kbL_law_1140 1140 ls st M cs sl (by decide +kernel) h
def kbL_law_1150 : List KE := [(.iconst 0, 1, (0, 0, 0), 0, 0), (.ireturn, 1, (0, 0, 0), 0, 0)]
theorem kwL_law_1150 {X : KX} {S : KS} {mc ms : Nat} {E : KEnd} {ls : KL} {st : List KV} {M : KM} {cs sl : Nat} (hC : KC X mL_law 8 false S mc ms) (hE : KRet X mL_law E) (h : kblk (kroom mL_law mc ms) S E (KW X) kbL_law_1150 1150 ls st M cs sl) : KW X 1150 ls st M cs sl := KW_blk hC hE kbL_law_1150 1150 ls st M cs sl (by decide +kernel) h
def kbL_law_1152 : List KE := [(.goto (306), 3, (1458, 0, 0), 0, 0)]
theorem kwL_law_1152 {X : KX} {S : KS} {mc ms : Nat} {E : KEnd} {ls : KL} {st : List KV} {M : KM} {cs sl : Nat} (hC : KC X mL_law 8 false S mc ms) (hE : KRet X mL_law E) (h : kblk (kroom mL_law mc ms) S E (KW X) kbL_law_1152 1152 ls st M cs sl) : KW X 1152 ls st M cs sl := KW_blk hC hE kbL_law_1152 1152 ls st M cs sl (by decide +kernel) h
def kbL_law_1155 : List KE := [(.aload_n 1, 1, (1, 0, 0), 0, 0), (.aload_n 0, 1, (0, 0, 0), 0, 0), (.iload 4, 2, (4, 0, 0), 0, 0), (.iconst 1, 1, (0, 0, 0), 1, 0), (.iadd, 1, (0, 0, 0), 0, 0), (.iaload, 1, (0, 0, 0), 0, 0), (.aload_n 0, 1, (0, 0, 0), 0, 0), (.iload 4, 2, (4, 0, 0), 0, 0), (.iconst 2, 1, (0, 0, 0), 2, 0), (.iadd, 1, (0, 0, 0), 0, 0), (.iaload, 1, (0, 0, 0), 0, 0), (.aload_n 3, 1, (3, 0, 0), 0, 0)]
theorem kwL_law_1155 {X : KX} {S : KS} {mc ms : Nat} {E : KEnd} {ls : KL} {st : List KV} {M : KM} {cs sl : Nat} (hC : KC X mL_law 8 false S mc ms) (hE : KRet X mL_law E) (h : kblk (kroom mL_law mc ms) S E (KW X) kbL_law_1155 1155 ls st M cs sl) : KW X 1155 ls st M cs sl := KW_blk hC hE kbL_law_1155 1155 ls st M cs sl (by decide +kernel) h
def kbL_law_1172 : List KE := [(.istore 5, 2, (5, 0, 0), 0, 0), (.aload_n 2, 1, (2, 0, 0), 0, 0), (.aload_n 0, 1, (0, 0, 0), 0, 0), (.iload 4, 2, (4, 0, 0), 0, 0), (.iconst 1, 1, (0, 0, 0), 1, 0), (.iadd, 1, (0, 0, 0), 0, 0), (.iaload, 1, (0, 0, 0), 0, 0), (.aload_n 0, 1, (0, 0, 0), 0, 0), (.iload 4, 2, (4, 0, 0), 0, 0), (.iconst 2, 1, (0, 0, 0), 2, 0), (.iadd, 1, (0, 0, 0), 0, 0), (.iaload, 1, (0, 0, 0), 0, 0)]
theorem kwL_law_1172 {X : KX} {S : KS} {mc ms : Nat} {E : KEnd} {ls : KL} {st : List KV} {M : KM} {cs sl : Nat} (hC : KC X mL_law 8 false S mc ms) (hE : KRet X mL_law E) (h : kblk (kroom mL_law mc ms) S E (KW X) kbL_law_1172 1172 ls st M cs sl) : KW X 1172 ls st M cs sl := KW_blk hC hE kbL_law_1172 1172 ls st M cs sl (by decide +kernel) h
def kbL_law_1190 : List KE := [(.istore 6, 2, (6, 0, 0), 0, 0), (.aload_n 2, 1, (2, 0, 0), 0, 0)]
theorem kwL_law_1190 {X : KX} {S : KS} {mc ms : Nat} {E : KEnd} {ls : KL} {st : List KV} {M : KM} {cs sl : Nat} (hC : KC X mL_law 8 false S mc ms) (hE : KRet X mL_law E) (h : kblk (kroom mL_law mc ms) S E (KW X) kbL_law_1190 1190 ls st M cs sl) : KW X 1190 ls st M cs sl := KW_blk hC hE kbL_law_1190 1190 ls st M cs sl (by decide +kernel) h
def kbL_law_1196 : List KE := [(.iload 5, 2, (5, 0, 0), 0, 0), (.if_icmp .eq (5), 3, (1203, 0, 0), 0, 0)]
theorem kwL_law_1196 {X : KX} {S : KS} {mc ms : Nat} {E : KEnd} {ls : KL} {st : List KV} {M : KM} {cs sl : Nat} (hC : KC X mL_law 8 false S mc ms) (hE : KRet X mL_law E) (h : kblk (kroom mL_law mc ms) S E (KW X) kbL_law_1196 1196 ls st M cs sl) : KW X 1196 ls st M cs sl := KW_blk hC hE kbL_law_1196 1196 ls st M cs sl (by decide +kernel) h
def kbL_law_1201 : List KE := [(.iconst 0, 1, (0, 0, 0), 0, 0), (.ireturn, 1, (0, 0, 0), 0, 0)]
theorem kwL_law_1201 {X : KX} {S : KS} {mc ms : Nat} {E : KEnd} {ls : KL} {st : List KV} {M : KM} {cs sl : Nat} (hC : KC X mL_law 8 false S mc ms) (hE : KRet X mL_law E) (h : kblk (kroom mL_law mc ms) S E (KW X) kbL_law_1201 1201 ls st M cs sl) : KW X 1201 ls st M cs sl := KW_blk hC hE kbL_law_1201 1201 ls st M cs sl (by decide +kernel) h
def kbL_law_1203 : List KE := [(.iload 5, 2, (5, 0, 0), 0, 0), (.ifCond .ne (15), 3, (1220, 0, 0), 0, 0)]
theorem kwL_law_1203 {X : KX} {S : KS} {mc ms : Nat} {E : KEnd} {ls : KL} {st : List KV} {M : KM} {cs sl : Nat} (hC : KC X mL_law 8 false S mc ms) (hE : KRet X mL_law E) (h : kblk (kroom mL_law mc ms) S E (KW X) kbL_law_1203 1203 ls st M cs sl) : KW X 1203 ls st M cs sl := KW_blk hC hE kbL_law_1203 1203 ls st M cs sl (by decide +kernel) h
def kbL_law_1208 : List KE := [(.aload_n 3, 1, (3, 0, 0), 0, 0), (.iconst 0, 1, (0, 0, 0), 0, 0), (.laload, 1, (0, 0, 0), 0, 0), (.iload 6, 2, (6, 0, 0), 0, 0), (.i2l, 1, (0, 0, 0), 0, 0), (.lcmp, 1, (0, 0, 0), 0, 0), (.ifCond .eq (5), 3, (1220, 0, 0), 0, 0)]
theorem kwL_law_1208 {X : KX} {S : KS} {mc ms : Nat} {E : KEnd} {ls : KL} {st : List KV} {M : KM} {cs sl : Nat} (hC : KC X mL_law 8 false S mc ms) (hE : KRet X mL_law E) (h : kblk (kroom mL_law mc ms) S E (KW X) kbL_law_1208 1208 ls st M cs sl) : KW X 1208 ls st M cs sl := KW_blk hC hE kbL_law_1208 1208 ls st M cs sl (by decide +kernel) h
def kbL_law_1218 : List KE := [(.iconst 0, 1, (0, 0, 0), 0, 0), (.ireturn, 1, (0, 0, 0), 0, 0)]
theorem kwL_law_1218 {X : KX} {S : KS} {mc ms : Nat} {E : KEnd} {ls : KL} {st : List KV} {M : KM} {cs sl : Nat} (hC : KC X mL_law 8 false S mc ms) (hE : KRet X mL_law E) (h : kblk (kroom mL_law mc ms) S E (KW X) kbL_law_1218 1218 ls st M cs sl) : KW X 1218 ls st M cs sl := KW_blk hC hE kbL_law_1218 1218 ls st M cs sl (by decide +kernel) h
def kbL_law_1220 : List KE := [(.goto (238), 3, (1458, 0, 0), 0, 0)]
theorem kwL_law_1220 {X : KX} {S : KS} {mc ms : Nat} {E : KEnd} {ls : KL} {st : List KV} {M : KM} {cs sl : Nat} (hC : KC X mL_law 8 false S mc ms) (hE : KRet X mL_law E) (h : kblk (kroom mL_law mc ms) S E (KW X) kbL_law_1220 1220 ls st M cs sl) : KW X 1220 ls st M cs sl := KW_blk hC hE kbL_law_1220 1220 ls st M cs sl (by decide +kernel) h
def kbL_law_1223 : List KE := [(.aload_n 1, 1, (1, 0, 0), 0, 0), (.aload_n 0, 1, (0, 0, 0), 0, 0), (.iload 4, 2, (4, 0, 0), 0, 0), (.iconst 1, 1, (0, 0, 0), 1, 0), (.iadd, 1, (0, 0, 0), 0, 0), (.iaload, 1, (0, 0, 0), 0, 0), (.aload_n 3, 1, (3, 0, 0), 0, 0)]
theorem kwL_law_1223 {X : KX} {S : KS} {mc ms : Nat} {E : KEnd} {ls : KL} {st : List KV} {M : KM} {cs sl : Nat} (hC : KC X mL_law 8 false S mc ms) (hE : KRet X mL_law E) (h : kblk (kroom mL_law mc ms) S E (KW X) kbL_law_1223 1223 ls st M cs sl) : KW X 1223 ls st M cs sl := KW_blk hC hE kbL_law_1223 1223 ls st M cs sl (by decide +kernel) h
def kbL_law_1234 : List KE := [(.istore 5, 2, (5, 0, 0), 0, 0), (.aload_n 2, 1, (2, 0, 0), 0, 0), (.aload_n 0, 1, (0, 0, 0), 0, 0), (.iload 4, 2, (4, 0, 0), 0, 0), (.iconst 1, 1, (0, 0, 0), 1, 0), (.iadd, 1, (0, 0, 0), 0, 0), (.iaload, 1, (0, 0, 0), 0, 0)]
theorem kwL_law_1234 {X : KX} {S : KS} {mc ms : Nat} {E : KEnd} {ls : KL} {st : List KV} {M : KM} {cs sl : Nat} (hC : KC X mL_law 8 false S mc ms) (hE : KRet X mL_law E) (h : kblk (kroom mL_law mc ms) S E (KW X) kbL_law_1234 1234 ls st M cs sl) : KW X 1234 ls st M cs sl := KW_blk hC hE kbL_law_1234 1234 ls st M cs sl (by decide +kernel) h
def kbL_law_1246 : List KE := [(.istore 6, 2, (6, 0, 0), 0, 0), (.aload_n 2, 1, (2, 0, 0), 0, 0)]
theorem kwL_law_1246 {X : KX} {S : KS} {mc ms : Nat} {E : KEnd} {ls : KL} {st : List KV} {M : KM} {cs sl : Nat} (hC : KC X mL_law 8 false S mc ms) (hE : KRet X mL_law E) (h : kblk (kroom mL_law mc ms) S E (KW X) kbL_law_1246 1246 ls st M cs sl) : KW X 1246 ls st M cs sl := KW_blk hC hE kbL_law_1246 1246 ls st M cs sl (by decide +kernel) h
def kbL_law_1252 : List KE := [(.iload 5, 2, (5, 0, 0), 0, 0), (.if_icmp .eq (5), 3, (1259, 0, 0), 0, 0)]
theorem kwL_law_1252 {X : KX} {S : KS} {mc ms : Nat} {E : KEnd} {ls : KL} {st : List KV} {M : KM} {cs sl : Nat} (hC : KC X mL_law 8 false S mc ms) (hE : KRet X mL_law E) (h : kblk (kroom mL_law mc ms) S E (KW X) kbL_law_1252 1252 ls st M cs sl) : KW X 1252 ls st M cs sl := KW_blk hC hE kbL_law_1252 1252 ls st M cs sl (by decide +kernel) h
def kbL_law_1257 : List KE := [(.iconst 0, 1, (0, 0, 0), 0, 0), (.ireturn, 1, (0, 0, 0), 0, 0)]
theorem kwL_law_1257 {X : KX} {S : KS} {mc ms : Nat} {E : KEnd} {ls : KL} {st : List KV} {M : KM} {cs sl : Nat} (hC : KC X mL_law 8 false S mc ms) (hE : KRet X mL_law E) (h : kblk (kroom mL_law mc ms) S E (KW X) kbL_law_1257 1257 ls st M cs sl) : KW X 1257 ls st M cs sl := KW_blk hC hE kbL_law_1257 1257 ls st M cs sl (by decide +kernel) h
def kbL_law_1259 : List KE := [(.iload 5, 2, (5, 0, 0), 0, 0), (.ifCond .ne (15), 3, (1276, 0, 0), 0, 0)]
theorem kwL_law_1259 {X : KX} {S : KS} {mc ms : Nat} {E : KEnd} {ls : KL} {st : List KV} {M : KM} {cs sl : Nat} (hC : KC X mL_law 8 false S mc ms) (hE : KRet X mL_law E) (h : kblk (kroom mL_law mc ms) S E (KW X) kbL_law_1259 1259 ls st M cs sl) : KW X 1259 ls st M cs sl := KW_blk hC hE kbL_law_1259 1259 ls st M cs sl (by decide +kernel) h
def kbL_law_1264 : List KE := [(.aload_n 3, 1, (3, 0, 0), 0, 0), (.iconst 0, 1, (0, 0, 0), 0, 0), (.laload, 1, (0, 0, 0), 0, 0), (.iload 6, 2, (6, 0, 0), 0, 0), (.i2l, 1, (0, 0, 0), 0, 0), (.lcmp, 1, (0, 0, 0), 0, 0), (.ifCond .eq (5), 3, (1276, 0, 0), 0, 0)]
theorem kwL_law_1264 {X : KX} {S : KS} {mc ms : Nat} {E : KEnd} {ls : KL} {st : List KV} {M : KM} {cs sl : Nat} (hC : KC X mL_law 8 false S mc ms) (hE : KRet X mL_law E) (h : kblk (kroom mL_law mc ms) S E (KW X) kbL_law_1264 1264 ls st M cs sl) : KW X 1264 ls st M cs sl := KW_blk hC hE kbL_law_1264 1264 ls st M cs sl (by decide +kernel) h
def kbL_law_1274 : List KE := [(.iconst 0, 1, (0, 0, 0), 0, 0), (.ireturn, 1, (0, 0, 0), 0, 0)]
theorem kwL_law_1274 {X : KX} {S : KS} {mc ms : Nat} {E : KEnd} {ls : KL} {st : List KV} {M : KM} {cs sl : Nat} (hC : KC X mL_law 8 false S mc ms) (hE : KRet X mL_law E) (h : kblk (kroom mL_law mc ms) S E (KW X) kbL_law_1274 1274 ls st M cs sl) : KW X 1274 ls st M cs sl := KW_blk hC hE kbL_law_1274 1274 ls st M cs sl (by decide +kernel) h
def kbL_law_1276 : List KE := [(.goto (182), 3, (1458, 0, 0), 0, 0)]
theorem kwL_law_1276 {X : KX} {S : KS} {mc ms : Nat} {E : KEnd} {ls : KL} {st : List KV} {M : KM} {cs sl : Nat} (hC : KC X mL_law 8 false S mc ms) (hE : KRet X mL_law E) (h : kblk (kroom mL_law mc ms) S E (KW X) kbL_law_1276 1276 ls st M cs sl) : KW X 1276 ls st M cs sl := KW_blk hC hE kbL_law_1276 1276 ls st M cs sl (by decide +kernel) h
def kbL_law_1279 : List KE := [(.aload_n 1, 1, (1, 0, 0), 0, 0), (.aload_n 0, 1, (0, 0, 0), 0, 0), (.iload 4, 2, (4, 0, 0), 0, 0), (.iconst 1, 1, (0, 0, 0), 1, 0), (.iadd, 1, (0, 0, 0), 0, 0), (.iaload, 1, (0, 0, 0), 0, 0), (.aload_n 3, 1, (3, 0, 0), 0, 0)]
theorem kwL_law_1279 {X : KX} {S : KS} {mc ms : Nat} {E : KEnd} {ls : KL} {st : List KV} {M : KM} {cs sl : Nat} (hC : KC X mL_law 8 false S mc ms) (hE : KRet X mL_law E) (h : kblk (kroom mL_law mc ms) S E (KW X) kbL_law_1279 1279 ls st M cs sl) : KW X 1279 ls st M cs sl := KW_blk hC hE kbL_law_1279 1279 ls st M cs sl (by decide +kernel) h
def kbL_law_1290 : List KE := [(.istore 5, 2, (5, 0, 0), 0, 0), (.aload_n 2, 1, (2, 0, 0), 0, 0), (.aload_n 0, 1, (0, 0, 0), 0, 0), (.iload 4, 2, (4, 0, 0), 0, 0), (.iconst 1, 1, (0, 0, 0), 1, 0), (.iadd, 1, (0, 0, 0), 0, 0), (.iaload, 1, (0, 0, 0), 0, 0)]
theorem kwL_law_1290 {X : KX} {S : KS} {mc ms : Nat} {E : KEnd} {ls : KL} {st : List KV} {M : KM} {cs sl : Nat} (hC : KC X mL_law 8 false S mc ms) (hE : KRet X mL_law E) (h : kblk (kroom mL_law mc ms) S E (KW X) kbL_law_1290 1290 ls st M cs sl) : KW X 1290 ls st M cs sl := KW_blk hC hE kbL_law_1290 1290 ls st M cs sl (by decide +kernel) h
def kbL_law_1302 : List KE := [(.istore 6, 2, (6, 0, 0), 0, 0), (.aload_n 2, 1, (2, 0, 0), 0, 0)]
theorem kwL_law_1302 {X : KX} {S : KS} {mc ms : Nat} {E : KEnd} {ls : KL} {st : List KV} {M : KM} {cs sl : Nat} (hC : KC X mL_law 8 false S mc ms) (hE : KRet X mL_law E) (h : kblk (kroom mL_law mc ms) S E (KW X) kbL_law_1302 1302 ls st M cs sl) : KW X 1302 ls st M cs sl := KW_blk hC hE kbL_law_1302 1302 ls st M cs sl (by decide +kernel) h
def kbL_law_1308 : List KE := [(.iload 5, 2, (5, 0, 0), 0, 0), (.if_icmp .eq (5), 3, (1315, 0, 0), 0, 0)]
theorem kwL_law_1308 {X : KX} {S : KS} {mc ms : Nat} {E : KEnd} {ls : KL} {st : List KV} {M : KM} {cs sl : Nat} (hC : KC X mL_law 8 false S mc ms) (hE : KRet X mL_law E) (h : kblk (kroom mL_law mc ms) S E (KW X) kbL_law_1308 1308 ls st M cs sl) : KW X 1308 ls st M cs sl := KW_blk hC hE kbL_law_1308 1308 ls st M cs sl (by decide +kernel) h
def kbL_law_1313 : List KE := [(.iconst 0, 1, (0, 0, 0), 0, 0), (.ireturn, 1, (0, 0, 0), 0, 0)]
theorem kwL_law_1313 {X : KX} {S : KS} {mc ms : Nat} {E : KEnd} {ls : KL} {st : List KV} {M : KM} {cs sl : Nat} (hC : KC X mL_law 8 false S mc ms) (hE : KRet X mL_law E) (h : kblk (kroom mL_law mc ms) S E (KW X) kbL_law_1313 1313 ls st M cs sl) : KW X 1313 ls st M cs sl := KW_blk hC hE kbL_law_1313 1313 ls st M cs sl (by decide +kernel) h
def kbL_law_1315 : List KE := [(.iload 5, 2, (5, 0, 0), 0, 0), (.ifCond .ne (15), 3, (1332, 0, 0), 0, 0)]
theorem kwL_law_1315 {X : KX} {S : KS} {mc ms : Nat} {E : KEnd} {ls : KL} {st : List KV} {M : KM} {cs sl : Nat} (hC : KC X mL_law 8 false S mc ms) (hE : KRet X mL_law E) (h : kblk (kroom mL_law mc ms) S E (KW X) kbL_law_1315 1315 ls st M cs sl) : KW X 1315 ls st M cs sl := KW_blk hC hE kbL_law_1315 1315 ls st M cs sl (by decide +kernel) h
def kbL_law_1320 : List KE := [(.aload_n 3, 1, (3, 0, 0), 0, 0), (.iconst 0, 1, (0, 0, 0), 0, 0), (.laload, 1, (0, 0, 0), 0, 0), (.iload 6, 2, (6, 0, 0), 0, 0), (.i2l, 1, (0, 0, 0), 0, 0), (.lcmp, 1, (0, 0, 0), 0, 0), (.ifCond .eq (5), 3, (1332, 0, 0), 0, 0)]
theorem kwL_law_1320 {X : KX} {S : KS} {mc ms : Nat} {E : KEnd} {ls : KL} {st : List KV} {M : KM} {cs sl : Nat} (hC : KC X mL_law 8 false S mc ms) (hE : KRet X mL_law E) (h : kblk (kroom mL_law mc ms) S E (KW X) kbL_law_1320 1320 ls st M cs sl) : KW X 1320 ls st M cs sl := KW_blk hC hE kbL_law_1320 1320 ls st M cs sl (by decide +kernel) h
def kbL_law_1330 : List KE := [(.iconst 0, 1, (0, 0, 0), 0, 0), (.ireturn, 1, (0, 0, 0), 0, 0)]
theorem kwL_law_1330 {X : KX} {S : KS} {mc ms : Nat} {E : KEnd} {ls : KL} {st : List KV} {M : KM} {cs sl : Nat} (hC : KC X mL_law 8 false S mc ms) (hE : KRet X mL_law E) (h : kblk (kroom mL_law mc ms) S E (KW X) kbL_law_1330 1330 ls st M cs sl) : KW X 1330 ls st M cs sl := KW_blk hC hE kbL_law_1330 1330 ls st M cs sl (by decide +kernel) h
def kbL_law_1332 : List KE := [(.goto (126), 3, (1458, 0, 0), 0, 0)]
theorem kwL_law_1332 {X : KX} {S : KS} {mc ms : Nat} {E : KEnd} {ls : KL} {st : List KV} {M : KM} {cs sl : Nat} (hC : KC X mL_law 8 false S mc ms) (hE : KRet X mL_law E) (h : kblk (kroom mL_law mc ms) S E (KW X) kbL_law_1332 1332 ls st M cs sl) : KW X 1332 ls st M cs sl := KW_blk hC hE kbL_law_1332 1332 ls st M cs sl (by decide +kernel) h
def kbL_law_1335 : List KE := [(.aload_n 1, 1, (1, 0, 0), 0, 0), (.aload_n 0, 1, (0, 0, 0), 0, 0), (.iload 4, 2, (4, 0, 0), 0, 0), (.iconst 1, 1, (0, 0, 0), 1, 0), (.iadd, 1, (0, 0, 0), 0, 0), (.iaload, 1, (0, 0, 0), 0, 0), (.aload_n 0, 1, (0, 0, 0), 0, 0), (.iload 4, 2, (4, 0, 0), 0, 0), (.iconst 2, 1, (0, 0, 0), 2, 0), (.iadd, 1, (0, 0, 0), 0, 0), (.iaload, 1, (0, 0, 0), 0, 0), (.aload_n 3, 1, (3, 0, 0), 0, 0)]
theorem kwL_law_1335 {X : KX} {S : KS} {mc ms : Nat} {E : KEnd} {ls : KL} {st : List KV} {M : KM} {cs sl : Nat} (hC : KC X mL_law 8 false S mc ms) (hE : KRet X mL_law E) (h : kblk (kroom mL_law mc ms) S E (KW X) kbL_law_1335 1335 ls st M cs sl) : KW X 1335 ls st M cs sl := KW_blk hC hE kbL_law_1335 1335 ls st M cs sl (by decide +kernel) h
def kbL_law_1352 : List KE := [(.istore 5, 2, (5, 0, 0), 0, 0), (.aload_n 2, 1, (2, 0, 0), 0, 0), (.aload_n 0, 1, (0, 0, 0), 0, 0), (.iload 4, 2, (4, 0, 0), 0, 0), (.iconst 1, 1, (0, 0, 0), 1, 0), (.iadd, 1, (0, 0, 0), 0, 0), (.iaload, 1, (0, 0, 0), 0, 0), (.aload_n 0, 1, (0, 0, 0), 0, 0), (.iload 4, 2, (4, 0, 0), 0, 0), (.iconst 2, 1, (0, 0, 0), 2, 0), (.iadd, 1, (0, 0, 0), 0, 0), (.iaload, 1, (0, 0, 0), 0, 0)]
theorem kwL_law_1352 {X : KX} {S : KS} {mc ms : Nat} {E : KEnd} {ls : KL} {st : List KV} {M : KM} {cs sl : Nat} (hC : KC X mL_law 8 false S mc ms) (hE : KRet X mL_law E) (h : kblk (kroom mL_law mc ms) S E (KW X) kbL_law_1352 1352 ls st M cs sl) : KW X 1352 ls st M cs sl := KW_blk hC hE kbL_law_1352 1352 ls st M cs sl (by decide +kernel) h
def kbL_law_1370 : List KE := [(.istore 6, 2, (6, 0, 0), 0, 0), (.aload_n 2, 1, (2, 0, 0), 0, 0)]
theorem kwL_law_1370 {X : KX} {S : KS} {mc ms : Nat} {E : KEnd} {ls : KL} {st : List KV} {M : KM} {cs sl : Nat} (hC : KC X mL_law 8 false S mc ms) (hE : KRet X mL_law E) (h : kblk (kroom mL_law mc ms) S E (KW X) kbL_law_1370 1370 ls st M cs sl) : KW X 1370 ls st M cs sl := KW_blk hC hE kbL_law_1370 1370 ls st M cs sl (by decide +kernel) h
def kbL_law_1376 : List KE := [(.iload 5, 2, (5, 0, 0), 0, 0), (.if_icmp .eq (5), 3, (1383, 0, 0), 0, 0)]
theorem kwL_law_1376 {X : KX} {S : KS} {mc ms : Nat} {E : KEnd} {ls : KL} {st : List KV} {M : KM} {cs sl : Nat} (hC : KC X mL_law 8 false S mc ms) (hE : KRet X mL_law E) (h : kblk (kroom mL_law mc ms) S E (KW X) kbL_law_1376 1376 ls st M cs sl) : KW X 1376 ls st M cs sl := KW_blk hC hE kbL_law_1376 1376 ls st M cs sl (by decide +kernel) h
def kbL_law_1381 : List KE := [(.iconst 0, 1, (0, 0, 0), 0, 0), (.ireturn, 1, (0, 0, 0), 0, 0)]
theorem kwL_law_1381 {X : KX} {S : KS} {mc ms : Nat} {E : KEnd} {ls : KL} {st : List KV} {M : KM} {cs sl : Nat} (hC : KC X mL_law 8 false S mc ms) (hE : KRet X mL_law E) (h : kblk (kroom mL_law mc ms) S E (KW X) kbL_law_1381 1381 ls st M cs sl) : KW X 1381 ls st M cs sl := KW_blk hC hE kbL_law_1381 1381 ls st M cs sl (by decide +kernel) h
def kbL_law_1383 : List KE := [(.iload 5, 2, (5, 0, 0), 0, 0), (.ifCond .ne (15), 3, (1400, 0, 0), 0, 0)]
theorem kwL_law_1383 {X : KX} {S : KS} {mc ms : Nat} {E : KEnd} {ls : KL} {st : List KV} {M : KM} {cs sl : Nat} (hC : KC X mL_law 8 false S mc ms) (hE : KRet X mL_law E) (h : kblk (kroom mL_law mc ms) S E (KW X) kbL_law_1383 1383 ls st M cs sl) : KW X 1383 ls st M cs sl := KW_blk hC hE kbL_law_1383 1383 ls st M cs sl (by decide +kernel) h
def kbL_law_1388 : List KE := [(.aload_n 3, 1, (3, 0, 0), 0, 0), (.iconst 0, 1, (0, 0, 0), 0, 0), (.laload, 1, (0, 0, 0), 0, 0), (.iload 6, 2, (6, 0, 0), 0, 0), (.i2l, 1, (0, 0, 0), 0, 0), (.lcmp, 1, (0, 0, 0), 0, 0), (.ifCond .eq (5), 3, (1400, 0, 0), 0, 0)]
theorem kwL_law_1388 {X : KX} {S : KS} {mc ms : Nat} {E : KEnd} {ls : KL} {st : List KV} {M : KM} {cs sl : Nat} (hC : KC X mL_law 8 false S mc ms) (hE : KRet X mL_law E) (h : kblk (kroom mL_law mc ms) S E (KW X) kbL_law_1388 1388 ls st M cs sl) : KW X 1388 ls st M cs sl := KW_blk hC hE kbL_law_1388 1388 ls st M cs sl (by decide +kernel) h
def kbL_law_1398 : List KE := [(.iconst 0, 1, (0, 0, 0), 0, 0), (.ireturn, 1, (0, 0, 0), 0, 0)]
theorem kwL_law_1398 {X : KX} {S : KS} {mc ms : Nat} {E : KEnd} {ls : KL} {st : List KV} {M : KM} {cs sl : Nat} (hC : KC X mL_law 8 false S mc ms) (hE : KRet X mL_law E) (h : kblk (kroom mL_law mc ms) S E (KW X) kbL_law_1398 1398 ls st M cs sl) : KW X 1398 ls st M cs sl := KW_blk hC hE kbL_law_1398 1398 ls st M cs sl (by decide +kernel) h
def kbL_law_1400 : List KE := [(.goto (58), 3, (1458, 0, 0), 0, 0)]
theorem kwL_law_1400 {X : KX} {S : KS} {mc ms : Nat} {E : KEnd} {ls : KL} {st : List KV} {M : KM} {cs sl : Nat} (hC : KC X mL_law 8 false S mc ms) (hE : KRet X mL_law E) (h : kblk (kroom mL_law mc ms) S E (KW X) kbL_law_1400 1400 ls st M cs sl) : KW X 1400 ls st M cs sl := KW_blk hC hE kbL_law_1400 1400 ls st M cs sl (by decide +kernel) h
def kbL_law_1403 : List KE := [(.aload_n 1, 1, (1, 0, 0), 0, 0)]
theorem kwL_law_1403 {X : KX} {S : KS} {mc ms : Nat} {E : KEnd} {ls : KL} {st : List KV} {M : KM} {cs sl : Nat} (hC : KC X mL_law 8 false S mc ms) (hE : KRet X mL_law E) (h : kblk (kroom mL_law mc ms) S E (KW X) kbL_law_1403 1403 ls st M cs sl) : KW X 1403 ls st M cs sl := KW_blk hC hE kbL_law_1403 1403 ls st M cs sl (by decide +kernel) h
def kbL_law_1407 : List KE := [(.dstore 5, 2, (5, 0, 0), 0, 0), (.aload_n 2, 1, (2, 0, 0), 0, 0)]
theorem kwL_law_1407 {X : KX} {S : KS} {mc ms : Nat} {E : KEnd} {ls : KL} {st : List KV} {M : KM} {cs sl : Nat} (hC : KC X mL_law 8 false S mc ms) (hE : KRet X mL_law E) (h : kblk (kroom mL_law mc ms) S E (KW X) kbL_law_1407 1407 ls st M cs sl) : KW X 1407 ls st M cs sl := KW_blk hC hE kbL_law_1407 1407 ls st M cs sl (by decide +kernel) h
def kbL_law_1413 : List KE := [(.dstore 7, 2, (7, 0, 0), 0, 0), (.dload 5, 2, (5, 0, 0), 0, 0), (.dload 7, 2, (7, 0, 0), 0, 0), (.dcmp .l, 1, (0, 0, 0), 0, 0), (.ifCond .eq (21), 3, (1441, 0, 0), 0, 0)]
theorem kwL_law_1413 {X : KX} {S : KS} {mc ms : Nat} {E : KEnd} {ls : KL} {st : List KV} {M : KM} {cs sl : Nat} (hC : KC X mL_law 8 false S mc ms) (hE : KRet X mL_law E) (h : kblk (kroom mL_law mc ms) S E (KW X) kbL_law_1413 1413 ls st M cs sl) : KW X 1413 ls st M cs sl := KW_blk hC hE kbL_law_1413 1413 ls st M cs sl (by decide +kernel) h
def kbL_law_1423 : List KE := [(.dload 5, 2, (5, 0, 0), 0, 0), (.dload 5, 2, (5, 0, 0), 0, 0), (.dcmp .l, 1, (0, 0, 0), 0, 0), (.ifCond .eq (11), 3, (1439, 0, 0), 0, 0)]
theorem kwL_law_1423 {X : KX} {S : KS} {mc ms : Nat} {E : KEnd} {ls : KL} {st : List KV} {M : KM} {cs sl : Nat} (hC : KC X mL_law 8 false S mc ms) (hE : KRet X mL_law E) (h : kblk (kroom mL_law mc ms) S E (KW X) kbL_law_1423 1423 ls st M cs sl) : KW X 1423 ls st M cs sl := KW_blk hC hE kbL_law_1423 1423 ls st M cs sl (by decide +kernel) h
def kbL_law_1431 : List KE := [(.dload 7, 2, (7, 0, 0), 0, 0), (.dload 7, 2, (7, 0, 0), 0, 0), (.dcmp .l, 1, (0, 0, 0), 0, 0), (.ifCond .ne (5), 3, (1441, 0, 0), 0, 0)]
theorem kwL_law_1431 {X : KX} {S : KS} {mc ms : Nat} {E : KEnd} {ls : KL} {st : List KV} {M : KM} {cs sl : Nat} (hC : KC X mL_law 8 false S mc ms) (hE : KRet X mL_law E) (h : kblk (kroom mL_law mc ms) S E (KW X) kbL_law_1431 1431 ls st M cs sl) : KW X 1431 ls st M cs sl := KW_blk hC hE kbL_law_1431 1431 ls st M cs sl (by decide +kernel) h
def kbL_law_1439 : List KE := [(.iconst 0, 1, (0, 0, 0), 0, 0), (.ireturn, 1, (0, 0, 0), 0, 0)]
theorem kwL_law_1439 {X : KX} {S : KS} {mc ms : Nat} {E : KEnd} {ls : KL} {st : List KV} {M : KM} {cs sl : Nat} (hC : KC X mL_law 8 false S mc ms) (hE : KRet X mL_law E) (h : kblk (kroom mL_law mc ms) S E (KW X) kbL_law_1439 1439 ls st M cs sl) : KW X 1439 ls st M cs sl := KW_blk hC hE kbL_law_1439 1439 ls st M cs sl (by decide +kernel) h
def kbL_law_1441 : List KE := [(.goto (17), 3, (1458, 0, 0), 0, 0)]
theorem kwL_law_1441 {X : KX} {S : KS} {mc ms : Nat} {E : KEnd} {ls : KL} {st : List KV} {M : KM} {cs sl : Nat} (hC : KC X mL_law 8 false S mc ms) (hE : KRet X mL_law E) (h : kblk (kroom mL_law mc ms) S E (KW X) kbL_law_1441 1441 ls st M cs sl) : KW X 1441 ls st M cs sl := KW_blk hC hE kbL_law_1441 1441 ls st M cs sl (by decide +kernel) h
def kbL_law_1444 : List KE := [(.aload_n 1, 1, (1, 0, 0), 0, 0)]
theorem kwL_law_1444 {X : KX} {S : KS} {mc ms : Nat} {E : KEnd} {ls : KL} {st : List KV} {M : KM} {cs sl : Nat} (hC : KC X mL_law 8 false S mc ms) (hE : KRet X mL_law E) (h : kblk (kroom mL_law mc ms) S E (KW X) kbL_law_1444 1444 ls st M cs sl) : KW X 1444 ls st M cs sl := KW_blk hC hE kbL_law_1444 1444 ls st M cs sl (by decide +kernel) h
def kbL_law_1448 : List KE := [(.aload_n 2, 1, (2, 0, 0), 0, 0)]
theorem kwL_law_1448 {X : KX} {S : KS} {mc ms : Nat} {E : KEnd} {ls : KL} {st : List KV} {M : KM} {cs sl : Nat} (hC : KC X mL_law 8 false S mc ms) (hE : KRet X mL_law E) (h : kblk (kroom mL_law mc ms) S E (KW X) kbL_law_1448 1448 ls st M cs sl) : KW X 1448 ls st M cs sl := KW_blk hC hE kbL_law_1448 1448 ls st M cs sl (by decide +kernel) h
def kbL_law_1452 : List KE := [(.lcmp, 1, (0, 0, 0), 0, 0), (.ifCond .eq (5), 3, (1458, 0, 0), 0, 0)]
theorem kwL_law_1452 {X : KX} {S : KS} {mc ms : Nat} {E : KEnd} {ls : KL} {st : List KV} {M : KM} {cs sl : Nat} (hC : KC X mL_law 8 false S mc ms) (hE : KRet X mL_law E) (h : kblk (kroom mL_law mc ms) S E (KW X) kbL_law_1452 1452 ls st M cs sl) : KW X 1452 ls st M cs sl := KW_blk hC hE kbL_law_1452 1452 ls st M cs sl (by decide +kernel) h
def kbL_law_1456 : List KE := [(.iconst 0, 1, (0, 0, 0), 0, 0), (.ireturn, 1, (0, 0, 0), 0, 0)]
theorem kwL_law_1456 {X : KX} {S : KS} {mc ms : Nat} {E : KEnd} {ls : KL} {st : List KV} {M : KM} {cs sl : Nat} (hC : KC X mL_law 8 false S mc ms) (hE : KRet X mL_law E) (h : kblk (kroom mL_law mc ms) S E (KW X) kbL_law_1456 1456 ls st M cs sl) : KW X 1456 ls st M cs sl := KW_blk hC hE kbL_law_1456 1456 ls st M cs sl (by decide +kernel) h
def kbL_law_1458 : List KE := [(.iinc 4 (4), 3, (4, 0, 0), 4, 0), (.goto (-1438), 3, (23, 0, 0), 0, 0)]
theorem kwL_law_1458 {X : KX} {S : KS} {mc ms : Nat} {E : KEnd} {ls : KL} {st : List KV} {M : KM} {cs sl : Nat} (hC : KC X mL_law 8 false S mc ms) (hE : KRet X mL_law E) (h : kblk (kroom mL_law mc ms) S E (KW X) kbL_law_1458 1458 ls st M cs sl) : KW X 1458 ls st M cs sl := KW_blk hC hE kbL_law_1458 1458 ls st M cs sl (by decide +kernel) h
def kbL_law_1464 : List KE := [(.iconst 1, 1, (0, 0, 0), 1, 0), (.ireturn, 1, (0, 0, 0), 0, 0)]
theorem kwL_law_1464 {X : KX} {S : KS} {mc ms : Nat} {E : KEnd} {ls : KL} {st : List KV} {M : KM} {cs sl : Nat} (hC : KC X mL_law 8 false S mc ms) (hE : KRet X mL_law E) (h : kblk (kroom mL_law mc ms) S E (KW X) kbL_law_1464 1464 ls st M cs sl) : KW X 1464 ls st M cs sl := KW_blk hC hE kbL_law_1464 1464 ls st M cs sl (by decide +kernel) h
def kbL_leave_0 : List KE := [(.aload_n 2, 1, (2, 0, 0), 0, 0), (.iconst 0, 1, (0, 0, 0), 0, 0), (.aload_n 0, 1, (0, 0, 0), 0, 0), (.iload_n 1, 1, (1, 0, 0), 0, 0)]
theorem kwL_leave_0 {X : KX} {S : KS} {mc ms : Nat} {E : KEnd} {ls : KL} {st : List KV} {M : KM} {cs sl : Nat} (hC : KC X mL_leave 8 false S mc ms) (hE : KRet X mL_leave E) (h : kblk (kroom mL_leave mc ms) S E (KW X) kbL_leave_0 0 ls st M cs sl) : KW X 0 ls st M cs sl := KW_blk hC hE kbL_leave_0 0 ls st M cs sl (by decide +kernel) h
def kbL_leave_7 : List KE := [(.i2l, 1, (0, 0, 0), 0, 0), (.lastore, 1, (0, 0, 0), 0, 0), (.goto (9), 3, (18, 0, 0), 0, 0)]
theorem kwL_leave_7 {X : KX} {S : KS} {mc ms : Nat} {E : KEnd} {ls : KL} {st : List KV} {M : KM} {cs sl : Nat} (hC : KC X mL_leave 8 false S mc ms) (hE : KRet X mL_leave E) (h : kblk (kroom mL_leave mc ms) S E (KW X) kbL_leave_7 7 ls st M cs sl) : KW X 7 ls st M cs sl := KW_blk hC hE kbL_leave_7 7 ls st M cs sl (by decide +kernel) h
def khL_leave : KHH := [(0, 9, 12, 31), (0, 9, 15, 15)]
def kbL_needs_0 : List KE := [(.aload_n 3, 1, (3, 0, 0), 0, 0), (.iconst 0, 1, (0, 0, 0), 0, 0), (.aload_n 0, 1, (0, 0, 0), 0, 0), (.iload_n 1, 1, (1, 0, 0), 0, 0), (.iload_n 2, 1, (2, 0, 0), 0, 0)]
theorem kwL_needs_0 {X : KX} {S : KS} {mc ms : Nat} {E : KEnd} {ls : KL} {st : List KV} {M : KM} {cs sl : Nat} (hC : KC X mL_needs 8 false S mc ms) (hE : KRet X mL_needs E) (h : kblk (kroom mL_needs mc ms) S E (KW X) kbL_needs_0 0 ls st M cs sl) : KW X 0 ls st M cs sl := KW_blk hC hE kbL_needs_0 0 ls st M cs sl (by decide +kernel) h
def kbL_needs_8 : List KE := [(.i2l, 1, (0, 0, 0), 0, 0), (.lastore, 1, (0, 0, 0), 0, 0), (.goto (7), 3, (17, 0, 0), 0, 0)]
theorem kwL_needs_8 {X : KX} {S : KS} {mc ms : Nat} {E : KEnd} {ls : KL} {st : List KV} {M : KM} {cs sl : Nat} (hC : KC X mL_needs 8 false S mc ms) (hE : KRet X mL_needs E) (h : kblk (kroom mL_needs mc ms) S E (KW X) kbL_needs_8 8 ls st M cs sl) : KW X 8 ls st M cs sl := KW_blk hC hE kbL_needs_8 8 ls st M cs sl (by decide +kernel) h
def khL_needs : KHH := [(0, 10, 13, 13)]
def kbL_pass_0 : List KE := [(.aload_n 2, 1, (2, 0, 0), 0, 0), (.iconst 0, 1, (0, 0, 0), 0, 0), (.aload_n 0, 1, (0, 0, 0), 0, 0), (.iload_n 1, 1, (1, 0, 0), 0, 0)]
theorem kwL_pass_0 {X : KX} {S : KS} {mc ms : Nat} {E : KEnd} {ls : KL} {st : List KV} {M : KM} {cs sl : Nat} (hC : KC X mL_pass 8 false S mc ms) (hE : KRet X mL_pass E) (h : kblk (kroom mL_pass mc ms) S E (KW X) kbL_pass_0 0 ls st M cs sl) : KW X 0 ls st M cs sl := KW_blk hC hE kbL_pass_0 0 ls st M cs sl (by decide +kernel) h
def kbL_pass_7 : List KE := [(.i2l, 1, (0, 0, 0), 0, 0), (.lastore, 1, (0, 0, 0), 0, 0), (.goto (6), 3, (15, 0, 0), 0, 0)]
theorem kwL_pass_7 {X : KX} {S : KS} {mc ms : Nat} {E : KEnd} {ls : KL} {st : List KV} {M : KM} {cs sl : Nat} (hC : KC X mL_pass 8 false S mc ms) (hE : KRet X mL_pass E) (h : kblk (kroom mL_pass mc ms) S E (KW X) kbL_pass_7 7 ls st M cs sl) : KW X 7 ls st M cs sl := KW_blk hC hE kbL_pass_7 7 ls st M cs sl (by decide +kernel) h
def khL_pass : KHH := [(0, 9, 12, 13)]
def kbL_queue_0 : List KE := [(.aload_n 3, 1, (3, 0, 0), 0, 0), (.iconst 0, 1, (0, 0, 0), 0, 0), (.aload_n 0, 1, (0, 0, 0), 0, 0), (.iload_n 1, 1, (1, 0, 0), 0, 0), (.iload_n 2, 1, (2, 0, 0), 0, 0)]
theorem kwL_queue_0 {X : KX} {S : KS} {mc ms : Nat} {E : KEnd} {ls : KL} {st : List KV} {M : KM} {cs sl : Nat} (hC : KC X mL_queue 8 false S mc ms) (hE : KRet X mL_queue E) (h : kblk (kroom mL_queue mc ms) S E (KW X) kbL_queue_0 0 ls st M cs sl) : KW X 0 ls st M cs sl := KW_blk hC hE kbL_queue_0 0 ls st M cs sl (by decide +kernel) h
def kbL_queue_8 : List KE := [(.i2l, 1, (0, 0, 0), 0, 0), (.lastore, 1, (0, 0, 0), 0, 0), (.goto (7), 3, (17, 0, 0), 0, 0)]
theorem kwL_queue_8 {X : KX} {S : KS} {mc ms : Nat} {E : KEnd} {ls : KL} {st : List KV} {M : KM} {cs sl : Nat} (hC : KC X mL_queue 8 false S mc ms) (hE : KRet X mL_queue E) (h : kblk (kroom mL_queue mc ms) S E (KW X) kbL_queue_8 8 ls st M cs sl) : KW X 8 ls st M cs sl := KW_blk hC hE kbL_queue_8 8 ls st M cs sl (by decide +kernel) h
def khL_queue : KHH := [(0, 10, 13, 31)]
def kbL_setWind_0 : List KE := [(.aload_n 3, 1, (3, 0, 0), 0, 0), (.iconst 0, 1, (0, 0, 0), 0, 0), (.aload_n 0, 1, (0, 0, 0), 0, 0), (.iload_n 1, 1, (1, 0, 0), 0, 0), (.iload_n 2, 1, (2, 0, 0), 0, 0)]
theorem kwL_setWind_0 {X : KX} {S : KS} {mc ms : Nat} {E : KEnd} {ls : KL} {st : List KV} {M : KM} {cs sl : Nat} (hC : KC X mL_setWind 8 false S mc ms) (hE : KRet X mL_setWind E) (h : kblk (kroom mL_setWind mc ms) S E (KW X) kbL_setWind_0 0 ls st M cs sl) : KW X 0 ls st M cs sl := KW_blk hC hE kbL_setWind_0 0 ls st M cs sl (by decide +kernel) h
def kbL_setWind_8 : List KE := [(.i2l, 1, (0, 0, 0), 0, 0), (.lastore, 1, (0, 0, 0), 0, 0), (.goto (11), 3, (21, 0, 0), 0, 0)]
theorem kwL_setWind_8 {X : KX} {S : KS} {mc ms : Nat} {E : KEnd} {ls : KL} {st : List KV} {M : KM} {cs sl : Nat} (hC : KC X mL_setWind 8 false S mc ms) (hE : KRet X mL_setWind E) (h : kblk (kroom mL_setWind mc ms) S E (KW X) kbL_setWind_8 8 ls st M cs sl) : KW X 8 ls st M cs sl := KW_blk hC hE kbL_setWind_8 8 ls st M cs sl (by decide +kernel) h
def khL_setWind : KHH := [(0, 10, 13, 31), (0, 10, 17, 13)]
def kbL_shed_0 : List KE := [(.aload_n 2, 1, (2, 0, 0), 0, 0), (.iconst 0, 1, (0, 0, 0), 0, 0), (.aload_n 0, 1, (0, 0, 0), 0, 0), (.iload_n 1, 1, (1, 0, 0), 0, 0)]
theorem kwL_shed_0 {X : KX} {S : KS} {mc ms : Nat} {E : KEnd} {ls : KL} {st : List KV} {M : KM} {cs sl : Nat} (hC : KC X mL_shed 8 false S mc ms) (hE : KRet X mL_shed E) (h : kblk (kroom mL_shed mc ms) S E (KW X) kbL_shed_0 0 ls st M cs sl) : KW X 0 ls st M cs sl := KW_blk hC hE kbL_shed_0 0 ls st M cs sl (by decide +kernel) h
def kbL_shed_7 : List KE := [(.i2l, 1, (0, 0, 0), 0, 0), (.lastore, 1, (0, 0, 0), 0, 0), (.goto (6), 3, (15, 0, 0), 0, 0)]
theorem kwL_shed_7 {X : KX} {S : KS} {mc ms : Nat} {E : KEnd} {ls : KL} {st : List KV} {M : KM} {cs sl : Nat} (hC : KC X mL_shed 8 false S mc ms) (hE : KRet X mL_shed E) (h : kblk (kroom mL_shed mc ms) S E (KW X) kbL_shed_7 7 ls st M cs sl) : KW X 7 ls st M cs sl := KW_blk hC hE kbL_shed_7 7 ls st M cs sl (by decide +kernel) h
def khL_shed : KHH := [(0, 9, 12, 31)]
def kbL_shut_0 : List KE := [(.aload_n 3, 1, (3, 0, 0), 0, 0), (.iconst 0, 1, (0, 0, 0), 0, 0), (.aload_n 0, 1, (0, 0, 0), 0, 0), (.iload_n 1, 1, (1, 0, 0), 0, 0), (.iload_n 2, 1, (2, 0, 0), 0, 0)]
theorem kwL_shut_0 {X : KX} {S : KS} {mc ms : Nat} {E : KEnd} {ls : KL} {st : List KV} {M : KM} {cs sl : Nat} (hC : KC X mL_shut 8 false S mc ms) (hE : KRet X mL_shut E) (h : kblk (kroom mL_shut mc ms) S E (KW X) kbL_shut_0 0 ls st M cs sl) : KW X 0 ls st M cs sl := KW_blk hC hE kbL_shut_0 0 ls st M cs sl (by decide +kernel) h
def kbL_shut_8 : List KE := [(.ifCond .eq (7), 3, (15, 0, 0), 0, 0)]
theorem kwL_shut_8 {X : KX} {S : KS} {mc ms : Nat} {E : KEnd} {ls : KL} {st : List KV} {M : KM} {cs sl : Nat} (hC : KC X mL_shut 8 false S mc ms) (hE : KRet X mL_shut E) (h : kblk (kroom mL_shut mc ms) S E (KW X) kbL_shut_8 8 ls st M cs sl) : KW X 8 ls st M cs sl := KW_blk hC hE kbL_shut_8 8 ls st M cs sl (by decide +kernel) h
def kbL_shut_11 : List KE := [(.lconst 1, 1, (0, 0, 0), 0, 1), (.goto (4), 3, (16, 0, 0), 0, 0)]
theorem kwL_shut_11 {X : KX} {S : KS} {mc ms : Nat} {E : KEnd} {ls : KL} {st : List KV} {M : KM} {cs sl : Nat} (hC : KC X mL_shut 8 false S mc ms) (hE : KRet X mL_shut E) (h : kblk (kroom mL_shut mc ms) S E (KW X) kbL_shut_11 11 ls st M cs sl) : KW X 11 ls st M cs sl := KW_blk hC hE kbL_shut_11 11 ls st M cs sl (by decide +kernel) h
def kbL_shut_15 : List KE := [(.lconst 0, 1, (0, 0, 0), 0, 0)]
theorem kwL_shut_15 {X : KX} {S : KS} {mc ms : Nat} {E : KEnd} {ls : KL} {st : List KV} {M : KM} {cs sl : Nat} (hC : KC X mL_shut 8 false S mc ms) (hE : KRet X mL_shut E) (h : kblk (kroom mL_shut mc ms) S E (KW X) kbL_shut_15 15 ls st M cs sl) : KW X 15 ls st M cs sl := KW_blk hC hE kbL_shut_15 15 ls st M cs sl (by decide +kernel) h
def kbL_shut_16 : List KE := [(.lastore, 1, (0, 0, 0), 0, 0), (.goto (7), 3, (24, 0, 0), 0, 0)]
theorem kwL_shut_16 {X : KX} {S : KS} {mc ms : Nat} {E : KEnd} {ls : KL} {st : List KV} {M : KM} {cs sl : Nat} (hC : KC X mL_shut 8 false S mc ms) (hE : KRet X mL_shut E) (h : kblk (kroom mL_shut mc ms) S E (KW X) kbL_shut_16 16 ls st M cs sl) : KW X 16 ls st M cs sl := KW_blk hC hE kbL_shut_16 16 ls st M cs sl (by decide +kernel) h
def khL_shut : KHH := [(0, 17, 20, 31)]
def kbL_stretch_0 : List KE := [(.aload_n 2, 1, (2, 0, 0), 0, 0), (.iconst 0, 1, (0, 0, 0), 0, 0), (.aload_n 0, 1, (0, 0, 0), 0, 0), (.iload_n 1, 1, (1, 0, 0), 0, 0)]
theorem kwL_stretch_0 {X : KX} {S : KS} {mc ms : Nat} {E : KEnd} {ls : KL} {st : List KV} {M : KM} {cs sl : Nat} (hC : KC X mL_stretch 8 false S mc ms) (hE : KRet X mL_stretch E) (h : kblk (kroom mL_stretch mc ms) S E (KW X) kbL_stretch_0 0 ls st M cs sl) : KW X 0 ls st M cs sl := KW_blk hC hE kbL_stretch_0 0 ls st M cs sl (by decide +kernel) h
def kbL_stretch_7 : List KE := [(.i2l, 1, (0, 0, 0), 0, 0), (.lastore, 1, (0, 0, 0), 0, 0), (.goto (9), 3, (18, 0, 0), 0, 0)]
theorem kwL_stretch_7 {X : KX} {S : KS} {mc ms : Nat} {E : KEnd} {ls : KL} {st : List KV} {M : KM} {cs sl : Nat} (hC : KC X mL_stretch 8 false S mc ms) (hE : KRet X mL_stretch E) (h : kblk (kroom mL_stretch mc ms) S E (KW X) kbL_stretch_7 7 ls st M cs sl) : KW X 7 ls st M cs sl := KW_blk hC hE kbL_stretch_7 7 ls st M cs sl (by decide +kernel) h
def khL_stretch : KHH := [(0, 9, 12, 13), (0, 9, 15, 15)]
def kbL_want_0 : List KE := [(.aload_n 2, 1, (2, 0, 0), 0, 0), (.iconst 0, 1, (0, 0, 0), 0, 0), (.aload_n 0, 1, (0, 0, 0), 0, 0), (.iload_n 1, 1, (1, 0, 0), 0, 0)]
theorem kwL_want_0 {X : KX} {S : KS} {mc ms : Nat} {E : KEnd} {ls : KL} {st : List KV} {M : KM} {cs sl : Nat} (hC : KC X mL_want 8 false S mc ms) (hE : KRet X mL_want E) (h : kblk (kroom mL_want mc ms) S E (KW X) kbL_want_0 0 ls st M cs sl) : KW X 0 ls st M cs sl := KW_blk hC hE kbL_want_0 0 ls st M cs sl (by decide +kernel) h
def kbL_want_7 : List KE := [(.i2l, 1, (0, 0, 0), 0, 0), (.lastore, 1, (0, 0, 0), 0, 0), (.goto (6), 3, (15, 0, 0), 0, 0)]
theorem kwL_want_7 {X : KX} {S : KS} {mc ms : Nat} {E : KEnd} {ls : KL} {st : List KV} {M : KM} {cs sl : Nat} (hC : KC X mL_want 8 false S mc ms) (hE : KRet X mL_want E) (h : kblk (kroom mL_want mc ms) S E (KW X) kbL_want_7 7 ls st M cs sl) : KW X 7 ls st M cs sl := KW_blk hC hE kbL_want_7 7 ls st M cs sl (by decide +kernel) h
def khL_want : KHH := [(0, 9, 12, 13)]
def kbL_when_0 : List KE := [(.aload_n 2, 1, (2, 0, 0), 0, 0), (.iconst 0, 1, (0, 0, 0), 0, 0), (.aload_n 0, 1, (0, 0, 0), 0, 0), (.iload_n 1, 1, (1, 0, 0), 0, 0)]
theorem kwL_when_0 {X : KX} {S : KS} {mc ms : Nat} {E : KEnd} {ls : KL} {st : List KV} {M : KM} {cs sl : Nat} (hC : KC X mL_when 8 false S mc ms) (hE : KRet X mL_when E) (h : kblk (kroom mL_when mc ms) S E (KW X) kbL_when_0 0 ls st M cs sl) : KW X 0 ls st M cs sl := KW_blk hC hE kbL_when_0 0 ls st M cs sl (by decide +kernel) h
def kbL_when_7 : List KE := [(.i2l, 1, (0, 0, 0), 0, 0), (.lastore, 1, (0, 0, 0), 0, 0), (.goto (6), 3, (15, 0, 0), 0, 0)]
theorem kwL_when_7 {X : KX} {S : KS} {mc ms : Nat} {E : KEnd} {ls : KL} {st : List KV} {M : KM} {cs sl : Nat} (hC : KC X mL_when 8 false S mc ms) (hE : KRet X mL_when E) (h : kblk (kroom mL_when mc ms) S E (KW X) kbL_when_7 7 ls st M cs sl) : KW X 7 ls st M cs sl := KW_blk hC hE kbL_when_7 7 ls st M cs sl (by decide +kernel) h
def khL_when : KHH := [(0, 9, 12, 31)]
def kbX0_copyFrom_0 : List KE := [(.aload_n 0, 1, (0, 0, 0), 0, 0), (.aload_n 1, 1, (1, 0, 0), 0, 0), (.getfield 15, 3, (0, 0, 0), 0, 0), (.putfield 15, 3, (0, 0, 0), 0, 0), (.aload_n 0, 1, (0, 0, 0), 0, 0), (.aload_n 1, 1, (1, 0, 0), 0, 0), (.getfield 9, 3, (0, 1, 0), 0, 0), (.putfield 9, 3, (0, 1, 0), 0, 0), (.aload_n 0, 1, (0, 0, 0), 0, 0), (.aload_n 1, 1, (1, 0, 0), 0, 0), (.getfield 18, 3, (0, 2, 0), 0, 0), (.putfield 18, 3, (0, 2, 0), 0, 0), (.aload_n 0, 1, (0, 0, 0), 0, 0), (.aload_n 1, 1, (1, 0, 0), 0, 0), (.getfield 21, 3, (0, 3, 0), 0, 0), (.putfield 21, 3, (0, 3, 0), 0, 0), (.aload_n 0, 1, (0, 0, 0), 0, 0), (.aload_n 1, 1, (1, 0, 0), 0, 0), (.getfield 24, 3, (0, 4, 0), 0, 0), (.putfield 24, 3, (0, 4, 0), 0, 0), (.return_, 1, (0, 0, 0), 0, 0)]
theorem kwX0_copyFrom_0 {X : KX} {S : KS} {mc ms : Nat} {E : KEnd} {ls : KL} {st : List KV} {M : KM} {cs sl : Nat} (hC : KC X mX0_copyFrom 0 false S mc ms) (hE : KRet X mX0_copyFrom E) (h : kblk (kroom mX0_copyFrom mc ms) S E (KW X) kbX0_copyFrom_0 0 ls st M cs sl) : KW X 0 ls st M cs sl := KW_blk hC hE kbX0_copyFrom_0 0 ls st M cs sl (by decide +kernel) h
def kbX0_fact_0 : List KE := [(.iload_n 1, 1, (1, 0, 0), 0, 0), (.tableswitch (51) 0 3 #[31, 36, 41, 46], 31, (0, 0, 0), 0, 0)]
theorem kwX0_fact_0 {X : KX} {S : KS} {mc ms : Nat} {E : KEnd} {ls : KL} {st : List KV} {M : KM} {cs sl : Nat} (hC : KC X mX0_fact 0 false S mc ms) (hE : KRet X mX0_fact E) (h : kblk (kroom mX0_fact mc ms) S E (KW X) kbX0_fact_0 0 ls st M cs sl) : KW X 0 ls st M cs sl := KW_blk hC hE kbX0_fact_0 0 ls st M cs sl (by decide +kernel) h
def kbX0_fact_32 : List KE := [(.aload_n 0, 1, (0, 0, 0), 0, 0), (.getfield 15, 3, (0, 0, 0), 0, 0), (.ireturn, 1, (0, 0, 0), 0, 0)]
theorem kwX0_fact_32 {X : KX} {S : KS} {mc ms : Nat} {E : KEnd} {ls : KL} {st : List KV} {M : KM} {cs sl : Nat} (hC : KC X mX0_fact 0 false S mc ms) (hE : KRet X mX0_fact E) (h : kblk (kroom mX0_fact mc ms) S E (KW X) kbX0_fact_32 32 ls st M cs sl) : KW X 32 ls st M cs sl := KW_blk hC hE kbX0_fact_32 32 ls st M cs sl (by decide +kernel) h
def kbX0_fact_37 : List KE := [(.aload_n 0, 1, (0, 0, 0), 0, 0), (.getfield 9, 3, (0, 1, 0), 0, 0), (.ireturn, 1, (0, 0, 0), 0, 0)]
theorem kwX0_fact_37 {X : KX} {S : KS} {mc ms : Nat} {E : KEnd} {ls : KL} {st : List KV} {M : KM} {cs sl : Nat} (hC : KC X mX0_fact 0 false S mc ms) (hE : KRet X mX0_fact E) (h : kblk (kroom mX0_fact mc ms) S E (KW X) kbX0_fact_37 37 ls st M cs sl) : KW X 37 ls st M cs sl := KW_blk hC hE kbX0_fact_37 37 ls st M cs sl (by decide +kernel) h
def kbX0_fact_42 : List KE := [(.aload_n 0, 1, (0, 0, 0), 0, 0), (.getfield 18, 3, (0, 2, 0), 0, 0), (.ireturn, 1, (0, 0, 0), 0, 0)]
theorem kwX0_fact_42 {X : KX} {S : KS} {mc ms : Nat} {E : KEnd} {ls : KL} {st : List KV} {M : KM} {cs sl : Nat} (hC : KC X mX0_fact 0 false S mc ms) (hE : KRet X mX0_fact E) (h : kblk (kroom mX0_fact mc ms) S E (KW X) kbX0_fact_42 42 ls st M cs sl) : KW X 42 ls st M cs sl := KW_blk hC hE kbX0_fact_42 42 ls st M cs sl (by decide +kernel) h
def kbX0_fact_47 : List KE := [(.aload_n 0, 1, (0, 0, 0), 0, 0), (.getfield 21, 3, (0, 3, 0), 0, 0), (.ireturn, 1, (0, 0, 0), 0, 0)]
theorem kwX0_fact_47 {X : KX} {S : KS} {mc ms : Nat} {E : KEnd} {ls : KL} {st : List KV} {M : KM} {cs sl : Nat} (hC : KC X mX0_fact 0 false S mc ms) (hE : KRet X mX0_fact E) (h : kblk (kroom mX0_fact mc ms) S E (KW X) kbX0_fact_47 47 ls st M cs sl) : KW X 47 ls st M cs sl := KW_blk hC hE kbX0_fact_47 47 ls st M cs sl (by decide +kernel) h
def kbX0_fact_52 : List KE := [(.aload_n 0, 1, (0, 0, 0), 0, 0), (.getfield 24, 3, (0, 4, 0), 0, 0), (.ireturn, 1, (0, 0, 0), 0, 0)]
theorem kwX0_fact_52 {X : KX} {S : KS} {mc ms : Nat} {E : KEnd} {ls : KL} {st : List KV} {M : KM} {cs sl : Nat} (hC : KC X mX0_fact 0 false S mc ms) (hE : KRet X mX0_fact E) (h : kblk (kroom mX0_fact mc ms) S E (KW X) kbX0_fact_52 52 ls st M cs sl) : KW X 52 ls st M cs sl := KW_blk hC hE kbX0_fact_52 52 ls st M cs sl (by decide +kernel) h
def kbX0_init_0 : List KE := [(.aload_n 0, 1, (0, 0, 0), 0, 0), (.invokespecial 3, 3, (0, 0, 0), 0, 0), (.aload_n 0, 1, (0, 0, 0), 0, 0), (.iconst (-1), 1, (0, 0, 0), (-1), 0), (.putfield 9, 3, (0, 1, 0), 0, 0), (.return_, 1, (0, 0, 0), 0, 0)]
theorem kwX0_init_0 {X : KX} {S : KS} {mc ms : Nat} {E : KEnd} {ls : KL} {st : List KV} {M : KM} {cs sl : Nat} (hC : KC X mX0_init 0 true S mc ms) (hE : KRet X mX0_init E) (h : kblk (kroom mX0_init mc ms) S E (KW X) kbX0_init_0 0 ls st M cs sl) : KW X 0 ls st M cs sl := KW_blk hC hE kbX0_init_0 0 ls st M cs sl (by decide +kernel) h
def kbX1_copyFrom_0 : List KE := [(.aload_n 0, 1, (0, 0, 0), 0, 0), (.aload_n 1, 1, (1, 0, 0), 0, 0), (.getfield 9, 3, (1, 0, 0), 0, 0), (.putfield 9, 3, (1, 0, 0), 0, 0), (.aload_n 0, 1, (0, 0, 0), 0, 0), (.aload_n 1, 1, (1, 0, 0), 0, 0), (.getfield 15, 3, (1, 1, 0), 0, 0), (.putfield 15, 3, (1, 1, 0), 0, 0), (.aload_n 0, 1, (0, 0, 0), 0, 0), (.aload_n 1, 1, (1, 0, 0), 0, 0), (.getfield 18, 3, (1, 2, 0), 0, 0), (.putfield 18, 3, (1, 2, 0), 0, 0), (.aload_n 0, 1, (0, 0, 0), 0, 0), (.aload_n 1, 1, (1, 0, 0), 0, 0), (.getfield 21, 3, (1, 3, 0), 0, 0), (.putfield 21, 3, (1, 3, 0), 0, 0), (.aload_n 0, 1, (0, 0, 0), 0, 0), (.aload_n 1, 1, (1, 0, 0), 0, 0), (.getfield 24, 3, (1, 4, 0), 0, 0), (.putfield 24, 3, (1, 4, 0), 0, 0), (.aload_n 0, 1, (0, 0, 0), 0, 0), (.aload_n 1, 1, (1, 0, 0), 0, 0), (.getfield 27, 3, (1, 5, 0), 0, 0), (.putfield 27, 3, (1, 5, 0), 0, 0), (.aload_n 0, 1, (0, 0, 0), 0, 0), (.aload_n 1, 1, (1, 0, 0), 0, 0), (.getfield 30, 3, (1, 6, 0), 0, 0), (.putfield 30, 3, (1, 6, 0), 0, 0), (.aload_n 0, 1, (0, 0, 0), 0, 0), (.aload_n 1, 1, (1, 0, 0), 0, 0), (.getfield 33, 3, (1, 7, 0), 0, 0), (.putfield 33, 3, (1, 7, 0), 0, 0), (.return_, 1, (0, 0, 0), 0, 0)]
theorem kwX1_copyFrom_0 {X : KX} {S : KS} {mc ms : Nat} {E : KEnd} {ls : KL} {st : List KV} {M : KM} {cs sl : Nat} (hC : KC X mX1_copyFrom 1 false S mc ms) (hE : KRet X mX1_copyFrom E) (h : kblk (kroom mX1_copyFrom mc ms) S E (KW X) kbX1_copyFrom_0 0 ls st M cs sl) : KW X 0 ls st M cs sl := KW_blk hC hE kbX1_copyFrom_0 0 ls st M cs sl (by decide +kernel) h
def kbX1_fact_0 : List KE := [(.iload_n 1, 1, (1, 0, 0), 0, 0), (.tableswitch (78) 0 6 #[43, 48, 53, 58, 63, 68, 73], 43, (0, 0, 0), 0, 0)]
theorem kwX1_fact_0 {X : KX} {S : KS} {mc ms : Nat} {E : KEnd} {ls : KL} {st : List KV} {M : KM} {cs sl : Nat} (hC : KC X mX1_fact 1 false S mc ms) (hE : KRet X mX1_fact E) (h : kblk (kroom mX1_fact mc ms) S E (KW X) kbX1_fact_0 0 ls st M cs sl) : KW X 0 ls st M cs sl := KW_blk hC hE kbX1_fact_0 0 ls st M cs sl (by decide +kernel) h
def kbX1_fact_44 : List KE := [(.aload_n 0, 1, (0, 0, 0), 0, 0), (.getfield 9, 3, (1, 0, 0), 0, 0), (.ireturn, 1, (0, 0, 0), 0, 0)]
theorem kwX1_fact_44 {X : KX} {S : KS} {mc ms : Nat} {E : KEnd} {ls : KL} {st : List KV} {M : KM} {cs sl : Nat} (hC : KC X mX1_fact 1 false S mc ms) (hE : KRet X mX1_fact E) (h : kblk (kroom mX1_fact mc ms) S E (KW X) kbX1_fact_44 44 ls st M cs sl) : KW X 44 ls st M cs sl := KW_blk hC hE kbX1_fact_44 44 ls st M cs sl (by decide +kernel) h
def kbX1_fact_49 : List KE := [(.aload_n 0, 1, (0, 0, 0), 0, 0), (.getfield 15, 3, (1, 1, 0), 0, 0), (.ireturn, 1, (0, 0, 0), 0, 0)]
theorem kwX1_fact_49 {X : KX} {S : KS} {mc ms : Nat} {E : KEnd} {ls : KL} {st : List KV} {M : KM} {cs sl : Nat} (hC : KC X mX1_fact 1 false S mc ms) (hE : KRet X mX1_fact E) (h : kblk (kroom mX1_fact mc ms) S E (KW X) kbX1_fact_49 49 ls st M cs sl) : KW X 49 ls st M cs sl := KW_blk hC hE kbX1_fact_49 49 ls st M cs sl (by decide +kernel) h
def kbX1_fact_54 : List KE := [(.aload_n 0, 1, (0, 0, 0), 0, 0), (.getfield 18, 3, (1, 2, 0), 0, 0), (.ireturn, 1, (0, 0, 0), 0, 0)]
theorem kwX1_fact_54 {X : KX} {S : KS} {mc ms : Nat} {E : KEnd} {ls : KL} {st : List KV} {M : KM} {cs sl : Nat} (hC : KC X mX1_fact 1 false S mc ms) (hE : KRet X mX1_fact E) (h : kblk (kroom mX1_fact mc ms) S E (KW X) kbX1_fact_54 54 ls st M cs sl) : KW X 54 ls st M cs sl := KW_blk hC hE kbX1_fact_54 54 ls st M cs sl (by decide +kernel) h
def kbX1_fact_59 : List KE := [(.aload_n 0, 1, (0, 0, 0), 0, 0), (.getfield 21, 3, (1, 3, 0), 0, 0), (.ireturn, 1, (0, 0, 0), 0, 0)]
theorem kwX1_fact_59 {X : KX} {S : KS} {mc ms : Nat} {E : KEnd} {ls : KL} {st : List KV} {M : KM} {cs sl : Nat} (hC : KC X mX1_fact 1 false S mc ms) (hE : KRet X mX1_fact E) (h : kblk (kroom mX1_fact mc ms) S E (KW X) kbX1_fact_59 59 ls st M cs sl) : KW X 59 ls st M cs sl := KW_blk hC hE kbX1_fact_59 59 ls st M cs sl (by decide +kernel) h
def kbX1_fact_64 : List KE := [(.aload_n 0, 1, (0, 0, 0), 0, 0), (.getfield 24, 3, (1, 4, 0), 0, 0), (.ireturn, 1, (0, 0, 0), 0, 0)]
theorem kwX1_fact_64 {X : KX} {S : KS} {mc ms : Nat} {E : KEnd} {ls : KL} {st : List KV} {M : KM} {cs sl : Nat} (hC : KC X mX1_fact 1 false S mc ms) (hE : KRet X mX1_fact E) (h : kblk (kroom mX1_fact mc ms) S E (KW X) kbX1_fact_64 64 ls st M cs sl) : KW X 64 ls st M cs sl := KW_blk hC hE kbX1_fact_64 64 ls st M cs sl (by decide +kernel) h
def kbX1_fact_69 : List KE := [(.aload_n 0, 1, (0, 0, 0), 0, 0), (.getfield 27, 3, (1, 5, 0), 0, 0), (.ireturn, 1, (0, 0, 0), 0, 0)]
theorem kwX1_fact_69 {X : KX} {S : KS} {mc ms : Nat} {E : KEnd} {ls : KL} {st : List KV} {M : KM} {cs sl : Nat} (hC : KC X mX1_fact 1 false S mc ms) (hE : KRet X mX1_fact E) (h : kblk (kroom mX1_fact mc ms) S E (KW X) kbX1_fact_69 69 ls st M cs sl) : KW X 69 ls st M cs sl := KW_blk hC hE kbX1_fact_69 69 ls st M cs sl (by decide +kernel) h
def kbX1_fact_74 : List KE := [(.aload_n 0, 1, (0, 0, 0), 0, 0), (.getfield 30, 3, (1, 6, 0), 0, 0), (.ireturn, 1, (0, 0, 0), 0, 0)]
theorem kwX1_fact_74 {X : KX} {S : KS} {mc ms : Nat} {E : KEnd} {ls : KL} {st : List KV} {M : KM} {cs sl : Nat} (hC : KC X mX1_fact 1 false S mc ms) (hE : KRet X mX1_fact E) (h : kblk (kroom mX1_fact mc ms) S E (KW X) kbX1_fact_74 74 ls st M cs sl) : KW X 74 ls st M cs sl := KW_blk hC hE kbX1_fact_74 74 ls st M cs sl (by decide +kernel) h
def kbX1_fact_79 : List KE := [(.aload_n 0, 1, (0, 0, 0), 0, 0), (.getfield 33, 3, (1, 7, 0), 0, 0), (.ireturn, 1, (0, 0, 0), 0, 0)]
theorem kwX1_fact_79 {X : KX} {S : KS} {mc ms : Nat} {E : KEnd} {ls : KL} {st : List KV} {M : KM} {cs sl : Nat} (hC : KC X mX1_fact 1 false S mc ms) (hE : KRet X mX1_fact E) (h : kblk (kroom mX1_fact mc ms) S E (KW X) kbX1_fact_79 79 ls st M cs sl) : KW X 79 ls st M cs sl := KW_blk hC hE kbX1_fact_79 79 ls st M cs sl (by decide +kernel) h
def kbX1_init_0 : List KE := [(.aload_n 0, 1, (0, 0, 0), 0, 0), (.invokespecial 3, 3, (0, 0, 0), 0, 0), (.return_, 1, (0, 0, 0), 0, 0)]
theorem kwX1_init_0 {X : KX} {S : KS} {mc ms : Nat} {E : KEnd} {ls : KL} {st : List KV} {M : KM} {cs sl : Nat} (hC : KC X mX1_init 1 true S mc ms) (hE : KRet X mX1_init E) (h : kblk (kroom mX1_init mc ms) S E (KW X) kbX1_init_0 0 ls st M cs sl) : KW X 0 ls st M cs sl := KW_blk hC hE kbX1_init_0 0 ls st M cs sl (by decide +kernel) h
def kbX1_start_0 : List KE := [(.aload_n 0, 1, (0, 0, 0), 0, 0), (.iload_n 1, 1, (1, 0, 0), 0, 0), (.putfield 9, 3, (1, 0, 0), 0, 0), (.aload_n 0, 1, (0, 0, 0), 0, 0), (.iload_n 2, 1, (2, 0, 0), 0, 0), (.putfield 15, 3, (1, 1, 0), 0, 0), (.aload_n 0, 1, (0, 0, 0), 0, 0), (.iconst 0, 1, (0, 0, 0), 0, 0), (.putfield 18, 3, (1, 2, 0), 0, 0), (.aload_n 0, 1, (0, 0, 0), 0, 0), (.iconst (-1), 1, (0, 0, 0), (-1), 0), (.putfield 21, 3, (1, 3, 0), 0, 0), (.aload_n 0, 1, (0, 0, 0), 0, 0), (.iconst (-1), 1, (0, 0, 0), (-1), 0), (.putfield 24, 3, (1, 4, 0), 0, 0), (.aload_n 0, 1, (0, 0, 0), 0, 0), (.iload_n 3, 1, (3, 0, 0), 0, 0), (.putfield 27, 3, (1, 5, 0), 0, 0), (.aload_n 0, 1, (0, 0, 0), 0, 0), (.iconst (-1), 1, (0, 0, 0), (-1), 0), (.putfield 30, 3, (1, 6, 0), 0, 0), (.aload_n 0, 1, (0, 0, 0), 0, 0), (.iconst 0, 1, (0, 0, 0), 0, 0), (.putfield 33, 3, (1, 7, 0), 0, 0), (.return_, 1, (0, 0, 0), 0, 0)]
theorem kwX1_start_0 {X : KX} {S : KS} {mc ms : Nat} {E : KEnd} {ls : KL} {st : List KV} {M : KM} {cs sl : Nat} (hC : KC X mX1_start 1 false S mc ms) (hE : KRet X mX1_start E) (h : kblk (kroom mX1_start mc ms) S E (KW X) kbX1_start_0 0 ls st M cs sl) : KW X 0 ls st M cs sl := KW_blk hC hE kbX1_start_0 0 ls st M cs sl (by decide +kernel) h
def kbX2_copyFrom_0 : List KE := [(.aload_n 0, 1, (0, 0, 0), 0, 0), (.getfield 14, 3, (2, 0, 1), 0, 0), (.aload_n 1, 1, (1, 0, 0), 0, 0), (.getfield 14, 3, (2, 0, 1), 0, 0)]
theorem kwX2_copyFrom_0 {X : KX} {S : KS} {mc ms : Nat} {E : KEnd} {ls : KL} {st : List KV} {M : KM} {cs sl : Nat} (hC : KC X mX2_copyFrom 2 false S mc ms) (hE : KRet X mX2_copyFrom E) (h : kblk (kroom mX2_copyFrom mc ms) S E (KW X) kbX2_copyFrom_0 0 ls st M cs sl) : KW X 0 ls st M cs sl := KW_blk hC hE kbX2_copyFrom_0 0 ls st M cs sl (by decide +kernel) h
def kbX2_copyFrom_11 : List KE := [(.aload_n 0, 1, (0, 0, 0), 0, 0), (.aload_n 1, 1, (1, 0, 0), 0, 0), (.getfield 24, 3, (2, 1, 0), 0, 0), (.putfield 24, 3, (2, 1, 2), 0, 0), (.aload_n 0, 1, (0, 0, 0), 0, 0), (.aload_n 1, 1, (1, 0, 0), 0, 0), (.getfield 28, 3, (2, 2, 0), 0, 0), (.putfield 28, 3, (2, 2, 0), 0, 0), (.return_, 1, (0, 0, 0), 0, 0)]
theorem kwX2_copyFrom_11 {X : KX} {S : KS} {mc ms : Nat} {E : KEnd} {ls : KL} {st : List KV} {M : KM} {cs sl : Nat} (hC : KC X mX2_copyFrom 2 false S mc ms) (hE : KRet X mX2_copyFrom E) (h : kblk (kroom mX2_copyFrom mc ms) S E (KW X) kbX2_copyFrom_11 11 ls st M cs sl) : KW X 11 ls st M cs sl := KW_blk hC hE kbX2_copyFrom_11 11 ls st M cs sl (by decide +kernel) h
def kbX2_init_0 : List KE := [(.aload_n 0, 1, (0, 0, 0), 0, 0), (.invokespecial 3, 3, (0, 0, 0), 0, 0), (.aload_n 0, 1, (0, 0, 0), 0, 0), (.new 9, 3, (4, 2, 0), 0, 0), (.dup, 1, (0, 0, 0), 0, 0), (.bipush (91), 2, (0, 0, 0), 91, 0)]
theorem kwX2_init_0 {X : KX} {S : KS} {mc ms : Nat} {E : KEnd} {ls : KL} {st : List KV} {M : KM} {cs sl : Nat} (hC : KC X mX2_init 2 true S mc ms) (hE : KRet X mX2_init E) (h : kblk (kroom mX2_init mc ms) S E (KW X) kbX2_init_0 0 ls st M cs sl) : KW X 0 ls st M cs sl := KW_blk hC hE kbX2_init_0 0 ls st M cs sl (by decide +kernel) h
def kbX2_init_14 : List KE := [(.putfield 14, 3, (2, 0, 1), 0, 0), (.return_, 1, (0, 0, 0), 0, 0)]
theorem kwX2_init_14 {X : KX} {S : KS} {mc ms : Nat} {E : KEnd} {ls : KL} {st : List KV} {M : KM} {cs sl : Nat} (hC : KC X mX2_init 2 true S mc ms) (hE : KRet X mX2_init E) (h : kblk (kroom mX2_init mc ms) S E (KW X) kbX2_init_14 14 ls st M cs sl) : KW X 14 ls st M cs sl := KW_blk hC hE kbX2_init_14 14 ls st M cs sl (by decide +kernel) h
def kbX3_board_0 : List KE := [(.aload_n 0, 1, (0, 0, 0), 0, 0), (.getfield 29, 3, (3, 3, 1), 0, 0), (.iload_n 1, 1, (1, 0, 0), 0, 0), (.aaload, 1, (0, 0, 0), 0, 0), (.astore_n 3, 1, (3, 0, 0), 0, 0), (.aload_n 0, 1, (0, 0, 0), 0, 0), (.getfield 23, 3, (3, 2, 1), 0, 0), (.aload_n 3, 1, (3, 0, 0), 0, 0), (.getfield 106, 3, (1, 3, 0), 0, 0), (.aaload, 1, (0, 0, 0), 0, 0), (.dup, 1, (0, 0, 0), 0, 0), (.getfield 193, 3, (2, 2, 0), 0, 0), (.aload_n 3, 1, (3, 0, 0), 0, 0), (.getfield 189, 3, (1, 0, 0), 0, 0), (.iadd, 1, (0, 0, 0), 0, 0), (.putfield 193, 3, (2, 2, 0), 0, 0), (.aload_n 0, 1, (0, 0, 0), 0, 0), (.aload_n 0, 1, (0, 0, 0), 0, 0), (.aload_n 3, 1, (3, 0, 0), 0, 0), (.getfield 106, 3, (1, 3, 0), 0, 0)]
theorem kwX3_board_0 {X : KX} {S : KS} {mc ms : Nat} {E : KEnd} {ls : KL} {st : List KV} {M : KM} {cs sl : Nat} (hC : KC X mX3_board 3 false S mc ms) (hE : KRet X mX3_board E) (h : kblk (kroom mX3_board mc ms) S E (KW X) kbX3_board_0 0 ls st M cs sl) : KW X 0 ls st M cs sl := KW_blk hC hE kbX3_board_0 0 ls st M cs sl (by decide +kernel) h
def kbX3_board_37 : List KE := [(.putfield 80, 3, (3, 10, 0), 0, 0), (.aload_n 0, 1, (0, 0, 0), 0, 0), (.iload_n 1, 1, (1, 0, 0), 0, 0)]
theorem kwX3_board_37 {X : KX} {S : KS} {mc ms : Nat} {E : KEnd} {ls : KL} {st : List KV} {M : KM} {cs sl : Nat} (hC : KC X mX3_board 3 false S mc ms) (hE : KRet X mX3_board E) (h : kblk (kroom mX3_board mc ms) S E (KW X) kbX3_board_37 37 ls st M cs sl) : KW X 37 ls st M cs sl := KW_blk hC hE kbX3_board_37 37 ls st M cs sl (by decide +kernel) h
def kbX3_board_45 : List KE := [(.aload_n 3, 1, (3, 0, 0), 0, 0), (.iconst 1, 1, (0, 0, 0), 1, 0), (.putfield 118, 3, (1, 2, 0), 0, 0), (.aload_n 3, 1, (3, 0, 0), 0, 0), (.iload_n 2, 1, (2, 0, 0), 0, 0), (.putfield 163, 3, (1, 4, 0), 0, 0), (.aload_n 0, 1, (0, 0, 0), 0, 0), (.getfield 17, 3, (3, 1, 1), 0, 0), (.iload_n 2, 1, (2, 0, 0), 0, 0), (.aaload, 1, (0, 0, 0), 0, 0), (.dup, 1, (0, 0, 0), 0, 0), (.getfield 169, 3, (0, 2, 0), 0, 0), (.aload_n 3, 1, (3, 0, 0), 0, 0), (.getfield 189, 3, (1, 0, 0), 0, 0), (.iadd, 1, (0, 0, 0), 0, 0), (.putfield 169, 3, (0, 2, 0), 0, 0), (.aload_n 0, 1, (0, 0, 0), 0, 0), (.getfield 17, 3, (3, 1, 1), 0, 0), (.iload_n 2, 1, (2, 0, 0), 0, 0), (.aaload, 1, (0, 0, 0), 0, 0), (.dup, 1, (0, 0, 0), 0, 0), (.getfield 172, 3, (0, 3, 0), 0, 0), (.iconst 1, 1, (0, 0, 0), 1, 0), (.iadd, 1, (0, 0, 0), 0, 0), (.putfield 172, 3, (0, 3, 0), 0, 0), (.aload_n 0, 1, (0, 0, 0), 0, 0), (.getfield 17, 3, (3, 1, 1), 0, 0), (.iload_n 2, 1, (2, 0, 0), 0, 0), (.aaload, 1, (0, 0, 0), 0, 0), (.dup, 1, (0, 0, 0), 0, 0), (.getfield 196, 3, (0, 4, 0), 0, 0), (.aload_n 3, 1, (3, 0, 0), 0, 0), (.getfield 189, 3, (1, 0, 0), 0, 0), (.iadd, 1, (0, 0, 0), 0, 0), (.putfield 196, 3, (0, 4, 0), 0, 0), (.return_, 1, (0, 0, 0), 0, 0)]
theorem kwX3_board_45 {X : KX} {S : KS} {mc ms : Nat} {E : KEnd} {ls : KL} {st : List KV} {M : KM} {cs sl : Nat} (hC : KC X mX3_board 3 false S mc ms) (hE : KRet X mX3_board E) (h : kblk (kroom mX3_board mc ms) S E (KW X) kbX3_board_45 45 ls st M cs sl) : KW X 45 ls st M cs sl := KW_blk hC hE kbX3_board_45 45 ls st M cs sl (by decide +kernel) h
def kbX3_chairAt_0 : List KE := [(.iconst 0, 1, (0, 0, 0), 0, 0), (.istore_n 2, 1, (2, 0, 0), 0, 0)]
theorem kwX3_chairAt_0 {X : KX} {S : KS} {mc ms : Nat} {E : KEnd} {ls : KL} {st : List KV} {M : KM} {cs sl : Nat} (hC : KC X mX3_chairAt 3 false S mc ms) (hE : KRet X mX3_chairAt E) (h : kblk (kroom mX3_chairAt mc ms) S E (KW X) kbX3_chairAt_0 0 ls st M cs sl) : KW X 0 ls st M cs sl := KW_blk hC hE kbX3_chairAt_0 0 ls st M cs sl (by decide +kernel) h
def kbX3_chairAt_2 : List KE := [(.iload_n 2, 1, (2, 0, 0), 0, 0), (.aload_n 0, 1, (0, 0, 0), 0, 0), (.getfield 55, 3, (3, 5, 0), 0, 0), (.if_icmp .ge (24), 3, (31, 0, 0), 0, 0)]
theorem kwX3_chairAt_2 {X : KX} {S : KS} {mc ms : Nat} {E : KEnd} {ls : KL} {st : List KV} {M : KM} {cs sl : Nat} (hC : KC X mX3_chairAt 3 false S mc ms) (hE : KRet X mX3_chairAt E) (h : kblk (kroom mX3_chairAt mc ms) S E (KW X) kbX3_chairAt_2 2 ls st M cs sl) : KW X 2 ls st M cs sl := KW_blk hC hE kbX3_chairAt_2 2 ls st M cs sl (by decide +kernel) h
def kbX3_chairAt_10 : List KE := [(.aload_n 0, 1, (0, 0, 0), 0, 0), (.getfield 17, 3, (3, 1, 1), 0, 0), (.iload_n 2, 1, (2, 0, 0), 0, 0), (.aaload, 1, (0, 0, 0), 0, 0), (.getfield 156, 3, (0, 1, 0), 0, 0), (.iload_n 1, 1, (1, 0, 0), 0, 0), (.if_icmp .ne (5), 3, (25, 0, 0), 0, 0)]
theorem kwX3_chairAt_10 {X : KX} {S : KS} {mc ms : Nat} {E : KEnd} {ls : KL} {st : List KV} {M : KM} {cs sl : Nat} (hC : KC X mX3_chairAt 3 false S mc ms) (hE : KRet X mX3_chairAt E) (h : kblk (kroom mX3_chairAt mc ms) S E (KW X) kbX3_chairAt_10 10 ls st M cs sl) : KW X 10 ls st M cs sl := KW_blk hC hE kbX3_chairAt_10 10 ls st M cs sl (by decide +kernel) h
def kbX3_chairAt_23 : List KE := [(.iload_n 2, 1, (2, 0, 0), 0, 0), (.ireturn, 1, (0, 0, 0), 0, 0)]
theorem kwX3_chairAt_23 {X : KX} {S : KS} {mc ms : Nat} {E : KEnd} {ls : KL} {st : List KV} {M : KM} {cs sl : Nat} (hC : KC X mX3_chairAt 3 false S mc ms) (hE : KRet X mX3_chairAt E) (h : kblk (kroom mX3_chairAt mc ms) S E (KW X) kbX3_chairAt_23 23 ls st M cs sl) : KW X 23 ls st M cs sl := KW_blk hC hE kbX3_chairAt_23 23 ls st M cs sl (by decide +kernel) h
def kbX3_chairAt_25 : List KE := [(.iinc 2 (1), 3, (2, 0, 0), 1, 0), (.goto (-26), 3, (2, 0, 0), 0, 0)]
theorem kwX3_chairAt_25 {X : KX} {S : KS} {mc ms : Nat} {E : KEnd} {ls : KL} {st : List KV} {M : KM} {cs sl : Nat} (hC : KC X mX3_chairAt 3 false S mc ms) (hE : KRet X mX3_chairAt E) (h : kblk (kroom mX3_chairAt mc ms) S E (KW X) kbX3_chairAt_25 25 ls st M cs sl) : KW X 25 ls st M cs sl := KW_blk hC hE kbX3_chairAt_25 25 ls st M cs sl (by decide +kernel) h
def kbX3_chairAt_31 : List KE := [(.iconst (-1), 1, (0, 0, 0), (-1), 0), (.ireturn, 1, (0, 0, 0), 0, 0)]
theorem kwX3_chairAt_31 {X : KX} {S : KS} {mc ms : Nat} {E : KEnd} {ls : KL} {st : List KV} {M : KM} {cs sl : Nat} (hC : KC X mX3_chairAt 3 false S mc ms) (hE : KRet X mX3_chairAt E) (h : kblk (kroom mX3_chairAt mc ms) S E (KW X) kbX3_chairAt_31 31 ls st M cs sl) : KW X 31 ls st M cs sl := KW_blk hC hE kbX3_chairAt_31 31 ls st M cs sl (by decide +kernel) h
def kbX3_chairsOnRope_0 : List KE := [(.aload_n 0, 1, (0, 0, 0), 0, 0), (.getfield 55, 3, (3, 5, 0), 0, 0), (.aload_n 0, 1, (0, 0, 0), 0, 0), (.getfield 38, 3, (3, 4, 1), 0, 0), (.getfield 177, 3, (4, 1, 0), 0, 0), (.isub, 1, (0, 0, 0), 0, 0), (.ireturn, 1, (0, 0, 0), 0, 0)]
theorem kwX3_chairsOnRope_0 {X : KX} {S : KS} {mc ms : Nat} {E : KEnd} {ls : KL} {st : List KV} {M : KM} {cs sl : Nat} (hC : KC X mX3_chairsOnRope 3 false S mc ms) (hE : KRet X mX3_chairsOnRope E) (h : kblk (kroom mX3_chairsOnRope mc ms) S E (KW X) kbX3_chairsOnRope_0 0 ls st M cs sl) : KW X 0 ls st M cs sl := KW_blk hC hE kbX3_chairsOnRope_0 0 ls st M cs sl (by decide +kernel) h
def kbX3_coldness_0 : List KE := [(.iconst 0, 1, (0, 0, 0), 0, 0), (.istore_n 1, 1, (1, 0, 0), 0, 0), (.iconst 0, 1, (0, 0, 0), 0, 0), (.istore_n 2, 1, (2, 0, 0), 0, 0)]
theorem kwX3_coldness_0 {X : KX} {S : KS} {mc ms : Nat} {E : KEnd} {ls : KL} {st : List KV} {M : KM} {cs sl : Nat} (hC : KC X mX3_coldness 3 false S mc ms) (hE : KRet X mX3_coldness E) (h : kblk (kroom mX3_coldness mc ms) S E (KW X) kbX3_coldness_0 0 ls st M cs sl) : KW X 0 ls st M cs sl := KW_blk hC hE kbX3_coldness_0 0 ls st M cs sl (by decide +kernel) h
def kbX3_coldness_4 : List KE := [(.iload_n 2, 1, (2, 0, 0), 0, 0), (.aload_n 0, 1, (0, 0, 0), 0, 0), (.getfield 68, 3, (3, 7, 0), 0, 0), (.if_icmp .ge (31), 3, (40, 0, 0), 0, 0)]
theorem kwX3_coldness_4 {X : KX} {S : KS} {mc ms : Nat} {E : KEnd} {ls : KL} {st : List KV} {M : KM} {cs sl : Nat} (hC : KC X mX3_coldness 3 false S mc ms) (hE : KRet X mX3_coldness E) (h : kblk (kroom mX3_coldness mc ms) S E (KW X) kbX3_coldness_4 4 ls st M cs sl) : KW X 4 ls st M cs sl := KW_blk hC hE kbX3_coldness_4 4 ls st M cs sl (by decide +kernel) h
def kbX3_coldness_12 : List KE := [(.iload_n 1, 1, (1, 0, 0), 0, 0), (.aload_n 0, 1, (0, 0, 0), 0, 0), (.getfield 29, 3, (3, 3, 1), 0, 0), (.iload_n 2, 1, (2, 0, 0), 0, 0), (.aaload, 1, (0, 0, 0), 0, 0), (.getfield 189, 3, (1, 0, 0), 0, 0), (.aload_n 0, 1, (0, 0, 0), 0, 0), (.getfield 29, 3, (3, 3, 1), 0, 0), (.iload_n 2, 1, (2, 0, 0), 0, 0), (.aaload, 1, (0, 0, 0), 0, 0), (.getfield 153, 3, (1, 7, 0), 0, 0), (.imul, 1, (0, 0, 0), 0, 0), (.iadd, 1, (0, 0, 0), 0, 0), (.istore_n 1, 1, (1, 0, 0), 0, 0), (.iinc 2 (1), 3, (2, 0, 0), 1, 0), (.goto (-33), 3, (4, 0, 0), 0, 0)]
theorem kwX3_coldness_12 {X : KX} {S : KS} {mc ms : Nat} {E : KEnd} {ls : KL} {st : List KV} {M : KM} {cs sl : Nat} (hC : KC X mX3_coldness 3 false S mc ms) (hE : KRet X mX3_coldness E) (h : kblk (kroom mX3_coldness mc ms) S E (KW X) kbX3_coldness_12 12 ls st M cs sl) : KW X 12 ls st M cs sl := KW_blk hC hE kbX3_coldness_12 12 ls st M cs sl (by decide +kernel) h
def kbX3_coldness_40 : List KE := [(.iload_n 1, 1, (1, 0, 0), 0, 0), (.ireturn, 1, (0, 0, 0), 0, 0)]
theorem kwX3_coldness_40 {X : KX} {S : KS} {mc ms : Nat} {E : KEnd} {ls : KL} {st : List KV} {M : KM} {cs sl : Nat} (hC : KC X mX3_coldness 3 false S mc ms) (hE : KRet X mX3_coldness E) (h : kblk (kroom mX3_coldness mc ms) S E (KW X) kbX3_coldness_40 40 ls st M cs sl) : KW X 40 ls st M cs sl := KW_blk hC hE kbX3_coldness_40 40 ls st M cs sl (by decide +kernel) h
def kbX3_coolRiders_0 : List KE := [(.iconst 0, 1, (0, 0, 0), 0, 0), (.istore_n 1, 1, (1, 0, 0), 0, 0)]
theorem kwX3_coolRiders_0 {X : KX} {S : KS} {mc ms : Nat} {E : KEnd} {ls : KL} {st : List KV} {M : KM} {cs sl : Nat} (hC : KC X mX3_coolRiders 3 false S mc ms) (hE : KRet X mX3_coolRiders E) (h : kblk (kroom mX3_coolRiders mc ms) S E (KW X) kbX3_coolRiders_0 0 ls st M cs sl) : KW X 0 ls st M cs sl := KW_blk hC hE kbX3_coolRiders_0 0 ls st M cs sl (by decide +kernel) h
def kbX3_coolRiders_2 : List KE := [(.iload_n 1, 1, (1, 0, 0), 0, 0), (.aload_n 0, 1, (0, 0, 0), 0, 0), (.getfield 68, 3, (3, 7, 0), 0, 0), (.if_icmp .ge (37), 3, (44, 0, 0), 0, 0)]
theorem kwX3_coolRiders_2 {X : KX} {S : KS} {mc ms : Nat} {E : KEnd} {ls : KL} {st : List KV} {M : KM} {cs sl : Nat} (hC : KC X mX3_coolRiders 3 false S mc ms) (hE : KRet X mX3_coolRiders E) (h : kblk (kroom mX3_coolRiders mc ms) S E (KW X) kbX3_coolRiders_2 2 ls st M cs sl) : KW X 2 ls st M cs sl := KW_blk hC hE kbX3_coolRiders_2 2 ls st M cs sl (by decide +kernel) h
def kbX3_coolRiders_10 : List KE := [(.aload_n 0, 1, (0, 0, 0), 0, 0), (.getfield 29, 3, (3, 3, 1), 0, 0), (.iload_n 1, 1, (1, 0, 0), 0, 0), (.aaload, 1, (0, 0, 0), 0, 0), (.getfield 118, 3, (1, 2, 0), 0, 0), (.iconst 1, 1, (0, 0, 0), 1, 0), (.if_icmp .ne (18), 3, (38, 0, 0), 0, 0)]
theorem kwX3_coolRiders_10 {X : KX} {S : KS} {mc ms : Nat} {E : KEnd} {ls : KL} {st : List KV} {M : KM} {cs sl : Nat} (hC : KC X mX3_coolRiders 3 false S mc ms) (hE : KRet X mX3_coolRiders E) (h : kblk (kroom mX3_coolRiders mc ms) S E (KW X) kbX3_coolRiders_10 10 ls st M cs sl) : KW X 10 ls st M cs sl := KW_blk hC hE kbX3_coolRiders_10 10 ls st M cs sl (by decide +kernel) h
def kbX3_coolRiders_23 : List KE := [(.aload_n 0, 1, (0, 0, 0), 0, 0), (.getfield 29, 3, (3, 3, 1), 0, 0), (.iload_n 1, 1, (1, 0, 0), 0, 0), (.aaload, 1, (0, 0, 0), 0, 0), (.dup, 1, (0, 0, 0), 0, 0), (.getfield 153, 3, (1, 7, 0), 0, 0), (.iconst 1, 1, (0, 0, 0), 1, 0), (.iadd, 1, (0, 0, 0), 0, 0), (.putfield 153, 3, (1, 7, 0), 0, 0)]
theorem kwX3_coolRiders_23 {X : KX} {S : KS} {mc ms : Nat} {E : KEnd} {ls : KL} {st : List KV} {M : KM} {cs sl : Nat} (hC : KC X mX3_coolRiders 3 false S mc ms) (hE : KRet X mX3_coolRiders E) (h : kblk (kroom mX3_coolRiders mc ms) S E (KW X) kbX3_coolRiders_23 23 ls st M cs sl) : KW X 23 ls st M cs sl := KW_blk hC hE kbX3_coolRiders_23 23 ls st M cs sl (by decide +kernel) h
def kbX3_coolRiders_38 : List KE := [(.iinc 1 (1), 3, (1, 0, 0), 1, 0), (.goto (-39), 3, (2, 0, 0), 0, 0)]
theorem kwX3_coolRiders_38 {X : KX} {S : KS} {mc ms : Nat} {E : KEnd} {ls : KL} {st : List KV} {M : KM} {cs sl : Nat} (hC : KC X mX3_coolRiders 3 false S mc ms) (hE : KRet X mX3_coolRiders E) (h : kblk (kroom mX3_coolRiders mc ms) S E (KW X) kbX3_coolRiders_38 38 ls st M cs sl) : KW X 38 ls st M cs sl := KW_blk hC hE kbX3_coolRiders_38 38 ls st M cs sl (by decide +kernel) h
def kbX3_coolRiders_44 : List KE := [(.return_, 1, (0, 0, 0), 0, 0)]
theorem kwX3_coolRiders_44 {X : KX} {S : KS} {mc ms : Nat} {E : KEnd} {ls : KL} {st : List KV} {M : KM} {cs sl : Nat} (hC : KC X mX3_coolRiders 3 false S mc ms) (hE : KRet X mX3_coolRiders E) (h : kblk (kroom mX3_coolRiders mc ms) S E (KW X) kbX3_coolRiders_44 44 ls st M cs sl) : KW X 44 ls st M cs sl := KW_blk hC hE kbX3_coolRiders_44 44 ls st M cs sl (by decide +kernel) h
def kbX3_copyFrom_0 : List KE := [(.aload_n 1, 1, (1, 0, 0), 0, 0), (.getfield 9, 3, (3, 0, 1), 0, 0), (.iconst 0, 1, (0, 0, 0), 0, 0), (.aload_n 0, 1, (0, 0, 0), 0, 0), (.getfield 9, 3, (3, 0, 1), 0, 0), (.iconst 0, 1, (0, 0, 0), 0, 0), (.bipush (24), 2, (0, 0, 0), 24, 0), (.invokestatic 49, 3, (0, 0, 0), 0, 0), (.aload_n 0, 1, (0, 0, 0), 0, 0), (.aload_n 1, 1, (1, 0, 0), 0, 0), (.getfield 55, 3, (3, 5, 0), 0, 0), (.putfield 55, 3, (3, 5, 0), 0, 0), (.iconst 0, 1, (0, 0, 0), 0, 0), (.istore_n 2, 1, (2, 0, 0), 0, 0)]
theorem kwX3_copyFrom_0 {X : KX} {S : KS} {mc ms : Nat} {E : KEnd} {ls : KL} {st : List KV} {M : KM} {cs sl : Nat} (hC : KC X mX3_copyFrom 3 false S mc ms) (hE : KRet X mX3_copyFrom E) (h : kblk (kroom mX3_copyFrom mc ms) S E (KW X) kbX3_copyFrom_0 0 ls st M cs sl) : KW X 0 ls st M cs sl := KW_blk hC hE kbX3_copyFrom_0 0 ls st M cs sl (by decide +kernel) h
def kbX3_copyFrom_25 : List KE := [(.iload_n 2, 1, (2, 0, 0), 0, 0), (.aload_n 0, 1, (0, 0, 0), 0, 0), (.getfield 55, 3, (3, 5, 0), 0, 0), (.if_icmp .ge (24), 3, (54, 0, 0), 0, 0)]
theorem kwX3_copyFrom_25 {X : KX} {S : KS} {mc ms : Nat} {E : KEnd} {ls : KL} {st : List KV} {M : KM} {cs sl : Nat} (hC : KC X mX3_copyFrom 3 false S mc ms) (hE : KRet X mX3_copyFrom E) (h : kblk (kroom mX3_copyFrom mc ms) S E (KW X) kbX3_copyFrom_25 25 ls st M cs sl) : KW X 25 ls st M cs sl := KW_blk hC hE kbX3_copyFrom_25 25 ls st M cs sl (by decide +kernel) h
def kbX3_copyFrom_33 : List KE := [(.aload_n 0, 1, (0, 0, 0), 0, 0), (.getfield 17, 3, (3, 1, 1), 0, 0), (.iload_n 2, 1, (2, 0, 0), 0, 0), (.aaload, 1, (0, 0, 0), 0, 0), (.aload_n 1, 1, (1, 0, 0), 0, 0), (.getfield 17, 3, (3, 1, 1), 0, 0), (.iload_n 2, 1, (2, 0, 0), 0, 0), (.aaload, 1, (0, 0, 0), 0, 0)]
theorem kwX3_copyFrom_33 {X : KX} {S : KS} {mc ms : Nat} {E : KEnd} {ls : KL} {st : List KV} {M : KM} {cs sl : Nat} (hC : KC X mX3_copyFrom 3 false S mc ms) (hE : KRet X mX3_copyFrom E) (h : kblk (kroom mX3_copyFrom mc ms) S E (KW X) kbX3_copyFrom_33 33 ls st M cs sl) : KW X 33 ls st M cs sl := KW_blk hC hE kbX3_copyFrom_33 33 ls st M cs sl (by decide +kernel) h
def kbX3_copyFrom_48 : List KE := [(.iinc 2 (1), 3, (2, 0, 0), 1, 0), (.goto (-26), 3, (25, 0, 0), 0, 0)]
theorem kwX3_copyFrom_48 {X : KX} {S : KS} {mc ms : Nat} {E : KEnd} {ls : KL} {st : List KV} {M : KM} {cs sl : Nat} (hC : KC X mX3_copyFrom 3 false S mc ms) (hE : KRet X mX3_copyFrom E) (h : kblk (kroom mX3_copyFrom mc ms) S E (KW X) kbX3_copyFrom_48 48 ls st M cs sl) : KW X 48 ls st M cs sl := KW_blk hC hE kbX3_copyFrom_48 48 ls st M cs sl (by decide +kernel) h
def kbX3_copyFrom_54 : List KE := [(.aload_n 0, 1, (0, 0, 0), 0, 0), (.aload_n 1, 1, (1, 0, 0), 0, 0), (.getfield 62, 3, (3, 6, 0), 0, 0), (.putfield 62, 3, (3, 6, 0), 0, 0), (.iconst 0, 1, (0, 0, 0), 0, 0), (.istore_n 2, 1, (2, 0, 0), 0, 0)]
theorem kwX3_copyFrom_54 {X : KX} {S : KS} {mc ms : Nat} {E : KEnd} {ls : KL} {st : List KV} {M : KM} {cs sl : Nat} (hC : KC X mX3_copyFrom 3 false S mc ms) (hE : KRet X mX3_copyFrom E) (h : kblk (kroom mX3_copyFrom mc ms) S E (KW X) kbX3_copyFrom_54 54 ls st M cs sl) : KW X 54 ls st M cs sl := KW_blk hC hE kbX3_copyFrom_54 54 ls st M cs sl (by decide +kernel) h
def kbX3_copyFrom_64 : List KE := [(.iload_n 2, 1, (2, 0, 0), 0, 0), (.aload_n 0, 1, (0, 0, 0), 0, 0), (.getfield 62, 3, (3, 6, 0), 0, 0), (.if_icmp .ge (24), 3, (93, 0, 0), 0, 0)]
theorem kwX3_copyFrom_64 {X : KX} {S : KS} {mc ms : Nat} {E : KEnd} {ls : KL} {st : List KV} {M : KM} {cs sl : Nat} (hC : KC X mX3_copyFrom 3 false S mc ms) (hE : KRet X mX3_copyFrom E) (h : kblk (kroom mX3_copyFrom mc ms) S E (KW X) kbX3_copyFrom_64 64 ls st M cs sl) : KW X 64 ls st M cs sl := KW_blk hC hE kbX3_copyFrom_64 64 ls st M cs sl (by decide +kernel) h
def kbX3_copyFrom_72 : List KE := [(.aload_n 0, 1, (0, 0, 0), 0, 0), (.getfield 23, 3, (3, 2, 1), 0, 0), (.iload_n 2, 1, (2, 0, 0), 0, 0), (.aaload, 1, (0, 0, 0), 0, 0), (.aload_n 1, 1, (1, 0, 0), 0, 0), (.getfield 23, 3, (3, 2, 1), 0, 0), (.iload_n 2, 1, (2, 0, 0), 0, 0), (.aaload, 1, (0, 0, 0), 0, 0)]
theorem kwX3_copyFrom_72 {X : KX} {S : KS} {mc ms : Nat} {E : KEnd} {ls : KL} {st : List KV} {M : KM} {cs sl : Nat} (hC : KC X mX3_copyFrom 3 false S mc ms) (hE : KRet X mX3_copyFrom E) (h : kblk (kroom mX3_copyFrom mc ms) S E (KW X) kbX3_copyFrom_72 72 ls st M cs sl) : KW X 72 ls st M cs sl := KW_blk hC hE kbX3_copyFrom_72 72 ls st M cs sl (by decide +kernel) h
def kbX3_copyFrom_87 : List KE := [(.iinc 2 (1), 3, (2, 0, 0), 1, 0), (.goto (-26), 3, (64, 0, 0), 0, 0)]
theorem kwX3_copyFrom_87 {X : KX} {S : KS} {mc ms : Nat} {E : KEnd} {ls : KL} {st : List KV} {M : KM} {cs sl : Nat} (hC : KC X mX3_copyFrom 3 false S mc ms) (hE : KRet X mX3_copyFrom E) (h : kblk (kroom mX3_copyFrom mc ms) S E (KW X) kbX3_copyFrom_87 87 ls st M cs sl) : KW X 87 ls st M cs sl := KW_blk hC hE kbX3_copyFrom_87 87 ls st M cs sl (by decide +kernel) h
def kbX3_copyFrom_93 : List KE := [(.aload_n 0, 1, (0, 0, 0), 0, 0), (.aload_n 1, 1, (1, 0, 0), 0, 0), (.getfield 68, 3, (3, 7, 0), 0, 0), (.putfield 68, 3, (3, 7, 0), 0, 0), (.iconst 0, 1, (0, 0, 0), 0, 0), (.istore_n 2, 1, (2, 0, 0), 0, 0)]
theorem kwX3_copyFrom_93 {X : KX} {S : KS} {mc ms : Nat} {E : KEnd} {ls : KL} {st : List KV} {M : KM} {cs sl : Nat} (hC : KC X mX3_copyFrom 3 false S mc ms) (hE : KRet X mX3_copyFrom E) (h : kblk (kroom mX3_copyFrom mc ms) S E (KW X) kbX3_copyFrom_93 93 ls st M cs sl) : KW X 93 ls st M cs sl := KW_blk hC hE kbX3_copyFrom_93 93 ls st M cs sl (by decide +kernel) h
def kbX3_copyFrom_103 : List KE := [(.iload_n 2, 1, (2, 0, 0), 0, 0), (.aload_n 0, 1, (0, 0, 0), 0, 0), (.getfield 68, 3, (3, 7, 0), 0, 0), (.if_icmp .ge (24), 3, (132, 0, 0), 0, 0)]
theorem kwX3_copyFrom_103 {X : KX} {S : KS} {mc ms : Nat} {E : KEnd} {ls : KL} {st : List KV} {M : KM} {cs sl : Nat} (hC : KC X mX3_copyFrom 3 false S mc ms) (hE : KRet X mX3_copyFrom E) (h : kblk (kroom mX3_copyFrom mc ms) S E (KW X) kbX3_copyFrom_103 103 ls st M cs sl) : KW X 103 ls st M cs sl := KW_blk hC hE kbX3_copyFrom_103 103 ls st M cs sl (by decide +kernel) h
def kbX3_copyFrom_111 : List KE := [(.aload_n 0, 1, (0, 0, 0), 0, 0), (.getfield 29, 3, (3, 3, 1), 0, 0), (.iload_n 2, 1, (2, 0, 0), 0, 0), (.aaload, 1, (0, 0, 0), 0, 0), (.aload_n 1, 1, (1, 0, 0), 0, 0), (.getfield 29, 3, (3, 3, 1), 0, 0), (.iload_n 2, 1, (2, 0, 0), 0, 0), (.aaload, 1, (0, 0, 0), 0, 0)]
theorem kwX3_copyFrom_111 {X : KX} {S : KS} {mc ms : Nat} {E : KEnd} {ls : KL} {st : List KV} {M : KM} {cs sl : Nat} (hC : KC X mX3_copyFrom 3 false S mc ms) (hE : KRet X mX3_copyFrom E) (h : kblk (kroom mX3_copyFrom mc ms) S E (KW X) kbX3_copyFrom_111 111 ls st M cs sl) : KW X 111 ls st M cs sl := KW_blk hC hE kbX3_copyFrom_111 111 ls st M cs sl (by decide +kernel) h
def kbX3_copyFrom_126 : List KE := [(.iinc 2 (1), 3, (2, 0, 0), 1, 0), (.goto (-26), 3, (103, 0, 0), 0, 0)]
theorem kwX3_copyFrom_126 {X : KX} {S : KS} {mc ms : Nat} {E : KEnd} {ls : KL} {st : List KV} {M : KM} {cs sl : Nat} (hC : KC X mX3_copyFrom 3 false S mc ms) (hE : KRet X mX3_copyFrom E) (h : kblk (kroom mX3_copyFrom mc ms) S E (KW X) kbX3_copyFrom_126 126 ls st M cs sl) : KW X 126 ls st M cs sl := KW_blk hC hE kbX3_copyFrom_126 126 ls st M cs sl (by decide +kernel) h
def kbX3_copyFrom_132 : List KE := [(.aload_n 0, 1, (0, 0, 0), 0, 0), (.getfield 38, 3, (3, 4, 1), 0, 0), (.aload_n 1, 1, (1, 0, 0), 0, 0), (.getfield 38, 3, (3, 4, 1), 0, 0)]
theorem kwX3_copyFrom_132 {X : KX} {S : KS} {mc ms : Nat} {E : KEnd} {ls : KL} {st : List KV} {M : KM} {cs sl : Nat} (hC : KC X mX3_copyFrom 3 false S mc ms) (hE : KRet X mX3_copyFrom E) (h : kblk (kroom mX3_copyFrom mc ms) S E (KW X) kbX3_copyFrom_132 132 ls st M cs sl) : KW X 132 ls st M cs sl := KW_blk hC hE kbX3_copyFrom_132 132 ls st M cs sl (by decide +kernel) h
def kbX3_copyFrom_143 : List KE := [(.aload_n 0, 1, (0, 0, 0), 0, 0), (.aload_n 1, 1, (1, 0, 0), 0, 0), (.getfield 42, 3, (3, 8, 0), 0, 0), (.putfield 42, 3, (3, 8, 0), 0, 0), (.aload_n 0, 1, (0, 0, 0), 0, 0), (.aload_n 1, 1, (1, 0, 0), 0, 0), (.getfield 77, 3, (3, 9, 0), 0, 0), (.putfield 77, 3, (3, 9, 0), 0, 0), (.aload_n 0, 1, (0, 0, 0), 0, 0), (.aload_n 1, 1, (1, 0, 0), 0, 0), (.getfield 80, 3, (3, 10, 0), 0, 0), (.putfield 80, 3, (3, 10, 0), 0, 0), (.aload_n 0, 1, (0, 0, 0), 0, 0), (.aload_n 1, 1, (1, 0, 0), 0, 0), (.getfield 83, 3, (3, 11, 0), 0, 0), (.putfield 83, 3, (3, 11, 0), 0, 0), (.aload_n 0, 1, (0, 0, 0), 0, 0), (.aload_n 1, 1, (1, 0, 0), 0, 0), (.getfield 86, 3, (3, 12, 0), 0, 0), (.putfield 86, 3, (3, 12, 0), 0, 0), (.aload_n 0, 1, (0, 0, 0), 0, 0), (.aload_n 1, 1, (1, 0, 0), 0, 0), (.getfield 89, 3, (3, 13, 0), 0, 0), (.putfield 89, 3, (3, 13, 0), 0, 0), (.return_, 1, (0, 0, 0), 0, 0)]
theorem kwX3_copyFrom_143 {X : KX} {S : KS} {mc ms : Nat} {E : KEnd} {ls : KL} {st : List KV} {M : KM} {cs sl : Nat} (hC : KC X mX3_copyFrom 3 false S mc ms) (hE : KRet X mX3_copyFrom E) (h : kblk (kroom mX3_copyFrom mc ms) S E (KW X) kbX3_copyFrom_143 143 ls st M cs sl) : KW X 143 ls st M cs sl := KW_blk hC hE kbX3_copyFrom_143 143 ls st M cs sl (by decide +kernel) h
def kbX3_exchangeAtValley_0 : List KE := [(.aload_n 0, 1, (0, 0, 0), 0, 0), (.iconst 0, 1, (0, 0, 0), 0, 0)]
theorem kwX3_exchangeAtValley_0 {X : KX} {S : KS} {mc ms : Nat} {E : KEnd} {ls : KL} {st : List KV} {M : KM} {cs sl : Nat} (hC : KC X mX3_exchangeAtValley 3 false S mc ms) (hE : KRet X mX3_exchangeAtValley E) (h : kblk (kroom mX3_exchangeAtValley mc ms) S E (KW X) kbX3_exchangeAtValley_0 0 ls st M cs sl) : KW X 0 ls st M cs sl := KW_blk hC hE kbX3_exchangeAtValley_0 0 ls st M cs sl (by decide +kernel) h
def kbX3_exchangeAtValley_5 : List KE := [(.istore_n 1, 1, (1, 0, 0), 0, 0), (.aload_n 0, 1, (0, 0, 0), 0, 0)]
theorem kwX3_exchangeAtValley_5 {X : KX} {S : KS} {mc ms : Nat} {E : KEnd} {ls : KL} {st : List KV} {M : KM} {cs sl : Nat} (hC : KC X mX3_exchangeAtValley 3 false S mc ms) (hE : KRet X mX3_exchangeAtValley E) (h : kblk (kroom mX3_exchangeAtValley mc ms) S E (KW X) kbX3_exchangeAtValley_5 5 ls st M cs sl) : KW X 5 ls st M cs sl := KW_blk hC hE kbX3_exchangeAtValley_5 5 ls st M cs sl (by decide +kernel) h
def kbX3_exchangeAtValley_10 : List KE := [(.aload_n 0, 1, (0, 0, 0), 0, 0), (.getfield 77, 3, (3, 9, 0), 0, 0), (.if_icmp .le (29), 3, (43, 0, 0), 0, 0)]
theorem kwX3_exchangeAtValley_10 {X : KX} {S : KS} {mc ms : Nat} {E : KEnd} {ls : KL} {st : List KV} {M : KM} {cs sl : Nat} (hC : KC X mX3_exchangeAtValley 3 false S mc ms) (hE : KRet X mX3_exchangeAtValley E) (h : kblk (kroom mX3_exchangeAtValley mc ms) S E (KW X) kbX3_exchangeAtValley_10 10 ls st M cs sl) : KW X 10 ls st M cs sl := KW_blk hC hE kbX3_exchangeAtValley_10 10 ls st M cs sl (by decide +kernel) h
def kbX3_exchangeAtValley_17 : List KE := [(.iload_n 1, 1, (1, 0, 0), 0, 0), (.iconst (-1), 1, (0, 0, 0), (-1), 0), (.if_icmp .eq (24), 3, (43, 0, 0), 0, 0)]
theorem kwX3_exchangeAtValley_17 {X : KX} {S : KS} {mc ms : Nat} {E : KEnd} {ls : KL} {st : List KV} {M : KM} {cs sl : Nat} (hC : KC X mX3_exchangeAtValley 3 false S mc ms) (hE : KRet X mX3_exchangeAtValley E) (h : kblk (kroom mX3_exchangeAtValley mc ms) S E (KW X) kbX3_exchangeAtValley_17 17 ls st M cs sl) : KW X 17 ls st M cs sl := KW_blk hC hE kbX3_exchangeAtValley_17 17 ls st M cs sl (by decide +kernel) h
def kbX3_exchangeAtValley_22 : List KE := [(.aload_n 0, 1, (0, 0, 0), 0, 0), (.getfield 17, 3, (3, 1, 1), 0, 0), (.iload_n 1, 1, (1, 0, 0), 0, 0), (.aaload, 1, (0, 0, 0), 0, 0), (.iconst (-1), 1, (0, 0, 0), (-1), 0), (.putfield 156, 3, (0, 1, 0), 0, 0), (.aload_n 0, 1, (0, 0, 0), 0, 0), (.getfield 38, 3, (3, 4, 1), 0, 0), (.iload_n 1, 1, (1, 0, 0), 0, 0)]
theorem kwX3_exchangeAtValley_22 {X : KX} {S : KS} {mc ms : Nat} {E : KEnd} {ls : KL} {st : List KV} {M : KM} {cs sl : Nat} (hC : KC X mX3_exchangeAtValley 3 false S mc ms) (hE : KRet X mX3_exchangeAtValley E) (h : kblk (kroom mX3_exchangeAtValley mc ms) S E (KW X) kbX3_exchangeAtValley_22 22 ls st M cs sl) : KW X 22 ls st M cs sl := KW_blk hC hE kbX3_exchangeAtValley_22 22 ls st M cs sl (by decide +kernel) h
def kbX3_exchangeAtValley_40 : List KE := [(.goto (55), 3, (95, 0, 0), 0, 0)]
theorem kwX3_exchangeAtValley_40 {X : KX} {S : KS} {mc ms : Nat} {E : KEnd} {ls : KL} {st : List KV} {M : KM} {cs sl : Nat} (hC : KC X mX3_exchangeAtValley 3 false S mc ms) (hE : KRet X mX3_exchangeAtValley E) (h : kblk (kroom mX3_exchangeAtValley mc ms) S E (KW X) kbX3_exchangeAtValley_40 40 ls st M cs sl) : KW X 40 ls st M cs sl := KW_blk hC hE kbX3_exchangeAtValley_40 40 ls st M cs sl (by decide +kernel) h
def kbX3_exchangeAtValley_43 : List KE := [(.aload_n 0, 1, (0, 0, 0), 0, 0)]
theorem kwX3_exchangeAtValley_43 {X : KX} {S : KS} {mc ms : Nat} {E : KEnd} {ls : KL} {st : List KV} {M : KM} {cs sl : Nat} (hC : KC X mX3_exchangeAtValley 3 false S mc ms) (hE : KRet X mX3_exchangeAtValley E) (h : kblk (kroom mX3_exchangeAtValley mc ms) S E (KW X) kbX3_exchangeAtValley_43 43 ls st M cs sl) : KW X 43 ls st M cs sl := KW_blk hC hE kbX3_exchangeAtValley_43 43 ls st M cs sl (by decide +kernel) h
def kbX3_exchangeAtValley_47 : List KE := [(.aload_n 0, 1, (0, 0, 0), 0, 0), (.getfield 77, 3, (3, 9, 0), 0, 0), (.if_icmp .ge (44), 3, (95, 0, 0), 0, 0)]
theorem kwX3_exchangeAtValley_47 {X : KX} {S : KS} {mc ms : Nat} {E : KEnd} {ls : KL} {st : List KV} {M : KM} {cs sl : Nat} (hC : KC X mX3_exchangeAtValley 3 false S mc ms) (hE : KRet X mX3_exchangeAtValley E) (h : kblk (kroom mX3_exchangeAtValley mc ms) S E (KW X) kbX3_exchangeAtValley_47 47 ls st M cs sl) : KW X 47 ls st M cs sl := KW_blk hC hE kbX3_exchangeAtValley_47 47 ls st M cs sl (by decide +kernel) h
def kbX3_exchangeAtValley_54 : List KE := [(.iload_n 1, 1, (1, 0, 0), 0, 0), (.iconst (-1), 1, (0, 0, 0), (-1), 0), (.if_icmp .ne (39), 3, (95, 0, 0), 0, 0)]
theorem kwX3_exchangeAtValley_54 {X : KX} {S : KS} {mc ms : Nat} {E : KEnd} {ls : KL} {st : List KV} {M : KM} {cs sl : Nat} (hC : KC X mX3_exchangeAtValley 3 false S mc ms) (hE : KRet X mX3_exchangeAtValley E) (h : kblk (kroom mX3_exchangeAtValley mc ms) S E (KW X) kbX3_exchangeAtValley_54 54 ls st M cs sl) : KW X 54 ls st M cs sl := KW_blk hC hE kbX3_exchangeAtValley_54 54 ls st M cs sl (by decide +kernel) h
def kbX3_exchangeAtValley_59 : List KE := [(.aload_n 0, 1, (0, 0, 0), 0, 0), (.getfield 38, 3, (3, 4, 1), 0, 0), (.getfield 177, 3, (4, 1, 0), 0, 0), (.ifCond .le (29), 3, (95, 0, 0), 0, 0)]
theorem kwX3_exchangeAtValley_59 {X : KX} {S : KS} {mc ms : Nat} {E : KEnd} {ls : KL} {st : List KV} {M : KM} {cs sl : Nat} (hC : KC X mX3_exchangeAtValley 3 false S mc ms) (hE : KRet X mX3_exchangeAtValley E) (h : kblk (kroom mX3_exchangeAtValley mc ms) S E (KW X) kbX3_exchangeAtValley_59 59 ls st M cs sl) : KW X 59 ls st M cs sl := KW_blk hC hE kbX3_exchangeAtValley_59 59 ls st M cs sl (by decide +kernel) h
def kbX3_exchangeAtValley_69 : List KE := [(.aload_n 0, 1, (0, 0, 0), 0, 0), (.getfield 38, 3, (3, 4, 1), 0, 0)]
theorem kwX3_exchangeAtValley_69 {X : KX} {S : KS} {mc ms : Nat} {E : KEnd} {ls : KL} {st : List KV} {M : KM} {cs sl : Nat} (hC : KC X mX3_exchangeAtValley 3 false S mc ms) (hE : KRet X mX3_exchangeAtValley E) (h : kblk (kroom mX3_exchangeAtValley mc ms) S E (KW X) kbX3_exchangeAtValley_69 69 ls st M cs sl) : KW X 69 ls st M cs sl := KW_blk hC hE kbX3_exchangeAtValley_69 69 ls st M cs sl (by decide +kernel) h
def kbX3_exchangeAtValley_76 : List KE := [(.istore_n 2, 1, (2, 0, 0), 0, 0), (.aload_n 0, 1, (0, 0, 0), 0, 0), (.getfield 38, 3, (3, 4, 1), 0, 0), (.iload_n 2, 1, (2, 0, 0), 0, 0)]
theorem kwX3_exchangeAtValley_76 {X : KX} {S : KS} {mc ms : Nat} {E : KEnd} {ls : KL} {st : List KV} {M : KM} {cs sl : Nat} (hC : KC X mX3_exchangeAtValley 3 false S mc ms) (hE : KRet X mX3_exchangeAtValley E) (h : kblk (kroom mX3_exchangeAtValley mc ms) S E (KW X) kbX3_exchangeAtValley_76 76 ls st M cs sl) : KW X 76 ls st M cs sl := KW_blk hC hE kbX3_exchangeAtValley_76 76 ls st M cs sl (by decide +kernel) h
def kbX3_exchangeAtValley_85 : List KE := [(.aload_n 0, 1, (0, 0, 0), 0, 0), (.getfield 17, 3, (3, 1, 1), 0, 0), (.iload_n 2, 1, (2, 0, 0), 0, 0), (.aaload, 1, (0, 0, 0), 0, 0), (.iconst 0, 1, (0, 0, 0), 0, 0), (.putfield 156, 3, (0, 1, 0), 0, 0)]
theorem kwX3_exchangeAtValley_85 {X : KX} {S : KS} {mc ms : Nat} {E : KEnd} {ls : KL} {st : List KV} {M : KM} {cs sl : Nat} (hC : KC X mX3_exchangeAtValley 3 false S mc ms) (hE : KRet X mX3_exchangeAtValley E) (h : kblk (kroom mX3_exchangeAtValley mc ms) S E (KW X) kbX3_exchangeAtValley_85 85 ls st M cs sl) : KW X 85 ls st M cs sl := KW_blk hC hE kbX3_exchangeAtValley_85 85 ls st M cs sl (by decide +kernel) h
def kbX3_exchangeAtValley_95 : List KE := [(.return_, 1, (0, 0, 0), 0, 0)]
theorem kwX3_exchangeAtValley_95 {X : KX} {S : KS} {mc ms : Nat} {E : KEnd} {ls : KL} {st : List KV} {M : KM} {cs sl : Nat} (hC : KC X mX3_exchangeAtValley 3 false S mc ms) (hE : KRet X mX3_exchangeAtValley E) (h : kblk (kroom mX3_exchangeAtValley mc ms) S E (KW X) kbX3_exchangeAtValley_95 95 ls st M cs sl) : KW X 95 ls st M cs sl := KW_blk hC hE kbX3_exchangeAtValley_95 95 ls st M cs sl (by decide +kernel) h
def kbX3_fact_0 : List KE := [(.iload_n 1, 1, (1, 0, 0), 0, 0), (.tableswitch (127) 0 11 #[63, 68, 73, 78, 83, 88, 94, 100, 106, 112, 117, 122], 63, (0, 0, 0), 0, 0)]
theorem kwX3_fact_0 {X : KX} {S : KS} {mc ms : Nat} {E : KEnd} {ls : KL} {st : List KV} {M : KM} {cs sl : Nat} (hC : KC X mX3_fact 3 false S mc ms) (hE : KRet X mX3_fact E) (h : kblk (kroom mX3_fact mc ms) S E (KW X) kbX3_fact_0 0 ls st M cs sl) : KW X 0 ls st M cs sl := KW_blk hC hE kbX3_fact_0 0 ls st M cs sl (by decide +kernel) h
def kbX3_fact_64 : List KE := [(.aload_n 0, 1, (0, 0, 0), 0, 0), (.getfield 83, 3, (3, 11, 0), 0, 0), (.ireturn, 1, (0, 0, 0), 0, 0)]
theorem kwX3_fact_64 {X : KX} {S : KS} {mc ms : Nat} {E : KEnd} {ls : KL} {st : List KV} {M : KM} {cs sl : Nat} (hC : KC X mX3_fact 3 false S mc ms) (hE : KRet X mX3_fact E) (h : kblk (kroom mX3_fact mc ms) S E (KW X) kbX3_fact_64 64 ls st M cs sl) : KW X 64 ls st M cs sl := KW_blk hC hE kbX3_fact_64 64 ls st M cs sl (by decide +kernel) h
def kbX3_fact_69 : List KE := [(.aload_n 0, 1, (0, 0, 0), 0, 0), (.getfield 55, 3, (3, 5, 0), 0, 0), (.ireturn, 1, (0, 0, 0), 0, 0)]
theorem kwX3_fact_69 {X : KX} {S : KS} {mc ms : Nat} {E : KEnd} {ls : KL} {st : List KV} {M : KM} {cs sl : Nat} (hC : KC X mX3_fact 3 false S mc ms) (hE : KRet X mX3_fact E) (h : kblk (kroom mX3_fact mc ms) S E (KW X) kbX3_fact_69 69 ls st M cs sl) : KW X 69 ls st M cs sl := KW_blk hC hE kbX3_fact_69 69 ls st M cs sl (by decide +kernel) h
def kbX3_fact_74 : List KE := [(.aload_n 0, 1, (0, 0, 0), 0, 0)]
theorem kwX3_fact_74 {X : KX} {S : KS} {mc ms : Nat} {E : KEnd} {ls : KL} {st : List KV} {M : KM} {cs sl : Nat} (hC : KC X mX3_fact 3 false S mc ms) (hE : KRet X mX3_fact E) (h : kblk (kroom mX3_fact mc ms) S E (KW X) kbX3_fact_74 74 ls st M cs sl) : KW X 74 ls st M cs sl := KW_blk hC hE kbX3_fact_74 74 ls st M cs sl (by decide +kernel) h
def kbX3_fact_78 : List KE := [(.ireturn, 1, (0, 0, 0), 0, 0)]
theorem kwX3_fact_78 {X : KX} {S : KS} {mc ms : Nat} {E : KEnd} {ls : KL} {st : List KV} {M : KM} {cs sl : Nat} (hC : KC X mX3_fact 3 false S mc ms) (hE : KRet X mX3_fact E) (h : kblk (kroom mX3_fact mc ms) S E (KW X) kbX3_fact_78 78 ls st M cs sl) : KW X 78 ls st M cs sl := KW_blk hC hE kbX3_fact_78 78 ls st M cs sl (by decide +kernel) h
def kbX3_fact_79 : List KE := [(.aload_n 0, 1, (0, 0, 0), 0, 0), (.getfield 62, 3, (3, 6, 0), 0, 0), (.ireturn, 1, (0, 0, 0), 0, 0)]
theorem kwX3_fact_79 {X : KX} {S : KS} {mc ms : Nat} {E : KEnd} {ls : KL} {st : List KV} {M : KM} {cs sl : Nat} (hC : KC X mX3_fact 3 false S mc ms) (hE : KRet X mX3_fact E) (h : kblk (kroom mX3_fact mc ms) S E (KW X) kbX3_fact_79 79 ls st M cs sl) : KW X 79 ls st M cs sl := KW_blk hC hE kbX3_fact_79 79 ls st M cs sl (by decide +kernel) h
def kbX3_fact_84 : List KE := [(.aload_n 0, 1, (0, 0, 0), 0, 0), (.getfield 68, 3, (3, 7, 0), 0, 0), (.ireturn, 1, (0, 0, 0), 0, 0)]
theorem kwX3_fact_84 {X : KX} {S : KS} {mc ms : Nat} {E : KEnd} {ls : KL} {st : List KV} {M : KM} {cs sl : Nat} (hC : KC X mX3_fact 3 false S mc ms) (hE : KRet X mX3_fact E) (h : kblk (kroom mX3_fact mc ms) S E (KW X) kbX3_fact_84 84 ls st M cs sl) : KW X 84 ls st M cs sl := KW_blk hC hE kbX3_fact_84 84 ls st M cs sl (by decide +kernel) h
def kbX3_fact_89 : List KE := [(.aload_n 0, 1, (0, 0, 0), 0, 0), (.iconst 0, 1, (0, 0, 0), 0, 0)]
theorem kwX3_fact_89 {X : KX} {S : KS} {mc ms : Nat} {E : KEnd} {ls : KL} {st : List KV} {M : KM} {cs sl : Nat} (hC : KC X mX3_fact 3 false S mc ms) (hE : KRet X mX3_fact E) (h : kblk (kroom mX3_fact mc ms) S E (KW X) kbX3_fact_89 89 ls st M cs sl) : KW X 89 ls st M cs sl := KW_blk hC hE kbX3_fact_89 89 ls st M cs sl (by decide +kernel) h
def kbX3_fact_94 : List KE := [(.ireturn, 1, (0, 0, 0), 0, 0)]
theorem kwX3_fact_94 {X : KX} {S : KS} {mc ms : Nat} {E : KEnd} {ls : KL} {st : List KV} {M : KM} {cs sl : Nat} (hC : KC X mX3_fact 3 false S mc ms) (hE : KRet X mX3_fact E) (h : kblk (kroom mX3_fact mc ms) S E (KW X) kbX3_fact_94 94 ls st M cs sl) : KW X 94 ls st M cs sl := KW_blk hC hE kbX3_fact_94 94 ls st M cs sl (by decide +kernel) h
def kbX3_fact_95 : List KE := [(.aload_n 0, 1, (0, 0, 0), 0, 0), (.iconst 1, 1, (0, 0, 0), 1, 0)]
theorem kwX3_fact_95 {X : KX} {S : KS} {mc ms : Nat} {E : KEnd} {ls : KL} {st : List KV} {M : KM} {cs sl : Nat} (hC : KC X mX3_fact 3 false S mc ms) (hE : KRet X mX3_fact E) (h : kblk (kroom mX3_fact mc ms) S E (KW X) kbX3_fact_95 95 ls st M cs sl) : KW X 95 ls st M cs sl := KW_blk hC hE kbX3_fact_95 95 ls st M cs sl (by decide +kernel) h
def kbX3_fact_100 : List KE := [(.ireturn, 1, (0, 0, 0), 0, 0)]
theorem kwX3_fact_100 {X : KX} {S : KS} {mc ms : Nat} {E : KEnd} {ls : KL} {st : List KV} {M : KM} {cs sl : Nat} (hC : KC X mX3_fact 3 false S mc ms) (hE : KRet X mX3_fact E) (h : kblk (kroom mX3_fact mc ms) S E (KW X) kbX3_fact_100 100 ls st M cs sl) : KW X 100 ls st M cs sl := KW_blk hC hE kbX3_fact_100 100 ls st M cs sl (by decide +kernel) h
def kbX3_fact_101 : List KE := [(.aload_n 0, 1, (0, 0, 0), 0, 0), (.iconst 2, 1, (0, 0, 0), 2, 0)]
theorem kwX3_fact_101 {X : KX} {S : KS} {mc ms : Nat} {E : KEnd} {ls : KL} {st : List KV} {M : KM} {cs sl : Nat} (hC : KC X mX3_fact 3 false S mc ms) (hE : KRet X mX3_fact E) (h : kblk (kroom mX3_fact mc ms) S E (KW X) kbX3_fact_101 101 ls st M cs sl) : KW X 101 ls st M cs sl := KW_blk hC hE kbX3_fact_101 101 ls st M cs sl (by decide +kernel) h
def kbX3_fact_106 : List KE := [(.ireturn, 1, (0, 0, 0), 0, 0)]
theorem kwX3_fact_106 {X : KX} {S : KS} {mc ms : Nat} {E : KEnd} {ls : KL} {st : List KV} {M : KM} {cs sl : Nat} (hC : KC X mX3_fact 3 false S mc ms) (hE : KRet X mX3_fact E) (h : kblk (kroom mX3_fact mc ms) S E (KW X) kbX3_fact_106 106 ls st M cs sl) : KW X 106 ls st M cs sl := KW_blk hC hE kbX3_fact_106 106 ls st M cs sl (by decide +kernel) h
def kbX3_fact_107 : List KE := [(.aload_n 0, 1, (0, 0, 0), 0, 0), (.iconst 3, 1, (0, 0, 0), 3, 0)]
theorem kwX3_fact_107 {X : KX} {S : KS} {mc ms : Nat} {E : KEnd} {ls : KL} {st : List KV} {M : KM} {cs sl : Nat} (hC : KC X mX3_fact 3 false S mc ms) (hE : KRet X mX3_fact E) (h : kblk (kroom mX3_fact mc ms) S E (KW X) kbX3_fact_107 107 ls st M cs sl) : KW X 107 ls st M cs sl := KW_blk hC hE kbX3_fact_107 107 ls st M cs sl (by decide +kernel) h
def kbX3_fact_112 : List KE := [(.ireturn, 1, (0, 0, 0), 0, 0)]
theorem kwX3_fact_112 {X : KX} {S : KS} {mc ms : Nat} {E : KEnd} {ls : KL} {st : List KV} {M : KM} {cs sl : Nat} (hC : KC X mX3_fact 3 false S mc ms) (hE : KRet X mX3_fact E) (h : kblk (kroom mX3_fact mc ms) S E (KW X) kbX3_fact_112 112 ls st M cs sl) : KW X 112 ls st M cs sl := KW_blk hC hE kbX3_fact_112 112 ls st M cs sl (by decide +kernel) h
def kbX3_fact_113 : List KE := [(.aload_n 0, 1, (0, 0, 0), 0, 0), (.getfield 86, 3, (3, 12, 0), 0, 0), (.ireturn, 1, (0, 0, 0), 0, 0)]
theorem kwX3_fact_113 {X : KX} {S : KS} {mc ms : Nat} {E : KEnd} {ls : KL} {st : List KV} {M : KM} {cs sl : Nat} (hC : KC X mX3_fact 3 false S mc ms) (hE : KRet X mX3_fact E) (h : kblk (kroom mX3_fact mc ms) S E (KW X) kbX3_fact_113 113 ls st M cs sl) : KW X 113 ls st M cs sl := KW_blk hC hE kbX3_fact_113 113 ls st M cs sl (by decide +kernel) h
def kbX3_fact_118 : List KE := [(.aload_n 0, 1, (0, 0, 0), 0, 0), (.getfield 80, 3, (3, 10, 0), 0, 0), (.ireturn, 1, (0, 0, 0), 0, 0)]
theorem kwX3_fact_118 {X : KX} {S : KS} {mc ms : Nat} {E : KEnd} {ls : KL} {st : List KV} {M : KM} {cs sl : Nat} (hC : KC X mX3_fact 3 false S mc ms) (hE : KRet X mX3_fact E) (h : kblk (kroom mX3_fact mc ms) S E (KW X) kbX3_fact_118 118 ls st M cs sl) : KW X 118 ls st M cs sl := KW_blk hC hE kbX3_fact_118 118 ls st M cs sl (by decide +kernel) h
def kbX3_fact_123 : List KE := [(.aload_n 0, 1, (0, 0, 0), 0, 0)]
theorem kwX3_fact_123 {X : KX} {S : KS} {mc ms : Nat} {E : KEnd} {ls : KL} {st : List KV} {M : KM} {cs sl : Nat} (hC : KC X mX3_fact 3 false S mc ms) (hE : KRet X mX3_fact E) (h : kblk (kroom mX3_fact mc ms) S E (KW X) kbX3_fact_123 123 ls st M cs sl) : KW X 123 ls st M cs sl := KW_blk hC hE kbX3_fact_123 123 ls st M cs sl (by decide +kernel) h
def kbX3_fact_127 : List KE := [(.ireturn, 1, (0, 0, 0), 0, 0)]
theorem kwX3_fact_127 {X : KX} {S : KS} {mc ms : Nat} {E : KEnd} {ls : KL} {st : List KV} {M : KM} {cs sl : Nat} (hC : KC X mX3_fact 3 false S mc ms) (hE : KRet X mX3_fact E) (h : kblk (kroom mX3_fact mc ms) S E (KW X) kbX3_fact_127 127 ls st M cs sl) : KW X 127 ls st M cs sl := KW_blk hC hE kbX3_fact_127 127 ls st M cs sl (by decide +kernel) h
def kbX3_fact_128 : List KE := [(.aload_n 0, 1, (0, 0, 0), 0, 0), (.getfield 42, 3, (3, 8, 0), 0, 0), (.ireturn, 1, (0, 0, 0), 0, 0)]
theorem kwX3_fact_128 {X : KX} {S : KS} {mc ms : Nat} {E : KEnd} {ls : KL} {st : List KV} {M : KM} {cs sl : Nat} (hC : KC X mX3_fact 3 false S mc ms) (hE : KRet X mX3_fact E) (h : kblk (kroom mX3_fact mc ms) S E (KW X) kbX3_fact_128 128 ls st M cs sl) : KW X 128 ls st M cs sl := KW_blk hC hE kbX3_fact_128 128 ls st M cs sl (by decide +kernel) h
def kbX3_goOneStep_0 : List KE := [(.iconst 0, 1, (0, 0, 0), 0, 0), (.istore_n 1, 1, (1, 0, 0), 0, 0), (.aload_n 0, 1, (0, 0, 0), 0, 0), (.getfield 9, 3, (3, 0, 1), 0, 0), (.aload_n 0, 1, (0, 0, 0), 0, 0), (.getfield 83, 3, (3, 11, 0), 0, 0), (.bipush (24), 2, (0, 0, 0), 24, 0)]
theorem kwX3_goOneStep_0 {X : KX} {S : KS} {mc ms : Nat} {E : KEnd} {ls : KL} {st : List KV} {M : KM} {cs sl : Nat} (hC : KC X mX3_goOneStep 3 false S mc ms) (hE : KRet X mX3_goOneStep E) (h : kblk (kroom mX3_goOneStep mc ms) S E (KW X) kbX3_goOneStep_0 0 ls st M cs sl) : KW X 0 ls st M cs sl := KW_blk hC hE kbX3_goOneStep_0 0 ls st M cs sl (by decide +kernel) h
def kbX3_goOneStep_15 : List KE := [(.iaload, 1, (0, 0, 0), 0, 0), (.istore_n 2, 1, (2, 0, 0), 0, 0), (.aload_n 0, 1, (0, 0, 0), 0, 0), (.iload_n 2, 1, (2, 0, 0), 0, 0)]
theorem kwX3_goOneStep_15 {X : KX} {S : KS} {mc ms : Nat} {E : KEnd} {ls : KL} {st : List KV} {M : KM} {cs sl : Nat} (hC : KC X mX3_goOneStep 3 false S mc ms) (hE : KRet X mX3_goOneStep E) (h : kblk (kroom mX3_goOneStep mc ms) S E (KW X) kbX3_goOneStep_15 15 ls st M cs sl) : KW X 15 ls st M cs sl := KW_blk hC hE kbX3_goOneStep_15 15 ls st M cs sl (by decide +kernel) h
def kbX3_goOneStep_22 : List KE := [(.ifCond .eq (26), 3, (48, 0, 0), 0, 0)]
theorem kwX3_goOneStep_22 {X : KX} {S : KS} {mc ms : Nat} {E : KEnd} {ls : KL} {st : List KV} {M : KM} {cs sl : Nat} (hC : KC X mX3_goOneStep 3 false S mc ms) (hE : KRet X mX3_goOneStep E) (h : kblk (kroom mX3_goOneStep mc ms) S E (KW X) kbX3_goOneStep_22 22 ls st M cs sl) : KW X 22 ls st M cs sl := KW_blk hC hE kbX3_goOneStep_22 22 ls st M cs sl (by decide +kernel) h
def kbX3_goOneStep_25 : List KE := [(.aload_n 0, 1, (0, 0, 0), 0, 0), (.dup, 1, (0, 0, 0), 0, 0), (.getfield 86, 3, (3, 12, 0), 0, 0), (.iconst 1, 1, (0, 0, 0), 1, 0), (.iadd, 1, (0, 0, 0), 0, 0), (.putfield 86, 3, (3, 12, 0), 0, 0), (.iload_n 2, 1, (2, 0, 0), 0, 0), (.bipush (8), 2, (0, 0, 0), 8, 0), (.if_icmp .lt (27), 3, (65, 0, 0), 0, 0)]
theorem kwX3_goOneStep_25 {X : KX} {S : KS} {mc ms : Nat} {E : KEnd} {ls : KL} {st : List KV} {M : KM} {cs sl : Nat} (hC : KC X mX3_goOneStep 3 false S mc ms) (hE : KRet X mX3_goOneStep E) (h : kblk (kroom mX3_goOneStep mc ms) S E (KW X) kbX3_goOneStep_25 25 ls st M cs sl) : KW X 25 ls st M cs sl := KW_blk hC hE kbX3_goOneStep_25 25 ls st M cs sl (by decide +kernel) h
def kbX3_goOneStep_41 : List KE := [(.aload_n 0, 1, (0, 0, 0), 0, 0)]
theorem kwX3_goOneStep_41 {X : KX} {S : KS} {mc ms : Nat} {E : KEnd} {ls : KL} {st : List KV} {M : KM} {cs sl : Nat} (hC : KC X mX3_goOneStep 3 false S mc ms) (hE : KRet X mX3_goOneStep E) (h : kblk (kroom mX3_goOneStep mc ms) S E (KW X) kbX3_goOneStep_41 41 ls st M cs sl) : KW X 41 ls st M cs sl := KW_blk hC hE kbX3_goOneStep_41 41 ls st M cs sl (by decide +kernel) h
def kbX3_goOneStep_45 : List KE := [(.goto (20), 3, (65, 0, 0), 0, 0)]
theorem kwX3_goOneStep_45 {X : KX} {S : KS} {mc ms : Nat} {E : KEnd} {ls : KL} {st : List KV} {M : KM} {cs sl : Nat} (hC : KC X mX3_goOneStep 3 false S mc ms) (hE : KRet X mX3_goOneStep E) (h : kblk (kroom mX3_goOneStep mc ms) S E (KW X) kbX3_goOneStep_45 45 ls st M cs sl) : KW X 45 ls st M cs sl := KW_blk hC hE kbX3_goOneStep_45 45 ls st M cs sl (by decide +kernel) h
def kbX3_goOneStep_48 : List KE := [(.aload_n 0, 1, (0, 0, 0), 0, 0)]
theorem kwX3_goOneStep_48 {X : KX} {S : KS} {mc ms : Nat} {E : KEnd} {ls : KL} {st : List KV} {M : KM} {cs sl : Nat} (hC : KC X mX3_goOneStep 3 false S mc ms) (hE : KRet X mX3_goOneStep E) (h : kblk (kroom mX3_goOneStep mc ms) S E (KW X) kbX3_goOneStep_48 48 ls st M cs sl) : KW X 48 ls st M cs sl := KW_blk hC hE kbX3_goOneStep_48 48 ls st M cs sl (by decide +kernel) h
def kbX3_goOneStep_52 : List KE := [(.aload_n 0, 1, (0, 0, 0), 0, 0)]
theorem kwX3_goOneStep_52 {X : KX} {S : KS} {mc ms : Nat} {E : KEnd} {ls : KL} {st : List KV} {M : KM} {cs sl : Nat} (hC : KC X mX3_goOneStep 3 false S mc ms) (hE : KRet X mX3_goOneStep E) (h : kblk (kroom mX3_goOneStep mc ms) S E (KW X) kbX3_goOneStep_52 52 ls st M cs sl) : KW X 52 ls st M cs sl := KW_blk hC hE kbX3_goOneStep_52 52 ls st M cs sl (by decide +kernel) h
def kbX3_goOneStep_56 : List KE := [(.istore_n 1, 1, (1, 0, 0), 0, 0), (.aload_n 0, 1, (0, 0, 0), 0, 0)]
theorem kwX3_goOneStep_56 {X : KX} {S : KS} {mc ms : Nat} {E : KEnd} {ls : KL} {st : List KV} {M : KM} {cs sl : Nat} (hC : KC X mX3_goOneStep 3 false S mc ms) (hE : KRet X mX3_goOneStep E) (h : kblk (kroom mX3_goOneStep mc ms) S E (KW X) kbX3_goOneStep_56 56 ls st M cs sl) : KW X 56 ls st M cs sl := KW_blk hC hE kbX3_goOneStep_56 56 ls st M cs sl (by decide +kernel) h
def kbX3_goOneStep_61 : List KE := [(.aload_n 0, 1, (0, 0, 0), 0, 0)]
theorem kwX3_goOneStep_61 {X : KX} {S : KS} {mc ms : Nat} {E : KEnd} {ls : KL} {st : List KV} {M : KM} {cs sl : Nat} (hC : KC X mX3_goOneStep 3 false S mc ms) (hE : KRet X mX3_goOneStep E) (h : kblk (kroom mX3_goOneStep mc ms) S E (KW X) kbX3_goOneStep_61 61 ls st M cs sl) : KW X 61 ls st M cs sl := KW_blk hC hE kbX3_goOneStep_61 61 ls st M cs sl (by decide +kernel) h
def kbX3_goOneStep_65 : List KE := [(.aload_n 0, 1, (0, 0, 0), 0, 0)]
theorem kwX3_goOneStep_65 {X : KX} {S : KS} {mc ms : Nat} {E : KEnd} {ls : KL} {st : List KV} {M : KM} {cs sl : Nat} (hC : KC X mX3_goOneStep 3 false S mc ms) (hE : KRet X mX3_goOneStep E) (h : kblk (kroom mX3_goOneStep mc ms) S E (KW X) kbX3_goOneStep_65 65 ls st M cs sl) : KW X 65 ls st M cs sl := KW_blk hC hE kbX3_goOneStep_65 65 ls st M cs sl (by decide +kernel) h
def kbX3_goOneStep_69 : List KE := [(.aload_n 0, 1, (0, 0, 0), 0, 0), (.dup, 1, (0, 0, 0), 0, 0), (.getfield 83, 3, (3, 11, 0), 0, 0), (.iconst 1, 1, (0, 0, 0), 1, 0), (.iadd, 1, (0, 0, 0), 0, 0), (.putfield 83, 3, (3, 11, 0), 0, 0), (.iload_n 1, 1, (1, 0, 0), 0, 0), (.ireturn, 1, (0, 0, 0), 0, 0)]
theorem kwX3_goOneStep_69 {X : KX} {S : KS} {mc ms : Nat} {E : KEnd} {ls : KL} {st : List KV} {M : KM} {cs sl : Nat} (hC : KC X mX3_goOneStep 3 false S mc ms) (hE : KRet X mX3_goOneStep E) (h : kblk (kroom mX3_goOneStep mc ms) S E (KW X) kbX3_goOneStep_69 69 ls st M cs sl) : KW X 69 ls st M cs sl := KW_blk hC hE kbX3_goOneStep_69 69 ls st M cs sl (by decide +kernel) h
def kbX3_goSteps_0 : List KE := [(.iconst 0, 1, (0, 0, 0), 0, 0), (.istore_n 2, 1, (2, 0, 0), 0, 0), (.iconst 0, 1, (0, 0, 0), 0, 0), (.istore_n 3, 1, (3, 0, 0), 0, 0)]
theorem kwX3_goSteps_0 {X : KX} {S : KS} {mc ms : Nat} {E : KEnd} {ls : KL} {st : List KV} {M : KM} {cs sl : Nat} (hC : KC X mX3_goSteps 3 false S mc ms) (hE : KRet X mX3_goSteps E) (h : kblk (kroom mX3_goSteps mc ms) S E (KW X) kbX3_goSteps_0 0 ls st M cs sl) : KW X 0 ls st M cs sl := KW_blk hC hE kbX3_goSteps_0 0 ls st M cs sl (by decide +kernel) h
def kbX3_goSteps_4 : List KE := [(.iload_n 3, 1, (3, 0, 0), 0, 0), (.iload_n 1, 1, (1, 0, 0), 0, 0), (.if_icmp .ge (16), 3, (22, 0, 0), 0, 0)]
theorem kwX3_goSteps_4 {X : KX} {S : KS} {mc ms : Nat} {E : KEnd} {ls : KL} {st : List KV} {M : KM} {cs sl : Nat} (hC : KC X mX3_goSteps 3 false S mc ms) (hE : KRet X mX3_goSteps E) (h : kblk (kroom mX3_goSteps mc ms) S E (KW X) kbX3_goSteps_4 4 ls st M cs sl) : KW X 4 ls st M cs sl := KW_blk hC hE kbX3_goSteps_4 4 ls st M cs sl (by decide +kernel) h
def kbX3_goSteps_9 : List KE := [(.iload_n 2, 1, (2, 0, 0), 0, 0), (.aload_n 0, 1, (0, 0, 0), 0, 0)]
theorem kwX3_goSteps_9 {X : KX} {S : KS} {mc ms : Nat} {E : KEnd} {ls : KL} {st : List KV} {M : KM} {cs sl : Nat} (hC : KC X mX3_goSteps 3 false S mc ms) (hE : KRet X mX3_goSteps E) (h : kblk (kroom mX3_goSteps mc ms) S E (KW X) kbX3_goSteps_9 9 ls st M cs sl) : KW X 9 ls st M cs sl := KW_blk hC hE kbX3_goSteps_9 9 ls st M cs sl (by decide +kernel) h
def kbX3_goSteps_14 : List KE := [(.iadd, 1, (0, 0, 0), 0, 0), (.istore_n 2, 1, (2, 0, 0), 0, 0), (.iinc 3 (1), 3, (3, 0, 0), 1, 0), (.goto (-15), 3, (4, 0, 0), 0, 0)]
theorem kwX3_goSteps_14 {X : KX} {S : KS} {mc ms : Nat} {E : KEnd} {ls : KL} {st : List KV} {M : KM} {cs sl : Nat} (hC : KC X mX3_goSteps 3 false S mc ms) (hE : KRet X mX3_goSteps E) (h : kblk (kroom mX3_goSteps mc ms) S E (KW X) kbX3_goSteps_14 14 ls st M cs sl) : KW X 14 ls st M cs sl := KW_blk hC hE kbX3_goSteps_14 14 ls st M cs sl (by decide +kernel) h
def kbX3_goSteps_22 : List KE := [(.iload_n 2, 1, (2, 0, 0), 0, 0), (.ireturn, 1, (0, 0, 0), 0, 0)]
theorem kwX3_goSteps_22 {X : KX} {S : KS} {mc ms : Nat} {E : KEnd} {ls : KL} {st : List KV} {M : KM} {cs sl : Nat} (hC : KC X mX3_goSteps 3 false S mc ms) (hE : KRet X mX3_goSteps E) (h : kblk (kroom mX3_goSteps mc ms) S E (KW X) kbX3_goSteps_22 22 ls st M cs sl) : KW X 22 ls st M cs sl := KW_blk hC hE kbX3_goSteps_22 22 ls st M cs sl (by decide +kernel) h
def kbX3_groupToBoard_0 : List KE := [(.aload_n 0, 1, (0, 0, 0), 0, 0), (.getfield 80, 3, (3, 10, 0), 0, 0), (.istore_n 2, 1, (2, 0, 0), 0, 0), (.iconst 0, 1, (0, 0, 0), 0, 0), (.istore_n 3, 1, (3, 0, 0), 0, 0)]
theorem kwX3_groupToBoard_0 {X : KX} {S : KS} {mc ms : Nat} {E : KEnd} {ls : KL} {st : List KV} {M : KM} {cs sl : Nat} (hC : KC X mX3_groupToBoard 3 false S mc ms) (hE : KRet X mX3_groupToBoard E) (h : kblk (kroom mX3_groupToBoard mc ms) S E (KW X) kbX3_groupToBoard_0 0 ls st M cs sl) : KW X 0 ls st M cs sl := KW_blk hC hE kbX3_groupToBoard_0 0 ls st M cs sl (by decide +kernel) h
def kbX3_groupToBoard_7 : List KE := [(.iload_n 3, 1, (3, 0, 0), 0, 0), (.aload_n 0, 1, (0, 0, 0), 0, 0), (.getfield 62, 3, (3, 6, 0), 0, 0), (.if_icmp .ge (52), 3, (64, 0, 0), 0, 0)]
theorem kwX3_groupToBoard_7 {X : KX} {S : KS} {mc ms : Nat} {E : KEnd} {ls : KL} {st : List KV} {M : KM} {cs sl : Nat} (hC : KC X mX3_groupToBoard 3 false S mc ms) (hE : KRet X mX3_groupToBoard E) (h : kblk (kroom mX3_groupToBoard mc ms) S E (KW X) kbX3_groupToBoard_7 7 ls st M cs sl) : KW X 7 ls st M cs sl := KW_blk hC hE kbX3_groupToBoard_7 7 ls st M cs sl (by decide +kernel) h
def kbX3_groupToBoard_15 : List KE := [(.aload_n 0, 1, (0, 0, 0), 0, 0), (.getfield 23, 3, (3, 2, 1), 0, 0), (.iload_n 2, 1, (2, 0, 0), 0, 0), (.aaload, 1, (0, 0, 0), 0, 0), (.getfield 109, 3, (2, 0, 1), 0, 0)]
theorem kwX3_groupToBoard_15 {X : KX} {S : KS} {mc ms : Nat} {E : KEnd} {ls : KL} {st : List KV} {M : KM} {cs sl : Nat} (hC : KC X mX3_groupToBoard 3 false S mc ms) (hE : KRet X mX3_groupToBoard E) (h : kblk (kroom mX3_groupToBoard mc ms) S E (KW X) kbX3_groupToBoard_15 15 ls st M cs sl) : KW X 15 ls st M cs sl := KW_blk hC hE kbX3_groupToBoard_15 15 ls st M cs sl (by decide +kernel) h
def kbX3_groupToBoard_27 : List KE := [(.istore 4, 2, (4, 0, 0), 0, 0), (.iload 4, 2, (4, 0, 0), 0, 0), (.iconst (-1), 1, (0, 0, 0), (-1), 0), (.if_icmp .eq (20), 3, (52, 0, 0), 0, 0)]
theorem kwX3_groupToBoard_27 {X : KX} {S : KS} {mc ms : Nat} {E : KEnd} {ls : KL} {st : List KV} {M : KM} {cs sl : Nat} (hC : KC X mX3_groupToBoard 3 false S mc ms) (hE : KRet X mX3_groupToBoard E) (h : kblk (kroom mX3_groupToBoard mc ms) S E (KW X) kbX3_groupToBoard_27 27 ls st M cs sl) : KW X 27 ls st M cs sl := KW_blk hC hE kbX3_groupToBoard_27 27 ls st M cs sl (by decide +kernel) h
def kbX3_groupToBoard_35 : List KE := [(.aload_n 0, 1, (0, 0, 0), 0, 0), (.getfield 29, 3, (3, 3, 1), 0, 0), (.iload 4, 2, (4, 0, 0), 0, 0), (.aaload, 1, (0, 0, 0), 0, 0), (.getfield 189, 3, (1, 0, 0), 0, 0), (.iload_n 1, 1, (1, 0, 0), 0, 0), (.if_icmp .gt (6), 3, (52, 0, 0), 0, 0)]
theorem kwX3_groupToBoard_35 {X : KX} {S : KS} {mc ms : Nat} {E : KEnd} {ls : KL} {st : List KV} {M : KM} {cs sl : Nat} (hC : KC X mX3_groupToBoard 3 false S mc ms) (hE : KRet X mX3_groupToBoard E) (h : kblk (kroom mX3_groupToBoard mc ms) S E (KW X) kbX3_groupToBoard_35 35 ls st M cs sl) : KW X 35 ls st M cs sl := KW_blk hC hE kbX3_groupToBoard_35 35 ls st M cs sl (by decide +kernel) h
def kbX3_groupToBoard_49 : List KE := [(.iload 4, 2, (4, 0, 0), 0, 0), (.ireturn, 1, (0, 0, 0), 0, 0)]
theorem kwX3_groupToBoard_49 {X : KX} {S : KS} {mc ms : Nat} {E : KEnd} {ls : KL} {st : List KV} {M : KM} {cs sl : Nat} (hC : KC X mX3_groupToBoard 3 false S mc ms) (hE : KRet X mX3_groupToBoard E) (h : kblk (kroom mX3_groupToBoard mc ms) S E (KW X) kbX3_groupToBoard_49 49 ls st M cs sl) : KW X 49 ls st M cs sl := KW_blk hC hE kbX3_groupToBoard_49 49 ls st M cs sl (by decide +kernel) h
def kbX3_groupToBoard_52 : List KE := [(.aload_n 0, 1, (0, 0, 0), 0, 0), (.iload_n 2, 1, (2, 0, 0), 0, 0)]
theorem kwX3_groupToBoard_52 {X : KX} {S : KS} {mc ms : Nat} {E : KEnd} {ls : KL} {st : List KV} {M : KM} {cs sl : Nat} (hC : KC X mX3_groupToBoard 3 false S mc ms) (hE : KRet X mX3_groupToBoard E) (h : kblk (kroom mX3_groupToBoard mc ms) S E (KW X) kbX3_groupToBoard_52 52 ls st M cs sl) : KW X 52 ls st M cs sl := KW_blk hC hE kbX3_groupToBoard_52 52 ls st M cs sl (by decide +kernel) h
def kbX3_groupToBoard_57 : List KE := [(.istore_n 2, 1, (2, 0, 0), 0, 0), (.iinc 3 (1), 3, (3, 0, 0), 1, 0), (.goto (-54), 3, (7, 0, 0), 0, 0)]
theorem kwX3_groupToBoard_57 {X : KX} {S : KS} {mc ms : Nat} {E : KEnd} {ls : KL} {st : List KV} {M : KM} {cs sl : Nat} (hC : KC X mX3_groupToBoard 3 false S mc ms) (hE : KRet X mX3_groupToBoard E) (h : kblk (kroom mX3_groupToBoard mc ms) S E (KW X) kbX3_groupToBoard_57 57 ls st M cs sl) : KW X 57 ls st M cs sl := KW_blk hC hE kbX3_groupToBoard_57 57 ls st M cs sl (by decide +kernel) h
def kbX3_groupToBoard_64 : List KE := [(.iconst (-1), 1, (0, 0, 0), (-1), 0), (.ireturn, 1, (0, 0, 0), 0, 0)]
theorem kwX3_groupToBoard_64 {X : KX} {S : KS} {mc ms : Nat} {E : KEnd} {ls : KL} {st : List KV} {M : KM} {cs sl : Nat} (hC : KC X mX3_groupToBoard 3 false S mc ms) (hE : KRet X mX3_groupToBoard E) (h : kblk (kroom mX3_groupToBoard mc ms) S E (KW X) kbX3_groupToBoard_64 64 ls st M cs sl) : KW X 64 ls st M cs sl := KW_blk hC hE kbX3_groupToBoard_64 64 ls st M cs sl (by decide +kernel) h
def kbX3_init_0 : List KE := [(.aload_n 0, 1, (0, 0, 0), 0, 0), (.invokespecial 3, 3, (0, 0, 0), 0, 0), (.aload_n 0, 1, (0, 0, 0), 0, 0), (.bipush (24), 2, (0, 0, 0), 24, 0), (.newarray .int, 2, (8, 0, 0), 0, 0), (.putfield 9, 3, (3, 0, 1), 0, 0), (.aload_n 0, 1, (0, 0, 0), 0, 0), (.bipush (20), 2, (0, 0, 0), 20, 0), (.anewarray 15, 3, (9, 0, 0), 0, 0), (.putfield 17, 3, (3, 1, 1), 0, 0), (.aload_n 0, 1, (0, 0, 0), 0, 0), (.iconst 4, 1, (0, 0, 0), 4, 0), (.anewarray 21, 3, (11, 0, 0), 0, 0), (.putfield 23, 3, (3, 2, 1), 0, 0), (.aload_n 0, 1, (0, 0, 0), 0, 0), (.bipush (91), 2, (0, 0, 0), 91, 0), (.anewarray 27, 3, (10, 0, 0), 0, 0), (.putfield 29, 3, (3, 3, 1), 0, 0), (.aload_n 0, 1, (0, 0, 0), 0, 0), (.new 33, 3, (4, 2, 0), 0, 0), (.dup, 1, (0, 0, 0), 0, 0), (.bipush (20), 2, (0, 0, 0), 20, 0)]
theorem kwX3_init_0 {X : KX} {S : KS} {mc ms : Nat} {E : KEnd} {ls : KL} {st : List KV} {M : KM} {cs sl : Nat} (hC : KC X mX3_init 3 true S mc ms) (hE : KRet X mX3_init E) (h : kblk (kroom mX3_init mc ms) S E (KW X) kbX3_init_0 0 ls st M cs sl) : KW X 0 ls st M cs sl := KW_blk hC hE kbX3_init_0 0 ls st M cs sl (by decide +kernel) h
def kbX3_init_48 : List KE := [(.putfield 38, 3, (3, 4, 1), 0, 0), (.aload_n 0, 1, (0, 0, 0), 0, 0), (.bipush (6), 2, (0, 0, 0), 6, 0), (.putfield 42, 3, (3, 8, 0), 0, 0), (.iconst 0, 1, (0, 0, 0), 0, 0), (.istore_n 1, 1, (1, 0, 0), 0, 0)]
theorem kwX3_init_48 {X : KX} {S : KS} {mc ms : Nat} {E : KEnd} {ls : KL} {st : List KV} {M : KM} {cs sl : Nat} (hC : KC X mX3_init 3 true S mc ms) (hE : KRet X mX3_init E) (h : kblk (kroom mX3_init mc ms) S E (KW X) kbX3_init_48 48 ls st M cs sl) : KW X 48 ls st M cs sl := KW_blk hC hE kbX3_init_48 48 ls st M cs sl (by decide +kernel) h
def kbX3_init_59 : List KE := [(.iload_n 1, 1, (1, 0, 0), 0, 0), (.bipush (20), 2, (0, 0, 0), 20, 0), (.if_icmp .ge (22), 3, (84, 0, 0), 0, 0)]
theorem kwX3_init_59 {X : KX} {S : KS} {mc ms : Nat} {E : KEnd} {ls : KL} {st : List KV} {M : KM} {cs sl : Nat} (hC : KC X mX3_init 3 true S mc ms) (hE : KRet X mX3_init E) (h : kblk (kroom mX3_init mc ms) S E (KW X) kbX3_init_59 59 ls st M cs sl) : KW X 59 ls st M cs sl := KW_blk hC hE kbX3_init_59 59 ls st M cs sl (by decide +kernel) h
def kbX3_init_65 : List KE := [(.aload_n 0, 1, (0, 0, 0), 0, 0), (.getfield 17, 3, (3, 1, 1), 0, 0), (.iload_n 1, 1, (1, 0, 0), 0, 0), (.new 15, 3, (0, 5, 0), 0, 0), (.dup, 1, (0, 0, 0), 0, 0)]
theorem kwX3_init_65 {X : KX} {S : KS} {mc ms : Nat} {E : KEnd} {ls : KL} {st : List KV} {M : KM} {cs sl : Nat} (hC : KC X mX3_init 3 true S mc ms) (hE : KRet X mX3_init E) (h : kblk (kroom mX3_init mc ms) S E (KW X) kbX3_init_65 65 ls st M cs sl) : KW X 65 ls st M cs sl := KW_blk hC hE kbX3_init_65 65 ls st M cs sl (by decide +kernel) h
def kbX3_init_77 : List KE := [(.aastore, 1, (0, 0, 0), 0, 0), (.iinc 1 (1), 3, (1, 0, 0), 1, 0), (.goto (-22), 3, (59, 0, 0), 0, 0)]
theorem kwX3_init_77 {X : KX} {S : KS} {mc ms : Nat} {E : KEnd} {ls : KL} {st : List KV} {M : KM} {cs sl : Nat} (hC : KC X mX3_init 3 true S mc ms) (hE : KRet X mX3_init E) (h : kblk (kroom mX3_init mc ms) S E (KW X) kbX3_init_77 77 ls st M cs sl) : KW X 77 ls st M cs sl := KW_blk hC hE kbX3_init_77 77 ls st M cs sl (by decide +kernel) h
def kbX3_init_84 : List KE := [(.iconst 0, 1, (0, 0, 0), 0, 0), (.istore_n 1, 1, (1, 0, 0), 0, 0)]
theorem kwX3_init_84 {X : KX} {S : KS} {mc ms : Nat} {E : KEnd} {ls : KL} {st : List KV} {M : KM} {cs sl : Nat} (hC : KC X mX3_init 3 true S mc ms) (hE : KRet X mX3_init E) (h : kblk (kroom mX3_init mc ms) S E (KW X) kbX3_init_84 84 ls st M cs sl) : KW X 84 ls st M cs sl := KW_blk hC hE kbX3_init_84 84 ls st M cs sl (by decide +kernel) h
def kbX3_init_86 : List KE := [(.iload_n 1, 1, (1, 0, 0), 0, 0), (.iconst 4, 1, (0, 0, 0), 4, 0), (.if_icmp .ge (22), 3, (110, 0, 0), 0, 0)]
theorem kwX3_init_86 {X : KX} {S : KS} {mc ms : Nat} {E : KEnd} {ls : KL} {st : List KV} {M : KM} {cs sl : Nat} (hC : KC X mX3_init 3 true S mc ms) (hE : KRet X mX3_init E) (h : kblk (kroom mX3_init mc ms) S E (KW X) kbX3_init_86 86 ls st M cs sl) : KW X 86 ls st M cs sl := KW_blk hC hE kbX3_init_86 86 ls st M cs sl (by decide +kernel) h
def kbX3_init_91 : List KE := [(.aload_n 0, 1, (0, 0, 0), 0, 0), (.getfield 23, 3, (3, 2, 1), 0, 0), (.iload_n 1, 1, (1, 0, 0), 0, 0), (.new 21, 3, (2, 3, 0), 0, 0), (.dup, 1, (0, 0, 0), 0, 0)]
theorem kwX3_init_91 {X : KX} {S : KS} {mc ms : Nat} {E : KEnd} {ls : KL} {st : List KV} {M : KM} {cs sl : Nat} (hC : KC X mX3_init 3 true S mc ms) (hE : KRet X mX3_init E) (h : kblk (kroom mX3_init mc ms) S E (KW X) kbX3_init_91 91 ls st M cs sl) : KW X 91 ls st M cs sl := KW_blk hC hE kbX3_init_91 91 ls st M cs sl (by decide +kernel) h
def kbX3_init_103 : List KE := [(.aastore, 1, (0, 0, 0), 0, 0), (.iinc 1 (1), 3, (1, 0, 0), 1, 0), (.goto (-21), 3, (86, 0, 0), 0, 0)]
theorem kwX3_init_103 {X : KX} {S : KS} {mc ms : Nat} {E : KEnd} {ls : KL} {st : List KV} {M : KM} {cs sl : Nat} (hC : KC X mX3_init 3 true S mc ms) (hE : KRet X mX3_init E) (h : kblk (kroom mX3_init mc ms) S E (KW X) kbX3_init_103 103 ls st M cs sl) : KW X 103 ls st M cs sl := KW_blk hC hE kbX3_init_103 103 ls st M cs sl (by decide +kernel) h
def kbX3_init_110 : List KE := [(.iconst 0, 1, (0, 0, 0), 0, 0), (.istore_n 1, 1, (1, 0, 0), 0, 0)]
theorem kwX3_init_110 {X : KX} {S : KS} {mc ms : Nat} {E : KEnd} {ls : KL} {st : List KV} {M : KM} {cs sl : Nat} (hC : KC X mX3_init 3 true S mc ms) (hE : KRet X mX3_init E) (h : kblk (kroom mX3_init mc ms) S E (KW X) kbX3_init_110 110 ls st M cs sl) : KW X 110 ls st M cs sl := KW_blk hC hE kbX3_init_110 110 ls st M cs sl (by decide +kernel) h
def kbX3_init_112 : List KE := [(.iload_n 1, 1, (1, 0, 0), 0, 0), (.bipush (91), 2, (0, 0, 0), 91, 0), (.if_icmp .ge (22), 3, (137, 0, 0), 0, 0)]
theorem kwX3_init_112 {X : KX} {S : KS} {mc ms : Nat} {E : KEnd} {ls : KL} {st : List KV} {M : KM} {cs sl : Nat} (hC : KC X mX3_init 3 true S mc ms) (hE : KRet X mX3_init E) (h : kblk (kroom mX3_init mc ms) S E (KW X) kbX3_init_112 112 ls st M cs sl) : KW X 112 ls st M cs sl := KW_blk hC hE kbX3_init_112 112 ls st M cs sl (by decide +kernel) h
def kbX3_init_118 : List KE := [(.aload_n 0, 1, (0, 0, 0), 0, 0), (.getfield 29, 3, (3, 3, 1), 0, 0), (.iload_n 1, 1, (1, 0, 0), 0, 0), (.new 27, 3, (1, 8, 0), 0, 0), (.dup, 1, (0, 0, 0), 0, 0)]
theorem kwX3_init_118 {X : KX} {S : KS} {mc ms : Nat} {E : KEnd} {ls : KL} {st : List KV} {M : KM} {cs sl : Nat} (hC : KC X mX3_init 3 true S mc ms) (hE : KRet X mX3_init E) (h : kblk (kroom mX3_init mc ms) S E (KW X) kbX3_init_118 118 ls st M cs sl) : KW X 118 ls st M cs sl := KW_blk hC hE kbX3_init_118 118 ls st M cs sl (by decide +kernel) h
def kbX3_init_130 : List KE := [(.aastore, 1, (0, 0, 0), 0, 0), (.iinc 1 (1), 3, (1, 0, 0), 1, 0), (.goto (-22), 3, (112, 0, 0), 0, 0)]
theorem kwX3_init_130 {X : KX} {S : KS} {mc ms : Nat} {E : KEnd} {ls : KL} {st : List KV} {M : KM} {cs sl : Nat} (hC : KC X mX3_init 3 true S mc ms) (hE : KRet X mX3_init E) (h : kblk (kroom mX3_init mc ms) S E (KW X) kbX3_init_130 130 ls st M cs sl) : KW X 130 ls st M cs sl := KW_blk hC hE kbX3_init_130 130 ls st M cs sl (by decide +kernel) h
def kbX3_init_137 : List KE := [(.return_, 1, (0, 0, 0), 0, 0)]
theorem kwX3_init_137 {X : KX} {S : KS} {mc ms : Nat} {E : KEnd} {ls : KL} {st : List KV} {M : KM} {cs sl : Nat} (hC : KC X mX3_init 3 true S mc ms) (hE : KRet X mX3_init E) (h : kblk (kroom mX3_init mc ms) S E (KW X) kbX3_init_137 137 ls st M cs sl) : KW X 137 ls st M cs sl := KW_blk hC hE kbX3_init_137 137 ls st M cs sl (by decide +kernel) h
def kbX3_laneBehind_0 : List KE := [(.iload_n 1, 1, (1, 0, 0), 0, 0), (.iconst 1, 1, (0, 0, 0), 1, 0), (.iadd, 1, (0, 0, 0), 0, 0), (.aload_n 0, 1, (0, 0, 0), 0, 0), (.getfield 62, 3, (3, 6, 0), 0, 0), (.if_icmp .ge (9), 3, (16, 0, 0), 0, 0)]
theorem kwX3_laneBehind_0 {X : KX} {S : KS} {mc ms : Nat} {E : KEnd} {ls : KL} {st : List KV} {M : KM} {cs sl : Nat} (hC : KC X mX3_laneBehind 3 false S mc ms) (hE : KRet X mX3_laneBehind E) (h : kblk (kroom mX3_laneBehind mc ms) S E (KW X) kbX3_laneBehind_0 0 ls st M cs sl) : KW X 0 ls st M cs sl := KW_blk hC hE kbX3_laneBehind_0 0 ls st M cs sl (by decide +kernel) h
def kbX3_laneBehind_10 : List KE := [(.iload_n 1, 1, (1, 0, 0), 0, 0), (.iconst 1, 1, (0, 0, 0), 1, 0), (.iadd, 1, (0, 0, 0), 0, 0), (.goto (4), 3, (17, 0, 0), 0, 0)]
theorem kwX3_laneBehind_10 {X : KX} {S : KS} {mc ms : Nat} {E : KEnd} {ls : KL} {st : List KV} {M : KM} {cs sl : Nat} (hC : KC X mX3_laneBehind 3 false S mc ms) (hE : KRet X mX3_laneBehind E) (h : kblk (kroom mX3_laneBehind mc ms) S E (KW X) kbX3_laneBehind_10 10 ls st M cs sl) : KW X 10 ls st M cs sl := KW_blk hC hE kbX3_laneBehind_10 10 ls st M cs sl (by decide +kernel) h
def kbX3_laneBehind_16 : List KE := [(.iconst 0, 1, (0, 0, 0), 0, 0)]
theorem kwX3_laneBehind_16 {X : KX} {S : KS} {mc ms : Nat} {E : KEnd} {ls : KL} {st : List KV} {M : KM} {cs sl : Nat} (hC : KC X mX3_laneBehind 3 false S mc ms) (hE : KRet X mX3_laneBehind E) (h : kblk (kroom mX3_laneBehind mc ms) S E (KW X) kbX3_laneBehind_16 16 ls st M cs sl) : KW X 16 ls st M cs sl := KW_blk hC hE kbX3_laneBehind_16 16 ls st M cs sl (by decide +kernel) h
def kbX3_laneBehind_17 : List KE := [(.ireturn, 1, (0, 0, 0), 0, 0)]
theorem kwX3_laneBehind_17 {X : KX} {S : KS} {mc ms : Nat} {E : KEnd} {ls : KL} {st : List KV} {M : KM} {cs sl : Nat} (hC : KC X mX3_laneBehind 3 false S mc ms) (hE : KRet X mX3_laneBehind E) (h : kblk (kroom mX3_laneBehind mc ms) S E (KW X) kbX3_laneBehind_17 17 ls st M cs sl) : KW X 17 ls st M cs sl := KW_blk hC hE kbX3_laneBehind_17 17 ls st M cs sl (by decide +kernel) h
def kbX3_laneFact_0 : List KE := [(.aload_n 0, 1, (0, 0, 0), 0, 0), (.getfield 23, 3, (3, 2, 1), 0, 0), (.iload_n 1, 1, (1, 0, 0), 0, 0), (.aaload, 1, (0, 0, 0), 0, 0), (.astore_n 3, 1, (3, 0, 0), 0, 0), (.iload_n 2, 1, (2, 0, 0), 0, 0), (.tableswitch (55) 0 2 #[28, 36, 42], 28, (0, 0, 0), 0, 0)]
theorem kwX3_laneFact_0 {X : KX} {S : KS} {mc ms : Nat} {E : KEnd} {ls : KL} {st : List KV} {M : KM} {cs sl : Nat} (hC : KC X mX3_laneFact 3 false S mc ms) (hE : KRet X mX3_laneFact E) (h : kblk (kroom mX3_laneFact mc ms) S E (KW X) kbX3_laneFact_0 0 ls st M cs sl) : KW X 0 ls st M cs sl := KW_blk hC hE kbX3_laneFact_0 0 ls st M cs sl (by decide +kernel) h
def kbX3_laneFact_36 : List KE := [(.aload_n 3, 1, (3, 0, 0), 0, 0), (.getfield 109, 3, (2, 0, 1), 0, 0), (.getfield 177, 3, (4, 1, 0), 0, 0), (.ireturn, 1, (0, 0, 0), 0, 0)]
theorem kwX3_laneFact_36 {X : KX} {S : KS} {mc ms : Nat} {E : KEnd} {ls : KL} {st : List KV} {M : KM} {cs sl : Nat} (hC : KC X mX3_laneFact 3 false S mc ms) (hE : KRet X mX3_laneFact E) (h : kblk (kroom mX3_laneFact mc ms) S E (KW X) kbX3_laneFact_36 36 ls st M cs sl) : KW X 36 ls st M cs sl := KW_blk hC hE kbX3_laneFact_36 36 ls st M cs sl (by decide +kernel) h
def kbX3_laneFact_44 : List KE := [(.aload_n 0, 1, (0, 0, 0), 0, 0), (.iload_n 1, 1, (1, 0, 0), 0, 0)]
theorem kwX3_laneFact_44 {X : KX} {S : KS} {mc ms : Nat} {E : KEnd} {ls : KL} {st : List KV} {M : KM} {cs sl : Nat} (hC : KC X mX3_laneFact 3 false S mc ms) (hE : KRet X mX3_laneFact E) (h : kblk (kroom mX3_laneFact mc ms) S E (KW X) kbX3_laneFact_44 44 ls st M cs sl) : KW X 44 ls st M cs sl := KW_blk hC hE kbX3_laneFact_44 44 ls st M cs sl (by decide +kernel) h
def kbX3_laneFact_49 : List KE := [(.ireturn, 1, (0, 0, 0), 0, 0)]
theorem kwX3_laneFact_49 {X : KX} {S : KS} {mc ms : Nat} {E : KEnd} {ls : KL} {st : List KV} {M : KM} {cs sl : Nat} (hC : KC X mX3_laneFact 3 false S mc ms) (hE : KRet X mX3_laneFact E) (h : kblk (kroom mX3_laneFact mc ms) S E (KW X) kbX3_laneFact_49 49 ls st M cs sl) : KW X 49 ls st M cs sl := KW_blk hC hE kbX3_laneFact_49 49 ls st M cs sl (by decide +kernel) h
def kbX3_laneFact_50 : List KE := [(.aload_n 3, 1, (3, 0, 0), 0, 0), (.getfield 209, 3, (2, 1, 0), 0, 0), (.ifCond .eq (7), 3, (61, 0, 0), 0, 0)]
theorem kwX3_laneFact_50 {X : KX} {S : KS} {mc ms : Nat} {E : KEnd} {ls : KL} {st : List KV} {M : KM} {cs sl : Nat} (hC : KC X mX3_laneFact 3 false S mc ms) (hE : KRet X mX3_laneFact E) (h : kblk (kroom mX3_laneFact mc ms) S E (KW X) kbX3_laneFact_50 50 ls st M cs sl) : KW X 50 ls st M cs sl := KW_blk hC hE kbX3_laneFact_50 50 ls st M cs sl (by decide +kernel) h
def kbX3_laneFact_57 : List KE := [(.iconst 1, 1, (0, 0, 0), 1, 0), (.goto (4), 3, (62, 0, 0), 0, 0)]
theorem kwX3_laneFact_57 {X : KX} {S : KS} {mc ms : Nat} {E : KEnd} {ls : KL} {st : List KV} {M : KM} {cs sl : Nat} (hC : KC X mX3_laneFact 3 false S mc ms) (hE : KRet X mX3_laneFact E) (h : kblk (kroom mX3_laneFact mc ms) S E (KW X) kbX3_laneFact_57 57 ls st M cs sl) : KW X 57 ls st M cs sl := KW_blk hC hE kbX3_laneFact_57 57 ls st M cs sl (by decide +kernel) h
def kbX3_laneFact_61 : List KE := [(.iconst 0, 1, (0, 0, 0), 0, 0)]
theorem kwX3_laneFact_61 {X : KX} {S : KS} {mc ms : Nat} {E : KEnd} {ls : KL} {st : List KV} {M : KM} {cs sl : Nat} (hC : KC X mX3_laneFact 3 false S mc ms) (hE : KRet X mX3_laneFact E) (h : kblk (kroom mX3_laneFact mc ms) S E (KW X) kbX3_laneFact_61 61 ls st M cs sl) : KW X 61 ls st M cs sl := KW_blk hC hE kbX3_laneFact_61 61 ls st M cs sl (by decide +kernel) h
def kbX3_laneFact_62 : List KE := [(.ireturn, 1, (0, 0, 0), 0, 0)]
theorem kwX3_laneFact_62 {X : KX} {S : KS} {mc ms : Nat} {E : KEnd} {ls : KL} {st : List KV} {M : KM} {cs sl : Nat} (hC : KC X mX3_laneFact 3 false S mc ms) (hE : KRet X mX3_laneFact E) (h : kblk (kroom mX3_laneFact mc ms) S E (KW X) kbX3_laneFact_62 62 ls st M cs sl) : KW X 62 ls st M cs sl := KW_blk hC hE kbX3_laneFact_62 62 ls st M cs sl (by decide +kernel) h
def kbX3_laneFact_63 : List KE := [(.aload_n 3, 1, (3, 0, 0), 0, 0), (.getfield 193, 3, (2, 2, 0), 0, 0), (.ireturn, 1, (0, 0, 0), 0, 0)]
theorem kwX3_laneFact_63 {X : KX} {S : KS} {mc ms : Nat} {E : KEnd} {ls : KL} {st : List KV} {M : KM} {cs sl : Nat} (hC : KC X mX3_laneFact 3 false S mc ms) (hE : KRet X mX3_laneFact E) (h : kblk (kroom mX3_laneFact mc ms) S E (KW X) kbX3_laneFact_63 63 ls st M cs sl) : KW X 63 ls st M cs sl := KW_blk hC hE kbX3_laneFact_63 63 ls st M cs sl (by decide +kernel) h
def kbX3_loadAtValley_0 : List KE := [(.aload_n 0, 1, (0, 0, 0), 0, 0), (.iconst 0, 1, (0, 0, 0), 0, 0)]
theorem kwX3_loadAtValley_0 {X : KX} {S : KS} {mc ms : Nat} {E : KEnd} {ls : KL} {st : List KV} {M : KM} {cs sl : Nat} (hC : KC X mX3_loadAtValley 3 false S mc ms) (hE : KRet X mX3_loadAtValley E) (h : kblk (kroom mX3_loadAtValley mc ms) S E (KW X) kbX3_loadAtValley_0 0 ls st M cs sl) : KW X 0 ls st M cs sl := KW_blk hC hE kbX3_loadAtValley_0 0 ls st M cs sl (by decide +kernel) h
def kbX3_loadAtValley_5 : List KE := [(.istore_n 1, 1, (1, 0, 0), 0, 0), (.iload_n 1, 1, (1, 0, 0), 0, 0), (.iconst (-1), 1, (0, 0, 0), (-1), 0), (.if_icmp .ne (4), 3, (12, 0, 0), 0, 0)]
theorem kwX3_loadAtValley_5 {X : KX} {S : KS} {mc ms : Nat} {E : KEnd} {ls : KL} {st : List KV} {M : KM} {cs sl : Nat} (hC : KC X mX3_loadAtValley 3 false S mc ms) (hE : KRet X mX3_loadAtValley E) (h : kblk (kroom mX3_loadAtValley mc ms) S E (KW X) kbX3_loadAtValley_5 5 ls st M cs sl) : KW X 5 ls st M cs sl := KW_blk hC hE kbX3_loadAtValley_5 5 ls st M cs sl (by decide +kernel) h
def kbX3_loadAtValley_11 : List KE := [(.return_, 1, (0, 0, 0), 0, 0)]
theorem kwX3_loadAtValley_11 {X : KX} {S : KS} {mc ms : Nat} {E : KEnd} {ls : KL} {st : List KV} {M : KM} {cs sl : Nat} (hC : KC X mX3_loadAtValley 3 false S mc ms) (hE : KRet X mX3_loadAtValley E) (h : kblk (kroom mX3_loadAtValley mc ms) S E (KW X) kbX3_loadAtValley_11 11 ls st M cs sl) : KW X 11 ls st M cs sl := KW_blk hC hE kbX3_loadAtValley_11 11 ls st M cs sl (by decide +kernel) h
def kbX3_loadAtValley_12 : List KE := [(.iconst 0, 1, (0, 0, 0), 0, 0), (.istore_n 2, 1, (2, 0, 0), 0, 0)]
theorem kwX3_loadAtValley_12 {X : KX} {S : KS} {mc ms : Nat} {E : KEnd} {ls : KL} {st : List KV} {M : KM} {cs sl : Nat} (hC : KC X mX3_loadAtValley 3 false S mc ms) (hE : KRet X mX3_loadAtValley E) (h : kblk (kroom mX3_loadAtValley mc ms) S E (KW X) kbX3_loadAtValley_12 12 ls st M cs sl) : KW X 12 ls st M cs sl := KW_blk hC hE kbX3_loadAtValley_12 12 ls st M cs sl (by decide +kernel) h
def kbX3_loadAtValley_14 : List KE := [(.iload_n 2, 1, (2, 0, 0), 0, 0), (.bipush (6), 2, (0, 0, 0), 6, 0), (.if_icmp .ge (47), 3, (64, 0, 0), 0, 0)]
theorem kwX3_loadAtValley_14 {X : KX} {S : KS} {mc ms : Nat} {E : KEnd} {ls : KL} {st : List KV} {M : KM} {cs sl : Nat} (hC : KC X mX3_loadAtValley 3 false S mc ms) (hE : KRet X mX3_loadAtValley E) (h : kblk (kroom mX3_loadAtValley mc ms) S E (KW X) kbX3_loadAtValley_14 14 ls st M cs sl) : KW X 14 ls st M cs sl := KW_blk hC hE kbX3_loadAtValley_14 14 ls st M cs sl (by decide +kernel) h
def kbX3_loadAtValley_20 : List KE := [(.aload_n 0, 1, (0, 0, 0), 0, 0), (.aload_n 0, 1, (0, 0, 0), 0, 0), (.getfield 17, 3, (3, 1, 1), 0, 0), (.iload_n 1, 1, (1, 0, 0), 0, 0), (.aaload, 1, (0, 0, 0), 0, 0), (.getfield 92, 3, (0, 0, 0), 0, 0), (.aload_n 0, 1, (0, 0, 0), 0, 0), (.getfield 17, 3, (3, 1, 1), 0, 0), (.iload_n 1, 1, (1, 0, 0), 0, 0), (.aaload, 1, (0, 0, 0), 0, 0), (.getfield 169, 3, (0, 2, 0), 0, 0), (.isub, 1, (0, 0, 0), 0, 0)]
theorem kwX3_loadAtValley_20 {X : KX} {S : KS} {mc ms : Nat} {E : KEnd} {ls : KL} {st : List KV} {M : KM} {cs sl : Nat} (hC : KC X mX3_loadAtValley 3 false S mc ms) (hE : KRet X mX3_loadAtValley E) (h : kblk (kroom mX3_loadAtValley mc ms) S E (KW X) kbX3_loadAtValley_20 20 ls st M cs sl) : KW X 20 ls st M cs sl := KW_blk hC hE kbX3_loadAtValley_20 20 ls st M cs sl (by decide +kernel) h
def kbX3_loadAtValley_43 : List KE := [(.istore_n 3, 1, (3, 0, 0), 0, 0), (.iload_n 3, 1, (3, 0, 0), 0, 0), (.iconst (-1), 1, (0, 0, 0), (-1), 0), (.if_icmp .ne (6), 3, (52, 0, 0), 0, 0)]
theorem kwX3_loadAtValley_43 {X : KX} {S : KS} {mc ms : Nat} {E : KEnd} {ls : KL} {st : List KV} {M : KM} {cs sl : Nat} (hC : KC X mX3_loadAtValley 3 false S mc ms) (hE : KRet X mX3_loadAtValley E) (h : kblk (kroom mX3_loadAtValley mc ms) S E (KW X) kbX3_loadAtValley_43 43 ls st M cs sl) : KW X 43 ls st M cs sl := KW_blk hC hE kbX3_loadAtValley_43 43 ls st M cs sl (by decide +kernel) h
def kbX3_loadAtValley_49 : List KE := [(.goto (15), 3, (64, 0, 0), 0, 0)]
theorem kwX3_loadAtValley_49 {X : KX} {S : KS} {mc ms : Nat} {E : KEnd} {ls : KL} {st : List KV} {M : KM} {cs sl : Nat} (hC : KC X mX3_loadAtValley 3 false S mc ms) (hE : KRet X mX3_loadAtValley E) (h : kblk (kroom mX3_loadAtValley mc ms) S E (KW X) kbX3_loadAtValley_49 49 ls st M cs sl) : KW X 49 ls st M cs sl := KW_blk hC hE kbX3_loadAtValley_49 49 ls st M cs sl (by decide +kernel) h
def kbX3_loadAtValley_52 : List KE := [(.aload_n 0, 1, (0, 0, 0), 0, 0), (.iload_n 3, 1, (3, 0, 0), 0, 0), (.iload_n 1, 1, (1, 0, 0), 0, 0)]
theorem kwX3_loadAtValley_52 {X : KX} {S : KS} {mc ms : Nat} {E : KEnd} {ls : KL} {st : List KV} {M : KM} {cs sl : Nat} (hC : KC X mX3_loadAtValley 3 false S mc ms) (hE : KRet X mX3_loadAtValley E) (h : kblk (kroom mX3_loadAtValley mc ms) S E (KW X) kbX3_loadAtValley_52 52 ls st M cs sl) : KW X 52 ls st M cs sl := KW_blk hC hE kbX3_loadAtValley_52 52 ls st M cs sl (by decide +kernel) h
def kbX3_loadAtValley_58 : List KE := [(.iinc 2 (1), 3, (2, 0, 0), 1, 0), (.goto (-47), 3, (14, 0, 0), 0, 0)]
theorem kwX3_loadAtValley_58 {X : KX} {S : KS} {mc ms : Nat} {E : KEnd} {ls : KL} {st : List KV} {M : KM} {cs sl : Nat} (hC : KC X mX3_loadAtValley 3 false S mc ms) (hE : KRet X mX3_loadAtValley E) (h : kblk (kroom mX3_loadAtValley mc ms) S E (KW X) kbX3_loadAtValley_58 58 ls st M cs sl) : KW X 58 ls st M cs sl := KW_blk hC hE kbX3_loadAtValley_58 58 ls st M cs sl (by decide +kernel) h
def kbX3_loadAtValley_64 : List KE := [(.iload_n 2, 1, (2, 0, 0), 0, 0), (.ifCond .le (13), 3, (78, 0, 0), 0, 0)]
theorem kwX3_loadAtValley_64 {X : KX} {S : KS} {mc ms : Nat} {E : KEnd} {ls : KL} {st : List KV} {M : KM} {cs sl : Nat} (hC : KC X mX3_loadAtValley 3 false S mc ms) (hE : KRet X mX3_loadAtValley E) (h : kblk (kroom mX3_loadAtValley mc ms) S E (KW X) kbX3_loadAtValley_64 64 ls st M cs sl) : KW X 64 ls st M cs sl := KW_blk hC hE kbX3_loadAtValley_64 64 ls st M cs sl (by decide +kernel) h
def kbX3_loadAtValley_68 : List KE := [(.aload_n 0, 1, (0, 0, 0), 0, 0), (.dup, 1, (0, 0, 0), 0, 0), (.getfield 89, 3, (3, 13, 0), 0, 0), (.iconst 1, 1, (0, 0, 0), 1, 0), (.iadd, 1, (0, 0, 0), 0, 0), (.putfield 89, 3, (3, 13, 0), 0, 0)]
theorem kwX3_loadAtValley_68 {X : KX} {S : KS} {mc ms : Nat} {E : KEnd} {ls : KL} {st : List KV} {M : KM} {cs sl : Nat} (hC : KC X mX3_loadAtValley 3 false S mc ms) (hE : KRet X mX3_loadAtValley E) (h : kblk (kroom mX3_loadAtValley mc ms) S E (KW X) kbX3_loadAtValley_68 68 ls st M cs sl) : KW X 68 ls st M cs sl := KW_blk hC hE kbX3_loadAtValley_68 68 ls st M cs sl (by decide +kernel) h
def kbX3_loadAtValley_78 : List KE := [(.return_, 1, (0, 0, 0), 0, 0)]
theorem kwX3_loadAtValley_78 {X : KX} {S : KS} {mc ms : Nat} {E : KEnd} {ls : KL} {st : List KV} {M : KM} {cs sl : Nat} (hC : KC X mX3_loadAtValley 3 false S mc ms) (hE : KRet X mX3_loadAtValley E) (h : kblk (kroom mX3_loadAtValley mc ms) S E (KW X) kbX3_loadAtValley_78 78 ls st M cs sl) : KW X 78 ls st M cs sl := KW_blk hC hE kbX3_loadAtValley_78 78 ls st M cs sl (by decide +kernel) h
def kbX3_makeChair_0 : List KE := [(.aload_n 0, 1, (0, 0, 0), 0, 0), (.getfield 55, 3, (3, 5, 0), 0, 0), (.istore_n 2, 1, (2, 0, 0), 0, 0), (.aload_n 0, 1, (0, 0, 0), 0, 0), (.getfield 17, 3, (3, 1, 1), 0, 0), (.iload_n 2, 1, (2, 0, 0), 0, 0), (.aaload, 1, (0, 0, 0), 0, 0), (.iload_n 1, 1, (1, 0, 0), 0, 0), (.putfield 92, 3, (0, 0, 0), 0, 0), (.aload_n 0, 1, (0, 0, 0), 0, 0), (.getfield 38, 3, (3, 4, 1), 0, 0), (.iload_n 2, 1, (2, 0, 0), 0, 0)]
theorem kwX3_makeChair_0 {X : KX} {S : KS} {mc ms : Nat} {E : KEnd} {ls : KL} {st : List KV} {M : KM} {cs sl : Nat} (hC : KC X mX3_makeChair 3 false S mc ms) (hE : KRet X mX3_makeChair E) (h : kblk (kroom mX3_makeChair mc ms) S E (KW X) kbX3_makeChair_0 0 ls st M cs sl) : KW X 0 ls st M cs sl := KW_blk hC hE kbX3_makeChair_0 0 ls st M cs sl (by decide +kernel) h
def kbX3_makeChair_23 : List KE := [(.aload_n 0, 1, (0, 0, 0), 0, 0), (.dup, 1, (0, 0, 0), 0, 0), (.getfield 55, 3, (3, 5, 0), 0, 0), (.iconst 1, 1, (0, 0, 0), 1, 0), (.iadd, 1, (0, 0, 0), 0, 0), (.putfield 55, 3, (3, 5, 0), 0, 0), (.iload_n 2, 1, (2, 0, 0), 0, 0), (.ireturn, 1, (0, 0, 0), 0, 0)]
theorem kwX3_makeChair_23 {X : KX} {S : KS} {mc ms : Nat} {E : KEnd} {ls : KL} {st : List KV} {M : KM} {cs sl : Nat} (hC : KC X mX3_makeChair 3 false S mc ms) (hE : KRet X mX3_makeChair E) (h : kblk (kroom mX3_makeChair mc ms) S E (KW X) kbX3_makeChair_23 23 ls st M cs sl) : KW X 23 ls st M cs sl := KW_blk hC hE kbX3_makeChair_23 23 ls st M cs sl (by decide +kernel) h
def kbX3_makeGroup_0 : List KE := [(.aload_n 0, 1, (0, 0, 0), 0, 0), (.getfield 68, 3, (3, 7, 0), 0, 0), (.istore 4, 2, (4, 0, 0), 0, 0), (.aload_n 0, 1, (0, 0, 0), 0, 0), (.getfield 29, 3, (3, 3, 1), 0, 0), (.iload 4, 2, (4, 0, 0), 0, 0), (.aaload, 1, (0, 0, 0), 0, 0), (.iload_n 2, 1, (2, 0, 0), 0, 0), (.iload_n 3, 1, (3, 0, 0), 0, 0), (.aload_n 0, 1, (0, 0, 0), 0, 0), (.getfield 83, 3, (3, 11, 0), 0, 0)]
theorem kwX3_makeGroup_0 {X : KX} {S : KS} {mc ms : Nat} {E : KEnd} {ls : KL} {st : List KV} {M : KM} {cs sl : Nat} (hC : KC X mX3_makeGroup 3 false S mc ms) (hE : KRet X mX3_makeGroup E) (h : kblk (kroom mX3_makeGroup mc ms) S E (KW X) kbX3_makeGroup_0 0 ls st M cs sl) : KW X 0 ls st M cs sl := KW_blk hC hE kbX3_makeGroup_0 0 ls st M cs sl (by decide +kernel) h
def kbX3_makeGroup_22 : List KE := [(.aload_n 0, 1, (0, 0, 0), 0, 0), (.iload 4, 2, (4, 0, 0), 0, 0), (.iload_n 1, 1, (1, 0, 0), 0, 0)]
theorem kwX3_makeGroup_22 {X : KX} {S : KS} {mc ms : Nat} {E : KEnd} {ls : KL} {st : List KV} {M : KM} {cs sl : Nat} (hC : KC X mX3_makeGroup 3 false S mc ms) (hE : KRet X mX3_makeGroup E) (h : kblk (kroom mX3_makeGroup mc ms) S E (KW X) kbX3_makeGroup_22 22 ls st M cs sl) : KW X 22 ls st M cs sl := KW_blk hC hE kbX3_makeGroup_22 22 ls st M cs sl (by decide +kernel) h
def kbX3_makeGroup_29 : List KE := [(.aload_n 0, 1, (0, 0, 0), 0, 0), (.dup, 1, (0, 0, 0), 0, 0), (.getfield 68, 3, (3, 7, 0), 0, 0), (.iconst 1, 1, (0, 0, 0), 1, 0), (.iadd, 1, (0, 0, 0), 0, 0), (.putfield 68, 3, (3, 7, 0), 0, 0), (.iload 4, 2, (4, 0, 0), 0, 0), (.ireturn, 1, (0, 0, 0), 0, 0)]
theorem kwX3_makeGroup_29 {X : KX} {S : KS} {mc ms : Nat} {E : KEnd} {ls : KL} {st : List KV} {M : KM} {cs sl : Nat} (hC : KC X mX3_makeGroup 3 false S mc ms) (hE : KRet X mX3_makeGroup E) (h : kblk (kroom mX3_makeGroup mc ms) S E (KW X) kbX3_makeGroup_29 29 ls st M cs sl) : KW X 29 ls st M cs sl := KW_blk hC hE kbX3_makeGroup_29 29 ls st M cs sl (by decide +kernel) h
def kbX3_makeLane_0 : List KE := [(.aload_n 0, 1, (0, 0, 0), 0, 0), (.getfield 62, 3, (3, 6, 0), 0, 0), (.istore_n 1, 1, (1, 0, 0), 0, 0), (.aload_n 0, 1, (0, 0, 0), 0, 0), (.dup, 1, (0, 0, 0), 0, 0), (.getfield 62, 3, (3, 6, 0), 0, 0), (.iconst 1, 1, (0, 0, 0), 1, 0), (.iadd, 1, (0, 0, 0), 0, 0), (.putfield 62, 3, (3, 6, 0), 0, 0), (.iload_n 1, 1, (1, 0, 0), 0, 0), (.ireturn, 1, (0, 0, 0), 0, 0)]
theorem kwX3_makeLane_0 {X : KX} {S : KS} {mc ms : Nat} {E : KEnd} {ls : KL} {st : List KV} {M : KM} {cs sl : Nat} (hC : KC X mX3_makeLane 3 false S mc ms) (hE : KRet X mX3_makeLane E) (h : kblk (kroom mX3_makeLane mc ms) S E (KW X) kbX3_makeLane_0 0 ls st M cs sl) : KW X 0 ls st M cs sl := KW_blk hC hE kbX3_makeLane_0 0 ls st M cs sl (by decide +kernel) h
def kbX3_moveRope_0 : List KE := [(.iconst 0, 1, (0, 0, 0), 0, 0), (.istore_n 1, 1, (1, 0, 0), 0, 0)]
theorem kwX3_moveRope_0 {X : KX} {S : KS} {mc ms : Nat} {E : KEnd} {ls : KL} {st : List KV} {M : KM} {cs sl : Nat} (hC : KC X mX3_moveRope 3 false S mc ms) (hE : KRet X mX3_moveRope E) (h : kblk (kroom mX3_moveRope mc ms) S E (KW X) kbX3_moveRope_0 0 ls st M cs sl) : KW X 0 ls st M cs sl := KW_blk hC hE kbX3_moveRope_0 0 ls st M cs sl (by decide +kernel) h
def kbX3_moveRope_2 : List KE := [(.iload_n 1, 1, (1, 0, 0), 0, 0), (.aload_n 0, 1, (0, 0, 0), 0, 0), (.getfield 55, 3, (3, 5, 0), 0, 0), (.if_icmp .ge (53), 3, (60, 0, 0), 0, 0)]
theorem kwX3_moveRope_2 {X : KX} {S : KS} {mc ms : Nat} {E : KEnd} {ls : KL} {st : List KV} {M : KM} {cs sl : Nat} (hC : KC X mX3_moveRope 3 false S mc ms) (hE : KRet X mX3_moveRope E) (h : kblk (kroom mX3_moveRope mc ms) S E (KW X) kbX3_moveRope_2 2 ls st M cs sl) : KW X 2 ls st M cs sl := KW_blk hC hE kbX3_moveRope_2 2 ls st M cs sl (by decide +kernel) h
def kbX3_moveRope_10 : List KE := [(.aload_n 0, 1, (0, 0, 0), 0, 0), (.getfield 17, 3, (3, 1, 1), 0, 0), (.iload_n 1, 1, (1, 0, 0), 0, 0), (.aaload, 1, (0, 0, 0), 0, 0), (.astore_n 2, 1, (2, 0, 0), 0, 0), (.aload_n 2, 1, (2, 0, 0), 0, 0), (.getfield 156, 3, (0, 1, 0), 0, 0), (.iconst (-1), 1, (0, 0, 0), (-1), 0), (.if_icmp .eq (32), 3, (54, 0, 0), 0, 0)]
theorem kwX3_moveRope_10 {X : KX} {S : KS} {mc ms : Nat} {E : KEnd} {ls : KL} {st : List KV} {M : KM} {cs sl : Nat} (hC : KC X mX3_moveRope 3 false S mc ms) (hE : KRet X mX3_moveRope E) (h : kblk (kroom mX3_moveRope mc ms) S E (KW X) kbX3_moveRope_10 10 ls st M cs sl) : KW X 10 ls st M cs sl := KW_blk hC hE kbX3_moveRope_10 10 ls st M cs sl (by decide +kernel) h
def kbX3_moveRope_25 : List KE := [(.aload_n 2, 1, (2, 0, 0), 0, 0), (.aload_n 2, 1, (2, 0, 0), 0, 0), (.getfield 156, 3, (0, 1, 0), 0, 0), (.iconst 1, 1, (0, 0, 0), 1, 0), (.iadd, 1, (0, 0, 0), 0, 0), (.iconst 2, 1, (0, 0, 0), 2, 0), (.aload_n 0, 1, (0, 0, 0), 0, 0), (.getfield 42, 3, (3, 8, 0), 0, 0), (.imul, 1, (0, 0, 0), 0, 0), (.if_icmp .ge (12), 3, (50, 0, 0), 0, 0)]
theorem kwX3_moveRope_25 {X : KX} {S : KS} {mc ms : Nat} {E : KEnd} {ls : KL} {st : List KV} {M : KM} {cs sl : Nat} (hC : KC X mX3_moveRope 3 false S mc ms) (hE : KRet X mX3_moveRope E) (h : kblk (kroom mX3_moveRope mc ms) S E (KW X) kbX3_moveRope_25 25 ls st M cs sl) : KW X 25 ls st M cs sl := KW_blk hC hE kbX3_moveRope_25 25 ls st M cs sl (by decide +kernel) h
def kbX3_moveRope_41 : List KE := [(.aload_n 2, 1, (2, 0, 0), 0, 0), (.getfield 156, 3, (0, 1, 0), 0, 0), (.iconst 1, 1, (0, 0, 0), 1, 0), (.iadd, 1, (0, 0, 0), 0, 0), (.goto (4), 3, (51, 0, 0), 0, 0)]
theorem kwX3_moveRope_41 {X : KX} {S : KS} {mc ms : Nat} {E : KEnd} {ls : KL} {st : List KV} {M : KM} {cs sl : Nat} (hC : KC X mX3_moveRope 3 false S mc ms) (hE : KRet X mX3_moveRope E) (h : kblk (kroom mX3_moveRope mc ms) S E (KW X) kbX3_moveRope_41 41 ls st M cs sl) : KW X 41 ls st M cs sl := KW_blk hC hE kbX3_moveRope_41 41 ls st M cs sl (by decide +kernel) h
def kbX3_moveRope_50 : List KE := [(.iconst 0, 1, (0, 0, 0), 0, 0)]
theorem kwX3_moveRope_50 {X : KX} {S : KS} {mc ms : Nat} {E : KEnd} {ls : KL} {st : List KV} {M : KM} {cs sl : Nat} (hC : KC X mX3_moveRope 3 false S mc ms) (hE : KRet X mX3_moveRope E) (h : kblk (kroom mX3_moveRope mc ms) S E (KW X) kbX3_moveRope_50 50 ls st M cs sl) : KW X 50 ls st M cs sl := KW_blk hC hE kbX3_moveRope_50 50 ls st M cs sl (by decide +kernel) h
def kbX3_moveRope_51 : List KE := [(.putfield 156, 3, (0, 1, 0), 0, 0)]
theorem kwX3_moveRope_51 {X : KX} {S : KS} {mc ms : Nat} {E : KEnd} {ls : KL} {st : List KV} {M : KM} {cs sl : Nat} (hC : KC X mX3_moveRope 3 false S mc ms) (hE : KRet X mX3_moveRope E) (h : kblk (kroom mX3_moveRope mc ms) S E (KW X) kbX3_moveRope_51 51 ls st M cs sl) : KW X 51 ls st M cs sl := KW_blk hC hE kbX3_moveRope_51 51 ls st M cs sl (by decide +kernel) h
def kbX3_moveRope_54 : List KE := [(.iinc 1 (1), 3, (1, 0, 0), 1, 0), (.goto (-55), 3, (2, 0, 0), 0, 0)]
theorem kwX3_moveRope_54 {X : KX} {S : KS} {mc ms : Nat} {E : KEnd} {ls : KL} {st : List KV} {M : KM} {cs sl : Nat} (hC : KC X mX3_moveRope 3 false S mc ms) (hE : KRet X mX3_moveRope E) (h : kblk (kroom mX3_moveRope mc ms) S E (KW X) kbX3_moveRope_54 54 ls st M cs sl) : KW X 54 ls st M cs sl := KW_blk hC hE kbX3_moveRope_54 54 ls st M cs sl (by decide +kernel) h
def kbX3_moveRope_60 : List KE := [(.return_, 1, (0, 0, 0), 0, 0)]
theorem kwX3_moveRope_60 {X : KX} {S : KS} {mc ms : Nat} {E : KEnd} {ls : KL} {st : List KV} {M : KM} {cs sl : Nat} (hC : KC X mX3_moveRope 3 false S mc ms) (hE : KRet X mX3_moveRope E) (h : kblk (kroom mX3_moveRope mc ms) S E (KW X) kbX3_moveRope_60 60 ls st M cs sl) : KW X 60 ls st M cs sl := KW_blk hC hE kbX3_moveRope_60 60 ls st M cs sl (by decide +kernel) h
def kbX3_peopleInQueueOf_0 : List KE := [(.iconst 0, 1, (0, 0, 0), 0, 0), (.istore_n 2, 1, (2, 0, 0), 0, 0), (.iconst 0, 1, (0, 0, 0), 0, 0), (.istore_n 3, 1, (3, 0, 0), 0, 0)]
theorem kwX3_peopleInQueueOf_0 {X : KX} {S : KS} {mc ms : Nat} {E : KEnd} {ls : KL} {st : List KV} {M : KM} {cs sl : Nat} (hC : KC X mX3_peopleInQueueOf 3 false S mc ms) (hE : KRet X mX3_peopleInQueueOf E) (h : kblk (kroom mX3_peopleInQueueOf mc ms) S E (KW X) kbX3_peopleInQueueOf_0 0 ls st M cs sl) : KW X 0 ls st M cs sl := KW_blk hC hE kbX3_peopleInQueueOf_0 0 ls st M cs sl (by decide +kernel) h
def kbX3_peopleInQueueOf_4 : List KE := [(.iload_n 3, 1, (3, 0, 0), 0, 0), (.aload_n 0, 1, (0, 0, 0), 0, 0), (.getfield 68, 3, (3, 7, 0), 0, 0), (.if_icmp .ge (34), 3, (43, 0, 0), 0, 0)]
theorem kwX3_peopleInQueueOf_4 {X : KX} {S : KS} {mc ms : Nat} {E : KEnd} {ls : KL} {st : List KV} {M : KM} {cs sl : Nat} (hC : KC X mX3_peopleInQueueOf 3 false S mc ms) (hE : KRet X mX3_peopleInQueueOf E) (h : kblk (kroom mX3_peopleInQueueOf mc ms) S E (KW X) kbX3_peopleInQueueOf_4 4 ls st M cs sl) : KW X 4 ls st M cs sl := KW_blk hC hE kbX3_peopleInQueueOf_4 4 ls st M cs sl (by decide +kernel) h
def kbX3_peopleInQueueOf_12 : List KE := [(.aload_n 0, 1, (0, 0, 0), 0, 0), (.getfield 29, 3, (3, 3, 1), 0, 0), (.iload_n 3, 1, (3, 0, 0), 0, 0), (.aaload, 1, (0, 0, 0), 0, 0), (.getfield 106, 3, (1, 3, 0), 0, 0), (.iload_n 1, 1, (1, 0, 0), 0, 0), (.if_icmp .ne (15), 3, (37, 0, 0), 0, 0)]
theorem kwX3_peopleInQueueOf_12 {X : KX} {S : KS} {mc ms : Nat} {E : KEnd} {ls : KL} {st : List KV} {M : KM} {cs sl : Nat} (hC : KC X mX3_peopleInQueueOf 3 false S mc ms) (hE : KRet X mX3_peopleInQueueOf E) (h : kblk (kroom mX3_peopleInQueueOf mc ms) S E (KW X) kbX3_peopleInQueueOf_12 12 ls st M cs sl) : KW X 12 ls st M cs sl := KW_blk hC hE kbX3_peopleInQueueOf_12 12 ls st M cs sl (by decide +kernel) h
def kbX3_peopleInQueueOf_25 : List KE := [(.iload_n 2, 1, (2, 0, 0), 0, 0), (.aload_n 0, 1, (0, 0, 0), 0, 0), (.getfield 29, 3, (3, 3, 1), 0, 0), (.iload_n 3, 1, (3, 0, 0), 0, 0), (.aaload, 1, (0, 0, 0), 0, 0), (.getfield 189, 3, (1, 0, 0), 0, 0), (.iadd, 1, (0, 0, 0), 0, 0), (.istore_n 2, 1, (2, 0, 0), 0, 0)]
theorem kwX3_peopleInQueueOf_25 {X : KX} {S : KS} {mc ms : Nat} {E : KEnd} {ls : KL} {st : List KV} {M : KM} {cs sl : Nat} (hC : KC X mX3_peopleInQueueOf 3 false S mc ms) (hE : KRet X mX3_peopleInQueueOf E) (h : kblk (kroom mX3_peopleInQueueOf mc ms) S E (KW X) kbX3_peopleInQueueOf_25 25 ls st M cs sl) : KW X 25 ls st M cs sl := KW_blk hC hE kbX3_peopleInQueueOf_25 25 ls st M cs sl (by decide +kernel) h
def kbX3_peopleInQueueOf_37 : List KE := [(.iinc 3 (1), 3, (3, 0, 0), 1, 0), (.goto (-36), 3, (4, 0, 0), 0, 0)]
theorem kwX3_peopleInQueueOf_37 {X : KX} {S : KS} {mc ms : Nat} {E : KEnd} {ls : KL} {st : List KV} {M : KM} {cs sl : Nat} (hC : KC X mX3_peopleInQueueOf 3 false S mc ms) (hE : KRet X mX3_peopleInQueueOf E) (h : kblk (kroom mX3_peopleInQueueOf mc ms) S E (KW X) kbX3_peopleInQueueOf_37 37 ls st M cs sl) : KW X 37 ls st M cs sl := KW_blk hC hE kbX3_peopleInQueueOf_37 37 ls st M cs sl (by decide +kernel) h
def kbX3_peopleInQueueOf_43 : List KE := [(.iload_n 2, 1, (2, 0, 0), 0, 0), (.ireturn, 1, (0, 0, 0), 0, 0)]
theorem kwX3_peopleInQueueOf_43 {X : KX} {S : KS} {mc ms : Nat} {E : KEnd} {ls : KL} {st : List KV} {M : KM} {cs sl : Nat} (hC : KC X mX3_peopleInQueueOf 3 false S mc ms) (hE : KRet X mX3_peopleInQueueOf E) (h : kblk (kroom mX3_peopleInQueueOf mc ms) S E (KW X) kbX3_peopleInQueueOf_43 43 ls st M cs sl) : KW X 43 ls st M cs sl := KW_blk hC hE kbX3_peopleInQueueOf_43 43 ls st M cs sl (by decide +kernel) h
def kbX3_peopleWho_0 : List KE := [(.iconst 0, 1, (0, 0, 0), 0, 0), (.istore_n 2, 1, (2, 0, 0), 0, 0), (.iconst 0, 1, (0, 0, 0), 0, 0), (.istore_n 3, 1, (3, 0, 0), 0, 0)]
theorem kwX3_peopleWho_0 {X : KX} {S : KS} {mc ms : Nat} {E : KEnd} {ls : KL} {st : List KV} {M : KM} {cs sl : Nat} (hC : KC X mX3_peopleWho 3 false S mc ms) (hE : KRet X mX3_peopleWho E) (h : kblk (kroom mX3_peopleWho mc ms) S E (KW X) kbX3_peopleWho_0 0 ls st M cs sl) : KW X 0 ls st M cs sl := KW_blk hC hE kbX3_peopleWho_0 0 ls st M cs sl (by decide +kernel) h
def kbX3_peopleWho_4 : List KE := [(.iload_n 3, 1, (3, 0, 0), 0, 0), (.aload_n 0, 1, (0, 0, 0), 0, 0), (.getfield 68, 3, (3, 7, 0), 0, 0), (.if_icmp .ge (34), 3, (43, 0, 0), 0, 0)]
theorem kwX3_peopleWho_4 {X : KX} {S : KS} {mc ms : Nat} {E : KEnd} {ls : KL} {st : List KV} {M : KM} {cs sl : Nat} (hC : KC X mX3_peopleWho 3 false S mc ms) (hE : KRet X mX3_peopleWho E) (h : kblk (kroom mX3_peopleWho mc ms) S E (KW X) kbX3_peopleWho_4 4 ls st M cs sl) : KW X 4 ls st M cs sl := KW_blk hC hE kbX3_peopleWho_4 4 ls st M cs sl (by decide +kernel) h
def kbX3_peopleWho_12 : List KE := [(.aload_n 0, 1, (0, 0, 0), 0, 0), (.getfield 29, 3, (3, 3, 1), 0, 0), (.iload_n 3, 1, (3, 0, 0), 0, 0), (.aaload, 1, (0, 0, 0), 0, 0), (.getfield 118, 3, (1, 2, 0), 0, 0), (.iload_n 1, 1, (1, 0, 0), 0, 0), (.if_icmp .ne (15), 3, (37, 0, 0), 0, 0)]
theorem kwX3_peopleWho_12 {X : KX} {S : KS} {mc ms : Nat} {E : KEnd} {ls : KL} {st : List KV} {M : KM} {cs sl : Nat} (hC : KC X mX3_peopleWho 3 false S mc ms) (hE : KRet X mX3_peopleWho E) (h : kblk (kroom mX3_peopleWho mc ms) S E (KW X) kbX3_peopleWho_12 12 ls st M cs sl) : KW X 12 ls st M cs sl := KW_blk hC hE kbX3_peopleWho_12 12 ls st M cs sl (by decide +kernel) h
def kbX3_peopleWho_25 : List KE := [(.iload_n 2, 1, (2, 0, 0), 0, 0), (.aload_n 0, 1, (0, 0, 0), 0, 0), (.getfield 29, 3, (3, 3, 1), 0, 0), (.iload_n 3, 1, (3, 0, 0), 0, 0), (.aaload, 1, (0, 0, 0), 0, 0), (.getfield 189, 3, (1, 0, 0), 0, 0), (.iadd, 1, (0, 0, 0), 0, 0), (.istore_n 2, 1, (2, 0, 0), 0, 0)]
theorem kwX3_peopleWho_25 {X : KX} {S : KS} {mc ms : Nat} {E : KEnd} {ls : KL} {st : List KV} {M : KM} {cs sl : Nat} (hC : KC X mX3_peopleWho 3 false S mc ms) (hE : KRet X mX3_peopleWho E) (h : kblk (kroom mX3_peopleWho mc ms) S E (KW X) kbX3_peopleWho_25 25 ls st M cs sl) : KW X 25 ls st M cs sl := KW_blk hC hE kbX3_peopleWho_25 25 ls st M cs sl (by decide +kernel) h
def kbX3_peopleWho_37 : List KE := [(.iinc 3 (1), 3, (3, 0, 0), 1, 0), (.goto (-36), 3, (4, 0, 0), 0, 0)]
theorem kwX3_peopleWho_37 {X : KX} {S : KS} {mc ms : Nat} {E : KEnd} {ls : KL} {st : List KV} {M : KM} {cs sl : Nat} (hC : KC X mX3_peopleWho 3 false S mc ms) (hE : KRet X mX3_peopleWho E) (h : kblk (kroom mX3_peopleWho mc ms) S E (KW X) kbX3_peopleWho_37 37 ls st M cs sl) : KW X 37 ls st M cs sl := KW_blk hC hE kbX3_peopleWho_37 37 ls st M cs sl (by decide +kernel) h
def kbX3_peopleWho_43 : List KE := [(.iload_n 2, 1, (2, 0, 0), 0, 0), (.ireturn, 1, (0, 0, 0), 0, 0)]
theorem kwX3_peopleWho_43 {X : KX} {S : KS} {mc ms : Nat} {E : KEnd} {ls : KL} {st : List KV} {M : KM} {cs sl : Nat} (hC : KC X mX3_peopleWho 3 false S mc ms) (hE : KRet X mX3_peopleWho E) (h : kblk (kroom mX3_peopleWho mc ms) S E (KW X) kbX3_peopleWho_43 43 ls st M cs sl) : KW X 43 ls st M cs sl := KW_blk hC hE kbX3_peopleWho_43 43 ls st M cs sl (by decide +kernel) h
def kbX3_putIntoQueue_0 : List KE := [(.aload_n 0, 1, (0, 0, 0), 0, 0), (.getfield 29, 3, (3, 3, 1), 0, 0), (.iload_n 1, 1, (1, 0, 0), 0, 0), (.aaload, 1, (0, 0, 0), 0, 0), (.iload_n 2, 1, (2, 0, 0), 0, 0), (.putfield 106, 3, (1, 3, 0), 0, 0), (.aload_n 0, 1, (0, 0, 0), 0, 0), (.getfield 23, 3, (3, 2, 1), 0, 0), (.iload_n 2, 1, (2, 0, 0), 0, 0), (.aaload, 1, (0, 0, 0), 0, 0), (.getfield 109, 3, (2, 0, 1), 0, 0), (.iload_n 1, 1, (1, 0, 0), 0, 0)]
theorem kwX3_putIntoQueue_0 {X : KX} {S : KS} {mc ms : Nat} {E : KEnd} {ls : KL} {st : List KV} {M : KM} {cs sl : Nat} (hC : KC X mX3_putIntoQueue 3 false S mc ms) (hE : KRet X mX3_putIntoQueue E) (h : kblk (kroom mX3_putIntoQueue mc ms) S E (KW X) kbX3_putIntoQueue_0 0 ls st M cs sl) : KW X 0 ls st M cs sl := KW_blk hC hE kbX3_putIntoQueue_0 0 ls st M cs sl (by decide +kernel) h
def kbX3_putIntoQueue_23 : List KE := [(.return_, 1, (0, 0, 0), 0, 0)]
theorem kwX3_putIntoQueue_23 {X : KX} {S : KS} {mc ms : Nat} {E : KEnd} {ls : KL} {st : List KV} {M : KM} {cs sl : Nat} (hC : KC X mX3_putIntoQueue 3 false S mc ms) (hE : KRet X mX3_putIntoQueue E) (h : kblk (kroom mX3_putIntoQueue mc ms) S E (KW X) kbX3_putIntoQueue_23 23 ls st M cs sl) : KW X 23 ls st M cs sl := KW_blk hC hE kbX3_putIntoQueue_23 23 ls st M cs sl (by decide +kernel) h
def kbX3_ridersTaken_0 : List KE := [(.iconst 0, 1, (0, 0, 0), 0, 0), (.istore_n 1, 1, (1, 0, 0), 0, 0), (.iconst 0, 1, (0, 0, 0), 0, 0), (.istore_n 2, 1, (2, 0, 0), 0, 0)]
theorem kwX3_ridersTaken_0 {X : KX} {S : KS} {mc ms : Nat} {E : KEnd} {ls : KL} {st : List KV} {M : KM} {cs sl : Nat} (hC : KC X mX3_ridersTaken 3 false S mc ms) (hE : KRet X mX3_ridersTaken E) (h : kblk (kroom mX3_ridersTaken mc ms) S E (KW X) kbX3_ridersTaken_0 0 ls st M cs sl) : KW X 0 ls st M cs sl := KW_blk hC hE kbX3_ridersTaken_0 0 ls st M cs sl (by decide +kernel) h
def kbX3_ridersTaken_4 : List KE := [(.iload_n 2, 1, (2, 0, 0), 0, 0), (.aload_n 0, 1, (0, 0, 0), 0, 0), (.getfield 55, 3, (3, 5, 0), 0, 0), (.if_icmp .ge (21), 3, (30, 0, 0), 0, 0)]
theorem kwX3_ridersTaken_4 {X : KX} {S : KS} {mc ms : Nat} {E : KEnd} {ls : KL} {st : List KV} {M : KM} {cs sl : Nat} (hC : KC X mX3_ridersTaken 3 false S mc ms) (hE : KRet X mX3_ridersTaken E) (h : kblk (kroom mX3_ridersTaken mc ms) S E (KW X) kbX3_ridersTaken_4 4 ls st M cs sl) : KW X 4 ls st M cs sl := KW_blk hC hE kbX3_ridersTaken_4 4 ls st M cs sl (by decide +kernel) h
def kbX3_ridersTaken_12 : List KE := [(.iload_n 1, 1, (1, 0, 0), 0, 0), (.aload_n 0, 1, (0, 0, 0), 0, 0), (.getfield 17, 3, (3, 1, 1), 0, 0), (.iload_n 2, 1, (2, 0, 0), 0, 0), (.aaload, 1, (0, 0, 0), 0, 0), (.getfield 196, 3, (0, 4, 0), 0, 0), (.iadd, 1, (0, 0, 0), 0, 0), (.istore_n 1, 1, (1, 0, 0), 0, 0), (.iinc 2 (1), 3, (2, 0, 0), 1, 0), (.goto (-23), 3, (4, 0, 0), 0, 0)]
theorem kwX3_ridersTaken_12 {X : KX} {S : KS} {mc ms : Nat} {E : KEnd} {ls : KL} {st : List KV} {M : KM} {cs sl : Nat} (hC : KC X mX3_ridersTaken 3 false S mc ms) (hE : KRet X mX3_ridersTaken E) (h : kblk (kroom mX3_ridersTaken mc ms) S E (KW X) kbX3_ridersTaken_12 12 ls st M cs sl) : KW X 12 ls st M cs sl := KW_blk hC hE kbX3_ridersTaken_12 12 ls st M cs sl (by decide +kernel) h
def kbX3_ridersTaken_30 : List KE := [(.iload_n 1, 1, (1, 0, 0), 0, 0), (.ireturn, 1, (0, 0, 0), 0, 0)]
theorem kwX3_ridersTaken_30 {X : KX} {S : KS} {mc ms : Nat} {E : KEnd} {ls : KL} {st : List KV} {M : KM} {cs sl : Nat} (hC : KC X mX3_ridersTaken 3 false S mc ms) (hE : KRet X mX3_ridersTaken E) (h : kblk (kroom mX3_ridersTaken mc ms) S E (KW X) kbX3_ridersTaken_30 30 ls st M cs sl) : KW X 30 ls st M cs sl := KW_blk hC hE kbX3_ridersTaken_30 30 ls st M cs sl (by decide +kernel) h
def kbX3_ropeStands_0 : List KE := [(.aload_n 0, 1, (0, 0, 0), 0, 0), (.getfield 83, 3, (3, 11, 0), 0, 0), (.iconst 1, 1, (0, 0, 0), 1, 0), (.iand, 1, (0, 0, 0), 0, 0), (.iconst 1, 1, (0, 0, 0), 1, 0), (.if_icmp .ne (7), 3, (14, 0, 0), 0, 0)]
theorem kwX3_ropeStands_0 {X : KX} {S : KS} {mc ms : Nat} {E : KEnd} {ls : KL} {st : List KV} {M : KM} {cs sl : Nat} (hC : KC X mX3_ropeStands 3 false S mc ms) (hE : KRet X mX3_ropeStands E) (h : kblk (kroom mX3_ropeStands mc ms) S E (KW X) kbX3_ropeStands_0 0 ls st M cs sl) : KW X 0 ls st M cs sl := KW_blk hC hE kbX3_ropeStands_0 0 ls st M cs sl (by decide +kernel) h
def kbX3_ropeStands_10 : List KE := [(.iconst 1, 1, (0, 0, 0), 1, 0), (.goto (4), 3, (15, 0, 0), 0, 0)]
theorem kwX3_ropeStands_10 {X : KX} {S : KS} {mc ms : Nat} {E : KEnd} {ls : KL} {st : List KV} {M : KM} {cs sl : Nat} (hC : KC X mX3_ropeStands 3 false S mc ms) (hE : KRet X mX3_ropeStands E) (h : kblk (kroom mX3_ropeStands mc ms) S E (KW X) kbX3_ropeStands_10 10 ls st M cs sl) : KW X 10 ls st M cs sl := KW_blk hC hE kbX3_ropeStands_10 10 ls st M cs sl (by decide +kernel) h
def kbX3_ropeStands_14 : List KE := [(.iconst 0, 1, (0, 0, 0), 0, 0)]
theorem kwX3_ropeStands_14 {X : KX} {S : KS} {mc ms : Nat} {E : KEnd} {ls : KL} {st : List KV} {M : KM} {cs sl : Nat} (hC : KC X mX3_ropeStands 3 false S mc ms) (hE : KRet X mX3_ropeStands E) (h : kblk (kroom mX3_ropeStands mc ms) S E (KW X) kbX3_ropeStands_14 14 ls st M cs sl) : KW X 14 ls st M cs sl := KW_blk hC hE kbX3_ropeStands_14 14 ls st M cs sl (by decide +kernel) h
def kbX3_ropeStands_15 : List KE := [(.istore_n 2, 1, (2, 0, 0), 0, 0), (.iload_n 1, 1, (1, 0, 0), 0, 0), (.bipush (8), 2, (0, 0, 0), 8, 0), (.if_icmp .ge (12), 3, (31, 0, 0), 0, 0)]
theorem kwX3_ropeStands_15 {X : KX} {S : KS} {mc ms : Nat} {E : KEnd} {ls : KL} {st : List KV} {M : KM} {cs sl : Nat} (hC : KC X mX3_ropeStands 3 false S mc ms) (hE : KRet X mX3_ropeStands E) (h : kblk (kroom mX3_ropeStands mc ms) S E (KW X) kbX3_ropeStands_15 15 ls st M cs sl) : KW X 15 ls st M cs sl := KW_blk hC hE kbX3_ropeStands_15 15 ls st M cs sl (by decide +kernel) h
def kbX3_ropeStands_22 : List KE := [(.iload_n 1, 1, (1, 0, 0), 0, 0), (.iconst 5, 1, (0, 0, 0), 5, 0), (.if_icmp .lt (11), 3, (35, 0, 0), 0, 0)]
theorem kwX3_ropeStands_22 {X : KX} {S : KS} {mc ms : Nat} {E : KEnd} {ls : KL} {st : List KV} {M : KM} {cs sl : Nat} (hC : KC X mX3_ropeStands 3 false S mc ms) (hE : KRet X mX3_ropeStands E) (h : kblk (kroom mX3_ropeStands mc ms) S E (KW X) kbX3_ropeStands_22 22 ls st M cs sl) : KW X 22 ls st M cs sl := KW_blk hC hE kbX3_ropeStands_22 22 ls st M cs sl (by decide +kernel) h
def kbX3_ropeStands_27 : List KE := [(.iload_n 2, 1, (2, 0, 0), 0, 0), (.ifCond .eq (7), 3, (35, 0, 0), 0, 0)]
theorem kwX3_ropeStands_27 {X : KX} {S : KS} {mc ms : Nat} {E : KEnd} {ls : KL} {st : List KV} {M : KM} {cs sl : Nat} (hC : KC X mX3_ropeStands 3 false S mc ms) (hE : KRet X mX3_ropeStands E) (h : kblk (kroom mX3_ropeStands mc ms) S E (KW X) kbX3_ropeStands_27 27 ls st M cs sl) : KW X 27 ls st M cs sl := KW_blk hC hE kbX3_ropeStands_27 27 ls st M cs sl (by decide +kernel) h
def kbX3_ropeStands_31 : List KE := [(.iconst 1, 1, (0, 0, 0), 1, 0), (.goto (4), 3, (36, 0, 0), 0, 0)]
theorem kwX3_ropeStands_31 {X : KX} {S : KS} {mc ms : Nat} {E : KEnd} {ls : KL} {st : List KV} {M : KM} {cs sl : Nat} (hC : KC X mX3_ropeStands 3 false S mc ms) (hE : KRet X mX3_ropeStands E) (h : kblk (kroom mX3_ropeStands mc ms) S E (KW X) kbX3_ropeStands_31 31 ls st M cs sl) : KW X 31 ls st M cs sl := KW_blk hC hE kbX3_ropeStands_31 31 ls st M cs sl (by decide +kernel) h
def kbX3_ropeStands_35 : List KE := [(.iconst 0, 1, (0, 0, 0), 0, 0)]
theorem kwX3_ropeStands_35 {X : KX} {S : KS} {mc ms : Nat} {E : KEnd} {ls : KL} {st : List KV} {M : KM} {cs sl : Nat} (hC : KC X mX3_ropeStands 3 false S mc ms) (hE : KRet X mX3_ropeStands E) (h : kblk (kroom mX3_ropeStands mc ms) S E (KW X) kbX3_ropeStands_35 35 ls st M cs sl) : KW X 35 ls st M cs sl := KW_blk hC hE kbX3_ropeStands_35 35 ls st M cs sl (by decide +kernel) h
def kbX3_ropeStands_36 : List KE := [(.ireturn, 1, (0, 0, 0), 0, 0)]
theorem kwX3_ropeStands_36 {X : KX} {S : KS} {mc ms : Nat} {E : KEnd} {ls : KL} {st : List KV} {M : KM} {cs sl : Nat} (hC : KC X mX3_ropeStands 3 false S mc ms) (hE : KRet X mX3_ropeStands E) (h : kblk (kroom mX3_ropeStands mc ms) S E (KW X) kbX3_ropeStands_36 36 ls st M cs sl) : KW X 36 ls st M cs sl := KW_blk hC hE kbX3_ropeStands_36 36 ls st M cs sl (by decide +kernel) h
def kbX3_sendAway_0 : List KE := [(.aload_n 0, 1, (0, 0, 0), 0, 0), (.iload_n 1, 1, (1, 0, 0), 0, 0)]
theorem kwX3_sendAway_0 {X : KX} {S : KS} {mc ms : Nat} {E : KEnd} {ls : KL} {st : List KV} {M : KM} {cs sl : Nat} (hC : KC X mX3_sendAway 3 false S mc ms) (hE : KRet X mX3_sendAway E) (h : kblk (kroom mX3_sendAway mc ms) S E (KW X) kbX3_sendAway_0 0 ls st M cs sl) : KW X 0 ls st M cs sl := KW_blk hC hE kbX3_sendAway_0 0 ls st M cs sl (by decide +kernel) h
def kbX3_sendAway_5 : List KE := [(.aload_n 0, 1, (0, 0, 0), 0, 0), (.getfield 29, 3, (3, 3, 1), 0, 0), (.iload_n 1, 1, (1, 0, 0), 0, 0), (.aaload, 1, (0, 0, 0), 0, 0), (.iconst 3, 1, (0, 0, 0), 3, 0), (.putfield 118, 3, (1, 2, 0), 0, 0), (.return_, 1, (0, 0, 0), 0, 0)]
theorem kwX3_sendAway_5 {X : KX} {S : KS} {mc ms : Nat} {E : KEnd} {ls : KL} {st : List KV} {M : KM} {cs sl : Nat} (hC : KC X mX3_sendAway 3 false S mc ms) (hE : KRet X mX3_sendAway E) (h : kblk (kroom mX3_sendAway mc ms) S E (KW X) kbX3_sendAway_5 5 ls st M cs sl) : KW X 5 ls st M cs sl := KW_blk hC hE kbX3_sendAway_5 5 ls st M cs sl (by decide +kernel) h
def kbX3_sendImpatientAway_0 : List KE := [(.iconst 0, 1, (0, 0, 0), 0, 0), (.istore_n 1, 1, (1, 0, 0), 0, 0)]
theorem kwX3_sendImpatientAway_0 {X : KX} {S : KS} {mc ms : Nat} {E : KEnd} {ls : KL} {st : List KV} {M : KM} {cs sl : Nat} (hC : KC X mX3_sendImpatientAway 3 false S mc ms) (hE : KRet X mX3_sendImpatientAway E) (h : kblk (kroom mX3_sendImpatientAway mc ms) S E (KW X) kbX3_sendImpatientAway_0 0 ls st M cs sl) : KW X 0 ls st M cs sl := KW_blk hC hE kbX3_sendImpatientAway_0 0 ls st M cs sl (by decide +kernel) h
def kbX3_sendImpatientAway_2 : List KE := [(.iload_n 1, 1, (1, 0, 0), 0, 0), (.aload_n 0, 1, (0, 0, 0), 0, 0), (.getfield 68, 3, (3, 7, 0), 0, 0), (.if_icmp .ge (46), 3, (53, 0, 0), 0, 0)]
theorem kwX3_sendImpatientAway_2 {X : KX} {S : KS} {mc ms : Nat} {E : KEnd} {ls : KL} {st : List KV} {M : KM} {cs sl : Nat} (hC : KC X mX3_sendImpatientAway 3 false S mc ms) (hE : KRet X mX3_sendImpatientAway E) (h : kblk (kroom mX3_sendImpatientAway mc ms) S E (KW X) kbX3_sendImpatientAway_2 2 ls st M cs sl) : KW X 2 ls st M cs sl := KW_blk hC hE kbX3_sendImpatientAway_2 2 ls st M cs sl (by decide +kernel) h
def kbX3_sendImpatientAway_10 : List KE := [(.aload_n 0, 1, (0, 0, 0), 0, 0), (.getfield 29, 3, (3, 3, 1), 0, 0), (.iload_n 1, 1, (1, 0, 0), 0, 0), (.aaload, 1, (0, 0, 0), 0, 0), (.astore_n 2, 1, (2, 0, 0), 0, 0), (.aload_n 2, 1, (2, 0, 0), 0, 0), (.getfield 118, 3, (1, 2, 0), 0, 0), (.ifCond .ne (26), 3, (47, 0, 0), 0, 0)]
theorem kwX3_sendImpatientAway_10 {X : KX} {S : KS} {mc ms : Nat} {E : KEnd} {ls : KL} {st : List KV} {M : KM} {cs sl : Nat} (hC : KC X mX3_sendImpatientAway 3 false S mc ms) (hE : KRet X mX3_sendImpatientAway E) (h : kblk (kroom mX3_sendImpatientAway mc ms) S E (KW X) kbX3_sendImpatientAway_10 10 ls st M cs sl) : KW X 10 ls st M cs sl := KW_blk hC hE kbX3_sendImpatientAway_10 10 ls st M cs sl (by decide +kernel) h
def kbX3_sendImpatientAway_24 : List KE := [(.aload_n 0, 1, (0, 0, 0), 0, 0), (.getfield 83, 3, (3, 11, 0), 0, 0), (.aload_n 2, 1, (2, 0, 0), 0, 0), (.getfield 197, 3, (1, 5, 0), 0, 0), (.isub, 1, (0, 0, 0), 0, 0), (.iconst 1, 1, (0, 0, 0), 1, 0), (.iadd, 1, (0, 0, 0), 0, 0), (.aload_n 2, 1, (2, 0, 0), 0, 0), (.getfield 200, 3, (1, 1, 0), 0, 0), (.if_icmp .lt (8), 3, (47, 0, 0), 0, 0)]
theorem kwX3_sendImpatientAway_24 {X : KX} {S : KS} {mc ms : Nat} {E : KEnd} {ls : KL} {st : List KV} {M : KM} {cs sl : Nat} (hC : KC X mX3_sendImpatientAway 3 false S mc ms) (hE : KRet X mX3_sendImpatientAway E) (h : kblk (kroom mX3_sendImpatientAway mc ms) S E (KW X) kbX3_sendImpatientAway_24 24 ls st M cs sl) : KW X 24 ls st M cs sl := KW_blk hC hE kbX3_sendImpatientAway_24 24 ls st M cs sl (by decide +kernel) h
def kbX3_sendImpatientAway_42 : List KE := [(.aload_n 0, 1, (0, 0, 0), 0, 0), (.iload_n 1, 1, (1, 0, 0), 0, 0)]
theorem kwX3_sendImpatientAway_42 {X : KX} {S : KS} {mc ms : Nat} {E : KEnd} {ls : KL} {st : List KV} {M : KM} {cs sl : Nat} (hC : KC X mX3_sendImpatientAway 3 false S mc ms) (hE : KRet X mX3_sendImpatientAway E) (h : kblk (kroom mX3_sendImpatientAway mc ms) S E (KW X) kbX3_sendImpatientAway_42 42 ls st M cs sl) : KW X 42 ls st M cs sl := KW_blk hC hE kbX3_sendImpatientAway_42 42 ls st M cs sl (by decide +kernel) h
def kbX3_sendImpatientAway_47 : List KE := [(.iinc 1 (1), 3, (1, 0, 0), 1, 0), (.goto (-48), 3, (2, 0, 0), 0, 0)]
theorem kwX3_sendImpatientAway_47 {X : KX} {S : KS} {mc ms : Nat} {E : KEnd} {ls : KL} {st : List KV} {M : KM} {cs sl : Nat} (hC : KC X mX3_sendImpatientAway 3 false S mc ms) (hE : KRet X mX3_sendImpatientAway E) (h : kblk (kroom mX3_sendImpatientAway mc ms) S E (KW X) kbX3_sendImpatientAway_47 47 ls st M cs sl) : KW X 47 ls st M cs sl := KW_blk hC hE kbX3_sendImpatientAway_47 47 ls st M cs sl (by decide +kernel) h
def kbX3_sendImpatientAway_53 : List KE := [(.return_, 1, (0, 0, 0), 0, 0)]
theorem kwX3_sendImpatientAway_53 {X : KX} {S : KS} {mc ms : Nat} {E : KEnd} {ls : KL} {st : List KV} {M : KM} {cs sl : Nat} (hC : KC X mX3_sendImpatientAway 3 false S mc ms) (hE : KRet X mX3_sendImpatientAway E) (h : kblk (kroom mX3_sendImpatientAway mc ms) S E (KW X) kbX3_sendImpatientAway_53 53 ls st M cs sl) : KW X 53 ls st M cs sl := KW_blk hC hE kbX3_sendImpatientAway_53 53 ls st M cs sl (by decide +kernel) h
def kbX3_stepsUntilUp_0 : List KE := [(.aload_n 0, 1, (0, 0, 0), 0, 0), (.getfield 29, 3, (3, 3, 1), 0, 0), (.iload_n 1, 1, (1, 0, 0), 0, 0), (.aaload, 1, (0, 0, 0), 0, 0), (.astore_n 3, 1, (3, 0, 0), 0, 0), (.iconst 1, 1, (0, 0, 0), 1, 0), (.istore 4, 2, (4, 0, 0), 0, 0)]
theorem kwX3_stepsUntilUp_0 {X : KX} {S : KS} {mc ms : Nat} {E : KEnd} {ls : KL} {st : List KV} {M : KM} {cs sl : Nat} (hC : KC X mX3_stepsUntilUp 3 false S mc ms) (hE : KRet X mX3_stepsUntilUp E) (h : kblk (kroom mX3_stepsUntilUp mc ms) S E (KW X) kbX3_stepsUntilUp_0 0 ls st M cs sl) : KW X 0 ls st M cs sl := KW_blk hC hE kbX3_stepsUntilUp_0 0 ls st M cs sl (by decide +kernel) h
def kbX3_stepsUntilUp_10 : List KE := [(.iload 4, 2, (4, 0, 0), 0, 0), (.iload_n 2, 1, (2, 0, 0), 0, 0), (.if_icmp .gt (33), 3, (46, 0, 0), 0, 0)]
theorem kwX3_stepsUntilUp_10 {X : KX} {S : KS} {mc ms : Nat} {E : KEnd} {ls : KL} {st : List KV} {M : KM} {cs sl : Nat} (hC : KC X mX3_stepsUntilUp 3 false S mc ms) (hE : KRet X mX3_stepsUntilUp E) (h : kblk (kroom mX3_stepsUntilUp mc ms) S E (KW X) kbX3_stepsUntilUp_10 10 ls st M cs sl) : KW X 10 ls st M cs sl := KW_blk hC hE kbX3_stepsUntilUp_10 10 ls st M cs sl (by decide +kernel) h
def kbX3_stepsUntilUp_16 : List KE := [(.aload_n 3, 1, (3, 0, 0), 0, 0), (.getfield 118, 3, (1, 2, 0), 0, 0), (.iconst 3, 1, (0, 0, 0), 3, 0), (.if_icmp .eq (25), 3, (46, 0, 0), 0, 0)]
theorem kwX3_stepsUntilUp_16 {X : KX} {S : KS} {mc ms : Nat} {E : KEnd} {ls : KL} {st : List KV} {M : KM} {cs sl : Nat} (hC : KC X mX3_stepsUntilUp 3 false S mc ms) (hE : KRet X mX3_stepsUntilUp E) (h : kblk (kroom mX3_stepsUntilUp mc ms) S E (KW X) kbX3_stepsUntilUp_16 16 ls st M cs sl) : KW X 16 ls st M cs sl := KW_blk hC hE kbX3_stepsUntilUp_16 16 ls st M cs sl (by decide +kernel) h
def kbX3_stepsUntilUp_24 : List KE := [(.aload_n 0, 1, (0, 0, 0), 0, 0)]
theorem kwX3_stepsUntilUp_24 {X : KX} {S : KS} {mc ms : Nat} {E : KEnd} {ls : KL} {st : List KV} {M : KM} {cs sl : Nat} (hC : KC X mX3_stepsUntilUp 3 false S mc ms) (hE : KRet X mX3_stepsUntilUp E) (h : kblk (kroom mX3_stepsUntilUp mc ms) S E (KW X) kbX3_stepsUntilUp_24 24 ls st M cs sl) : KW X 24 ls st M cs sl := KW_blk hC hE kbX3_stepsUntilUp_24 24 ls st M cs sl (by decide +kernel) h
def kbX3_stepsUntilUp_28 : List KE := [(.pop, 1, (0, 0, 0), 0, 0), (.aload_n 3, 1, (3, 0, 0), 0, 0), (.getfield 118, 3, (1, 2, 0), 0, 0), (.iconst 2, 1, (0, 0, 0), 2, 0), (.if_icmp .ne (6), 3, (40, 0, 0), 0, 0)]
theorem kwX3_stepsUntilUp_28 {X : KX} {S : KS} {mc ms : Nat} {E : KEnd} {ls : KL} {st : List KV} {M : KM} {cs sl : Nat} (hC : KC X mX3_stepsUntilUp 3 false S mc ms) (hE : KRet X mX3_stepsUntilUp E) (h : kblk (kroom mX3_stepsUntilUp mc ms) S E (KW X) kbX3_stepsUntilUp_28 28 ls st M cs sl) : KW X 28 ls st M cs sl := KW_blk hC hE kbX3_stepsUntilUp_28 28 ls st M cs sl (by decide +kernel) h
def kbX3_stepsUntilUp_37 : List KE := [(.iload 4, 2, (4, 0, 0), 0, 0), (.ireturn, 1, (0, 0, 0), 0, 0)]
theorem kwX3_stepsUntilUp_37 {X : KX} {S : KS} {mc ms : Nat} {E : KEnd} {ls : KL} {st : List KV} {M : KM} {cs sl : Nat} (hC : KC X mX3_stepsUntilUp 3 false S mc ms) (hE : KRet X mX3_stepsUntilUp E) (h : kblk (kroom mX3_stepsUntilUp mc ms) S E (KW X) kbX3_stepsUntilUp_37 37 ls st M cs sl) : KW X 37 ls st M cs sl := KW_blk hC hE kbX3_stepsUntilUp_37 37 ls st M cs sl (by decide +kernel) h
def kbX3_stepsUntilUp_40 : List KE := [(.iinc 4 (1), 3, (4, 0, 0), 1, 0), (.goto (-33), 3, (10, 0, 0), 0, 0)]
theorem kwX3_stepsUntilUp_40 {X : KX} {S : KS} {mc ms : Nat} {E : KEnd} {ls : KL} {st : List KV} {M : KM} {cs sl : Nat} (hC : KC X mX3_stepsUntilUp 3 false S mc ms) (hE : KRet X mX3_stepsUntilUp E) (h : kblk (kroom mX3_stepsUntilUp mc ms) S E (KW X) kbX3_stepsUntilUp_40 40 ls st M cs sl) : KW X 40 ls st M cs sl := KW_blk hC hE kbX3_stepsUntilUp_40 40 ls st M cs sl (by decide +kernel) h
def kbX3_stepsUntilUp_46 : List KE := [(.iconst (-1), 1, (0, 0, 0), (-1), 0), (.ireturn, 1, (0, 0, 0), 0, 0)]
theorem kwX3_stepsUntilUp_46 {X : KX} {S : KS} {mc ms : Nat} {E : KEnd} {ls : KL} {st : List KV} {M : KM} {cs sl : Nat} (hC : KC X mX3_stepsUntilUp 3 false S mc ms) (hE : KRet X mX3_stepsUntilUp E) (h : kblk (kroom mX3_stepsUntilUp mc ms) S E (KW X) kbX3_stepsUntilUp_46 46 ls st M cs sl) : KW X 46 ls st M cs sl := KW_blk hC hE kbX3_stepsUntilUp_46 46 ls st M cs sl (by decide +kernel) h
def kbX3_takeOutOfQueue_0 : List KE := [(.aload_n 0, 1, (0, 0, 0), 0, 0), (.getfield 29, 3, (3, 3, 1), 0, 0), (.iload_n 1, 1, (1, 0, 0), 0, 0), (.aaload, 1, (0, 0, 0), 0, 0), (.astore_n 2, 1, (2, 0, 0), 0, 0), (.aload_n 2, 1, (2, 0, 0), 0, 0), (.getfield 106, 3, (1, 3, 0), 0, 0), (.iconst (-1), 1, (0, 0, 0), (-1), 0), (.if_icmp .eq (19), 3, (31, 0, 0), 0, 0)]
theorem kwX3_takeOutOfQueue_0 {X : KX} {S : KS} {mc ms : Nat} {E : KEnd} {ls : KL} {st : List KV} {M : KM} {cs sl : Nat} (hC : KC X mX3_takeOutOfQueue 3 false S mc ms) (hE : KRet X mX3_takeOutOfQueue E) (h : kblk (kroom mX3_takeOutOfQueue mc ms) S E (KW X) kbX3_takeOutOfQueue_0 0 ls st M cs sl) : KW X 0 ls st M cs sl := KW_blk hC hE kbX3_takeOutOfQueue_0 0 ls st M cs sl (by decide +kernel) h
def kbX3_takeOutOfQueue_15 : List KE := [(.aload_n 0, 1, (0, 0, 0), 0, 0), (.getfield 23, 3, (3, 2, 1), 0, 0), (.aload_n 2, 1, (2, 0, 0), 0, 0), (.getfield 106, 3, (1, 3, 0), 0, 0), (.aaload, 1, (0, 0, 0), 0, 0), (.getfield 109, 3, (2, 0, 1), 0, 0), (.iload_n 1, 1, (1, 0, 0), 0, 0)]
theorem kwX3_takeOutOfQueue_15 {X : KX} {S : KS} {mc ms : Nat} {E : KEnd} {ls : KL} {st : List KV} {M : KM} {cs sl : Nat} (hC : KC X mX3_takeOutOfQueue 3 false S mc ms) (hE : KRet X mX3_takeOutOfQueue E) (h : kblk (kroom mX3_takeOutOfQueue mc ms) S E (KW X) kbX3_takeOutOfQueue_15 15 ls st M cs sl) : KW X 15 ls st M cs sl := KW_blk hC hE kbX3_takeOutOfQueue_15 15 ls st M cs sl (by decide +kernel) h
def kbX3_takeOutOfQueue_31 : List KE := [(.aload_n 2, 1, (2, 0, 0), 0, 0), (.iconst (-1), 1, (0, 0, 0), (-1), 0), (.putfield 106, 3, (1, 3, 0), 0, 0), (.return_, 1, (0, 0, 0), 0, 0)]
theorem kwX3_takeOutOfQueue_31 {X : KX} {S : KS} {mc ms : Nat} {E : KEnd} {ls : KL} {st : List KV} {M : KM} {cs sl : Nat} (hC : KC X mX3_takeOutOfQueue 3 false S mc ms) (hE : KRet X mX3_takeOutOfQueue E) (h : kblk (kroom mX3_takeOutOfQueue mc ms) S E (KW X) kbX3_takeOutOfQueue_31 31 ls st M cs sl) : KW X 31 ls st M cs sl := KW_blk hC hE kbX3_takeOutOfQueue_31 31 ls st M cs sl (by decide +kernel) h
def kbX3_unloadAtTop_0 : List KE := [(.aload_n 0, 1, (0, 0, 0), 0, 0), (.aload_n 0, 1, (0, 0, 0), 0, 0), (.getfield 42, 3, (3, 8, 0), 0, 0)]
theorem kwX3_unloadAtTop_0 {X : KX} {S : KS} {mc ms : Nat} {E : KEnd} {ls : KL} {st : List KV} {M : KM} {cs sl : Nat} (hC : KC X mX3_unloadAtTop 3 false S mc ms) (hE : KRet X mX3_unloadAtTop E) (h : kblk (kroom mX3_unloadAtTop mc ms) S E (KW X) kbX3_unloadAtTop_0 0 ls st M cs sl) : KW X 0 ls st M cs sl := KW_blk hC hE kbX3_unloadAtTop_0 0 ls st M cs sl (by decide +kernel) h
def kbX3_unloadAtTop_8 : List KE := [(.istore_n 1, 1, (1, 0, 0), 0, 0), (.iload_n 1, 1, (1, 0, 0), 0, 0), (.iconst (-1), 1, (0, 0, 0), (-1), 0), (.if_icmp .ne (5), 3, (16, 0, 0), 0, 0)]
theorem kwX3_unloadAtTop_8 {X : KX} {S : KS} {mc ms : Nat} {E : KEnd} {ls : KL} {st : List KV} {M : KM} {cs sl : Nat} (hC : KC X mX3_unloadAtTop 3 false S mc ms) (hE : KRet X mX3_unloadAtTop E) (h : kblk (kroom mX3_unloadAtTop mc ms) S E (KW X) kbX3_unloadAtTop_8 8 ls st M cs sl) : KW X 8 ls st M cs sl := KW_blk hC hE kbX3_unloadAtTop_8 8 ls st M cs sl (by decide +kernel) h
def kbX3_unloadAtTop_14 : List KE := [(.iconst 0, 1, (0, 0, 0), 0, 0), (.ireturn, 1, (0, 0, 0), 0, 0)]
theorem kwX3_unloadAtTop_14 {X : KX} {S : KS} {mc ms : Nat} {E : KEnd} {ls : KL} {st : List KV} {M : KM} {cs sl : Nat} (hC : KC X mX3_unloadAtTop 3 false S mc ms) (hE : KRet X mX3_unloadAtTop E) (h : kblk (kroom mX3_unloadAtTop mc ms) S E (KW X) kbX3_unloadAtTop_14 14 ls st M cs sl) : KW X 14 ls st M cs sl := KW_blk hC hE kbX3_unloadAtTop_14 14 ls st M cs sl (by decide +kernel) h
def kbX3_unloadAtTop_16 : List KE := [(.iconst 0, 1, (0, 0, 0), 0, 0), (.istore_n 2, 1, (2, 0, 0), 0, 0)]
theorem kwX3_unloadAtTop_16 {X : KX} {S : KS} {mc ms : Nat} {E : KEnd} {ls : KL} {st : List KV} {M : KM} {cs sl : Nat} (hC : KC X mX3_unloadAtTop 3 false S mc ms) (hE : KRet X mX3_unloadAtTop E) (h : kblk (kroom mX3_unloadAtTop mc ms) S E (KW X) kbX3_unloadAtTop_16 16 ls st M cs sl) : KW X 16 ls st M cs sl := KW_blk hC hE kbX3_unloadAtTop_16 16 ls st M cs sl (by decide +kernel) h
def kbX3_unloadAtTop_18 : List KE := [(.iload_n 2, 1, (2, 0, 0), 0, 0), (.aload_n 0, 1, (0, 0, 0), 0, 0), (.getfield 68, 3, (3, 7, 0), 0, 0), (.if_icmp .ge (55), 3, (78, 0, 0), 0, 0)]
theorem kwX3_unloadAtTop_18 {X : KX} {S : KS} {mc ms : Nat} {E : KEnd} {ls : KL} {st : List KV} {M : KM} {cs sl : Nat} (hC : KC X mX3_unloadAtTop 3 false S mc ms) (hE : KRet X mX3_unloadAtTop E) (h : kblk (kroom mX3_unloadAtTop mc ms) S E (KW X) kbX3_unloadAtTop_18 18 ls st M cs sl) : KW X 18 ls st M cs sl := KW_blk hC hE kbX3_unloadAtTop_18 18 ls st M cs sl (by decide +kernel) h
def kbX3_unloadAtTop_26 : List KE := [(.aload_n 0, 1, (0, 0, 0), 0, 0), (.getfield 29, 3, (3, 3, 1), 0, 0), (.iload_n 2, 1, (2, 0, 0), 0, 0), (.aaload, 1, (0, 0, 0), 0, 0), (.getfield 163, 3, (1, 4, 0), 0, 0), (.iload_n 1, 1, (1, 0, 0), 0, 0), (.if_icmp .ne (36), 3, (72, 0, 0), 0, 0)]
theorem kwX3_unloadAtTop_26 {X : KX} {S : KS} {mc ms : Nat} {E : KEnd} {ls : KL} {st : List KV} {M : KM} {cs sl : Nat} (hC : KC X mX3_unloadAtTop 3 false S mc ms) (hE : KRet X mX3_unloadAtTop E) (h : kblk (kroom mX3_unloadAtTop mc ms) S E (KW X) kbX3_unloadAtTop_26 26 ls st M cs sl) : KW X 26 ls st M cs sl := KW_blk hC hE kbX3_unloadAtTop_26 26 ls st M cs sl (by decide +kernel) h
def kbX3_unloadAtTop_39 : List KE := [(.aload_n 0, 1, (0, 0, 0), 0, 0), (.getfield 29, 3, (3, 3, 1), 0, 0), (.iload_n 2, 1, (2, 0, 0), 0, 0), (.aaload, 1, (0, 0, 0), 0, 0), (.iconst 2, 1, (0, 0, 0), 2, 0), (.putfield 118, 3, (1, 2, 0), 0, 0), (.aload_n 0, 1, (0, 0, 0), 0, 0), (.getfield 29, 3, (3, 3, 1), 0, 0), (.iload_n 2, 1, (2, 0, 0), 0, 0), (.aaload, 1, (0, 0, 0), 0, 0), (.iconst (-1), 1, (0, 0, 0), (-1), 0), (.putfield 163, 3, (1, 4, 0), 0, 0), (.aload_n 0, 1, (0, 0, 0), 0, 0), (.getfield 29, 3, (3, 3, 1), 0, 0), (.iload_n 2, 1, (2, 0, 0), 0, 0), (.aaload, 1, (0, 0, 0), 0, 0), (.aload_n 0, 1, (0, 0, 0), 0, 0), (.getfield 83, 3, (3, 11, 0), 0, 0), (.putfield 166, 3, (1, 6, 0), 0, 0)]
theorem kwX3_unloadAtTop_39 {X : KX} {S : KS} {mc ms : Nat} {E : KEnd} {ls : KL} {st : List KV} {M : KM} {cs sl : Nat} (hC : KC X mX3_unloadAtTop 3 false S mc ms) (hE : KRet X mX3_unloadAtTop E) (h : kblk (kroom mX3_unloadAtTop mc ms) S E (KW X) kbX3_unloadAtTop_39 39 ls st M cs sl) : KW X 39 ls st M cs sl := KW_blk hC hE kbX3_unloadAtTop_39 39 ls st M cs sl (by decide +kernel) h
def kbX3_unloadAtTop_72 : List KE := [(.iinc 2 (1), 3, (2, 0, 0), 1, 0), (.goto (-57), 3, (18, 0, 0), 0, 0)]
theorem kwX3_unloadAtTop_72 {X : KX} {S : KS} {mc ms : Nat} {E : KEnd} {ls : KL} {st : List KV} {M : KM} {cs sl : Nat} (hC : KC X mX3_unloadAtTop 3 false S mc ms) (hE : KRet X mX3_unloadAtTop E) (h : kblk (kroom mX3_unloadAtTop mc ms) S E (KW X) kbX3_unloadAtTop_72 72 ls st M cs sl) : KW X 72 ls st M cs sl := KW_blk hC hE kbX3_unloadAtTop_72 72 ls st M cs sl (by decide +kernel) h
def kbX3_unloadAtTop_78 : List KE := [(.aload_n 0, 1, (0, 0, 0), 0, 0), (.getfield 17, 3, (3, 1, 1), 0, 0), (.iload_n 1, 1, (1, 0, 0), 0, 0), (.aaload, 1, (0, 0, 0), 0, 0), (.getfield 169, 3, (0, 2, 0), 0, 0), (.istore_n 2, 1, (2, 0, 0), 0, 0), (.aload_n 0, 1, (0, 0, 0), 0, 0), (.getfield 17, 3, (3, 1, 1), 0, 0), (.iload_n 1, 1, (1, 0, 0), 0, 0), (.aaload, 1, (0, 0, 0), 0, 0), (.iconst 0, 1, (0, 0, 0), 0, 0), (.putfield 169, 3, (0, 2, 0), 0, 0), (.aload_n 0, 1, (0, 0, 0), 0, 0), (.getfield 17, 3, (3, 1, 1), 0, 0), (.iload_n 1, 1, (1, 0, 0), 0, 0), (.aaload, 1, (0, 0, 0), 0, 0), (.iconst 0, 1, (0, 0, 0), 0, 0), (.putfield 172, 3, (0, 3, 0), 0, 0), (.iload_n 2, 1, (2, 0, 0), 0, 0), (.ireturn, 1, (0, 0, 0), 0, 0)]
theorem kwX3_unloadAtTop_78 {X : KX} {S : KS} {mc ms : Nat} {E : KEnd} {ls : KL} {st : List KV} {M : KM} {cs sl : Nat} (hC : KC X mX3_unloadAtTop 3 false S mc ms) (hE : KRet X mX3_unloadAtTop E) (h : kblk (kroom mX3_unloadAtTop mc ms) S E (KW X) kbX3_unloadAtTop_78 78 ls st M cs sl) : KW X 78 ls st M cs sl := KW_blk hC hE kbX3_unloadAtTop_78 78 ls st M cs sl (by decide +kernel) h
def kbX4_append_0 : List KE := [(.aload_n 0, 1, (0, 0, 0), 0, 0), (.getfield 15, 3, (4, 1, 0), 0, 0), (.aload_n 0, 1, (0, 0, 0), 0, 0), (.getfield 9, 3, (4, 0, 1), 0, 0), (.arraylength, 1, (0, 0, 0), 0, 0), (.if_icmp .ge (23), 3, (32, 0, 0), 0, 0)]
theorem kwX4_append_0 {X : KX} {S : KS} {mc ms : Nat} {E : KEnd} {ls : KL} {st : List KV} {M : KM} {cs sl : Nat} (hC : KC X mX4_append 4 false S mc ms) (hE : KRet X mX4_append E) (h : kblk (kroom mX4_append mc ms) S E (KW X) kbX4_append_0 0 ls st M cs sl) : KW X 0 ls st M cs sl := KW_blk hC hE kbX4_append_0 0 ls st M cs sl (by decide +kernel) h
def kbX4_append_12 : List KE := [(.aload_n 0, 1, (0, 0, 0), 0, 0), (.getfield 9, 3, (4, 0, 1), 0, 0), (.aload_n 0, 1, (0, 0, 0), 0, 0), (.getfield 15, 3, (4, 1, 0), 0, 0), (.iload_n 1, 1, (1, 0, 0), 0, 0), (.iastore, 1, (0, 0, 0), 0, 0), (.aload_n 0, 1, (0, 0, 0), 0, 0), (.dup, 1, (0, 0, 0), 0, 0), (.getfield 15, 3, (4, 1, 0), 0, 0), (.iconst 1, 1, (0, 0, 0), 1, 0), (.iadd, 1, (0, 0, 0), 0, 0), (.putfield 15, 3, (4, 1, 0), 0, 0)]
theorem kwX4_append_12 {X : KX} {S : KS} {mc ms : Nat} {E : KEnd} {ls : KL} {st : List KV} {M : KM} {cs sl : Nat} (hC : KC X mX4_append 4 false S mc ms) (hE : KRet X mX4_append E) (h : kblk (kroom mX4_append mc ms) S E (KW X) kbX4_append_12 12 ls st M cs sl) : KW X 12 ls st M cs sl := KW_blk hC hE kbX4_append_12 12 ls st M cs sl (by decide +kernel) h
def kbX4_append_32 : List KE := [(.return_, 1, (0, 0, 0), 0, 0)]
theorem kwX4_append_32 {X : KX} {S : KS} {mc ms : Nat} {E : KEnd} {ls : KL} {st : List KV} {M : KM} {cs sl : Nat} (hC : KC X mX4_append 4 false S mc ms) (hE : KRet X mX4_append E) (h : kblk (kroom mX4_append mc ms) S E (KW X) kbX4_append_32 32 ls st M cs sl) : KW X 32 ls st M cs sl := KW_blk hC hE kbX4_append_32 32 ls st M cs sl (by decide +kernel) h
def kbX4_copyFrom_0 : List KE := [(.aload_n 0, 1, (0, 0, 0), 0, 0), (.aload_n 1, 1, (1, 0, 0), 0, 0), (.getfield 15, 3, (4, 1, 0), 0, 0), (.aload_n 0, 1, (0, 0, 0), 0, 0), (.getfield 9, 3, (4, 0, 1), 0, 0), (.arraylength, 1, (0, 0, 0), 0, 0), (.if_icmp .ge (10), 3, (20, 0, 0), 0, 0)]
theorem kwX4_copyFrom_0 {X : KX} {S : KS} {mc ms : Nat} {E : KEnd} {ls : KL} {st : List KV} {M : KM} {cs sl : Nat} (hC : KC X mX4_copyFrom 4 false S mc ms) (hE : KRet X mX4_copyFrom E) (h : kblk (kroom mX4_copyFrom mc ms) S E (KW X) kbX4_copyFrom_0 0 ls st M cs sl) : KW X 0 ls st M cs sl := KW_blk hC hE kbX4_copyFrom_0 0 ls st M cs sl (by decide +kernel) h
def kbX4_copyFrom_13 : List KE := [(.aload_n 1, 1, (1, 0, 0), 0, 0), (.getfield 15, 3, (4, 1, 0), 0, 0), (.goto (8), 3, (25, 0, 0), 0, 0)]
theorem kwX4_copyFrom_13 {X : KX} {S : KS} {mc ms : Nat} {E : KEnd} {ls : KL} {st : List KV} {M : KM} {cs sl : Nat} (hC : KC X mX4_copyFrom 4 false S mc ms) (hE : KRet X mX4_copyFrom E) (h : kblk (kroom mX4_copyFrom mc ms) S E (KW X) kbX4_copyFrom_13 13 ls st M cs sl) : KW X 13 ls st M cs sl := KW_blk hC hE kbX4_copyFrom_13 13 ls st M cs sl (by decide +kernel) h
def kbX4_copyFrom_20 : List KE := [(.aload_n 0, 1, (0, 0, 0), 0, 0), (.getfield 9, 3, (4, 0, 1), 0, 0), (.arraylength, 1, (0, 0, 0), 0, 0)]
theorem kwX4_copyFrom_20 {X : KX} {S : KS} {mc ms : Nat} {E : KEnd} {ls : KL} {st : List KV} {M : KM} {cs sl : Nat} (hC : KC X mX4_copyFrom 4 false S mc ms) (hE : KRet X mX4_copyFrom E) (h : kblk (kroom mX4_copyFrom mc ms) S E (KW X) kbX4_copyFrom_20 20 ls st M cs sl) : KW X 20 ls st M cs sl := KW_blk hC hE kbX4_copyFrom_20 20 ls st M cs sl (by decide +kernel) h
def kbX4_copyFrom_25 : List KE := [(.putfield 15, 3, (4, 1, 0), 0, 0), (.aload_n 1, 1, (1, 0, 0), 0, 0), (.getfield 9, 3, (4, 0, 1), 0, 0), (.iconst 0, 1, (0, 0, 0), 0, 0), (.aload_n 0, 1, (0, 0, 0), 0, 0), (.getfield 9, 3, (4, 0, 1), 0, 0), (.iconst 0, 1, (0, 0, 0), 0, 0), (.aload_n 0, 1, (0, 0, 0), 0, 0), (.getfield 15, 3, (4, 1, 0), 0, 0), (.invokestatic 19, 3, (0, 0, 0), 0, 0), (.return_, 1, (0, 0, 0), 0, 0)]
theorem kwX4_copyFrom_25 {X : KX} {S : KS} {mc ms : Nat} {E : KEnd} {ls : KL} {st : List KV} {M : KM} {cs sl : Nat} (hC : KC X mX4_copyFrom 4 false S mc ms) (hE : KRet X mX4_copyFrom E) (h : kblk (kroom mX4_copyFrom mc ms) S E (KW X) kbX4_copyFrom_25 25 ls st M cs sl) : KW X 25 ls st M cs sl := KW_blk hC hE kbX4_copyFrom_25 25 ls st M cs sl (by decide +kernel) h
def kbX4_first_0 : List KE := [(.aload_n 0, 1, (0, 0, 0), 0, 0), (.getfield 15, 3, (4, 1, 0), 0, 0), (.ifCond .le (12), 3, (16, 0, 0), 0, 0)]
theorem kwX4_first_0 {X : KX} {S : KS} {mc ms : Nat} {E : KEnd} {ls : KL} {st : List KV} {M : KM} {cs sl : Nat} (hC : KC X mX4_first 4 false S mc ms) (hE : KRet X mX4_first E) (h : kblk (kroom mX4_first mc ms) S E (KW X) kbX4_first_0 0 ls st M cs sl) : KW X 0 ls st M cs sl := KW_blk hC hE kbX4_first_0 0 ls st M cs sl (by decide +kernel) h
def kbX4_first_7 : List KE := [(.aload_n 0, 1, (0, 0, 0), 0, 0), (.getfield 9, 3, (4, 0, 1), 0, 0), (.iconst 0, 1, (0, 0, 0), 0, 0), (.iaload, 1, (0, 0, 0), 0, 0), (.goto (4), 3, (17, 0, 0), 0, 0)]
theorem kwX4_first_7 {X : KX} {S : KS} {mc ms : Nat} {E : KEnd} {ls : KL} {st : List KV} {M : KM} {cs sl : Nat} (hC : KC X mX4_first 4 false S mc ms) (hE : KRet X mX4_first E) (h : kblk (kroom mX4_first mc ms) S E (KW X) kbX4_first_7 7 ls st M cs sl) : KW X 7 ls st M cs sl := KW_blk hC hE kbX4_first_7 7 ls st M cs sl (by decide +kernel) h
def kbX4_first_16 : List KE := [(.iconst (-1), 1, (0, 0, 0), (-1), 0)]
theorem kwX4_first_16 {X : KX} {S : KS} {mc ms : Nat} {E : KEnd} {ls : KL} {st : List KV} {M : KM} {cs sl : Nat} (hC : KC X mX4_first 4 false S mc ms) (hE : KRet X mX4_first E) (h : kblk (kroom mX4_first mc ms) S E (KW X) kbX4_first_16 16 ls st M cs sl) : KW X 16 ls st M cs sl := KW_blk hC hE kbX4_first_16 16 ls st M cs sl (by decide +kernel) h
def kbX4_first_17 : List KE := [(.ireturn, 1, (0, 0, 0), 0, 0)]
theorem kwX4_first_17 {X : KX} {S : KS} {mc ms : Nat} {E : KEnd} {ls : KL} {st : List KV} {M : KM} {cs sl : Nat} (hC : KC X mX4_first 4 false S mc ms) (hE : KRet X mX4_first E) (h : kblk (kroom mX4_first mc ms) S E (KW X) kbX4_first_17 17 ls st M cs sl) : KW X 17 ls st M cs sl := KW_blk hC hE kbX4_first_17 17 ls st M cs sl (by decide +kernel) h
def kbX4_init_0 : List KE := [(.aload_n 0, 1, (0, 0, 0), 0, 0), (.invokespecial 3, 3, (0, 0, 0), 0, 0), (.aload_n 0, 1, (0, 0, 0), 0, 0), (.iload_n 1, 1, (1, 0, 0), 0, 0), (.ifCond .le (7), 3, (13, 0, 0), 0, 0)]
theorem kwX4_init_0 {X : KX} {S : KS} {mc ms : Nat} {E : KEnd} {ls : KL} {st : List KV} {M : KM} {cs sl : Nat} (hC : KC X mX4_init 4 true S mc ms) (hE : KRet X mX4_init E) (h : kblk (kroom mX4_init mc ms) S E (KW X) kbX4_init_0 0 ls st M cs sl) : KW X 0 ls st M cs sl := KW_blk hC hE kbX4_init_0 0 ls st M cs sl (by decide +kernel) h
def kbX4_init_9 : List KE := [(.iload_n 1, 1, (1, 0, 0), 0, 0), (.goto (4), 3, (14, 0, 0), 0, 0)]
theorem kwX4_init_9 {X : KX} {S : KS} {mc ms : Nat} {E : KEnd} {ls : KL} {st : List KV} {M : KM} {cs sl : Nat} (hC : KC X mX4_init 4 true S mc ms) (hE : KRet X mX4_init E) (h : kblk (kroom mX4_init mc ms) S E (KW X) kbX4_init_9 9 ls st M cs sl) : KW X 9 ls st M cs sl := KW_blk hC hE kbX4_init_9 9 ls st M cs sl (by decide +kernel) h
def kbX4_init_13 : List KE := [(.iconst 0, 1, (0, 0, 0), 0, 0)]
theorem kwX4_init_13 {X : KX} {S : KS} {mc ms : Nat} {E : KEnd} {ls : KL} {st : List KV} {M : KM} {cs sl : Nat} (hC : KC X mX4_init 4 true S mc ms) (hE : KRet X mX4_init E) (h : kblk (kroom mX4_init mc ms) S E (KW X) kbX4_init_13 13 ls st M cs sl) : KW X 13 ls st M cs sl := KW_blk hC hE kbX4_init_13 13 ls st M cs sl (by decide +kernel) h
def kbX4_init_14 : List KE := [(.newarray .int, 2, (8, 0, 0), 0, 0), (.putfield 9, 3, (4, 0, 1), 0, 0), (.return_, 1, (0, 0, 0), 0, 0)]
theorem kwX4_init_14 {X : KX} {S : KS} {mc ms : Nat} {E : KEnd} {ls : KL} {st : List KV} {M : KM} {cs sl : Nat} (hC : KC X mX4_init 4 true S mc ms) (hE : KRet X mX4_init E) (h : kblk (kroom mX4_init mc ms) S E (KW X) kbX4_init_14 14 ls st M cs sl) : KW X 14 ls st M cs sl := KW_blk hC hE kbX4_init_14 14 ls st M cs sl (by decide +kernel) h
def kbX4_remove_0 : List KE := [(.iconst 0, 1, (0, 0, 0), 0, 0), (.istore_n 2, 1, (2, 0, 0), 0, 0), (.iconst 0, 1, (0, 0, 0), 0, 0), (.istore_n 3, 1, (3, 0, 0), 0, 0)]
theorem kwX4_remove_0 {X : KX} {S : KS} {mc ms : Nat} {E : KEnd} {ls : KL} {st : List KV} {M : KM} {cs sl : Nat} (hC : KC X mX4_remove 4 false S mc ms) (hE : KRet X mX4_remove E) (h : kblk (kroom mX4_remove mc ms) S E (KW X) kbX4_remove_0 0 ls st M cs sl) : KW X 0 ls st M cs sl := KW_blk hC hE kbX4_remove_0 0 ls st M cs sl (by decide +kernel) h
def kbX4_remove_4 : List KE := [(.iload_n 3, 1, (3, 0, 0), 0, 0), (.aload_n 0, 1, (0, 0, 0), 0, 0), (.getfield 15, 3, (4, 1, 0), 0, 0), (.if_icmp .ge (34), 3, (43, 0, 0), 0, 0)]
theorem kwX4_remove_4 {X : KX} {S : KS} {mc ms : Nat} {E : KEnd} {ls : KL} {st : List KV} {M : KM} {cs sl : Nat} (hC : KC X mX4_remove 4 false S mc ms) (hE : KRet X mX4_remove E) (h : kblk (kroom mX4_remove mc ms) S E (KW X) kbX4_remove_4 4 ls st M cs sl) : KW X 4 ls st M cs sl := KW_blk hC hE kbX4_remove_4 4 ls st M cs sl (by decide +kernel) h
def kbX4_remove_12 : List KE := [(.aload_n 0, 1, (0, 0, 0), 0, 0), (.getfield 9, 3, (4, 0, 1), 0, 0), (.iload_n 3, 1, (3, 0, 0), 0, 0), (.iaload, 1, (0, 0, 0), 0, 0), (.iload_n 1, 1, (1, 0, 0), 0, 0), (.if_icmp .eq (18), 3, (37, 0, 0), 0, 0)]
theorem kwX4_remove_12 {X : KX} {S : KS} {mc ms : Nat} {E : KEnd} {ls : KL} {st : List KV} {M : KM} {cs sl : Nat} (hC : KC X mX4_remove 4 false S mc ms) (hE : KRet X mX4_remove E) (h : kblk (kroom mX4_remove mc ms) S E (KW X) kbX4_remove_12 12 ls st M cs sl) : KW X 12 ls st M cs sl := KW_blk hC hE kbX4_remove_12 12 ls st M cs sl (by decide +kernel) h
def kbX4_remove_22 : List KE := [(.aload_n 0, 1, (0, 0, 0), 0, 0), (.getfield 9, 3, (4, 0, 1), 0, 0), (.iload_n 2, 1, (2, 0, 0), 0, 0), (.aload_n 0, 1, (0, 0, 0), 0, 0), (.getfield 9, 3, (4, 0, 1), 0, 0), (.iload_n 3, 1, (3, 0, 0), 0, 0), (.iaload, 1, (0, 0, 0), 0, 0), (.iastore, 1, (0, 0, 0), 0, 0), (.iinc 2 (1), 3, (2, 0, 0), 1, 0)]
theorem kwX4_remove_22 {X : KX} {S : KS} {mc ms : Nat} {E : KEnd} {ls : KL} {st : List KV} {M : KM} {cs sl : Nat} (hC : KC X mX4_remove 4 false S mc ms) (hE : KRet X mX4_remove E) (h : kblk (kroom mX4_remove mc ms) S E (KW X) kbX4_remove_22 22 ls st M cs sl) : KW X 22 ls st M cs sl := KW_blk hC hE kbX4_remove_22 22 ls st M cs sl (by decide +kernel) h
def kbX4_remove_37 : List KE := [(.iinc 3 (1), 3, (3, 0, 0), 1, 0), (.goto (-36), 3, (4, 0, 0), 0, 0)]
theorem kwX4_remove_37 {X : KX} {S : KS} {mc ms : Nat} {E : KEnd} {ls : KL} {st : List KV} {M : KM} {cs sl : Nat} (hC : KC X mX4_remove 4 false S mc ms) (hE : KRet X mX4_remove E) (h : kblk (kroom mX4_remove mc ms) S E (KW X) kbX4_remove_37 37 ls st M cs sl) : KW X 37 ls st M cs sl := KW_blk hC hE kbX4_remove_37 37 ls st M cs sl (by decide +kernel) h
def kbX4_remove_43 : List KE := [(.aload_n 0, 1, (0, 0, 0), 0, 0), (.iload_n 2, 1, (2, 0, 0), 0, 0), (.putfield 15, 3, (4, 1, 0), 0, 0), (.return_, 1, (0, 0, 0), 0, 0)]
theorem kwX4_remove_43 {X : KX} {S : KS} {mc ms : Nat} {E : KEnd} {ls : KL} {st : List KV} {M : KM} {cs sl : Nat} (hC : KC X mX4_remove 4 false S mc ms) (hE : KRet X mX4_remove E) (h : kblk (kroom mX4_remove mc ms) S E (KW X) kbX4_remove_43 43 ls st M cs sl) : KW X 43 ls st M cs sl := KW_blk hC hE kbX4_remove_43 43 ls st M cs sl (by decide +kernel) h
def kbX5_addChair_0 : List KE := [(.iload_n 1, 1, (1, 0, 0), 0, 0), (.iconst 1, 1, (0, 0, 0), 1, 0), (.bipush (6), 2, (0, 0, 0), 6, 0)]
theorem kwX5_addChair_0 {X : KX} {S : KS} {mc ms : Nat} {E : KEnd} {ls : KL} {st : List KV} {M : KM} {cs sl : Nat} (hC : KC X mX5_addChair 5 false S mc ms) (hE : KRet X mX5_addChair E) (h : kblk (kroom mX5_addChair mc ms) S E (KW X) kbX5_addChair_0 0 ls st M cs sl) : KW X 0 ls st M cs sl := KW_blk hC hE kbX5_addChair_0 0 ls st M cs sl (by decide +kernel) h
def kbX5_addChair_10 : List KE := [(.aload_n 0, 1, (0, 0, 0), 0, 0), (.getfield 12, 3, (5, 0, 1), 0, 0), (.getfield 38, 3, (3, 5, 0), 0, 0), (.bipush (20), 2, (0, 0, 0), 20, 0), (.if_icmp .ge (7), 3, (26, 0, 0), 0, 0)]
theorem kwX5_addChair_10 {X : KX} {S : KS} {mc ms : Nat} {E : KEnd} {ls : KL} {st : List KV} {M : KM} {cs sl : Nat} (hC : KC X mX5_addChair 5 false S mc ms) (hE : KRet X mX5_addChair E) (h : kblk (kroom mX5_addChair mc ms) S E (KW X) kbX5_addChair_10 10 ls st M cs sl) : KW X 10 ls st M cs sl := KW_blk hC hE kbX5_addChair_10 10 ls st M cs sl (by decide +kernel) h
def kbX5_addChair_22 : List KE := [(.iconst 1, 1, (0, 0, 0), 1, 0), (.goto (4), 3, (27, 0, 0), 0, 0)]
theorem kwX5_addChair_22 {X : KX} {S : KS} {mc ms : Nat} {E : KEnd} {ls : KL} {st : List KV} {M : KM} {cs sl : Nat} (hC : KC X mX5_addChair 5 false S mc ms) (hE : KRet X mX5_addChair E) (h : kblk (kroom mX5_addChair mc ms) S E (KW X) kbX5_addChair_22 22 ls st M cs sl) : KW X 22 ls st M cs sl := KW_blk hC hE kbX5_addChair_22 22 ls st M cs sl (by decide +kernel) h
def kbX5_addChair_26 : List KE := [(.iconst 0, 1, (0, 0, 0), 0, 0)]
theorem kwX5_addChair_26 {X : KX} {S : KS} {mc ms : Nat} {E : KEnd} {ls : KL} {st : List KV} {M : KM} {cs sl : Nat} (hC : KC X mX5_addChair 5 false S mc ms) (hE : KRet X mX5_addChair E) (h : kblk (kroom mX5_addChair mc ms) S E (KW X) kbX5_addChair_26 26 ls st M cs sl) : KW X 26 ls st M cs sl := KW_blk hC hE kbX5_addChair_26 26 ls st M cs sl (by decide +kernel) h
def kbX5_addChair_30 : List KE := [(.aload_n 0, 1, (0, 0, 0), 0, 0), (.getfield 12, 3, (5, 0, 1), 0, 0), (.iload_n 1, 1, (1, 0, 0), 0, 0)]
theorem kwX5_addChair_30 {X : KX} {S : KS} {mc ms : Nat} {E : KEnd} {ls : KL} {st : List KV} {M : KM} {cs sl : Nat} (hC : KC X mX5_addChair 5 false S mc ms) (hE : KRet X mX5_addChair E) (h : kblk (kroom mX5_addChair mc ms) S E (KW X) kbX5_addChair_30 30 ls st M cs sl) : KW X 30 ls st M cs sl := KW_blk hC hE kbX5_addChair_30 30 ls st M cs sl (by decide +kernel) h
def kbX5_addChair_38 : List KE := [(.ireturn, 1, (0, 0, 0), 0, 0)]
theorem kwX5_addChair_38 {X : KX} {S : KS} {mc ms : Nat} {E : KEnd} {ls : KL} {st : List KV} {M : KM} {cs sl : Nat} (hC : KC X mX5_addChair 5 false S mc ms) (hE : KRet X mX5_addChair E) (h : kblk (kroom mX5_addChair mc ms) S E (KW X) kbX5_addChair_38 38 ls st M cs sl) : KW X 38 ls st M cs sl := KW_blk hC hE kbX5_addChair_38 38 ls st M cs sl (by decide +kernel) h
def kbX5_addLane_0 : List KE := [(.aload_n 0, 1, (0, 0, 0), 0, 0), (.getfield 12, 3, (5, 0, 1), 0, 0), (.getfield 48, 3, (3, 6, 0), 0, 0), (.iconst 4, 1, (0, 0, 0), 4, 0), (.if_icmp .ge (7), 3, (15, 0, 0), 0, 0)]
theorem kwX5_addLane_0 {X : KX} {S : KS} {mc ms : Nat} {E : KEnd} {ls : KL} {st : List KV} {M : KM} {cs sl : Nat} (hC : KC X mX5_addLane 5 false S mc ms) (hE : KRet X mX5_addLane E) (h : kblk (kroom mX5_addLane mc ms) S E (KW X) kbX5_addLane_0 0 ls st M cs sl) : KW X 0 ls st M cs sl := KW_blk hC hE kbX5_addLane_0 0 ls st M cs sl (by decide +kernel) h
def kbX5_addLane_11 : List KE := [(.iconst 1, 1, (0, 0, 0), 1, 0), (.goto (4), 3, (16, 0, 0), 0, 0)]
theorem kwX5_addLane_11 {X : KX} {S : KS} {mc ms : Nat} {E : KEnd} {ls : KL} {st : List KV} {M : KM} {cs sl : Nat} (hC : KC X mX5_addLane 5 false S mc ms) (hE : KRet X mX5_addLane E) (h : kblk (kroom mX5_addLane mc ms) S E (KW X) kbX5_addLane_11 11 ls st M cs sl) : KW X 11 ls st M cs sl := KW_blk hC hE kbX5_addLane_11 11 ls st M cs sl (by decide +kernel) h
def kbX5_addLane_15 : List KE := [(.iconst 0, 1, (0, 0, 0), 0, 0)]
theorem kwX5_addLane_15 {X : KX} {S : KS} {mc ms : Nat} {E : KEnd} {ls : KL} {st : List KV} {M : KM} {cs sl : Nat} (hC : KC X mX5_addLane 5 false S mc ms) (hE : KRet X mX5_addLane E) (h : kblk (kroom mX5_addLane mc ms) S E (KW X) kbX5_addLane_15 15 ls st M cs sl) : KW X 15 ls st M cs sl := KW_blk hC hE kbX5_addLane_15 15 ls st M cs sl (by decide +kernel) h
def kbX5_addLane_19 : List KE := [(.aload_n 0, 1, (0, 0, 0), 0, 0), (.getfield 12, 3, (5, 0, 1), 0, 0)]
theorem kwX5_addLane_19 {X : KX} {S : KS} {mc ms : Nat} {E : KEnd} {ls : KL} {st : List KV} {M : KM} {cs sl : Nat} (hC : KC X mX5_addLane 5 false S mc ms) (hE : KRet X mX5_addLane E) (h : kblk (kroom mX5_addLane mc ms) S E (KW X) kbX5_addLane_19 19 ls st M cs sl) : KW X 19 ls st M cs sl := KW_blk hC hE kbX5_addLane_19 19 ls st M cs sl (by decide +kernel) h
def kbX5_addLane_26 : List KE := [(.ireturn, 1, (0, 0, 0), 0, 0)]
theorem kwX5_addLane_26 {X : KX} {S : KS} {mc ms : Nat} {E : KEnd} {ls : KL} {st : List KV} {M : KM} {cs sl : Nat} (hC : KC X mX5_addLane 5 false S mc ms) (hE : KRet X mX5_addLane E) (h : kblk (kroom mX5_addLane mc ms) S E (KW X) kbX5_addLane_26 26 ls st M cs sl) : KW X 26 ls st M cs sl := KW_blk hC hE kbX5_addLane_26 26 ls st M cs sl (by decide +kernel) h
def kbX5_advise_0 : List KE := [(.iload_n 1, 1, (1, 0, 0), 0, 0), (.iconst 1, 1, (0, 0, 0), 1, 0), (.bipush (6), 2, (0, 0, 0), 6, 0)]
theorem kwX5_advise_0 {X : KX} {S : KS} {mc ms : Nat} {E : KEnd} {ls : KL} {st : List KV} {M : KM} {cs sl : Nat} (hC : KC X mX5_advise 5 false S mc ms) (hE : KRet X mX5_advise E) (h : kblk (kroom mX5_advise mc ms) S E (KW X) kbX5_advise_0 0 ls st M cs sl) : KW X 0 ls st M cs sl := KW_blk hC hE kbX5_advise_0 0 ls st M cs sl (by decide +kernel) h
def kbX5_advise_10 : List KE := [(.iconst (-1), 1, (0, 0, 0), (-1), 0), (.istore_n 2, 1, (2, 0, 0), 0, 0), (.sipush (200), 3, (0, 0, 0), 200, 0), (.istore_n 3, 1, (3, 0, 0), 0, 0), (.iconst 0, 1, (0, 0, 0), 0, 0), (.istore 4, 2, (4, 0, 0), 0, 0)]
theorem kwX5_advise_10 {X : KX} {S : KS} {mc ms : Nat} {E : KEnd} {ls : KL} {st : List KV} {M : KM} {cs sl : Nat} (hC : KC X mX5_advise 5 false S mc ms) (hE : KRet X mX5_advise E) (h : kblk (kroom mX5_advise mc ms) S E (KW X) kbX5_advise_10 10 ls st M cs sl) : KW X 10 ls st M cs sl := KW_blk hC hE kbX5_advise_10 10 ls st M cs sl (by decide +kernel) h
def kbX5_advise_19 : List KE := [(.iload 4, 2, (4, 0, 0), 0, 0), (.aload_n 0, 1, (0, 0, 0), 0, 0), (.getfield 12, 3, (5, 0, 1), 0, 0), (.getfield 48, 3, (3, 6, 0), 0, 0), (.if_icmp .ge (80), 3, (108, 0, 0), 0, 0)]
theorem kwX5_advise_19 {X : KX} {S : KS} {mc ms : Nat} {E : KEnd} {ls : KL} {st : List KV} {M : KM} {cs sl : Nat} (hC : KC X mX5_advise 5 false S mc ms) (hE : KRet X mX5_advise E) (h : kblk (kroom mX5_advise mc ms) S E (KW X) kbX5_advise_19 19 ls st M cs sl) : KW X 19 ls st M cs sl := KW_blk hC hE kbX5_advise_19 19 ls st M cs sl (by decide +kernel) h
def kbX5_advise_31 : List KE := [(.aload_n 0, 1, (0, 0, 0), 0, 0), (.getfield 12, 3, (5, 0, 1), 0, 0), (.getfield 61, 3, (3, 2, 1), 0, 0), (.iload 4, 2, (4, 0, 0), 0, 0), (.aaload, 1, (0, 0, 0), 0, 0), (.getfield 65, 3, (2, 1, 0), 0, 0), (.ifCond .eq (6), 3, (50, 0, 0), 0, 0)]
theorem kwX5_advise_31 {X : KX} {S : KS} {mc ms : Nat} {E : KEnd} {ls : KL} {st : List KV} {M : KM} {cs sl : Nat} (hC : KC X mX5_advise 5 false S mc ms) (hE : KRet X mX5_advise E) (h : kblk (kroom mX5_advise mc ms) S E (KW X) kbX5_advise_31 31 ls st M cs sl) : KW X 31 ls st M cs sl := KW_blk hC hE kbX5_advise_31 31 ls st M cs sl (by decide +kernel) h
def kbX5_advise_47 : List KE := [(.goto (55), 3, (102, 0, 0), 0, 0)]
theorem kwX5_advise_47 {X : KX} {S : KS} {mc ms : Nat} {E : KEnd} {ls : KL} {st : List KV} {M : KM} {cs sl : Nat} (hC : KC X mX5_advise 5 false S mc ms) (hE : KRet X mX5_advise E) (h : kblk (kroom mX5_advise mc ms) S E (KW X) kbX5_advise_47 47 ls st M cs sl) : KW X 47 ls st M cs sl := KW_blk hC hE kbX5_advise_47 47 ls st M cs sl (by decide +kernel) h
def kbX5_advise_50 : List KE := [(.aload_n 0, 1, (0, 0, 0), 0, 0), (.getfield 16, 3, (5, 1, 1), 0, 0), (.aload_n 0, 1, (0, 0, 0), 0, 0), (.getfield 12, 3, (5, 0, 1), 0, 0)]
theorem kwX5_advise_50 {X : KX} {S : KS} {mc ms : Nat} {E : KEnd} {ls : KL} {st : List KV} {M : KM} {cs sl : Nat} (hC : KC X mX5_advise 5 false S mc ms) (hE : KRet X mX5_advise E) (h : kblk (kroom mX5_advise mc ms) S E (KW X) kbX5_advise_50 50 ls st M cs sl) : KW X 50 ls st M cs sl := KW_blk hC hE kbX5_advise_50 50 ls st M cs sl (by decide +kernel) h
def kbX5_advise_61 : List KE := [(.aload_n 0, 1, (0, 0, 0), 0, 0), (.getfield 16, 3, (5, 1, 1), 0, 0), (.iload 4, 2, (4, 0, 0), 0, 0), (.iload_n 1, 1, (1, 0, 0), 0, 0), (.sipush (200), 3, (0, 0, 0), 200, 0)]
theorem kwX5_advise_61 {X : KX} {S : KS} {mc ms : Nat} {E : KEnd} {ls : KL} {st : List KV} {M : KM} {cs sl : Nat} (hC : KC X mX5_advise 5 false S mc ms) (hE : KRet X mX5_advise E) (h : kblk (kroom mX5_advise mc ms) S E (KW X) kbX5_advise_61 61 ls st M cs sl) : KW X 61 ls st M cs sl := KW_blk hC hE kbX5_advise_61 61 ls st M cs sl (by decide +kernel) h
def kbX5_advise_74 : List KE := [(.istore 5, 2, (5, 0, 0), 0, 0), (.aload_n 0, 1, (0, 0, 0), 0, 0), (.getfield 16, 3, (5, 1, 1), 0, 0), (.iload 5, 2, (5, 0, 0), 0, 0), (.iload_n 3, 1, (3, 0, 0), 0, 0)]
theorem kwX5_advise_74 {X : KX} {S : KS} {mc ms : Nat} {E : KEnd} {ls : KL} {st : List KV} {M : KM} {cs sl : Nat} (hC : KC X mX5_advise 5 false S mc ms) (hE : KRet X mX5_advise E) (h : kblk (kroom mX5_advise mc ms) S E (KW X) kbX5_advise_74 74 ls st M cs sl) : KW X 74 ls st M cs sl := KW_blk hC hE kbX5_advise_74 74 ls st M cs sl (by decide +kernel) h
def kbX5_advise_86 : List KE := [(.istore 6, 2, (6, 0, 0), 0, 0), (.iload 6, 2, (6, 0, 0), 0, 0), (.iconst (-1), 1, (0, 0, 0), (-1), 0), (.if_icmp .eq (11), 3, (102, 0, 0), 0, 0)]
theorem kwX5_advise_86 {X : KX} {S : KS} {mc ms : Nat} {E : KEnd} {ls : KL} {st : List KV} {M : KM} {cs sl : Nat} (hC : KC X mX5_advise 5 false S mc ms) (hE : KRet X mX5_advise E) (h : kblk (kroom mX5_advise mc ms) S E (KW X) kbX5_advise_86 86 ls st M cs sl) : KW X 86 ls st M cs sl := KW_blk hC hE kbX5_advise_86 86 ls st M cs sl (by decide +kernel) h
def kbX5_advise_94 : List KE := [(.iload 4, 2, (4, 0, 0), 0, 0), (.istore_n 2, 1, (2, 0, 0), 0, 0), (.iload 6, 2, (6, 0, 0), 0, 0), (.iconst 1, 1, (0, 0, 0), 1, 0), (.isub, 1, (0, 0, 0), 0, 0), (.istore_n 3, 1, (3, 0, 0), 0, 0)]
theorem kwX5_advise_94 {X : KX} {S : KS} {mc ms : Nat} {E : KEnd} {ls : KL} {st : List KV} {M : KM} {cs sl : Nat} (hC : KC X mX5_advise 5 false S mc ms) (hE : KRet X mX5_advise E) (h : kblk (kroom mX5_advise mc ms) S E (KW X) kbX5_advise_94 94 ls st M cs sl) : KW X 94 ls st M cs sl := KW_blk hC hE kbX5_advise_94 94 ls st M cs sl (by decide +kernel) h
def kbX5_advise_102 : List KE := [(.iinc 4 (1), 3, (4, 0, 0), 1, 0), (.goto (-86), 3, (19, 0, 0), 0, 0)]
theorem kwX5_advise_102 {X : KX} {S : KS} {mc ms : Nat} {E : KEnd} {ls : KL} {st : List KV} {M : KM} {cs sl : Nat} (hC : KC X mX5_advise 5 false S mc ms) (hE : KRet X mX5_advise E) (h : kblk (kroom mX5_advise mc ms) S E (KW X) kbX5_advise_102 102 ls st M cs sl) : KW X 102 ls st M cs sl := KW_blk hC hE kbX5_advise_102 102 ls st M cs sl (by decide +kernel) h
def kbX5_advise_108 : List KE := [(.iload_n 2, 1, (2, 0, 0), 0, 0), (.ireturn, 1, (0, 0, 0), 0, 0)]
theorem kwX5_advise_108 {X : KX} {S : KS} {mc ms : Nat} {E : KEnd} {ls : KL} {st : List KV} {M : KM} {cs sl : Nat} (hC : KC X mX5_advise 5 false S mc ms) (hE : KRet X mX5_advise E) (h : kblk (kroom mX5_advise mc ms) S E (KW X) kbX5_advise_108 108 ls st M cs sl) : KW X 108 ls st M cs sl := KW_blk hC hE kbX5_advise_108 108 ls st M cs sl (by decide +kernel) h
def kbX5_chair_0 : List KE := [(.iload_n 1, 1, (1, 0, 0), 0, 0), (.aload_n 0, 1, (0, 0, 0), 0, 0), (.getfield 12, 3, (5, 0, 1), 0, 0), (.getfield 38, 3, (3, 5, 0), 0, 0)]
theorem kwX5_chair_0 {X : KX} {S : KS} {mc ms : Nat} {E : KEnd} {ls : KL} {st : List KV} {M : KM} {cs sl : Nat} (hC : KC X mX5_chair 5 false S mc ms) (hE : KRet X mX5_chair E) (h : kblk (kroom mX5_chair mc ms) S E (KW X) kbX5_chair_0 0 ls st M cs sl) : KW X 0 ls st M cs sl := KW_blk hC hE kbX5_chair_0 0 ls st M cs sl (by decide +kernel) h
def kbX5_chair_11 : List KE := [(.ifCond .eq (15), 3, (26, 0, 0), 0, 0)]
theorem kwX5_chair_11 {X : KX} {S : KS} {mc ms : Nat} {E : KEnd} {ls : KL} {st : List KV} {M : KM} {cs sl : Nat} (hC : KC X mX5_chair 5 false S mc ms) (hE : KRet X mX5_chair E) (h : kblk (kroom mX5_chair mc ms) S E (KW X) kbX5_chair_11 11 ls st M cs sl) : KW X 11 ls st M cs sl := KW_blk hC hE kbX5_chair_11 11 ls st M cs sl (by decide +kernel) h
def kbX5_chair_14 : List KE := [(.iload_n 2, 1, (2, 0, 0), 0, 0), (.iconst 5, 1, (0, 0, 0), 5, 0)]
theorem kwX5_chair_14 {X : KX} {S : KS} {mc ms : Nat} {E : KEnd} {ls : KL} {st : List KV} {M : KM} {cs sl : Nat} (hC : KC X mX5_chair 5 false S mc ms) (hE : KRet X mX5_chair E) (h : kblk (kroom mX5_chair mc ms) S E (KW X) kbX5_chair_14 14 ls st M cs sl) : KW X 14 ls st M cs sl := KW_blk hC hE kbX5_chair_14 14 ls st M cs sl (by decide +kernel) h
def kbX5_chair_19 : List KE := [(.ifCond .eq (7), 3, (26, 0, 0), 0, 0)]
theorem kwX5_chair_19 {X : KX} {S : KS} {mc ms : Nat} {E : KEnd} {ls : KL} {st : List KV} {M : KM} {cs sl : Nat} (hC : KC X mX5_chair 5 false S mc ms) (hE : KRet X mX5_chair E) (h : kblk (kroom mX5_chair mc ms) S E (KW X) kbX5_chair_19 19 ls st M cs sl) : KW X 19 ls st M cs sl := KW_blk hC hE kbX5_chair_19 19 ls st M cs sl (by decide +kernel) h
def kbX5_chair_22 : List KE := [(.iconst 1, 1, (0, 0, 0), 1, 0), (.goto (4), 3, (27, 0, 0), 0, 0)]
theorem kwX5_chair_22 {X : KX} {S : KS} {mc ms : Nat} {E : KEnd} {ls : KL} {st : List KV} {M : KM} {cs sl : Nat} (hC : KC X mX5_chair 5 false S mc ms) (hE : KRet X mX5_chair E) (h : kblk (kroom mX5_chair mc ms) S E (KW X) kbX5_chair_22 22 ls st M cs sl) : KW X 22 ls st M cs sl := KW_blk hC hE kbX5_chair_22 22 ls st M cs sl (by decide +kernel) h
def kbX5_chair_26 : List KE := [(.iconst 0, 1, (0, 0, 0), 0, 0)]
theorem kwX5_chair_26 {X : KX} {S : KS} {mc ms : Nat} {E : KEnd} {ls : KL} {st : List KV} {M : KM} {cs sl : Nat} (hC : KC X mX5_chair 5 false S mc ms) (hE : KRet X mX5_chair E) (h : kblk (kroom mX5_chair mc ms) S E (KW X) kbX5_chair_26 26 ls st M cs sl) : KW X 26 ls st M cs sl := KW_blk hC hE kbX5_chair_26 26 ls st M cs sl (by decide +kernel) h
def kbX5_chair_30 : List KE := [(.aload_n 0, 1, (0, 0, 0), 0, 0), (.getfield 12, 3, (5, 0, 1), 0, 0), (.getfield 124, 3, (3, 1, 1), 0, 0), (.iload_n 1, 1, (1, 0, 0), 0, 0), (.aaload, 1, (0, 0, 0), 0, 0), (.iload_n 2, 1, (2, 0, 0), 0, 0)]
theorem kwX5_chair_30 {X : KX} {S : KS} {mc ms : Nat} {E : KEnd} {ls : KL} {st : List KV} {M : KM} {cs sl : Nat} (hC : KC X mX5_chair 5 false S mc ms) (hE : KRet X mX5_chair E) (h : kblk (kroom mX5_chair mc ms) S E (KW X) kbX5_chair_30 30 ls st M cs sl) : KW X 30 ls st M cs sl := KW_blk hC hE kbX5_chair_30 30 ls st M cs sl (by decide +kernel) h
def kbX5_chair_43 : List KE := [(.ireturn, 1, (0, 0, 0), 0, 0)]
theorem kwX5_chair_43 {X : KX} {S : KS} {mc ms : Nat} {E : KEnd} {ls : KL} {st : List KV} {M : KM} {cs sl : Nat} (hC : KC X mX5_chair 5 false S mc ms) (hE : KRet X mX5_chair E) (h : kblk (kroom mX5_chair mc ms) S E (KW X) kbX5_chair_43 43 ls st M cs sl) : KW X 43 ls st M cs sl := KW_blk hC hE kbX5_chair_43 43 ls st M cs sl (by decide +kernel) h
def kbX5_change_0 : List KE := [(.aload_n 0, 1, (0, 0, 0), 0, 0), (.iload_n 1, 1, (1, 0, 0), 0, 0)]
theorem kwX5_change_0 {X : KX} {S : KS} {mc ms : Nat} {E : KEnd} {ls : KL} {st : List KV} {M : KM} {cs sl : Nat} (hC : KC X mX5_change 5 false S mc ms) (hE : KRet X mX5_change E) (h : kblk (kroom mX5_change mc ms) S E (KW X) kbX5_change_0 0 ls st M cs sl) : KW X 0 ls st M cs sl := KW_blk hC hE kbX5_change_0 0 ls st M cs sl (by decide +kernel) h
def kbX5_change_5 : List KE := [(.ifCond .eq (15), 3, (20, 0, 0), 0, 0)]
theorem kwX5_change_5 {X : KX} {S : KS} {mc ms : Nat} {E : KEnd} {ls : KL} {st : List KV} {M : KM} {cs sl : Nat} (hC : KC X mX5_change 5 false S mc ms) (hE : KRet X mX5_change E) (h : kblk (kroom mX5_change mc ms) S E (KW X) kbX5_change_5 5 ls st M cs sl) : KW X 5 ls st M cs sl := KW_blk hC hE kbX5_change_5 5 ls st M cs sl (by decide +kernel) h
def kbX5_change_8 : List KE := [(.aload_n 0, 1, (0, 0, 0), 0, 0), (.iload_n 2, 1, (2, 0, 0), 0, 0)]
theorem kwX5_change_8 {X : KX} {S : KS} {mc ms : Nat} {E : KEnd} {ls : KL} {st : List KV} {M : KM} {cs sl : Nat} (hC : KC X mX5_change 5 false S mc ms) (hE : KRet X mX5_change E) (h : kblk (kroom mX5_change mc ms) S E (KW X) kbX5_change_8 8 ls st M cs sl) : KW X 8 ls st M cs sl := KW_blk hC hE kbX5_change_8 8 ls st M cs sl (by decide +kernel) h
def kbX5_change_13 : List KE := [(.ifCond .eq (7), 3, (20, 0, 0), 0, 0)]
theorem kwX5_change_13 {X : KX} {S : KS} {mc ms : Nat} {E : KEnd} {ls : KL} {st : List KV} {M : KM} {cs sl : Nat} (hC : KC X mX5_change 5 false S mc ms) (hE : KRet X mX5_change E) (h : kblk (kroom mX5_change mc ms) S E (KW X) kbX5_change_13 13 ls st M cs sl) : KW X 13 ls st M cs sl := KW_blk hC hE kbX5_change_13 13 ls st M cs sl (by decide +kernel) h
def kbX5_change_16 : List KE := [(.iconst 1, 1, (0, 0, 0), 1, 0), (.goto (4), 3, (21, 0, 0), 0, 0)]
theorem kwX5_change_16 {X : KX} {S : KS} {mc ms : Nat} {E : KEnd} {ls : KL} {st : List KV} {M : KM} {cs sl : Nat} (hC : KC X mX5_change 5 false S mc ms) (hE : KRet X mX5_change E) (h : kblk (kroom mX5_change mc ms) S E (KW X) kbX5_change_16 16 ls st M cs sl) : KW X 16 ls st M cs sl := KW_blk hC hE kbX5_change_16 16 ls st M cs sl (by decide +kernel) h
def kbX5_change_20 : List KE := [(.iconst 0, 1, (0, 0, 0), 0, 0)]
theorem kwX5_change_20 {X : KX} {S : KS} {mc ms : Nat} {E : KEnd} {ls : KL} {st : List KV} {M : KM} {cs sl : Nat} (hC : KC X mX5_change 5 false S mc ms) (hE : KRet X mX5_change E) (h : kblk (kroom mX5_change mc ms) S E (KW X) kbX5_change_20 20 ls st M cs sl) : KW X 20 ls st M cs sl := KW_blk hC hE kbX5_change_20 20 ls st M cs sl (by decide +kernel) h
def kbX5_change_24 : List KE := [(.aload_n 0, 1, (0, 0, 0), 0, 0), (.getfield 12, 3, (5, 0, 1), 0, 0), (.getfield 89, 3, (3, 3, 1), 0, 0), (.iload_n 1, 1, (1, 0, 0), 0, 0), (.aaload, 1, (0, 0, 0), 0, 0), (.getfield 93, 3, (1, 2, 0), 0, 0), (.ifCond .ne (22), 3, (58, 0, 0), 0, 0)]
theorem kwX5_change_24 {X : KX} {S : KS} {mc ms : Nat} {E : KEnd} {ls : KL} {st : List KV} {M : KM} {cs sl : Nat} (hC : KC X mX5_change 5 false S mc ms) (hE : KRet X mX5_change E) (h : kblk (kroom mX5_change mc ms) S E (KW X) kbX5_change_24 24 ls st M cs sl) : KW X 24 ls st M cs sl := KW_blk hC hE kbX5_change_24 24 ls st M cs sl (by decide +kernel) h
def kbX5_change_39 : List KE := [(.aload_n 0, 1, (0, 0, 0), 0, 0), (.getfield 12, 3, (5, 0, 1), 0, 0), (.getfield 61, 3, (3, 2, 1), 0, 0), (.iload_n 2, 1, (2, 0, 0), 0, 0), (.aaload, 1, (0, 0, 0), 0, 0), (.getfield 65, 3, (2, 1, 0), 0, 0), (.ifCond .ne (7), 3, (58, 0, 0), 0, 0)]
theorem kwX5_change_39 {X : KX} {S : KS} {mc ms : Nat} {E : KEnd} {ls : KL} {st : List KV} {M : KM} {cs sl : Nat} (hC : KC X mX5_change 5 false S mc ms) (hE : KRet X mX5_change E) (h : kblk (kroom mX5_change mc ms) S E (KW X) kbX5_change_39 39 ls st M cs sl) : KW X 39 ls st M cs sl := KW_blk hC hE kbX5_change_39 39 ls st M cs sl (by decide +kernel) h
def kbX5_change_54 : List KE := [(.iconst 1, 1, (0, 0, 0), 1, 0), (.goto (4), 3, (59, 0, 0), 0, 0)]
theorem kwX5_change_54 {X : KX} {S : KS} {mc ms : Nat} {E : KEnd} {ls : KL} {st : List KV} {M : KM} {cs sl : Nat} (hC : KC X mX5_change 5 false S mc ms) (hE : KRet X mX5_change E) (h : kblk (kroom mX5_change mc ms) S E (KW X) kbX5_change_54 54 ls st M cs sl) : KW X 54 ls st M cs sl := KW_blk hC hE kbX5_change_54 54 ls st M cs sl (by decide +kernel) h
def kbX5_change_58 : List KE := [(.iconst 0, 1, (0, 0, 0), 0, 0)]
theorem kwX5_change_58 {X : KX} {S : KS} {mc ms : Nat} {E : KEnd} {ls : KL} {st : List KV} {M : KM} {cs sl : Nat} (hC : KC X mX5_change 5 false S mc ms) (hE : KRet X mX5_change E) (h : kblk (kroom mX5_change mc ms) S E (KW X) kbX5_change_58 58 ls st M cs sl) : KW X 58 ls st M cs sl := KW_blk hC hE kbX5_change_58 58 ls st M cs sl (by decide +kernel) h
def kbX5_change_62 : List KE := [(.aload_n 0, 1, (0, 0, 0), 0, 0), (.getfield 12, 3, (5, 0, 1), 0, 0), (.iload_n 1, 1, (1, 0, 0), 0, 0)]
theorem kwX5_change_62 {X : KX} {S : KS} {mc ms : Nat} {E : KEnd} {ls : KL} {st : List KV} {M : KM} {cs sl : Nat} (hC : KC X mX5_change 5 false S mc ms) (hE : KRet X mX5_change E) (h : kblk (kroom mX5_change mc ms) S E (KW X) kbX5_change_62 62 ls st M cs sl) : KW X 62 ls st M cs sl := KW_blk hC hE kbX5_change_62 62 ls st M cs sl (by decide +kernel) h
def kbX5_change_70 : List KE := [(.aload_n 0, 1, (0, 0, 0), 0, 0), (.getfield 12, 3, (5, 0, 1), 0, 0), (.iload_n 1, 1, (1, 0, 0), 0, 0), (.iload_n 2, 1, (2, 0, 0), 0, 0)]
theorem kwX5_change_70 {X : KX} {S : KS} {mc ms : Nat} {E : KEnd} {ls : KL} {st : List KV} {M : KM} {cs sl : Nat} (hC : KC X mX5_change 5 false S mc ms) (hE : KRet X mX5_change E) (h : kblk (kroom mX5_change mc ms) S E (KW X) kbX5_change_70 70 ls st M cs sl) : KW X 70 ls st M cs sl := KW_blk hC hE kbX5_change_70 70 ls st M cs sl (by decide +kernel) h
def kbX5_change_79 : List KE := [(.aload_n 0, 1, (0, 0, 0), 0, 0), (.getfield 12, 3, (5, 0, 1), 0, 0), (.getfield 61, 3, (3, 2, 1), 0, 0), (.iload_n 2, 1, (2, 0, 0), 0, 0), (.aaload, 1, (0, 0, 0), 0, 0), (.getfield 106, 3, (2, 0, 1), 0, 0), (.getfield 110, 3, (4, 1, 0), 0, 0), (.iconst 1, 1, (0, 0, 0), 1, 0), (.isub, 1, (0, 0, 0), 0, 0), (.ireturn, 1, (0, 0, 0), 0, 0)]
theorem kwX5_change_79 {X : KX} {S : KS} {mc ms : Nat} {E : KEnd} {ls : KL} {st : List KV} {M : KM} {cs sl : Nat} (hC : KC X mX5_change 5 false S mc ms) (hE : KRet X mX5_change E) (h : kblk (kroom mX5_change mc ms) S E (KW X) kbX5_change_79 79 ls st M cs sl) : KW X 79 ls st M cs sl := KW_blk hC hE kbX5_change_79 79 ls st M cs sl (by decide +kernel) h
def kbX5_count_0 : List KE := [(.iload_n 1, 1, (1, 0, 0), 0, 0), (.bipush (13), 2, (0, 0, 0), 13, 0)]
theorem kwX5_count_0 {X : KX} {S : KS} {mc ms : Nat} {E : KEnd} {ls : KL} {st : List KV} {M : KM} {cs sl : Nat} (hC : KC X mX5_count 5 false S mc ms) (hE : KRet X mX5_count E) (h : kblk (kroom mX5_count mc ms) S E (KW X) kbX5_count_0 0 ls st M cs sl) : KW X 0 ls st M cs sl := KW_blk hC hE kbX5_count_0 0 ls st M cs sl (by decide +kernel) h
def kbX5_count_9 : List KE := [(.aload_n 0, 1, (0, 0, 0), 0, 0), (.getfield 12, 3, (5, 0, 1), 0, 0), (.iload_n 1, 1, (1, 0, 0), 0, 0)]
theorem kwX5_count_9 {X : KX} {S : KS} {mc ms : Nat} {E : KEnd} {ls : KL} {st : List KV} {M : KM} {cs sl : Nat} (hC : KC X mX5_count 5 false S mc ms) (hE : KRet X mX5_count E) (h : kblk (kroom mX5_count mc ms) S E (KW X) kbX5_count_9 9 ls st M cs sl) : KW X 9 ls st M cs sl := KW_blk hC hE kbX5_count_9 9 ls st M cs sl (by decide +kernel) h
def kbX5_count_17 : List KE := [(.ireturn, 1, (0, 0, 0), 0, 0)]
theorem kwX5_count_17 {X : KX} {S : KS} {mc ms : Nat} {E : KEnd} {ls : KL} {st : List KV} {M : KM} {cs sl : Nat} (hC : KC X mX5_count 5 false S mc ms) (hE : KRet X mX5_count E) (h : kblk (kroom mX5_count mc ms) S E (KW X) kbX5_count_17 17 ls st M cs sl) : KW X 17 ls st M cs sl := KW_blk hC hE kbX5_count_17 17 ls st M cs sl (by decide +kernel) h
def kbX5_digest_0 : List KE := [(.ldc2_w 164, 3, (0, 0, 0), 0, 677), (.lstore_n 1, 1, (1, 0, 0), 0, 0), (.iconst 0, 1, (0, 0, 0), 0, 0), (.istore_n 3, 1, (3, 0, 0), 0, 0)]
theorem kwX5_digest_0 {X : KX} {S : KS} {mc ms : Nat} {E : KEnd} {ls : KL} {st : List KV} {M : KM} {cs sl : Nat} (hC : KC X mX5_digest 5 false S mc ms) (hE : KRet X mX5_digest E) (h : kblk (kroom mX5_digest mc ms) S E (KW X) kbX5_digest_0 0 ls st M cs sl) : KW X 0 ls st M cs sl := KW_blk hC hE kbX5_digest_0 0 ls st M cs sl (by decide +kernel) h
def kbX5_digest_6 : List KE := [(.iload_n 3, 1, (3, 0, 0), 0, 0), (.bipush (13), 2, (0, 0, 0), 13, 0), (.if_icmp .ge (23), 3, (32, 0, 0), 0, 0)]
theorem kwX5_digest_6 {X : KX} {S : KS} {mc ms : Nat} {E : KEnd} {ls : KL} {st : List KV} {M : KM} {cs sl : Nat} (hC : KC X mX5_digest 5 false S mc ms) (hE : KRet X mX5_digest E) (h : kblk (kroom mX5_digest mc ms) S E (KW X) kbX5_digest_6 6 ls st M cs sl) : KW X 6 ls st M cs sl := KW_blk hC hE kbX5_digest_6 6 ls st M cs sl (by decide +kernel) h
def kbX5_digest_12 : List KE := [(.lload_n 1, 1, (1, 0, 0), 0, 0), (.aload_n 0, 1, (0, 0, 0), 0, 0), (.getfield 12, 3, (5, 0, 1), 0, 0), (.iload_n 3, 1, (3, 0, 0), 0, 0)]
theorem kwX5_digest_12 {X : KX} {S : KS} {mc ms : Nat} {E : KEnd} {ls : KL} {st : List KV} {M : KM} {cs sl : Nat} (hC : KC X mX5_digest 5 false S mc ms) (hE : KRet X mX5_digest E) (h : kblk (kroom mX5_digest mc ms) S E (KW X) kbX5_digest_12 12 ls st M cs sl) : KW X 12 ls st M cs sl := KW_blk hC hE kbX5_digest_12 12 ls st M cs sl (by decide +kernel) h
def kbX5_digest_21 : List KE := [(.i2l, 1, (0, 0, 0), 0, 0)]
theorem kwX5_digest_21 {X : KX} {S : KS} {mc ms : Nat} {E : KEnd} {ls : KL} {st : List KV} {M : KM} {cs sl : Nat} (hC : KC X mX5_digest 5 false S mc ms) (hE : KRet X mX5_digest E) (h : kblk (kroom mX5_digest mc ms) S E (KW X) kbX5_digest_21 21 ls st M cs sl) : KW X 21 ls st M cs sl := KW_blk hC hE kbX5_digest_21 21 ls st M cs sl (by decide +kernel) h
def kbX5_digest_25 : List KE := [(.lstore_n 1, 1, (1, 0, 0), 0, 0), (.iinc 3 (1), 3, (3, 0, 0), 1, 0), (.goto (-23), 3, (6, 0, 0), 0, 0)]
theorem kwX5_digest_25 {X : KX} {S : KS} {mc ms : Nat} {E : KEnd} {ls : KL} {st : List KV} {M : KM} {cs sl : Nat} (hC : KC X mX5_digest 5 false S mc ms) (hE : KRet X mX5_digest E) (h : kblk (kroom mX5_digest mc ms) S E (KW X) kbX5_digest_25 25 ls st M cs sl) : KW X 25 ls st M cs sl := KW_blk hC hE kbX5_digest_25 25 ls st M cs sl (by decide +kernel) h
def kbX5_digest_32 : List KE := [(.iconst 0, 1, (0, 0, 0), 0, 0), (.istore_n 3, 1, (3, 0, 0), 0, 0)]
theorem kwX5_digest_32 {X : KX} {S : KS} {mc ms : Nat} {E : KEnd} {ls : KL} {st : List KV} {M : KM} {cs sl : Nat} (hC : KC X mX5_digest 5 false S mc ms) (hE : KRet X mX5_digest E) (h : kblk (kroom mX5_digest mc ms) S E (KW X) kbX5_digest_32 32 ls st M cs sl) : KW X 32 ls st M cs sl := KW_blk hC hE kbX5_digest_32 32 ls st M cs sl (by decide +kernel) h
def kbX5_digest_34 : List KE := [(.iload_n 3, 1, (3, 0, 0), 0, 0), (.bipush (24), 2, (0, 0, 0), 24, 0), (.if_icmp .ge (24), 3, (61, 0, 0), 0, 0)]
theorem kwX5_digest_34 {X : KX} {S : KS} {mc ms : Nat} {E : KEnd} {ls : KL} {st : List KV} {M : KM} {cs sl : Nat} (hC : KC X mX5_digest 5 false S mc ms) (hE : KRet X mX5_digest E) (h : kblk (kroom mX5_digest mc ms) S E (KW X) kbX5_digest_34 34 ls st M cs sl) : KW X 34 ls st M cs sl := KW_blk hC hE kbX5_digest_34 34 ls st M cs sl (by decide +kernel) h
def kbX5_digest_40 : List KE := [(.lload_n 1, 1, (1, 0, 0), 0, 0), (.aload_n 0, 1, (0, 0, 0), 0, 0), (.getfield 12, 3, (5, 0, 1), 0, 0), (.getfield 75, 3, (3, 0, 1), 0, 0), (.iload_n 3, 1, (3, 0, 0), 0, 0), (.iaload, 1, (0, 0, 0), 0, 0), (.i2l, 1, (0, 0, 0), 0, 0)]
theorem kwX5_digest_40 {X : KX} {S : KS} {mc ms : Nat} {E : KEnd} {ls : KL} {st : List KV} {M : KM} {cs sl : Nat} (hC : KC X mX5_digest 5 false S mc ms) (hE : KRet X mX5_digest E) (h : kblk (kroom mX5_digest mc ms) S E (KW X) kbX5_digest_40 40 ls st M cs sl) : KW X 40 ls st M cs sl := KW_blk hC hE kbX5_digest_40 40 ls st M cs sl (by decide +kernel) h
def kbX5_digest_54 : List KE := [(.lstore_n 1, 1, (1, 0, 0), 0, 0), (.iinc 3 (1), 3, (3, 0, 0), 1, 0), (.goto (-24), 3, (34, 0, 0), 0, 0)]
theorem kwX5_digest_54 {X : KX} {S : KS} {mc ms : Nat} {E : KEnd} {ls : KL} {st : List KV} {M : KM} {cs sl : Nat} (hC : KC X mX5_digest 5 false S mc ms) (hE : KRet X mX5_digest E) (h : kblk (kroom mX5_digest mc ms) S E (KW X) kbX5_digest_54 54 ls st M cs sl) : KW X 54 ls st M cs sl := KW_blk hC hE kbX5_digest_54 54 ls st M cs sl (by decide +kernel) h
def kbX5_digest_61 : List KE := [(.aload_n 0, 1, (0, 0, 0), 0, 0), (.lload_n 1, 1, (1, 0, 0), 0, 0)]
theorem kwX5_digest_61 {X : KX} {S : KS} {mc ms : Nat} {E : KEnd} {ls : KL} {st : List KV} {M : KM} {cs sl : Nat} (hC : KC X mX5_digest 5 false S mc ms) (hE : KRet X mX5_digest E) (h : kblk (kroom mX5_digest mc ms) S E (KW X) kbX5_digest_61 61 ls st M cs sl) : KW X 61 ls st M cs sl := KW_blk hC hE kbX5_digest_61 61 ls st M cs sl (by decide +kernel) h
def kbX5_digest_66 : List KE := [(.lstore_n 1, 1, (1, 0, 0), 0, 0), (.aload_n 0, 1, (0, 0, 0), 0, 0), (.lload_n 1, 1, (1, 0, 0), 0, 0)]
theorem kwX5_digest_66 {X : KX} {S : KS} {mc ms : Nat} {E : KEnd} {ls : KL} {st : List KV} {M : KM} {cs sl : Nat} (hC : KC X mX5_digest 5 false S mc ms) (hE : KRet X mX5_digest E) (h : kblk (kroom mX5_digest mc ms) S E (KW X) kbX5_digest_66 66 ls st M cs sl) : KW X 66 ls st M cs sl := KW_blk hC hE kbX5_digest_66 66 ls st M cs sl (by decide +kernel) h
def kbX5_digest_72 : List KE := [(.lstore_n 1, 1, (1, 0, 0), 0, 0), (.aload_n 0, 1, (0, 0, 0), 0, 0), (.lload_n 1, 1, (1, 0, 0), 0, 0)]
theorem kwX5_digest_72 {X : KX} {S : KS} {mc ms : Nat} {E : KEnd} {ls : KL} {st : List KV} {M : KM} {cs sl : Nat} (hC : KC X mX5_digest 5 false S mc ms) (hE : KRet X mX5_digest E) (h : kblk (kroom mX5_digest mc ms) S E (KW X) kbX5_digest_72 72 ls st M cs sl) : KW X 72 ls st M cs sl := KW_blk hC hE kbX5_digest_72 72 ls st M cs sl (by decide +kernel) h
def kbX5_digest_78 : List KE := [(.lstore_n 1, 1, (1, 0, 0), 0, 0), (.lload_n 1, 1, (1, 0, 0), 0, 0), (.aload_n 0, 1, (0, 0, 0), 0, 0), (.getfield 12, 3, (5, 0, 1), 0, 0), (.getfield 138, 3, (3, 4, 1), 0, 0)]
theorem kwX5_digest_78 {X : KX} {S : KS} {mc ms : Nat} {E : KEnd} {ls : KL} {st : List KV} {M : KM} {cs sl : Nat} (hC : KC X mX5_digest 5 false S mc ms) (hE : KRet X mX5_digest E) (h : kblk (kroom mX5_digest mc ms) S E (KW X) kbX5_digest_78 78 ls st M cs sl) : KW X 78 ls st M cs sl := KW_blk hC hE kbX5_digest_78 78 ls st M cs sl (by decide +kernel) h
def kbX5_digest_90 : List KE := [(.lreturn, 1, (0, 0, 0), 0, 0)]
theorem kwX5_digest_90 {X : KX} {S : KS} {mc ms : Nat} {E : KEnd} {ls : KL} {st : List KV} {M : KM} {cs sl : Nat} (hC : KC X mX5_digest 5 false S mc ms) (hE : KRet X mX5_digest E) (h : kblk (kroom mX5_digest mc ms) S E (KW X) kbX5_digest_90 90 ls st M cs sl) : KW X 90 ls st M cs sl := KW_blk hC hE kbX5_digest_90 90 ls st M cs sl (by decide +kernel) h
def kbX5_foresee_0 : List KE := [(.iload_n 1, 1, (1, 0, 0), 0, 0), (.iconst 1, 1, (0, 0, 0), 1, 0), (.sipush (150), 3, (0, 0, 0), 150, 0)]
theorem kwX5_foresee_0 {X : KX} {S : KS} {mc ms : Nat} {E : KEnd} {ls : KL} {st : List KV} {M : KM} {cs sl : Nat} (hC : KC X mX5_foresee 5 false S mc ms) (hE : KRet X mX5_foresee E) (h : kblk (kroom mX5_foresee mc ms) S E (KW X) kbX5_foresee_0 0 ls st M cs sl) : KW X 0 ls st M cs sl := KW_blk hC hE kbX5_foresee_0 0 ls st M cs sl (by decide +kernel) h
def kbX5_foresee_11 : List KE := [(.iload_n 2, 1, (2, 0, 0), 0, 0), (.iconst 3, 1, (0, 0, 0), 3, 0)]
theorem kwX5_foresee_11 {X : KX} {S : KS} {mc ms : Nat} {E : KEnd} {ls : KL} {st : List KV} {M : KM} {cs sl : Nat} (hC : KC X mX5_foresee 5 false S mc ms) (hE : KRet X mX5_foresee E) (h : kblk (kroom mX5_foresee mc ms) S E (KW X) kbX5_foresee_11 11 ls st M cs sl) : KW X 11 ls st M cs sl := KW_blk hC hE kbX5_foresee_11 11 ls st M cs sl (by decide +kernel) h
def kbX5_foresee_19 : List KE := [(.aload_n 0, 1, (0, 0, 0), 0, 0), (.getfield 16, 3, (5, 1, 1), 0, 0), (.aload_n 0, 1, (0, 0, 0), 0, 0), (.getfield 12, 3, (5, 0, 1), 0, 0)]
theorem kwX5_foresee_19 {X : KX} {S : KS} {mc ms : Nat} {E : KEnd} {ls : KL} {st : List KV} {M : KM} {cs sl : Nat} (hC : KC X mX5_foresee 5 false S mc ms) (hE : KRet X mX5_foresee E) (h : kblk (kroom mX5_foresee mc ms) S E (KW X) kbX5_foresee_19 19 ls st M cs sl) : KW X 19 ls st M cs sl := KW_blk hC hE kbX5_foresee_19 19 ls st M cs sl (by decide +kernel) h
def kbX5_foresee_30 : List KE := [(.aload_n 0, 1, (0, 0, 0), 0, 0), (.getfield 16, 3, (5, 1, 1), 0, 0), (.iload_n 1, 1, (1, 0, 0), 0, 0)]
theorem kwX5_foresee_30 {X : KX} {S : KS} {mc ms : Nat} {E : KEnd} {ls : KL} {st : List KV} {M : KM} {cs sl : Nat} (hC : KC X mX5_foresee 5 false S mc ms) (hE : KRet X mX5_foresee E) (h : kblk (kroom mX5_foresee mc ms) S E (KW X) kbX5_foresee_30 30 ls st M cs sl) : KW X 30 ls st M cs sl := KW_blk hC hE kbX5_foresee_30 30 ls st M cs sl (by decide +kernel) h
def kbX5_foresee_38 : List KE := [(.istore_n 3, 1, (3, 0, 0), 0, 0), (.iload_n 2, 1, (2, 0, 0), 0, 0), (.lookupswitch (39) #[(0, 28), (1, 30)], 28, (0, 0, 0), 0, 0)]
theorem kwX5_foresee_38 {X : KX} {S : KS} {mc ms : Nat} {E : KEnd} {ls : KL} {st : List KV} {M : KM} {cs sl : Nat} (hC : KC X mX5_foresee 5 false S mc ms) (hE : KRet X mX5_foresee E) (h : kblk (kroom mX5_foresee mc ms) S E (KW X) kbX5_foresee_38 38 ls st M cs sl) : KW X 38 ls st M cs sl := KW_blk hC hE kbX5_foresee_38 38 ls st M cs sl (by decide +kernel) h
def kbX5_foresee_68 : List KE := [(.iload_n 3, 1, (3, 0, 0), 0, 0), (.ireturn, 1, (0, 0, 0), 0, 0)]
theorem kwX5_foresee_68 {X : KX} {S : KS} {mc ms : Nat} {E : KEnd} {ls : KL} {st : List KV} {M : KM} {cs sl : Nat} (hC : KC X mX5_foresee 5 false S mc ms) (hE : KRet X mX5_foresee E) (h : kblk (kroom mX5_foresee mc ms) S E (KW X) kbX5_foresee_68 68 ls st M cs sl) : KW X 68 ls st M cs sl := KW_blk hC hE kbX5_foresee_68 68 ls st M cs sl (by decide +kernel) h
def kbX5_foresee_70 : List KE := [(.aload_n 0, 1, (0, 0, 0), 0, 0), (.getfield 16, 3, (5, 1, 1), 0, 0), (.iconst 0, 1, (0, 0, 0), 0, 0)]
theorem kwX5_foresee_70 {X : KX} {S : KS} {mc ms : Nat} {E : KEnd} {ls : KL} {st : List KV} {M : KM} {cs sl : Nat} (hC : KC X mX5_foresee 5 false S mc ms) (hE : KRet X mX5_foresee E) (h : kblk (kroom mX5_foresee mc ms) S E (KW X) kbX5_foresee_70 70 ls st M cs sl) : KW X 70 ls st M cs sl := KW_blk hC hE kbX5_foresee_70 70 ls st M cs sl (by decide +kernel) h
def kbX5_foresee_78 : List KE := [(.ireturn, 1, (0, 0, 0), 0, 0)]
theorem kwX5_foresee_78 {X : KX} {S : KS} {mc ms : Nat} {E : KEnd} {ls : KL} {st : List KV} {M : KM} {cs sl : Nat} (hC : KC X mX5_foresee 5 false S mc ms) (hE : KRet X mX5_foresee E) (h : kblk (kroom mX5_foresee mc ms) S E (KW X) kbX5_foresee_78 78 ls st M cs sl) : KW X 78 ls st M cs sl := KW_blk hC hE kbX5_foresee_78 78 ls st M cs sl (by decide +kernel) h
def kbX5_foresee_79 : List KE := [(.aload_n 0, 1, (0, 0, 0), 0, 0), (.getfield 16, 3, (5, 1, 1), 0, 0)]
theorem kwX5_foresee_79 {X : KX} {S : KS} {mc ms : Nat} {E : KEnd} {ls : KL} {st : List KV} {M : KM} {cs sl : Nat} (hC : KC X mX5_foresee 5 false S mc ms) (hE : KRet X mX5_foresee E) (h : kblk (kroom mX5_foresee mc ms) S E (KW X) kbX5_foresee_79 79 ls st M cs sl) : KW X 79 ls st M cs sl := KW_blk hC hE kbX5_foresee_79 79 ls st M cs sl (by decide +kernel) h
def kbX5_foresee_86 : List KE := [(.aload_n 0, 1, (0, 0, 0), 0, 0), (.getfield 12, 3, (5, 0, 1), 0, 0)]
theorem kwX5_foresee_86 {X : KX} {S : KS} {mc ms : Nat} {E : KEnd} {ls : KL} {st : List KV} {M : KM} {cs sl : Nat} (hC : KC X mX5_foresee 5 false S mc ms) (hE : KRet X mX5_foresee E) (h : kblk (kroom mX5_foresee mc ms) S E (KW X) kbX5_foresee_86 86 ls st M cs sl) : KW X 86 ls st M cs sl := KW_blk hC hE kbX5_foresee_86 86 ls st M cs sl (by decide +kernel) h
def kbX5_foresee_93 : List KE := [(.isub, 1, (0, 0, 0), 0, 0), (.ireturn, 1, (0, 0, 0), 0, 0)]
theorem kwX5_foresee_93 {X : KX} {S : KS} {mc ms : Nat} {E : KEnd} {ls : KL} {st : List KV} {M : KM} {cs sl : Nat} (hC : KC X mX5_foresee 5 false S mc ms) (hE : KRet X mX5_foresee E) (h : kblk (kroom mX5_foresee mc ms) S E (KW X) kbX5_foresee_93 93 ls st M cs sl) : KW X 93 ls st M cs sl := KW_blk hC hE kbX5_foresee_93 93 ls st M cs sl (by decide +kernel) h
def kbX5_group_0 : List KE := [(.aload_n 0, 1, (0, 0, 0), 0, 0), (.iload_n 1, 1, (1, 0, 0), 0, 0)]
theorem kwX5_group_0 {X : KX} {S : KS} {mc ms : Nat} {E : KEnd} {ls : KL} {st : List KV} {M : KM} {cs sl : Nat} (hC : KC X mX5_group 5 false S mc ms) (hE : KRet X mX5_group E) (h : kblk (kroom mX5_group mc ms) S E (KW X) kbX5_group_0 0 ls st M cs sl) : KW X 0 ls st M cs sl := KW_blk hC hE kbX5_group_0 0 ls st M cs sl (by decide +kernel) h
def kbX5_group_5 : List KE := [(.ifCond .eq (16), 3, (21, 0, 0), 0, 0)]
theorem kwX5_group_5 {X : KX} {S : KS} {mc ms : Nat} {E : KEnd} {ls : KL} {st : List KV} {M : KM} {cs sl : Nat} (hC : KC X mX5_group 5 false S mc ms) (hE : KRet X mX5_group E) (h : kblk (kroom mX5_group mc ms) S E (KW X) kbX5_group_5 5 ls st M cs sl) : KW X 5 ls st M cs sl := KW_blk hC hE kbX5_group_5 5 ls st M cs sl (by decide +kernel) h
def kbX5_group_8 : List KE := [(.iload_n 2, 1, (2, 0, 0), 0, 0), (.bipush (8), 2, (0, 0, 0), 8, 0)]
theorem kwX5_group_8 {X : KX} {S : KS} {mc ms : Nat} {E : KEnd} {ls : KL} {st : List KV} {M : KM} {cs sl : Nat} (hC : KC X mX5_group 5 false S mc ms) (hE : KRet X mX5_group E) (h : kblk (kroom mX5_group mc ms) S E (KW X) kbX5_group_8 8 ls st M cs sl) : KW X 8 ls st M cs sl := KW_blk hC hE kbX5_group_8 8 ls st M cs sl (by decide +kernel) h
def kbX5_group_14 : List KE := [(.ifCond .eq (7), 3, (21, 0, 0), 0, 0)]
theorem kwX5_group_14 {X : KX} {S : KS} {mc ms : Nat} {E : KEnd} {ls : KL} {st : List KV} {M : KM} {cs sl : Nat} (hC : KC X mX5_group 5 false S mc ms) (hE : KRet X mX5_group E) (h : kblk (kroom mX5_group mc ms) S E (KW X) kbX5_group_14 14 ls st M cs sl) : KW X 14 ls st M cs sl := KW_blk hC hE kbX5_group_14 14 ls st M cs sl (by decide +kernel) h
def kbX5_group_17 : List KE := [(.iconst 1, 1, (0, 0, 0), 1, 0), (.goto (4), 3, (22, 0, 0), 0, 0)]
theorem kwX5_group_17 {X : KX} {S : KS} {mc ms : Nat} {E : KEnd} {ls : KL} {st : List KV} {M : KM} {cs sl : Nat} (hC : KC X mX5_group 5 false S mc ms) (hE : KRet X mX5_group E) (h : kblk (kroom mX5_group mc ms) S E (KW X) kbX5_group_17 17 ls st M cs sl) : KW X 17 ls st M cs sl := KW_blk hC hE kbX5_group_17 17 ls st M cs sl (by decide +kernel) h
def kbX5_group_21 : List KE := [(.iconst 0, 1, (0, 0, 0), 0, 0)]
theorem kwX5_group_21 {X : KX} {S : KS} {mc ms : Nat} {E : KEnd} {ls : KL} {st : List KV} {M : KM} {cs sl : Nat} (hC : KC X mX5_group 5 false S mc ms) (hE : KRet X mX5_group E) (h : kblk (kroom mX5_group mc ms) S E (KW X) kbX5_group_21 21 ls st M cs sl) : KW X 21 ls st M cs sl := KW_blk hC hE kbX5_group_21 21 ls st M cs sl (by decide +kernel) h
def kbX5_group_25 : List KE := [(.aload_n 0, 1, (0, 0, 0), 0, 0), (.getfield 12, 3, (5, 0, 1), 0, 0), (.getfield 89, 3, (3, 3, 1), 0, 0), (.iload_n 1, 1, (1, 0, 0), 0, 0), (.aaload, 1, (0, 0, 0), 0, 0), (.iload_n 2, 1, (2, 0, 0), 0, 0)]
theorem kwX5_group_25 {X : KX} {S : KS} {mc ms : Nat} {E : KEnd} {ls : KL} {st : List KV} {M : KM} {cs sl : Nat} (hC : KC X mX5_group 5 false S mc ms) (hE : KRet X mX5_group E) (h : kblk (kroom mX5_group mc ms) S E (KW X) kbX5_group_25 25 ls st M cs sl) : KW X 25 ls st M cs sl := KW_blk hC hE kbX5_group_25 25 ls st M cs sl (by decide +kernel) h
def kbX5_group_38 : List KE := [(.ireturn, 1, (0, 0, 0), 0, 0)]
theorem kwX5_group_38 {X : KX} {S : KS} {mc ms : Nat} {E : KEnd} {ls : KL} {st : List KV} {M : KM} {cs sl : Nat} (hC : KC X mX5_group 5 false S mc ms) (hE : KRet X mX5_group E) (h : kblk (kroom mX5_group mc ms) S E (KW X) kbX5_group_38 38 ls st M cs sl) : KW X 38 ls st M cs sl := KW_blk hC hE kbX5_group_38 38 ls st M cs sl (by decide +kernel) h
def kbX5_init_0 : List KE := [(.aload_n 0, 1, (0, 0, 0), 0, 0), (.invokespecial 3, 3, (0, 0, 0), 0, 0), (.aload_n 0, 1, (0, 0, 0), 0, 0), (.new 9, 3, (3, 14, 0), 0, 0), (.dup, 1, (0, 0, 0), 0, 0)]
theorem kwX5_init_0 {X : KX} {S : KS} {mc ms : Nat} {E : KEnd} {ls : KL} {st : List KV} {M : KM} {cs sl : Nat} (hC : KC X mX5_init 5 true S mc ms) (hE : KRet X mX5_init E) (h : kblk (kroom mX5_init mc ms) S E (KW X) kbX5_init_0 0 ls st M cs sl) : KW X 0 ls st M cs sl := KW_blk hC hE kbX5_init_0 0 ls st M cs sl (by decide +kernel) h
def kbX5_init_12 : List KE := [(.putfield 12, 3, (5, 0, 1), 0, 0), (.aload_n 0, 1, (0, 0, 0), 0, 0), (.new 9, 3, (3, 14, 0), 0, 0), (.dup, 1, (0, 0, 0), 0, 0)]
theorem kwX5_init_12 {X : KX} {S : KS} {mc ms : Nat} {E : KEnd} {ls : KL} {st : List KV} {M : KM} {cs sl : Nat} (hC : KC X mX5_init 5 true S mc ms) (hE : KRet X mX5_init E) (h : kblk (kroom mX5_init mc ms) S E (KW X) kbX5_init_12 12 ls st M cs sl) : KW X 12 ls st M cs sl := KW_blk hC hE kbX5_init_12 12 ls st M cs sl (by decide +kernel) h
def kbX5_init_23 : List KE := [(.putfield 16, 3, (5, 1, 1), 0, 0), (.return_, 1, (0, 0, 0), 0, 0)]
theorem kwX5_init_23 {X : KX} {S : KS} {mc ms : Nat} {E : KEnd} {ls : KL} {st : List KV} {M : KM} {cs sl : Nat} (hC : KC X mX5_init 5 true S mc ms) (hE : KRet X mX5_init E) (h : kblk (kroom mX5_init mc ms) S E (KW X) kbX5_init_23 23 ls st M cs sl) : KW X 23 ls st M cs sl := KW_blk hC hE kbX5_init_23 23 ls st M cs sl (by decide +kernel) h
def kbX5_isBelow_0 : List KE := [(.iload_n 0, 1, (0, 0, 0), 0, 0), (.ifCond .lt (12), 3, (13, 0, 0), 0, 0)]
theorem kwX5_isBelow_0 {X : KX} {S : KS} {mc ms : Nat} {E : KEnd} {ls : KL} {st : List KV} {M : KM} {cs sl : Nat} (hC : KC X mX5_isBelow 5 false S mc ms) (hE : KRet X mX5_isBelow E) (h : kblk (kroom mX5_isBelow mc ms) S E (KW X) kbX5_isBelow_0 0 ls st M cs sl) : KW X 0 ls st M cs sl := KW_blk hC hE kbX5_isBelow_0 0 ls st M cs sl (by decide +kernel) h
def kbX5_isBelow_4 : List KE := [(.iload_n 0, 1, (0, 0, 0), 0, 0), (.iload_n 1, 1, (1, 0, 0), 0, 0), (.if_icmp .ge (7), 3, (13, 0, 0), 0, 0)]
theorem kwX5_isBelow_4 {X : KX} {S : KS} {mc ms : Nat} {E : KEnd} {ls : KL} {st : List KV} {M : KM} {cs sl : Nat} (hC : KC X mX5_isBelow 5 false S mc ms) (hE : KRet X mX5_isBelow E) (h : kblk (kroom mX5_isBelow mc ms) S E (KW X) kbX5_isBelow_4 4 ls st M cs sl) : KW X 4 ls st M cs sl := KW_blk hC hE kbX5_isBelow_4 4 ls st M cs sl (by decide +kernel) h
def kbX5_isBelow_9 : List KE := [(.iconst 1, 1, (0, 0, 0), 1, 0), (.goto (4), 3, (14, 0, 0), 0, 0)]
theorem kwX5_isBelow_9 {X : KX} {S : KS} {mc ms : Nat} {E : KEnd} {ls : KL} {st : List KV} {M : KM} {cs sl : Nat} (hC : KC X mX5_isBelow 5 false S mc ms) (hE : KRet X mX5_isBelow E) (h : kblk (kroom mX5_isBelow mc ms) S E (KW X) kbX5_isBelow_9 9 ls st M cs sl) : KW X 9 ls st M cs sl := KW_blk hC hE kbX5_isBelow_9 9 ls st M cs sl (by decide +kernel) h
def kbX5_isBelow_13 : List KE := [(.iconst 0, 1, (0, 0, 0), 0, 0)]
theorem kwX5_isBelow_13 {X : KX} {S : KS} {mc ms : Nat} {E : KEnd} {ls : KL} {st : List KV} {M : KM} {cs sl : Nat} (hC : KC X mX5_isBelow 5 false S mc ms) (hE : KRet X mX5_isBelow E) (h : kblk (kroom mX5_isBelow mc ms) S E (KW X) kbX5_isBelow_13 13 ls st M cs sl) : KW X 13 ls st M cs sl := KW_blk hC hE kbX5_isBelow_13 13 ls st M cs sl (by decide +kernel) h
def kbX5_isBelow_14 : List KE := [(.ireturn, 1, (0, 0, 0), 0, 0)]
theorem kwX5_isBelow_14 {X : KX} {S : KS} {mc ms : Nat} {E : KEnd} {ls : KL} {st : List KV} {M : KM} {cs sl : Nat} (hC : KC X mX5_isBelow 5 false S mc ms) (hE : KRet X mX5_isBelow E) (h : kblk (kroom mX5_isBelow mc ms) S E (KW X) kbX5_isBelow_14 14 ls st M cs sl) : KW X 14 ls st M cs sl := KW_blk hC hE kbX5_isBelow_14 14 ls st M cs sl (by decide +kernel) h
def kbX5_isGroup_0 : List KE := [(.iload_n 1, 1, (1, 0, 0), 0, 0), (.aload_n 0, 1, (0, 0, 0), 0, 0), (.getfield 12, 3, (5, 0, 1), 0, 0), (.getfield 79, 3, (3, 7, 0), 0, 0)]
theorem kwX5_isGroup_0 {X : KX} {S : KS} {mc ms : Nat} {E : KEnd} {ls : KL} {st : List KV} {M : KM} {cs sl : Nat} (hC : KC X mX5_isGroup 5 false S mc ms) (hE : KRet X mX5_isGroup E) (h : kblk (kroom mX5_isGroup mc ms) S E (KW X) kbX5_isGroup_0 0 ls st M cs sl) : KW X 0 ls st M cs sl := KW_blk hC hE kbX5_isGroup_0 0 ls st M cs sl (by decide +kernel) h
def kbX5_isGroup_11 : List KE := [(.ireturn, 1, (0, 0, 0), 0, 0)]
theorem kwX5_isGroup_11 {X : KX} {S : KS} {mc ms : Nat} {E : KEnd} {ls : KL} {st : List KV} {M : KM} {cs sl : Nat} (hC : KC X mX5_isGroup 5 false S mc ms) (hE : KRet X mX5_isGroup E) (h : kblk (kroom mX5_isGroup mc ms) S E (KW X) kbX5_isGroup_11 11 ls st M cs sl) : KW X 11 ls st M cs sl := KW_blk hC hE kbX5_isGroup_11 11 ls st M cs sl (by decide +kernel) h
def kbX5_isLane_0 : List KE := [(.iload_n 1, 1, (1, 0, 0), 0, 0), (.aload_n 0, 1, (0, 0, 0), 0, 0), (.getfield 12, 3, (5, 0, 1), 0, 0), (.getfield 48, 3, (3, 6, 0), 0, 0)]
theorem kwX5_isLane_0 {X : KX} {S : KS} {mc ms : Nat} {E : KEnd} {ls : KL} {st : List KV} {M : KM} {cs sl : Nat} (hC : KC X mX5_isLane 5 false S mc ms) (hE : KRet X mX5_isLane E) (h : kblk (kroom mX5_isLane mc ms) S E (KW X) kbX5_isLane_0 0 ls st M cs sl) : KW X 0 ls st M cs sl := KW_blk hC hE kbX5_isLane_0 0 ls st M cs sl (by decide +kernel) h
def kbX5_isLane_11 : List KE := [(.ireturn, 1, (0, 0, 0), 0, 0)]
theorem kwX5_isLane_11 {X : KX} {S : KS} {mc ms : Nat} {E : KEnd} {ls : KL} {st : List KV} {M : KM} {cs sl : Nat} (hC : KC X mX5_isLane 5 false S mc ms) (hE : KRet X mX5_isLane E) (h : kblk (kroom mX5_isLane mc ms) S E (KW X) kbX5_isLane_11 11 ls st M cs sl) : KW X 11 ls st M cs sl := KW_blk hC hE kbX5_isLane_11 11 ls st M cs sl (by decide +kernel) h
def kbX5_isWithin_0 : List KE := [(.iload_n 0, 1, (0, 0, 0), 0, 0), (.iload_n 1, 1, (1, 0, 0), 0, 0), (.if_icmp .lt (12), 3, (14, 0, 0), 0, 0)]
theorem kwX5_isWithin_0 {X : KX} {S : KS} {mc ms : Nat} {E : KEnd} {ls : KL} {st : List KV} {M : KM} {cs sl : Nat} (hC : KC X mX5_isWithin 5 false S mc ms) (hE : KRet X mX5_isWithin E) (h : kblk (kroom mX5_isWithin mc ms) S E (KW X) kbX5_isWithin_0 0 ls st M cs sl) : KW X 0 ls st M cs sl := KW_blk hC hE kbX5_isWithin_0 0 ls st M cs sl (by decide +kernel) h
def kbX5_isWithin_5 : List KE := [(.iload_n 0, 1, (0, 0, 0), 0, 0), (.iload_n 2, 1, (2, 0, 0), 0, 0), (.if_icmp .gt (7), 3, (14, 0, 0), 0, 0)]
theorem kwX5_isWithin_5 {X : KX} {S : KS} {mc ms : Nat} {E : KEnd} {ls : KL} {st : List KV} {M : KM} {cs sl : Nat} (hC : KC X mX5_isWithin 5 false S mc ms) (hE : KRet X mX5_isWithin E) (h : kblk (kroom mX5_isWithin mc ms) S E (KW X) kbX5_isWithin_5 5 ls st M cs sl) : KW X 5 ls st M cs sl := KW_blk hC hE kbX5_isWithin_5 5 ls st M cs sl (by decide +kernel) h
def kbX5_isWithin_10 : List KE := [(.iconst 1, 1, (0, 0, 0), 1, 0), (.goto (4), 3, (15, 0, 0), 0, 0)]
theorem kwX5_isWithin_10 {X : KX} {S : KS} {mc ms : Nat} {E : KEnd} {ls : KL} {st : List KV} {M : KM} {cs sl : Nat} (hC : KC X mX5_isWithin 5 false S mc ms) (hE : KRet X mX5_isWithin E) (h : kblk (kroom mX5_isWithin mc ms) S E (KW X) kbX5_isWithin_10 10 ls st M cs sl) : KW X 10 ls st M cs sl := KW_blk hC hE kbX5_isWithin_10 10 ls st M cs sl (by decide +kernel) h
def kbX5_isWithin_14 : List KE := [(.iconst 0, 1, (0, 0, 0), 0, 0)]
theorem kwX5_isWithin_14 {X : KX} {S : KS} {mc ms : Nat} {E : KEnd} {ls : KL} {st : List KV} {M : KM} {cs sl : Nat} (hC : KC X mX5_isWithin 5 false S mc ms) (hE : KRet X mX5_isWithin E) (h : kblk (kroom mX5_isWithin mc ms) S E (KW X) kbX5_isWithin_14 14 ls st M cs sl) : KW X 14 ls st M cs sl := KW_blk hC hE kbX5_isWithin_14 14 ls st M cs sl (by decide +kernel) h
def kbX5_isWithin_15 : List KE := [(.ireturn, 1, (0, 0, 0), 0, 0)]
theorem kwX5_isWithin_15 {X : KX} {S : KS} {mc ms : Nat} {E : KEnd} {ls : KL} {st : List KV} {M : KM} {cs sl : Nat} (hC : KC X mX5_isWithin 5 false S mc ms) (hE : KRet X mX5_isWithin E) (h : kblk (kroom mX5_isWithin mc ms) S E (KW X) kbX5_isWithin_15 15 ls st M cs sl) : KW X 15 ls st M cs sl := KW_blk hC hE kbX5_isWithin_15 15 ls st M cs sl (by decide +kernel) h
def kbX5_join_0 : List KE := [(.aload_n 0, 1, (0, 0, 0), 0, 0), (.iload_n 1, 1, (1, 0, 0), 0, 0)]
theorem kwX5_join_0 {X : KX} {S : KS} {mc ms : Nat} {E : KEnd} {ls : KL} {st : List KV} {M : KM} {cs sl : Nat} (hC : KC X mX5_join 5 false S mc ms) (hE : KRet X mX5_join E) (h : kblk (kroom mX5_join mc ms) S E (KW X) kbX5_join_0 0 ls st M cs sl) : KW X 0 ls st M cs sl := KW_blk hC hE kbX5_join_0 0 ls st M cs sl (by decide +kernel) h
def kbX5_join_8 : List KE := [(.iload_n 2, 1, (2, 0, 0), 0, 0), (.iconst 1, 1, (0, 0, 0), 1, 0), (.bipush (6), 2, (0, 0, 0), 6, 0)]
theorem kwX5_join_8 {X : KX} {S : KS} {mc ms : Nat} {E : KEnd} {ls : KL} {st : List KV} {M : KM} {cs sl : Nat} (hC : KC X mX5_join 5 false S mc ms) (hE : KRet X mX5_join E) (h : kblk (kroom mX5_join mc ms) S E (KW X) kbX5_join_8 8 ls st M cs sl) : KW X 8 ls st M cs sl := KW_blk hC hE kbX5_join_8 8 ls st M cs sl (by decide +kernel) h
def kbX5_join_15 : List KE := [(.ifCond .eq (18), 3, (33, 0, 0), 0, 0)]
theorem kwX5_join_15 {X : KX} {S : KS} {mc ms : Nat} {E : KEnd} {ls : KL} {st : List KV} {M : KM} {cs sl : Nat} (hC : KC X mX5_join 5 false S mc ms) (hE : KRet X mX5_join E) (h : kblk (kroom mX5_join mc ms) S E (KW X) kbX5_join_15 15 ls st M cs sl) : KW X 15 ls st M cs sl := KW_blk hC hE kbX5_join_15 15 ls st M cs sl (by decide +kernel) h
def kbX5_join_18 : List KE := [(.iload_n 3, 1, (3, 0, 0), 0, 0), (.iconst 1, 1, (0, 0, 0), 1, 0), (.sipush (200), 3, (0, 0, 0), 200, 0)]
theorem kwX5_join_18 {X : KX} {S : KS} {mc ms : Nat} {E : KEnd} {ls : KL} {st : List KV} {M : KM} {cs sl : Nat} (hC : KC X mX5_join 5 false S mc ms) (hE : KRet X mX5_join E) (h : kblk (kroom mX5_join mc ms) S E (KW X) kbX5_join_18 18 ls st M cs sl) : KW X 18 ls st M cs sl := KW_blk hC hE kbX5_join_18 18 ls st M cs sl (by decide +kernel) h
def kbX5_join_26 : List KE := [(.ifCond .eq (7), 3, (33, 0, 0), 0, 0)]
theorem kwX5_join_26 {X : KX} {S : KS} {mc ms : Nat} {E : KEnd} {ls : KL} {st : List KV} {M : KM} {cs sl : Nat} (hC : KC X mX5_join 5 false S mc ms) (hE : KRet X mX5_join E) (h : kblk (kroom mX5_join mc ms) S E (KW X) kbX5_join_26 26 ls st M cs sl) : KW X 26 ls st M cs sl := KW_blk hC hE kbX5_join_26 26 ls st M cs sl (by decide +kernel) h
def kbX5_join_29 : List KE := [(.iconst 1, 1, (0, 0, 0), 1, 0), (.goto (4), 3, (34, 0, 0), 0, 0)]
theorem kwX5_join_29 {X : KX} {S : KS} {mc ms : Nat} {E : KEnd} {ls : KL} {st : List KV} {M : KM} {cs sl : Nat} (hC : KC X mX5_join 5 false S mc ms) (hE : KRet X mX5_join E) (h : kblk (kroom mX5_join mc ms) S E (KW X) kbX5_join_29 29 ls st M cs sl) : KW X 29 ls st M cs sl := KW_blk hC hE kbX5_join_29 29 ls st M cs sl (by decide +kernel) h
def kbX5_join_33 : List KE := [(.iconst 0, 1, (0, 0, 0), 0, 0)]
theorem kwX5_join_33 {X : KX} {S : KS} {mc ms : Nat} {E : KEnd} {ls : KL} {st : List KV} {M : KM} {cs sl : Nat} (hC : KC X mX5_join 5 false S mc ms) (hE : KRet X mX5_join E) (h : kblk (kroom mX5_join mc ms) S E (KW X) kbX5_join_33 33 ls st M cs sl) : KW X 33 ls st M cs sl := KW_blk hC hE kbX5_join_33 33 ls st M cs sl (by decide +kernel) h
def kbX5_join_37 : List KE := [(.aload_n 0, 1, (0, 0, 0), 0, 0), (.getfield 12, 3, (5, 0, 1), 0, 0), (.getfield 61, 3, (3, 2, 1), 0, 0), (.iload_n 1, 1, (1, 0, 0), 0, 0), (.aaload, 1, (0, 0, 0), 0, 0), (.getfield 65, 3, (2, 1, 0), 0, 0), (.ifCond .ne (19), 3, (68, 0, 0), 0, 0)]
theorem kwX5_join_37 {X : KX} {S : KS} {mc ms : Nat} {E : KEnd} {ls : KL} {st : List KV} {M : KM} {cs sl : Nat} (hC : KC X mX5_join 5 false S mc ms) (hE : KRet X mX5_join E) (h : kblk (kroom mX5_join mc ms) S E (KW X) kbX5_join_37 37 ls st M cs sl) : KW X 37 ls st M cs sl := KW_blk hC hE kbX5_join_37 37 ls st M cs sl (by decide +kernel) h
def kbX5_join_52 : List KE := [(.aload_n 0, 1, (0, 0, 0), 0, 0), (.getfield 12, 3, (5, 0, 1), 0, 0), (.getfield 79, 3, (3, 7, 0), 0, 0), (.bipush (90), 2, (0, 0, 0), 90, 0), (.if_icmp .ge (7), 3, (68, 0, 0), 0, 0)]
theorem kwX5_join_52 {X : KX} {S : KS} {mc ms : Nat} {E : KEnd} {ls : KL} {st : List KV} {M : KM} {cs sl : Nat} (hC : KC X mX5_join 5 false S mc ms) (hE : KRet X mX5_join E) (h : kblk (kroom mX5_join mc ms) S E (KW X) kbX5_join_52 52 ls st M cs sl) : KW X 52 ls st M cs sl := KW_blk hC hE kbX5_join_52 52 ls st M cs sl (by decide +kernel) h
def kbX5_join_64 : List KE := [(.iconst 1, 1, (0, 0, 0), 1, 0), (.goto (4), 3, (69, 0, 0), 0, 0)]
theorem kwX5_join_64 {X : KX} {S : KS} {mc ms : Nat} {E : KEnd} {ls : KL} {st : List KV} {M : KM} {cs sl : Nat} (hC : KC X mX5_join 5 false S mc ms) (hE : KRet X mX5_join E) (h : kblk (kroom mX5_join mc ms) S E (KW X) kbX5_join_64 64 ls st M cs sl) : KW X 64 ls st M cs sl := KW_blk hC hE kbX5_join_64 64 ls st M cs sl (by decide +kernel) h
def kbX5_join_68 : List KE := [(.iconst 0, 1, (0, 0, 0), 0, 0)]
theorem kwX5_join_68 {X : KX} {S : KS} {mc ms : Nat} {E : KEnd} {ls : KL} {st : List KV} {M : KM} {cs sl : Nat} (hC : KC X mX5_join 5 false S mc ms) (hE : KRet X mX5_join E) (h : kblk (kroom mX5_join mc ms) S E (KW X) kbX5_join_68 68 ls st M cs sl) : KW X 68 ls st M cs sl := KW_blk hC hE kbX5_join_68 68 ls st M cs sl (by decide +kernel) h
def kbX5_join_72 : List KE := [(.aload_n 0, 1, (0, 0, 0), 0, 0), (.getfield 12, 3, (5, 0, 1), 0, 0), (.iload_n 1, 1, (1, 0, 0), 0, 0), (.iload_n 2, 1, (2, 0, 0), 0, 0), (.iload_n 3, 1, (3, 0, 0), 0, 0)]
theorem kwX5_join_72 {X : KX} {S : KS} {mc ms : Nat} {E : KEnd} {ls : KL} {st : List KV} {M : KM} {cs sl : Nat} (hC : KC X mX5_join 5 false S mc ms) (hE : KRet X mX5_join E) (h : kblk (kroom mX5_join mc ms) S E (KW X) kbX5_join_72 72 ls st M cs sl) : KW X 72 ls st M cs sl := KW_blk hC hE kbX5_join_72 72 ls st M cs sl (by decide +kernel) h
def kbX5_join_82 : List KE := [(.ireturn, 1, (0, 0, 0), 0, 0)]
theorem kwX5_join_82 {X : KX} {S : KS} {mc ms : Nat} {E : KEnd} {ls : KL} {st : List KV} {M : KM} {cs sl : Nat} (hC : KC X mX5_join 5 false S mc ms) (hE : KRet X mX5_join E) (h : kblk (kroom mX5_join mc ms) S E (KW X) kbX5_join_82 82 ls st M cs sl) : KW X 82 ls st M cs sl := KW_blk hC hE kbX5_join_82 82 ls st M cs sl (by decide +kernel) h
def kbX5_lane_0 : List KE := [(.aload_n 0, 1, (0, 0, 0), 0, 0), (.iload_n 1, 1, (1, 0, 0), 0, 0)]
theorem kwX5_lane_0 {X : KX} {S : KS} {mc ms : Nat} {E : KEnd} {ls : KL} {st : List KV} {M : KM} {cs sl : Nat} (hC : KC X mX5_lane 5 false S mc ms) (hE : KRet X mX5_lane E) (h : kblk (kroom mX5_lane mc ms) S E (KW X) kbX5_lane_0 0 ls st M cs sl) : KW X 0 ls st M cs sl := KW_blk hC hE kbX5_lane_0 0 ls st M cs sl (by decide +kernel) h
def kbX5_lane_5 : List KE := [(.ifCond .eq (15), 3, (20, 0, 0), 0, 0)]
theorem kwX5_lane_5 {X : KX} {S : KS} {mc ms : Nat} {E : KEnd} {ls : KL} {st : List KV} {M : KM} {cs sl : Nat} (hC : KC X mX5_lane 5 false S mc ms) (hE : KRet X mX5_lane E) (h : kblk (kroom mX5_lane mc ms) S E (KW X) kbX5_lane_5 5 ls st M cs sl) : KW X 5 ls st M cs sl := KW_blk hC hE kbX5_lane_5 5 ls st M cs sl (by decide +kernel) h
def kbX5_lane_8 : List KE := [(.iload_n 2, 1, (2, 0, 0), 0, 0), (.iconst 4, 1, (0, 0, 0), 4, 0)]
theorem kwX5_lane_8 {X : KX} {S : KS} {mc ms : Nat} {E : KEnd} {ls : KL} {st : List KV} {M : KM} {cs sl : Nat} (hC : KC X mX5_lane 5 false S mc ms) (hE : KRet X mX5_lane E) (h : kblk (kroom mX5_lane mc ms) S E (KW X) kbX5_lane_8 8 ls st M cs sl) : KW X 8 ls st M cs sl := KW_blk hC hE kbX5_lane_8 8 ls st M cs sl (by decide +kernel) h
def kbX5_lane_13 : List KE := [(.ifCond .eq (7), 3, (20, 0, 0), 0, 0)]
theorem kwX5_lane_13 {X : KX} {S : KS} {mc ms : Nat} {E : KEnd} {ls : KL} {st : List KV} {M : KM} {cs sl : Nat} (hC : KC X mX5_lane 5 false S mc ms) (hE : KRet X mX5_lane E) (h : kblk (kroom mX5_lane mc ms) S E (KW X) kbX5_lane_13 13 ls st M cs sl) : KW X 13 ls st M cs sl := KW_blk hC hE kbX5_lane_13 13 ls st M cs sl (by decide +kernel) h
def kbX5_lane_16 : List KE := [(.iconst 1, 1, (0, 0, 0), 1, 0), (.goto (4), 3, (21, 0, 0), 0, 0)]
theorem kwX5_lane_16 {X : KX} {S : KS} {mc ms : Nat} {E : KEnd} {ls : KL} {st : List KV} {M : KM} {cs sl : Nat} (hC : KC X mX5_lane 5 false S mc ms) (hE : KRet X mX5_lane E) (h : kblk (kroom mX5_lane mc ms) S E (KW X) kbX5_lane_16 16 ls st M cs sl) : KW X 16 ls st M cs sl := KW_blk hC hE kbX5_lane_16 16 ls st M cs sl (by decide +kernel) h
def kbX5_lane_20 : List KE := [(.iconst 0, 1, (0, 0, 0), 0, 0)]
theorem kwX5_lane_20 {X : KX} {S : KS} {mc ms : Nat} {E : KEnd} {ls : KL} {st : List KV} {M : KM} {cs sl : Nat} (hC : KC X mX5_lane 5 false S mc ms) (hE : KRet X mX5_lane E) (h : kblk (kroom mX5_lane mc ms) S E (KW X) kbX5_lane_20 20 ls st M cs sl) : KW X 20 ls st M cs sl := KW_blk hC hE kbX5_lane_20 20 ls st M cs sl (by decide +kernel) h
def kbX5_lane_24 : List KE := [(.aload_n 0, 1, (0, 0, 0), 0, 0), (.getfield 12, 3, (5, 0, 1), 0, 0), (.iload_n 1, 1, (1, 0, 0), 0, 0), (.iload_n 2, 1, (2, 0, 0), 0, 0)]
theorem kwX5_lane_24 {X : KX} {S : KS} {mc ms : Nat} {E : KEnd} {ls : KL} {st : List KV} {M : KM} {cs sl : Nat} (hC : KC X mX5_lane 5 false S mc ms) (hE : KRet X mX5_lane E) (h : kblk (kroom mX5_lane mc ms) S E (KW X) kbX5_lane_24 24 ls st M cs sl) : KW X 24 ls st M cs sl := KW_blk hC hE kbX5_lane_24 24 ls st M cs sl (by decide +kernel) h
def kbX5_lane_33 : List KE := [(.ireturn, 1, (0, 0, 0), 0, 0)]
theorem kwX5_lane_33 {X : KX} {S : KS} {mc ms : Nat} {E : KEnd} {ls : KL} {st : List KV} {M : KM} {cs sl : Nat} (hC : KC X mX5_lane 5 false S mc ms) (hE : KRet X mX5_lane E) (h : kblk (kroom mX5_lane mc ms) S E (KW X) kbX5_lane_33 33 ls st M cs sl) : KW X 33 ls st M cs sl := KW_blk hC hE kbX5_lane_33 33 ls st M cs sl (by decide +kernel) h
def kbX5_leave_0 : List KE := [(.aload_n 0, 1, (0, 0, 0), 0, 0), (.iload_n 1, 1, (1, 0, 0), 0, 0)]
theorem kwX5_leave_0 {X : KX} {S : KS} {mc ms : Nat} {E : KEnd} {ls : KL} {st : List KV} {M : KM} {cs sl : Nat} (hC : KC X mX5_leave 5 false S mc ms) (hE : KRet X mX5_leave E) (h : kblk (kroom mX5_leave mc ms) S E (KW X) kbX5_leave_0 0 ls st M cs sl) : KW X 0 ls st M cs sl := KW_blk hC hE kbX5_leave_0 0 ls st M cs sl (by decide +kernel) h
def kbX5_leave_8 : List KE := [(.aload_n 0, 1, (0, 0, 0), 0, 0), (.getfield 12, 3, (5, 0, 1), 0, 0), (.getfield 89, 3, (3, 3, 1), 0, 0), (.iload_n 1, 1, (1, 0, 0), 0, 0), (.aaload, 1, (0, 0, 0), 0, 0), (.getfield 93, 3, (1, 2, 0), 0, 0), (.ifCond .ne (7), 3, (27, 0, 0), 0, 0)]
theorem kwX5_leave_8 {X : KX} {S : KS} {mc ms : Nat} {E : KEnd} {ls : KL} {st : List KV} {M : KM} {cs sl : Nat} (hC : KC X mX5_leave 5 false S mc ms) (hE : KRet X mX5_leave E) (h : kblk (kroom mX5_leave mc ms) S E (KW X) kbX5_leave_8 8 ls st M cs sl) : KW X 8 ls st M cs sl := KW_blk hC hE kbX5_leave_8 8 ls st M cs sl (by decide +kernel) h
def kbX5_leave_23 : List KE := [(.iconst 1, 1, (0, 0, 0), 1, 0), (.goto (4), 3, (28, 0, 0), 0, 0)]
theorem kwX5_leave_23 {X : KX} {S : KS} {mc ms : Nat} {E : KEnd} {ls : KL} {st : List KV} {M : KM} {cs sl : Nat} (hC : KC X mX5_leave 5 false S mc ms) (hE : KRet X mX5_leave E) (h : kblk (kroom mX5_leave mc ms) S E (KW X) kbX5_leave_23 23 ls st M cs sl) : KW X 23 ls st M cs sl := KW_blk hC hE kbX5_leave_23 23 ls st M cs sl (by decide +kernel) h
def kbX5_leave_27 : List KE := [(.iconst 0, 1, (0, 0, 0), 0, 0)]
theorem kwX5_leave_27 {X : KX} {S : KS} {mc ms : Nat} {E : KEnd} {ls : KL} {st : List KV} {M : KM} {cs sl : Nat} (hC : KC X mX5_leave 5 false S mc ms) (hE : KRet X mX5_leave E) (h : kblk (kroom mX5_leave mc ms) S E (KW X) kbX5_leave_27 27 ls st M cs sl) : KW X 27 ls st M cs sl := KW_blk hC hE kbX5_leave_27 27 ls st M cs sl (by decide +kernel) h
def kbX5_leave_31 : List KE := [(.aload_n 0, 1, (0, 0, 0), 0, 0), (.getfield 12, 3, (5, 0, 1), 0, 0), (.getfield 89, 3, (3, 3, 1), 0, 0), (.iload_n 1, 1, (1, 0, 0), 0, 0), (.aaload, 1, (0, 0, 0), 0, 0), (.getfield 115, 3, (1, 3, 0), 0, 0), (.istore_n 2, 1, (2, 0, 0), 0, 0), (.aload_n 0, 1, (0, 0, 0), 0, 0), (.getfield 12, 3, (5, 0, 1), 0, 0), (.iload_n 1, 1, (1, 0, 0), 0, 0)]
theorem kwX5_leave_31 {X : KX} {S : KS} {mc ms : Nat} {E : KEnd} {ls : KL} {st : List KV} {M : KM} {cs sl : Nat} (hC : KC X mX5_leave 5 false S mc ms) (hE : KRet X mX5_leave E) (h : kblk (kroom mX5_leave mc ms) S E (KW X) kbX5_leave_31 31 ls st M cs sl) : KW X 31 ls st M cs sl := KW_blk hC hE kbX5_leave_31 31 ls st M cs sl (by decide +kernel) h
def kbX5_leave_52 : List KE := [(.iload_n 2, 1, (2, 0, 0), 0, 0), (.ireturn, 1, (0, 0, 0), 0, 0)]
theorem kwX5_leave_52 {X : KX} {S : KS} {mc ms : Nat} {E : KEnd} {ls : KL} {st : List KV} {M : KM} {cs sl : Nat} (hC : KC X mX5_leave 5 false S mc ms) (hE : KRet X mX5_leave E) (h : kblk (kroom mX5_leave mc ms) S E (KW X) kbX5_leave_52 52 ls st M cs sl) : KW X 52 ls st M cs sl := KW_blk hC hE kbX5_leave_52 52 ls st M cs sl (by decide +kernel) h
def kbX5_mean_0 : List KE := [(.aload_n 0, 1, (0, 0, 0), 0, 0), (.getfield 12, 3, (5, 0, 1), 0, 0), (.getfield 158, 3, (3, 13, 0), 0, 0), (.ifCond .ne (7), 3, (14, 0, 0), 0, 0)]
theorem kwX5_mean_0 {X : KX} {S : KS} {mc ms : Nat} {E : KEnd} {ls : KL} {st : List KV} {M : KM} {cs sl : Nat} (hC : KC X mX5_mean 5 false S mc ms) (hE : KRet X mX5_mean E) (h : kblk (kroom mX5_mean mc ms) S E (KW X) kbX5_mean_0 0 ls st M cs sl) : KW X 0 ls st M cs sl := KW_blk hC hE kbX5_mean_0 0 ls st M cs sl (by decide +kernel) h
def kbX5_mean_10 : List KE := [(.dconst 0, 1, (0, 0, 0), 0, 0), (.goto (20), 3, (31, 0, 0), 0, 0)]
theorem kwX5_mean_10 {X : KX} {S : KS} {mc ms : Nat} {E : KEnd} {ls : KL} {st : List KV} {M : KM} {cs sl : Nat} (hC : KC X mX5_mean 5 false S mc ms) (hE : KRet X mX5_mean E) (h : kblk (kroom mX5_mean mc ms) S E (KW X) kbX5_mean_10 10 ls st M cs sl) : KW X 10 ls st M cs sl := KW_blk hC hE kbX5_mean_10 10 ls st M cs sl (by decide +kernel) h
def kbX5_mean_14 : List KE := [(.aload_n 0, 1, (0, 0, 0), 0, 0), (.getfield 12, 3, (5, 0, 1), 0, 0)]
theorem kwX5_mean_14 {X : KX} {S : KS} {mc ms : Nat} {E : KEnd} {ls : KL} {st : List KV} {M : KM} {cs sl : Nat} (hC : KC X mX5_mean 5 false S mc ms) (hE : KRet X mX5_mean E) (h : kblk (kroom mX5_mean mc ms) S E (KW X) kbX5_mean_14 14 ls st M cs sl) : KW X 14 ls st M cs sl := KW_blk hC hE kbX5_mean_14 14 ls st M cs sl (by decide +kernel) h
def kbX5_mean_21 : List KE := [(.i2d, 1, (0, 0, 0), 0, 0), (.aload_n 0, 1, (0, 0, 0), 0, 0), (.getfield 12, 3, (5, 0, 1), 0, 0), (.getfield 158, 3, (3, 13, 0), 0, 0), (.i2d, 1, (0, 0, 0), 0, 0), (.ddiv, 1, (0, 0, 0), 0, 0)]
theorem kwX5_mean_21 {X : KX} {S : KS} {mc ms : Nat} {E : KEnd} {ls : KL} {st : List KV} {M : KM} {cs sl : Nat} (hC : KC X mX5_mean 5 false S mc ms) (hE : KRet X mX5_mean E) (h : kblk (kroom mX5_mean mc ms) S E (KW X) kbX5_mean_21 21 ls st M cs sl) : KW X 21 ls st M cs sl := KW_blk hC hE kbX5_mean_21 21 ls st M cs sl (by decide +kernel) h
def kbX5_mean_31 : List KE := [(.dreturn, 1, (0, 0, 0), 0, 0)]
theorem kwX5_mean_31 {X : KX} {S : KS} {mc ms : Nat} {E : KEnd} {ls : KL} {st : List KV} {M : KM} {cs sl : Nat} (hC : KC X mX5_mean 5 false S mc ms) (hE : KRet X mX5_mean E) (h : kblk (kroom mX5_mean mc ms) S E (KW X) kbX5_mean_31 31 ls st M cs sl) : KW X 31 ls st M cs sl := KW_blk hC hE kbX5_mean_31 31 ls st M cs sl (by decide +kernel) h
def kbX5_mixed_0 : List KE := [(.lload_n 0, 1, (0, 0, 0), 0, 0), (.ldc2_w 201, 3, (0, 0, 0), 0, 31), (.lmul, 1, (0, 0, 0), 0, 0), (.lload_n 2, 1, (2, 0, 0), 0, 0), (.ladd, 1, (0, 0, 0), 0, 0), (.lreturn, 1, (0, 0, 0), 0, 0)]
theorem kwX5_mixed_0 {X : KX} {S : KS} {mc ms : Nat} {E : KEnd} {ls : KL} {st : List KV} {M : KM} {cs sl : Nat} (hC : KC X mX5_mixed 5 false S mc ms) (hE : KRet X mX5_mixed E) (h : kblk (kroom mX5_mixed mc ms) S E (KW X) kbX5_mixed_0 0 ls st M cs sl) : KW X 0 ls st M cs sl := KW_blk hC hE kbX5_mixed_0 0 ls st M cs sl (by decide +kernel) h
def kbX5_mixedWithChairs_0 : List KE := [(.lload_n 1, 1, (1, 0, 0), 0, 0), (.lstore_n 3, 1, (3, 0, 0), 0, 0), (.iconst 0, 1, (0, 0, 0), 0, 0), (.istore 5, 2, (5, 0, 0), 0, 0)]
theorem kwX5_mixedWithChairs_0 {X : KX} {S : KS} {mc ms : Nat} {E : KEnd} {ls : KL} {st : List KV} {M : KM} {cs sl : Nat} (hC : KC X mX5_mixedWithChairs 5 false S mc ms) (hE : KRet X mX5_mixedWithChairs E) (h : kblk (kroom mX5_mixedWithChairs mc ms) S E (KW X) kbX5_mixedWithChairs_0 0 ls st M cs sl) : KW X 0 ls st M cs sl := KW_blk hC hE kbX5_mixedWithChairs_0 0 ls st M cs sl (by decide +kernel) h
def kbX5_mixedWithChairs_5 : List KE := [(.iload 5, 2, (5, 0, 0), 0, 0), (.aload_n 0, 1, (0, 0, 0), 0, 0), (.getfield 12, 3, (5, 0, 1), 0, 0), (.getfield 38, 3, (3, 5, 0), 0, 0), (.if_icmp .ge (45), 3, (59, 0, 0), 0, 0)]
theorem kwX5_mixedWithChairs_5 {X : KX} {S : KS} {mc ms : Nat} {E : KEnd} {ls : KL} {st : List KV} {M : KM} {cs sl : Nat} (hC : KC X mX5_mixedWithChairs 5 false S mc ms) (hE : KRet X mX5_mixedWithChairs E) (h : kblk (kroom mX5_mixedWithChairs mc ms) S E (KW X) kbX5_mixedWithChairs_5 5 ls st M cs sl) : KW X 5 ls st M cs sl := KW_blk hC hE kbX5_mixedWithChairs_5 5 ls st M cs sl (by decide +kernel) h
def kbX5_mixedWithChairs_17 : List KE := [(.iconst 0, 1, (0, 0, 0), 0, 0), (.istore 6, 2, (6, 0, 0), 0, 0)]
theorem kwX5_mixedWithChairs_17 {X : KX} {S : KS} {mc ms : Nat} {E : KEnd} {ls : KL} {st : List KV} {M : KM} {cs sl : Nat} (hC : KC X mX5_mixedWithChairs 5 false S mc ms) (hE : KRet X mX5_mixedWithChairs E) (h : kblk (kroom mX5_mixedWithChairs mc ms) S E (KW X) kbX5_mixedWithChairs_17 17 ls st M cs sl) : KW X 17 ls st M cs sl := KW_blk hC hE kbX5_mixedWithChairs_17 17 ls st M cs sl (by decide +kernel) h
def kbX5_mixedWithChairs_20 : List KE := [(.iload 6, 2, (6, 0, 0), 0, 0), (.iconst 5, 1, (0, 0, 0), 5, 0), (.if_icmp .ge (30), 3, (53, 0, 0), 0, 0)]
theorem kwX5_mixedWithChairs_20 {X : KX} {S : KS} {mc ms : Nat} {E : KEnd} {ls : KL} {st : List KV} {M : KM} {cs sl : Nat} (hC : KC X mX5_mixedWithChairs 5 false S mc ms) (hE : KRet X mX5_mixedWithChairs E) (h : kblk (kroom mX5_mixedWithChairs mc ms) S E (KW X) kbX5_mixedWithChairs_20 20 ls st M cs sl) : KW X 20 ls st M cs sl := KW_blk hC hE kbX5_mixedWithChairs_20 20 ls st M cs sl (by decide +kernel) h
def kbX5_mixedWithChairs_26 : List KE := [(.lload_n 3, 1, (3, 0, 0), 0, 0), (.aload_n 0, 1, (0, 0, 0), 0, 0), (.getfield 12, 3, (5, 0, 1), 0, 0), (.getfield 124, 3, (3, 1, 1), 0, 0), (.iload 5, 2, (5, 0, 0), 0, 0), (.aaload, 1, (0, 0, 0), 0, 0), (.iload 6, 2, (6, 0, 0), 0, 0)]
theorem kwX5_mixedWithChairs_26 {X : KX} {S : KS} {mc ms : Nat} {E : KEnd} {ls : KL} {st : List KV} {M : KM} {cs sl : Nat} (hC : KC X mX5_mixedWithChairs 5 false S mc ms) (hE : KRet X mX5_mixedWithChairs E) (h : kblk (kroom mX5_mixedWithChairs mc ms) S E (KW X) kbX5_mixedWithChairs_26 26 ls st M cs sl) : KW X 26 ls st M cs sl := KW_blk hC hE kbX5_mixedWithChairs_26 26 ls st M cs sl (by decide +kernel) h
def kbX5_mixedWithChairs_42 : List KE := [(.i2l, 1, (0, 0, 0), 0, 0)]
theorem kwX5_mixedWithChairs_42 {X : KX} {S : KS} {mc ms : Nat} {E : KEnd} {ls : KL} {st : List KV} {M : KM} {cs sl : Nat} (hC : KC X mX5_mixedWithChairs 5 false S mc ms) (hE : KRet X mX5_mixedWithChairs E) (h : kblk (kroom mX5_mixedWithChairs mc ms) S E (KW X) kbX5_mixedWithChairs_42 42 ls st M cs sl) : KW X 42 ls st M cs sl := KW_blk hC hE kbX5_mixedWithChairs_42 42 ls st M cs sl (by decide +kernel) h
def kbX5_mixedWithChairs_46 : List KE := [(.lstore_n 3, 1, (3, 0, 0), 0, 0), (.iinc 6 (1), 3, (6, 0, 0), 1, 0), (.goto (-30), 3, (20, 0, 0), 0, 0)]
theorem kwX5_mixedWithChairs_46 {X : KX} {S : KS} {mc ms : Nat} {E : KEnd} {ls : KL} {st : List KV} {M : KM} {cs sl : Nat} (hC : KC X mX5_mixedWithChairs 5 false S mc ms) (hE : KRet X mX5_mixedWithChairs E) (h : kblk (kroom mX5_mixedWithChairs mc ms) S E (KW X) kbX5_mixedWithChairs_46 46 ls st M cs sl) : KW X 46 ls st M cs sl := KW_blk hC hE kbX5_mixedWithChairs_46 46 ls st M cs sl (by decide +kernel) h
def kbX5_mixedWithChairs_53 : List KE := [(.iinc 5 (1), 3, (5, 0, 0), 1, 0), (.goto (-51), 3, (5, 0, 0), 0, 0)]
theorem kwX5_mixedWithChairs_53 {X : KX} {S : KS} {mc ms : Nat} {E : KEnd} {ls : KL} {st : List KV} {M : KM} {cs sl : Nat} (hC : KC X mX5_mixedWithChairs 5 false S mc ms) (hE : KRet X mX5_mixedWithChairs E) (h : kblk (kroom mX5_mixedWithChairs mc ms) S E (KW X) kbX5_mixedWithChairs_53 53 ls st M cs sl) : KW X 53 ls st M cs sl := KW_blk hC hE kbX5_mixedWithChairs_53 53 ls st M cs sl (by decide +kernel) h
def kbX5_mixedWithChairs_59 : List KE := [(.lload_n 3, 1, (3, 0, 0), 0, 0), (.lreturn, 1, (0, 0, 0), 0, 0)]
theorem kwX5_mixedWithChairs_59 {X : KX} {S : KS} {mc ms : Nat} {E : KEnd} {ls : KL} {st : List KV} {M : KM} {cs sl : Nat} (hC : KC X mX5_mixedWithChairs 5 false S mc ms) (hE : KRet X mX5_mixedWithChairs E) (h : kblk (kroom mX5_mixedWithChairs mc ms) S E (KW X) kbX5_mixedWithChairs_59 59 ls st M cs sl) : KW X 59 ls st M cs sl := KW_blk hC hE kbX5_mixedWithChairs_59 59 ls st M cs sl (by decide +kernel) h
def kbX5_mixedWithGroups_0 : List KE := [(.lload_n 1, 1, (1, 0, 0), 0, 0), (.lstore_n 3, 1, (3, 0, 0), 0, 0), (.iconst 0, 1, (0, 0, 0), 0, 0), (.istore 5, 2, (5, 0, 0), 0, 0)]
theorem kwX5_mixedWithGroups_0 {X : KX} {S : KS} {mc ms : Nat} {E : KEnd} {ls : KL} {st : List KV} {M : KM} {cs sl : Nat} (hC : KC X mX5_mixedWithGroups 5 false S mc ms) (hE : KRet X mX5_mixedWithGroups E) (h : kblk (kroom mX5_mixedWithGroups mc ms) S E (KW X) kbX5_mixedWithGroups_0 0 ls st M cs sl) : KW X 0 ls st M cs sl := KW_blk hC hE kbX5_mixedWithGroups_0 0 ls st M cs sl (by decide +kernel) h
def kbX5_mixedWithGroups_5 : List KE := [(.iload 5, 2, (5, 0, 0), 0, 0), (.aload_n 0, 1, (0, 0, 0), 0, 0), (.getfield 12, 3, (5, 0, 1), 0, 0), (.getfield 79, 3, (3, 7, 0), 0, 0), (.if_icmp .ge (46), 3, (60, 0, 0), 0, 0)]
theorem kwX5_mixedWithGroups_5 {X : KX} {S : KS} {mc ms : Nat} {E : KEnd} {ls : KL} {st : List KV} {M : KM} {cs sl : Nat} (hC : KC X mX5_mixedWithGroups 5 false S mc ms) (hE : KRet X mX5_mixedWithGroups E) (h : kblk (kroom mX5_mixedWithGroups mc ms) S E (KW X) kbX5_mixedWithGroups_5 5 ls st M cs sl) : KW X 5 ls st M cs sl := KW_blk hC hE kbX5_mixedWithGroups_5 5 ls st M cs sl (by decide +kernel) h
def kbX5_mixedWithGroups_17 : List KE := [(.iconst 0, 1, (0, 0, 0), 0, 0), (.istore 6, 2, (6, 0, 0), 0, 0)]
theorem kwX5_mixedWithGroups_17 {X : KX} {S : KS} {mc ms : Nat} {E : KEnd} {ls : KL} {st : List KV} {M : KM} {cs sl : Nat} (hC : KC X mX5_mixedWithGroups 5 false S mc ms) (hE : KRet X mX5_mixedWithGroups E) (h : kblk (kroom mX5_mixedWithGroups mc ms) S E (KW X) kbX5_mixedWithGroups_17 17 ls st M cs sl) : KW X 17 ls st M cs sl := KW_blk hC hE kbX5_mixedWithGroups_17 17 ls st M cs sl (by decide +kernel) h
def kbX5_mixedWithGroups_20 : List KE := [(.iload 6, 2, (6, 0, 0), 0, 0), (.bipush (8), 2, (0, 0, 0), 8, 0), (.if_icmp .ge (30), 3, (54, 0, 0), 0, 0)]
theorem kwX5_mixedWithGroups_20 {X : KX} {S : KS} {mc ms : Nat} {E : KEnd} {ls : KL} {st : List KV} {M : KM} {cs sl : Nat} (hC : KC X mX5_mixedWithGroups 5 false S mc ms) (hE : KRet X mX5_mixedWithGroups E) (h : kblk (kroom mX5_mixedWithGroups mc ms) S E (KW X) kbX5_mixedWithGroups_20 20 ls st M cs sl) : KW X 20 ls st M cs sl := KW_blk hC hE kbX5_mixedWithGroups_20 20 ls st M cs sl (by decide +kernel) h
def kbX5_mixedWithGroups_27 : List KE := [(.lload_n 3, 1, (3, 0, 0), 0, 0), (.aload_n 0, 1, (0, 0, 0), 0, 0), (.getfield 12, 3, (5, 0, 1), 0, 0), (.getfield 89, 3, (3, 3, 1), 0, 0), (.iload 5, 2, (5, 0, 0), 0, 0), (.aaload, 1, (0, 0, 0), 0, 0), (.iload 6, 2, (6, 0, 0), 0, 0)]
theorem kwX5_mixedWithGroups_27 {X : KX} {S : KS} {mc ms : Nat} {E : KEnd} {ls : KL} {st : List KV} {M : KM} {cs sl : Nat} (hC : KC X mX5_mixedWithGroups 5 false S mc ms) (hE : KRet X mX5_mixedWithGroups E) (h : kblk (kroom mX5_mixedWithGroups mc ms) S E (KW X) kbX5_mixedWithGroups_27 27 ls st M cs sl) : KW X 27 ls st M cs sl := KW_blk hC hE kbX5_mixedWithGroups_27 27 ls st M cs sl (by decide +kernel) h
def kbX5_mixedWithGroups_43 : List KE := [(.i2l, 1, (0, 0, 0), 0, 0)]
theorem kwX5_mixedWithGroups_43 {X : KX} {S : KS} {mc ms : Nat} {E : KEnd} {ls : KL} {st : List KV} {M : KM} {cs sl : Nat} (hC : KC X mX5_mixedWithGroups 5 false S mc ms) (hE : KRet X mX5_mixedWithGroups E) (h : kblk (kroom mX5_mixedWithGroups mc ms) S E (KW X) kbX5_mixedWithGroups_43 43 ls st M cs sl) : KW X 43 ls st M cs sl := KW_blk hC hE kbX5_mixedWithGroups_43 43 ls st M cs sl (by decide +kernel) h
def kbX5_mixedWithGroups_47 : List KE := [(.lstore_n 3, 1, (3, 0, 0), 0, 0), (.iinc 6 (1), 3, (6, 0, 0), 1, 0), (.goto (-31), 3, (20, 0, 0), 0, 0)]
theorem kwX5_mixedWithGroups_47 {X : KX} {S : KS} {mc ms : Nat} {E : KEnd} {ls : KL} {st : List KV} {M : KM} {cs sl : Nat} (hC : KC X mX5_mixedWithGroups 5 false S mc ms) (hE : KRet X mX5_mixedWithGroups E) (h : kblk (kroom mX5_mixedWithGroups mc ms) S E (KW X) kbX5_mixedWithGroups_47 47 ls st M cs sl) : KW X 47 ls st M cs sl := KW_blk hC hE kbX5_mixedWithGroups_47 47 ls st M cs sl (by decide +kernel) h
def kbX5_mixedWithGroups_54 : List KE := [(.iinc 5 (1), 3, (5, 0, 0), 1, 0), (.goto (-52), 3, (5, 0, 0), 0, 0)]
theorem kwX5_mixedWithGroups_54 {X : KX} {S : KS} {mc ms : Nat} {E : KEnd} {ls : KL} {st : List KV} {M : KM} {cs sl : Nat} (hC : KC X mX5_mixedWithGroups 5 false S mc ms) (hE : KRet X mX5_mixedWithGroups E) (h : kblk (kroom mX5_mixedWithGroups mc ms) S E (KW X) kbX5_mixedWithGroups_54 54 ls st M cs sl) : KW X 54 ls st M cs sl := KW_blk hC hE kbX5_mixedWithGroups_54 54 ls st M cs sl (by decide +kernel) h
def kbX5_mixedWithGroups_60 : List KE := [(.lload_n 3, 1, (3, 0, 0), 0, 0), (.lreturn, 1, (0, 0, 0), 0, 0)]
theorem kwX5_mixedWithGroups_60 {X : KX} {S : KS} {mc ms : Nat} {E : KEnd} {ls : KL} {st : List KV} {M : KM} {cs sl : Nat} (hC : KC X mX5_mixedWithGroups 5 false S mc ms) (hE : KRet X mX5_mixedWithGroups E) (h : kblk (kroom mX5_mixedWithGroups mc ms) S E (KW X) kbX5_mixedWithGroups_60 60 ls st M cs sl) : KW X 60 ls st M cs sl := KW_blk hC hE kbX5_mixedWithGroups_60 60 ls st M cs sl (by decide +kernel) h
def kbX5_mixedWithLanes_0 : List KE := [(.lload_n 1, 1, (1, 0, 0), 0, 0), (.lstore_n 3, 1, (3, 0, 0), 0, 0), (.iconst 0, 1, (0, 0, 0), 0, 0), (.istore 5, 2, (5, 0, 0), 0, 0)]
theorem kwX5_mixedWithLanes_0 {X : KX} {S : KS} {mc ms : Nat} {E : KEnd} {ls : KL} {st : List KV} {M : KM} {cs sl : Nat} (hC : KC X mX5_mixedWithLanes 5 false S mc ms) (hE : KRet X mX5_mixedWithLanes E) (h : kblk (kroom mX5_mixedWithLanes mc ms) S E (KW X) kbX5_mixedWithLanes_0 0 ls st M cs sl) : KW X 0 ls st M cs sl := KW_blk hC hE kbX5_mixedWithLanes_0 0 ls st M cs sl (by decide +kernel) h
def kbX5_mixedWithLanes_5 : List KE := [(.iload 5, 2, (5, 0, 0), 0, 0), (.aload_n 0, 1, (0, 0, 0), 0, 0), (.getfield 12, 3, (5, 0, 1), 0, 0), (.getfield 48, 3, (3, 6, 0), 0, 0), (.if_icmp .ge (59), 3, (73, 0, 0), 0, 0)]
theorem kwX5_mixedWithLanes_5 {X : KX} {S : KS} {mc ms : Nat} {E : KEnd} {ls : KL} {st : List KV} {M : KM} {cs sl : Nat} (hC : KC X mX5_mixedWithLanes 5 false S mc ms) (hE : KRet X mX5_mixedWithLanes E) (h : kblk (kroom mX5_mixedWithLanes mc ms) S E (KW X) kbX5_mixedWithLanes_5 5 ls st M cs sl) : KW X 5 ls st M cs sl := KW_blk hC hE kbX5_mixedWithLanes_5 5 ls st M cs sl (by decide +kernel) h
def kbX5_mixedWithLanes_17 : List KE := [(.iconst 0, 1, (0, 0, 0), 0, 0), (.istore 6, 2, (6, 0, 0), 0, 0)]
theorem kwX5_mixedWithLanes_17 {X : KX} {S : KS} {mc ms : Nat} {E : KEnd} {ls : KL} {st : List KV} {M : KM} {cs sl : Nat} (hC : KC X mX5_mixedWithLanes 5 false S mc ms) (hE : KRet X mX5_mixedWithLanes E) (h : kblk (kroom mX5_mixedWithLanes mc ms) S E (KW X) kbX5_mixedWithLanes_17 17 ls st M cs sl) : KW X 17 ls st M cs sl := KW_blk hC hE kbX5_mixedWithLanes_17 17 ls st M cs sl (by decide +kernel) h
def kbX5_mixedWithLanes_20 : List KE := [(.iload 6, 2, (6, 0, 0), 0, 0), (.iconst 4, 1, (0, 0, 0), 4, 0), (.if_icmp .ge (26), 3, (49, 0, 0), 0, 0)]
theorem kwX5_mixedWithLanes_20 {X : KX} {S : KS} {mc ms : Nat} {E : KEnd} {ls : KL} {st : List KV} {M : KM} {cs sl : Nat} (hC : KC X mX5_mixedWithLanes 5 false S mc ms) (hE : KRet X mX5_mixedWithLanes E) (h : kblk (kroom mX5_mixedWithLanes mc ms) S E (KW X) kbX5_mixedWithLanes_20 20 ls st M cs sl) : KW X 20 ls st M cs sl := KW_blk hC hE kbX5_mixedWithLanes_20 20 ls st M cs sl (by decide +kernel) h
def kbX5_mixedWithLanes_26 : List KE := [(.lload_n 3, 1, (3, 0, 0), 0, 0), (.aload_n 0, 1, (0, 0, 0), 0, 0), (.getfield 12, 3, (5, 0, 1), 0, 0), (.iload 5, 2, (5, 0, 0), 0, 0), (.iload 6, 2, (6, 0, 0), 0, 0)]
theorem kwX5_mixedWithLanes_26 {X : KX} {S : KS} {mc ms : Nat} {E : KEnd} {ls : KL} {st : List KV} {M : KM} {cs sl : Nat} (hC : KC X mX5_mixedWithLanes 5 false S mc ms) (hE : KRet X mX5_mixedWithLanes E) (h : kblk (kroom mX5_mixedWithLanes mc ms) S E (KW X) kbX5_mixedWithLanes_26 26 ls st M cs sl) : KW X 26 ls st M cs sl := KW_blk hC hE kbX5_mixedWithLanes_26 26 ls st M cs sl (by decide +kernel) h
def kbX5_mixedWithLanes_38 : List KE := [(.i2l, 1, (0, 0, 0), 0, 0)]
theorem kwX5_mixedWithLanes_38 {X : KX} {S : KS} {mc ms : Nat} {E : KEnd} {ls : KL} {st : List KV} {M : KM} {cs sl : Nat} (hC : KC X mX5_mixedWithLanes 5 false S mc ms) (hE : KRet X mX5_mixedWithLanes E) (h : kblk (kroom mX5_mixedWithLanes mc ms) S E (KW X) kbX5_mixedWithLanes_38 38 ls st M cs sl) : KW X 38 ls st M cs sl := KW_blk hC hE kbX5_mixedWithLanes_38 38 ls st M cs sl (by decide +kernel) h
def kbX5_mixedWithLanes_42 : List KE := [(.lstore_n 3, 1, (3, 0, 0), 0, 0), (.iinc 6 (1), 3, (6, 0, 0), 1, 0), (.goto (-26), 3, (20, 0, 0), 0, 0)]
theorem kwX5_mixedWithLanes_42 {X : KX} {S : KS} {mc ms : Nat} {E : KEnd} {ls : KL} {st : List KV} {M : KM} {cs sl : Nat} (hC : KC X mX5_mixedWithLanes 5 false S mc ms) (hE : KRet X mX5_mixedWithLanes E) (h : kblk (kroom mX5_mixedWithLanes mc ms) S E (KW X) kbX5_mixedWithLanes_42 42 ls st M cs sl) : KW X 42 ls st M cs sl := KW_blk hC hE kbX5_mixedWithLanes_42 42 ls st M cs sl (by decide +kernel) h
def kbX5_mixedWithLanes_49 : List KE := [(.lload_n 3, 1, (3, 0, 0), 0, 0), (.aload_n 0, 1, (0, 0, 0), 0, 0), (.getfield 12, 3, (5, 0, 1), 0, 0), (.getfield 61, 3, (3, 2, 1), 0, 0), (.iload 5, 2, (5, 0, 0), 0, 0), (.aaload, 1, (0, 0, 0), 0, 0), (.getfield 106, 3, (2, 0, 1), 0, 0)]
theorem kwX5_mixedWithLanes_49 {X : KX} {S : KS} {mc ms : Nat} {E : KEnd} {ls : KL} {st : List KV} {M : KM} {cs sl : Nat} (hC : KC X mX5_mixedWithLanes 5 false S mc ms) (hE : KRet X mX5_mixedWithLanes E) (h : kblk (kroom mX5_mixedWithLanes mc ms) S E (KW X) kbX5_mixedWithLanes_49 49 ls st M cs sl) : KW X 49 ls st M cs sl := KW_blk hC hE kbX5_mixedWithLanes_49 49 ls st M cs sl (by decide +kernel) h
def kbX5_mixedWithLanes_66 : List KE := [(.lstore_n 3, 1, (3, 0, 0), 0, 0), (.iinc 5 (1), 3, (5, 0, 0), 1, 0), (.goto (-65), 3, (5, 0, 0), 0, 0)]
theorem kwX5_mixedWithLanes_66 {X : KX} {S : KS} {mc ms : Nat} {E : KEnd} {ls : KL} {st : List KV} {M : KM} {cs sl : Nat} (hC : KC X mX5_mixedWithLanes 5 false S mc ms) (hE : KRet X mX5_mixedWithLanes E) (h : kblk (kroom mX5_mixedWithLanes mc ms) S E (KW X) kbX5_mixedWithLanes_66 66 ls st M cs sl) : KW X 66 ls st M cs sl := KW_blk hC hE kbX5_mixedWithLanes_66 66 ls st M cs sl (by decide +kernel) h
def kbX5_mixedWithLanes_73 : List KE := [(.lload_n 3, 1, (3, 0, 0), 0, 0), (.lreturn, 1, (0, 0, 0), 0, 0)]
theorem kwX5_mixedWithLanes_73 {X : KX} {S : KS} {mc ms : Nat} {E : KEnd} {ls : KL} {st : List KV} {M : KM} {cs sl : Nat} (hC : KC X mX5_mixedWithLanes 5 false S mc ms) (hE : KRet X mX5_mixedWithLanes E) (h : kblk (kroom mX5_mixedWithLanes mc ms) S E (KW X) kbX5_mixedWithLanes_73 73 ls st M cs sl) : KW X 73 ls st M cs sl := KW_blk hC hE kbX5_mixedWithLanes_73 73 ls st M cs sl (by decide +kernel) h
def kbX5_mixedWithRow_0 : List KE := [(.lload_n 0, 1, (0, 0, 0), 0, 0), (.lstore_n 3, 1, (3, 0, 0), 0, 0), (.iconst 0, 1, (0, 0, 0), 0, 0), (.istore 5, 2, (5, 0, 0), 0, 0)]
theorem kwX5_mixedWithRow_0 {X : KX} {S : KS} {mc ms : Nat} {E : KEnd} {ls : KL} {st : List KV} {M : KM} {cs sl : Nat} (hC : KC X mX5_mixedWithRow 5 false S mc ms) (hE : KRet X mX5_mixedWithRow E) (h : kblk (kroom mX5_mixedWithRow mc ms) S E (KW X) kbX5_mixedWithRow_0 0 ls st M cs sl) : KW X 0 ls st M cs sl := KW_blk hC hE kbX5_mixedWithRow_0 0 ls st M cs sl (by decide +kernel) h
def kbX5_mixedWithRow_5 : List KE := [(.iload 5, 2, (5, 0, 0), 0, 0), (.aload_n 2, 1, (2, 0, 0), 0, 0), (.getfield 110, 3, (4, 1, 0), 0, 0), (.if_icmp .ge (22), 3, (33, 0, 0), 0, 0)]
theorem kwX5_mixedWithRow_5 {X : KX} {S : KS} {mc ms : Nat} {E : KEnd} {ls : KL} {st : List KV} {M : KM} {cs sl : Nat} (hC : KC X mX5_mixedWithRow 5 false S mc ms) (hE : KRet X mX5_mixedWithRow E) (h : kblk (kroom mX5_mixedWithRow mc ms) S E (KW X) kbX5_mixedWithRow_5 5 ls st M cs sl) : KW X 5 ls st M cs sl := KW_blk hC hE kbX5_mixedWithRow_5 5 ls st M cs sl (by decide +kernel) h
def kbX5_mixedWithRow_14 : List KE := [(.lload_n 3, 1, (3, 0, 0), 0, 0), (.aload_n 2, 1, (2, 0, 0), 0, 0), (.getfield 135, 3, (4, 0, 1), 0, 0), (.iload 5, 2, (5, 0, 0), 0, 0), (.iaload, 1, (0, 0, 0), 0, 0), (.i2l, 1, (0, 0, 0), 0, 0)]
theorem kwX5_mixedWithRow_14 {X : KX} {S : KS} {mc ms : Nat} {E : KEnd} {ls : KL} {st : List KV} {M : KM} {cs sl : Nat} (hC : KC X mX5_mixedWithRow 5 false S mc ms) (hE : KRet X mX5_mixedWithRow E) (h : kblk (kroom mX5_mixedWithRow mc ms) S E (KW X) kbX5_mixedWithRow_14 14 ls st M cs sl) : KW X 14 ls st M cs sl := KW_blk hC hE kbX5_mixedWithRow_14 14 ls st M cs sl (by decide +kernel) h
def kbX5_mixedWithRow_26 : List KE := [(.lstore_n 3, 1, (3, 0, 0), 0, 0), (.iinc 5 (1), 3, (5, 0, 0), 1, 0), (.goto (-25), 3, (5, 0, 0), 0, 0)]
theorem kwX5_mixedWithRow_26 {X : KX} {S : KS} {mc ms : Nat} {E : KEnd} {ls : KL} {st : List KV} {M : KM} {cs sl : Nat} (hC : KC X mX5_mixedWithRow 5 false S mc ms) (hE : KRet X mX5_mixedWithRow E) (h : kblk (kroom mX5_mixedWithRow mc ms) S E (KW X) kbX5_mixedWithRow_26 26 ls st M cs sl) : KW X 26 ls st M cs sl := KW_blk hC hE kbX5_mixedWithRow_26 26 ls st M cs sl (by decide +kernel) h
def kbX5_mixedWithRow_33 : List KE := [(.lload_n 3, 1, (3, 0, 0), 0, 0), (.lreturn, 1, (0, 0, 0), 0, 0)]
theorem kwX5_mixedWithRow_33 {X : KX} {S : KS} {mc ms : Nat} {E : KEnd} {ls : KL} {st : List KV} {M : KM} {cs sl : Nat} (hC : KC X mX5_mixedWithRow 5 false S mc ms) (hE : KRet X mX5_mixedWithRow E) (h : kblk (kroom mX5_mixedWithRow mc ms) S E (KW X) kbX5_mixedWithRow_33 33 ls st M cs sl) : KW X 33 ls st M cs sl := KW_blk hC hE kbX5_mixedWithRow_33 33 ls st M cs sl (by decide +kernel) h
def kbX5_needs_0 : List KE := [(.iload_n 1, 1, (1, 0, 0), 0, 0), (.iconst 1, 1, (0, 0, 0), 1, 0), (.sipush (500), 3, (0, 0, 0), 500, 0)]
theorem kwX5_needs_0 {X : KX} {S : KS} {mc ms : Nat} {E : KEnd} {ls : KL} {st : List KV} {M : KM} {cs sl : Nat} (hC : KC X mX5_needs 5 false S mc ms) (hE : KRet X mX5_needs E) (h : kblk (kroom mX5_needs mc ms) S E (KW X) kbX5_needs_0 0 ls st M cs sl) : KW X 0 ls st M cs sl := KW_blk hC hE kbX5_needs_0 0 ls st M cs sl (by decide +kernel) h
def kbX5_needs_8 : List KE := [(.ifCond .eq (17), 3, (25, 0, 0), 0, 0)]
theorem kwX5_needs_8 {X : KX} {S : KS} {mc ms : Nat} {E : KEnd} {ls : KL} {st : List KV} {M : KM} {cs sl : Nat} (hC : KC X mX5_needs 5 false S mc ms) (hE : KRet X mX5_needs E) (h : kblk (kroom mX5_needs mc ms) S E (KW X) kbX5_needs_8 8 ls st M cs sl) : KW X 8 ls st M cs sl := KW_blk hC hE kbX5_needs_8 8 ls st M cs sl (by decide +kernel) h
def kbX5_needs_11 : List KE := [(.iload_n 2, 1, (2, 0, 0), 0, 0), (.iconst 1, 1, (0, 0, 0), 1, 0), (.bipush (100), 2, (0, 0, 0), 100, 0)]
theorem kwX5_needs_11 {X : KX} {S : KS} {mc ms : Nat} {E : KEnd} {ls : KL} {st : List KV} {M : KM} {cs sl : Nat} (hC : KC X mX5_needs 5 false S mc ms) (hE : KRet X mX5_needs E) (h : kblk (kroom mX5_needs mc ms) S E (KW X) kbX5_needs_11 11 ls st M cs sl) : KW X 11 ls st M cs sl := KW_blk hC hE kbX5_needs_11 11 ls st M cs sl (by decide +kernel) h
def kbX5_needs_18 : List KE := [(.ifCond .eq (7), 3, (25, 0, 0), 0, 0)]
theorem kwX5_needs_18 {X : KX} {S : KS} {mc ms : Nat} {E : KEnd} {ls : KL} {st : List KV} {M : KM} {cs sl : Nat} (hC : KC X mX5_needs 5 false S mc ms) (hE : KRet X mX5_needs E) (h : kblk (kroom mX5_needs mc ms) S E (KW X) kbX5_needs_18 18 ls st M cs sl) : KW X 18 ls st M cs sl := KW_blk hC hE kbX5_needs_18 18 ls st M cs sl (by decide +kernel) h
def kbX5_needs_21 : List KE := [(.iconst 1, 1, (0, 0, 0), 1, 0), (.goto (4), 3, (26, 0, 0), 0, 0)]
theorem kwX5_needs_21 {X : KX} {S : KS} {mc ms : Nat} {E : KEnd} {ls : KL} {st : List KV} {M : KM} {cs sl : Nat} (hC : KC X mX5_needs 5 false S mc ms) (hE : KRet X mX5_needs E) (h : kblk (kroom mX5_needs mc ms) S E (KW X) kbX5_needs_21 21 ls st M cs sl) : KW X 21 ls st M cs sl := KW_blk hC hE kbX5_needs_21 21 ls st M cs sl (by decide +kernel) h
def kbX5_needs_25 : List KE := [(.iconst 0, 1, (0, 0, 0), 0, 0)]
theorem kwX5_needs_25 {X : KX} {S : KS} {mc ms : Nat} {E : KEnd} {ls : KL} {st : List KV} {M : KM} {cs sl : Nat} (hC : KC X mX5_needs 5 false S mc ms) (hE : KRet X mX5_needs E) (h : kblk (kroom mX5_needs mc ms) S E (KW X) kbX5_needs_25 25 ls st M cs sl) : KW X 25 ls st M cs sl := KW_blk hC hE kbX5_needs_25 25 ls st M cs sl (by decide +kernel) h
def kbX5_needs_29 : List KE := [(.iconst 0, 1, (0, 0, 0), 0, 0), (.istore_n 3, 1, (3, 0, 0), 0, 0)]
theorem kwX5_needs_29 {X : KX} {S : KS} {mc ms : Nat} {E : KEnd} {ls : KL} {st : List KV} {M : KM} {cs sl : Nat} (hC : KC X mX5_needs 5 false S mc ms) (hE : KRet X mX5_needs E) (h : kblk (kroom mX5_needs mc ms) S E (KW X) kbX5_needs_29 29 ls st M cs sl) : KW X 29 ls st M cs sl := KW_blk hC hE kbX5_needs_29 29 ls st M cs sl (by decide +kernel) h
def kbX5_needs_31 : List KE := [(.iload_n 3, 1, (3, 0, 0), 0, 0), (.aload_n 0, 1, (0, 0, 0), 0, 0), (.getfield 12, 3, (5, 0, 1), 0, 0), (.getfield 38, 3, (3, 5, 0), 0, 0), (.if_icmp .gt (42), 3, (81, 0, 0), 0, 0)]
theorem kwX5_needs_31 {X : KX} {S : KS} {mc ms : Nat} {E : KEnd} {ls : KL} {st : List KV} {M : KM} {cs sl : Nat} (hC : KC X mX5_needs 5 false S mc ms) (hE : KRet X mX5_needs E) (h : kblk (kroom mX5_needs mc ms) S E (KW X) kbX5_needs_31 31 ls st M cs sl) : KW X 31 ls st M cs sl := KW_blk hC hE kbX5_needs_31 31 ls st M cs sl (by decide +kernel) h
def kbX5_needs_42 : List KE := [(.aload_n 0, 1, (0, 0, 0), 0, 0), (.getfield 16, 3, (5, 1, 1), 0, 0), (.aload_n 0, 1, (0, 0, 0), 0, 0), (.getfield 12, 3, (5, 0, 1), 0, 0)]
theorem kwX5_needs_42 {X : KX} {S : KS} {mc ms : Nat} {E : KEnd} {ls : KL} {st : List KV} {M : KM} {cs sl : Nat} (hC : KC X mX5_needs 5 false S mc ms) (hE : KRet X mX5_needs E) (h : kblk (kroom mX5_needs mc ms) S E (KW X) kbX5_needs_42 42 ls st M cs sl) : KW X 42 ls st M cs sl := KW_blk hC hE kbX5_needs_42 42 ls st M cs sl (by decide +kernel) h
def kbX5_needs_53 : List KE := [(.aload_n 0, 1, (0, 0, 0), 0, 0), (.getfield 16, 3, (5, 1, 1), 0, 0), (.iload_n 3, 1, (3, 0, 0), 0, 0), (.putfield 45, 3, (3, 9, 0), 0, 0), (.aload_n 0, 1, (0, 0, 0), 0, 0), (.getfield 16, 3, (5, 1, 1), 0, 0), (.iload_n 2, 1, (2, 0, 0), 0, 0)]
theorem kwX5_needs_53 {X : KX} {S : KS} {mc ms : Nat} {E : KEnd} {ls : KL} {st : List KV} {M : KM} {cs sl : Nat} (hC : KC X mX5_needs 5 false S mc ms) (hE : KRet X mX5_needs E) (h : kblk (kroom mX5_needs mc ms) S E (KW X) kbX5_needs_53 53 ls st M cs sl) : KW X 53 ls st M cs sl := KW_blk hC hE kbX5_needs_53 53 ls st M cs sl (by decide +kernel) h
def kbX5_needs_69 : List KE := [(.iload_n 1, 1, (1, 0, 0), 0, 0), (.if_icmp .lt (5), 3, (75, 0, 0), 0, 0)]
theorem kwX5_needs_69 {X : KX} {S : KS} {mc ms : Nat} {E : KEnd} {ls : KL} {st : List KV} {M : KM} {cs sl : Nat} (hC : KC X mX5_needs 5 false S mc ms) (hE : KRet X mX5_needs E) (h : kblk (kroom mX5_needs mc ms) S E (KW X) kbX5_needs_69 69 ls st M cs sl) : KW X 69 ls st M cs sl := KW_blk hC hE kbX5_needs_69 69 ls st M cs sl (by decide +kernel) h
def kbX5_needs_73 : List KE := [(.iload_n 3, 1, (3, 0, 0), 0, 0), (.ireturn, 1, (0, 0, 0), 0, 0)]
theorem kwX5_needs_73 {X : KX} {S : KS} {mc ms : Nat} {E : KEnd} {ls : KL} {st : List KV} {M : KM} {cs sl : Nat} (hC : KC X mX5_needs 5 false S mc ms) (hE : KRet X mX5_needs E) (h : kblk (kroom mX5_needs mc ms) S E (KW X) kbX5_needs_73 73 ls st M cs sl) : KW X 73 ls st M cs sl := KW_blk hC hE kbX5_needs_73 73 ls st M cs sl (by decide +kernel) h
def kbX5_needs_75 : List KE := [(.iinc 3 (1), 3, (3, 0, 0), 1, 0), (.goto (-47), 3, (31, 0, 0), 0, 0)]
theorem kwX5_needs_75 {X : KX} {S : KS} {mc ms : Nat} {E : KEnd} {ls : KL} {st : List KV} {M : KM} {cs sl : Nat} (hC : KC X mX5_needs 5 false S mc ms) (hE : KRet X mX5_needs E) (h : kblk (kroom mX5_needs mc ms) S E (KW X) kbX5_needs_75 75 ls st M cs sl) : KW X 75 ls st M cs sl := KW_blk hC hE kbX5_needs_75 75 ls st M cs sl (by decide +kernel) h
def kbX5_needs_81 : List KE := [(.iconst (-1), 1, (0, 0, 0), (-1), 0), (.ireturn, 1, (0, 0, 0), 0, 0)]
theorem kwX5_needs_81 {X : KX} {S : KS} {mc ms : Nat} {E : KEnd} {ls : KL} {st : List KV} {M : KM} {cs sl : Nat} (hC : KC X mX5_needs 5 false S mc ms) (hE : KRet X mX5_needs E) (h : kblk (kroom mX5_needs mc ms) S E (KW X) kbX5_needs_81 81 ls st M cs sl) : KW X 81 ls st M cs sl := KW_blk hC hE kbX5_needs_81 81 ls st M cs sl (by decide +kernel) h
def kbX5_pass_0 : List KE := [(.iload_n 1, 1, (1, 0, 0), 0, 0), (.iconst 1, 1, (0, 0, 0), 1, 0), (.sipush (200), 3, (0, 0, 0), 200, 0)]
theorem kwX5_pass_0 {X : KX} {S : KS} {mc ms : Nat} {E : KEnd} {ls : KL} {st : List KV} {M : KM} {cs sl : Nat} (hC : KC X mX5_pass 5 false S mc ms) (hE : KRet X mX5_pass E) (h : kblk (kroom mX5_pass mc ms) S E (KW X) kbX5_pass_0 0 ls st M cs sl) : KW X 0 ls st M cs sl := KW_blk hC hE kbX5_pass_0 0 ls st M cs sl (by decide +kernel) h
def kbX5_pass_11 : List KE := [(.aload_n 0, 1, (0, 0, 0), 0, 0), (.getfield 12, 3, (5, 0, 1), 0, 0), (.iload_n 1, 1, (1, 0, 0), 0, 0)]
theorem kwX5_pass_11 {X : KX} {S : KS} {mc ms : Nat} {E : KEnd} {ls : KL} {st : List KV} {M : KM} {cs sl : Nat} (hC : KC X mX5_pass 5 false S mc ms) (hE : KRet X mX5_pass E) (h : kblk (kroom mX5_pass mc ms) S E (KW X) kbX5_pass_11 11 ls st M cs sl) : KW X 11 ls st M cs sl := KW_blk hC hE kbX5_pass_11 11 ls st M cs sl (by decide +kernel) h
def kbX5_pass_19 : List KE := [(.ireturn, 1, (0, 0, 0), 0, 0)]
theorem kwX5_pass_19 {X : KX} {S : KS} {mc ms : Nat} {E : KEnd} {ls : KL} {st : List KV} {M : KM} {cs sl : Nat} (hC : KC X mX5_pass 5 false S mc ms) (hE : KRet X mX5_pass E) (h : kblk (kroom mX5_pass mc ms) S E (KW X) kbX5_pass_19 19 ls st M cs sl) : KW X 19 ls st M cs sl := KW_blk hC hE kbX5_pass_19 19 ls st M cs sl (by decide +kernel) h
def kbX5_queue_0 : List KE := [(.aload_n 0, 1, (0, 0, 0), 0, 0), (.iload_n 1, 1, (1, 0, 0), 0, 0)]
theorem kwX5_queue_0 {X : KX} {S : KS} {mc ms : Nat} {E : KEnd} {ls : KL} {st : List KV} {M : KM} {cs sl : Nat} (hC : KC X mX5_queue 5 false S mc ms) (hE : KRet X mX5_queue E) (h : kblk (kroom mX5_queue mc ms) S E (KW X) kbX5_queue_0 0 ls st M cs sl) : KW X 0 ls st M cs sl := KW_blk hC hE kbX5_queue_0 0 ls st M cs sl (by decide +kernel) h
def kbX5_queue_5 : List KE := [(.ifCond .eq (29), 3, (34, 0, 0), 0, 0)]
theorem kwX5_queue_5 {X : KX} {S : KS} {mc ms : Nat} {E : KEnd} {ls : KL} {st : List KV} {M : KM} {cs sl : Nat} (hC : KC X mX5_queue 5 false S mc ms) (hE : KRet X mX5_queue E) (h : kblk (kroom mX5_queue mc ms) S E (KW X) kbX5_queue_5 5 ls st M cs sl) : KW X 5 ls st M cs sl := KW_blk hC hE kbX5_queue_5 5 ls st M cs sl (by decide +kernel) h
def kbX5_queue_8 : List KE := [(.iload_n 2, 1, (2, 0, 0), 0, 0), (.aload_n 0, 1, (0, 0, 0), 0, 0), (.getfield 12, 3, (5, 0, 1), 0, 0), (.getfield 61, 3, (3, 2, 1), 0, 0), (.iload_n 1, 1, (1, 0, 0), 0, 0), (.aaload, 1, (0, 0, 0), 0, 0), (.getfield 106, 3, (2, 0, 1), 0, 0), (.getfield 110, 3, (4, 1, 0), 0, 0)]
theorem kwX5_queue_8 {X : KX} {S : KS} {mc ms : Nat} {E : KEnd} {ls : KL} {st : List KV} {M : KM} {cs sl : Nat} (hC : KC X mX5_queue 5 false S mc ms) (hE : KRet X mX5_queue E) (h : kblk (kroom mX5_queue mc ms) S E (KW X) kbX5_queue_8 8 ls st M cs sl) : KW X 8 ls st M cs sl := KW_blk hC hE kbX5_queue_8 8 ls st M cs sl (by decide +kernel) h
def kbX5_queue_27 : List KE := [(.ifCond .eq (7), 3, (34, 0, 0), 0, 0)]
theorem kwX5_queue_27 {X : KX} {S : KS} {mc ms : Nat} {E : KEnd} {ls : KL} {st : List KV} {M : KM} {cs sl : Nat} (hC : KC X mX5_queue 5 false S mc ms) (hE : KRet X mX5_queue E) (h : kblk (kroom mX5_queue mc ms) S E (KW X) kbX5_queue_27 27 ls st M cs sl) : KW X 27 ls st M cs sl := KW_blk hC hE kbX5_queue_27 27 ls st M cs sl (by decide +kernel) h
def kbX5_queue_30 : List KE := [(.iconst 1, 1, (0, 0, 0), 1, 0), (.goto (4), 3, (35, 0, 0), 0, 0)]
theorem kwX5_queue_30 {X : KX} {S : KS} {mc ms : Nat} {E : KEnd} {ls : KL} {st : List KV} {M : KM} {cs sl : Nat} (hC : KC X mX5_queue 5 false S mc ms) (hE : KRet X mX5_queue E) (h : kblk (kroom mX5_queue mc ms) S E (KW X) kbX5_queue_30 30 ls st M cs sl) : KW X 30 ls st M cs sl := KW_blk hC hE kbX5_queue_30 30 ls st M cs sl (by decide +kernel) h
def kbX5_queue_34 : List KE := [(.iconst 0, 1, (0, 0, 0), 0, 0)]
theorem kwX5_queue_34 {X : KX} {S : KS} {mc ms : Nat} {E : KEnd} {ls : KL} {st : List KV} {M : KM} {cs sl : Nat} (hC : KC X mX5_queue 5 false S mc ms) (hE : KRet X mX5_queue E) (h : kblk (kroom mX5_queue mc ms) S E (KW X) kbX5_queue_34 34 ls st M cs sl) : KW X 34 ls st M cs sl := KW_blk hC hE kbX5_queue_34 34 ls st M cs sl (by decide +kernel) h
def kbX5_queue_38 : List KE := [(.aload_n 0, 1, (0, 0, 0), 0, 0), (.getfield 12, 3, (5, 0, 1), 0, 0), (.getfield 61, 3, (3, 2, 1), 0, 0), (.iload_n 1, 1, (1, 0, 0), 0, 0), (.aaload, 1, (0, 0, 0), 0, 0), (.getfield 106, 3, (2, 0, 1), 0, 0), (.getfield 135, 3, (4, 0, 1), 0, 0), (.iload_n 2, 1, (2, 0, 0), 0, 0), (.iaload, 1, (0, 0, 0), 0, 0), (.ireturn, 1, (0, 0, 0), 0, 0)]
theorem kwX5_queue_38 {X : KX} {S : KS} {mc ms : Nat} {E : KEnd} {ls : KL} {st : List KV} {M : KM} {cs sl : Nat} (hC : KC X mX5_queue 5 false S mc ms) (hE : KRet X mX5_queue E) (h : kblk (kroom mX5_queue mc ms) S E (KW X) kbX5_queue_38 38 ls st M cs sl) : KW X 38 ls st M cs sl := KW_blk hC hE kbX5_queue_38 38 ls st M cs sl (by decide +kernel) h
def kbX5_requireArgument_0 : List KE := [(.iload_n 0, 1, (0, 0, 0), 0, 0), (.ifCond .ne (13), 3, (14, 0, 0), 0, 0)]
theorem kwX5_requireArgument_0 {X : KX} {S : KS} {mc ms : Nat} {E : KEnd} {ls : KL} {st : List KV} {M : KM} {cs sl : Nat} (hC : KC X mX5_requireArgument 5 false S mc ms) (hE : KRet X mX5_requireArgument E) (h : kblk (kroom mX5_requireArgument mc ms) S E (KW X) kbX5_requireArgument_0 0 ls st M cs sl) : KW X 0 ls st M cs sl := KW_blk hC hE kbX5_requireArgument_0 0 ls st M cs sl (by decide +kernel) h
def kbX5_requireArgument_7 : List KE := [(.dup, 1, (0, 0, 0), 0, 0)]
theorem kwX5_requireArgument_7 {X : KX} {S : KS} {mc ms : Nat} {E : KEnd} {ls : KL} {st : List KV} {M : KM} {cs sl : Nat} (hC : KC X mX5_requireArgument 5 false S mc ms) (hE : KRet X mX5_requireArgument E) (h : kblk (kroom mX5_requireArgument mc ms) S E (KW X) kbX5_requireArgument_7 7 ls st M cs sl) : KW X 7 ls st M cs sl := KW_blk hC hE kbX5_requireArgument_7 7 ls st M cs sl (by decide +kernel) h
def kbX5_requireArgument_14 : List KE := [(.return_, 1, (0, 0, 0), 0, 0)]
theorem kwX5_requireArgument_14 {X : KX} {S : KS} {mc ms : Nat} {E : KEnd} {ls : KL} {st : List KV} {M : KM} {cs sl : Nat} (hC : KC X mX5_requireArgument 5 false S mc ms) (hE : KRet X mX5_requireArgument E) (h : kblk (kroom mX5_requireArgument mc ms) S E (KW X) kbX5_requireArgument_14 14 ls st M cs sl) : KW X 14 ls st M cs sl := KW_blk hC hE kbX5_requireArgument_14 14 ls st M cs sl (by decide +kernel) h
def kbX5_requireIndex_0 : List KE := [(.iload_n 0, 1, (0, 0, 0), 0, 0), (.ifCond .ne (13), 3, (14, 0, 0), 0, 0)]
theorem kwX5_requireIndex_0 {X : KX} {S : KS} {mc ms : Nat} {E : KEnd} {ls : KL} {st : List KV} {M : KM} {cs sl : Nat} (hC : KC X mX5_requireIndex 5 false S mc ms) (hE : KRet X mX5_requireIndex E) (h : kblk (kroom mX5_requireIndex mc ms) S E (KW X) kbX5_requireIndex_0 0 ls st M cs sl) : KW X 0 ls st M cs sl := KW_blk hC hE kbX5_requireIndex_0 0 ls st M cs sl (by decide +kernel) h
def kbX5_requireIndex_7 : List KE := [(.dup, 1, (0, 0, 0), 0, 0)]
theorem kwX5_requireIndex_7 {X : KX} {S : KS} {mc ms : Nat} {E : KEnd} {ls : KL} {st : List KV} {M : KM} {cs sl : Nat} (hC : KC X mX5_requireIndex 5 false S mc ms) (hE : KRet X mX5_requireIndex E) (h : kblk (kroom mX5_requireIndex mc ms) S E (KW X) kbX5_requireIndex_7 7 ls st M cs sl) : KW X 7 ls st M cs sl := KW_blk hC hE kbX5_requireIndex_7 7 ls st M cs sl (by decide +kernel) h
def kbX5_requireIndex_14 : List KE := [(.return_, 1, (0, 0, 0), 0, 0)]
theorem kwX5_requireIndex_14 {X : KX} {S : KS} {mc ms : Nat} {E : KEnd} {ls : KL} {st : List KV} {M : KM} {cs sl : Nat} (hC : KC X mX5_requireIndex 5 false S mc ms) (hE : KRet X mX5_requireIndex E) (h : kblk (kroom mX5_requireIndex mc ms) S E (KW X) kbX5_requireIndex_14 14 ls st M cs sl) : KW X 14 ls st M cs sl := KW_blk hC hE kbX5_requireIndex_14 14 ls st M cs sl (by decide +kernel) h
def kbX5_requireState_0 : List KE := [(.iload_n 0, 1, (0, 0, 0), 0, 0), (.ifCond .ne (13), 3, (14, 0, 0), 0, 0)]
theorem kwX5_requireState_0 {X : KX} {S : KS} {mc ms : Nat} {E : KEnd} {ls : KL} {st : List KV} {M : KM} {cs sl : Nat} (hC : KC X mX5_requireState 5 false S mc ms) (hE : KRet X mX5_requireState E) (h : kblk (kroom mX5_requireState mc ms) S E (KW X) kbX5_requireState_0 0 ls st M cs sl) : KW X 0 ls st M cs sl := KW_blk hC hE kbX5_requireState_0 0 ls st M cs sl (by decide +kernel) h
def kbX5_requireState_7 : List KE := [(.dup, 1, (0, 0, 0), 0, 0)]
theorem kwX5_requireState_7 {X : KX} {S : KS} {mc ms : Nat} {E : KEnd} {ls : KL} {st : List KV} {M : KM} {cs sl : Nat} (hC : KC X mX5_requireState 5 false S mc ms) (hE : KRet X mX5_requireState E) (h : kblk (kroom mX5_requireState mc ms) S E (KW X) kbX5_requireState_7 7 ls st M cs sl) : KW X 7 ls st M cs sl := KW_blk hC hE kbX5_requireState_7 7 ls st M cs sl (by decide +kernel) h
def kbX5_requireState_14 : List KE := [(.return_, 1, (0, 0, 0), 0, 0)]
theorem kwX5_requireState_14 {X : KX} {S : KS} {mc ms : Nat} {E : KEnd} {ls : KL} {st : List KV} {M : KM} {cs sl : Nat} (hC : KC X mX5_requireState 5 false S mc ms) (hE : KRet X mX5_requireState E) (h : kblk (kroom mX5_requireState mc ms) S E (KW X) kbX5_requireState_14 14 ls st M cs sl) : KW X 14 ls st M cs sl := KW_blk hC hE kbX5_requireState_14 14 ls st M cs sl (by decide +kernel) h
def kbX5_setWind_0 : List KE := [(.iload_n 1, 1, (1, 0, 0), 0, 0), (.bipush (24), 2, (0, 0, 0), 24, 0)]
theorem kwX5_setWind_0 {X : KX} {S : KS} {mc ms : Nat} {E : KEnd} {ls : KL} {st : List KV} {M : KM} {cs sl : Nat} (hC : KC X mX5_setWind 5 false S mc ms) (hE : KRet X mX5_setWind E) (h : kblk (kroom mX5_setWind mc ms) S E (KW X) kbX5_setWind_0 0 ls st M cs sl) : KW X 0 ls st M cs sl := KW_blk hC hE kbX5_setWind_0 0 ls st M cs sl (by decide +kernel) h
def kbX5_setWind_9 : List KE := [(.iload_n 2, 1, (2, 0, 0), 0, 0), (.iconst 0, 1, (0, 0, 0), 0, 0), (.bipush (9), 2, (0, 0, 0), 9, 0)]
theorem kwX5_setWind_9 {X : KX} {S : KS} {mc ms : Nat} {E : KEnd} {ls : KL} {st : List KV} {M : KM} {cs sl : Nat} (hC : KC X mX5_setWind 5 false S mc ms) (hE : KRet X mX5_setWind E) (h : kblk (kroom mX5_setWind mc ms) S E (KW X) kbX5_setWind_9 9 ls st M cs sl) : KW X 9 ls st M cs sl := KW_blk hC hE kbX5_setWind_9 9 ls st M cs sl (by decide +kernel) h
def kbX5_setWind_19 : List KE := [(.aload_n 0, 1, (0, 0, 0), 0, 0), (.getfield 12, 3, (5, 0, 1), 0, 0), (.getfield 75, 3, (3, 0, 1), 0, 0), (.iload_n 1, 1, (1, 0, 0), 0, 0), (.iaload, 1, (0, 0, 0), 0, 0), (.istore_n 3, 1, (3, 0, 0), 0, 0), (.aload_n 0, 1, (0, 0, 0), 0, 0), (.getfield 12, 3, (5, 0, 1), 0, 0), (.getfield 75, 3, (3, 0, 1), 0, 0), (.iload_n 1, 1, (1, 0, 0), 0, 0), (.iload_n 2, 1, (2, 0, 0), 0, 0), (.iastore, 1, (0, 0, 0), 0, 0), (.iload_n 3, 1, (3, 0, 0), 0, 0), (.ireturn, 1, (0, 0, 0), 0, 0)]
theorem kwX5_setWind_19 {X : KX} {S : KS} {mc ms : Nat} {E : KEnd} {ls : KL} {st : List KV} {M : KM} {cs sl : Nat} (hC : KC X mX5_setWind 5 false S mc ms) (hE : KRet X mX5_setWind E) (h : kblk (kroom mX5_setWind mc ms) S E (KW X) kbX5_setWind_19 19 ls st M cs sl) : KW X 19 ls st M cs sl := KW_blk hC hE kbX5_setWind_19 19 ls st M cs sl (by decide +kernel) h
def kbX5_shed_0 : List KE := [(.iload_n 1, 1, (1, 0, 0), 0, 0), (.aload_n 0, 1, (0, 0, 0), 0, 0), (.getfield 12, 3, (5, 0, 1), 0, 0), (.getfield 138, 3, (3, 4, 1), 0, 0), (.getfield 110, 3, (4, 1, 0), 0, 0)]
theorem kwX5_shed_0 {X : KX} {S : KS} {mc ms : Nat} {E : KEnd} {ls : KL} {st : List KV} {M : KM} {cs sl : Nat} (hC : KC X mX5_shed 5 false S mc ms) (hE : KRet X mX5_shed E) (h : kblk (kroom mX5_shed mc ms) S E (KW X) kbX5_shed_0 0 ls st M cs sl) : KW X 0 ls st M cs sl := KW_blk hC hE kbX5_shed_0 0 ls st M cs sl (by decide +kernel) h
def kbX5_shed_17 : List KE := [(.aload_n 0, 1, (0, 0, 0), 0, 0), (.getfield 12, 3, (5, 0, 1), 0, 0), (.getfield 138, 3, (3, 4, 1), 0, 0), (.getfield 135, 3, (4, 0, 1), 0, 0), (.iload_n 1, 1, (1, 0, 0), 0, 0), (.iaload, 1, (0, 0, 0), 0, 0), (.ireturn, 1, (0, 0, 0), 0, 0)]
theorem kwX5_shed_17 {X : KX} {S : KS} {mc ms : Nat} {E : KEnd} {ls : KL} {st : List KV} {M : KM} {cs sl : Nat} (hC : KC X mX5_shed 5 false S mc ms) (hE : KRet X mX5_shed E) (h : kblk (kroom mX5_shed mc ms) S E (KW X) kbX5_shed_17 17 ls st M cs sl) : KW X 17 ls st M cs sl := KW_blk hC hE kbX5_shed_17 17 ls st M cs sl (by decide +kernel) h
def kbX5_shut_0 : List KE := [(.aload_n 0, 1, (0, 0, 0), 0, 0), (.iload_n 1, 1, (1, 0, 0), 0, 0)]
theorem kwX5_shut_0 {X : KX} {S : KS} {mc ms : Nat} {E : KEnd} {ls : KL} {st : List KV} {M : KM} {cs sl : Nat} (hC : KC X mX5_shut 5 false S mc ms) (hE : KRet X mX5_shut E) (h : kblk (kroom mX5_shut mc ms) S E (KW X) kbX5_shut_0 0 ls st M cs sl) : KW X 0 ls st M cs sl := KW_blk hC hE kbX5_shut_0 0 ls st M cs sl (by decide +kernel) h
def kbX5_shut_8 : List KE := [(.aload_n 0, 1, (0, 0, 0), 0, 0), (.getfield 12, 3, (5, 0, 1), 0, 0), (.getfield 61, 3, (3, 2, 1), 0, 0), (.iload_n 1, 1, (1, 0, 0), 0, 0), (.aaload, 1, (0, 0, 0), 0, 0), (.getfield 65, 3, (2, 1, 0), 0, 0), (.istore_n 3, 1, (3, 0, 0), 0, 0), (.aload_n 0, 1, (0, 0, 0), 0, 0), (.getfield 12, 3, (5, 0, 1), 0, 0), (.getfield 61, 3, (3, 2, 1), 0, 0), (.iload_n 1, 1, (1, 0, 0), 0, 0), (.aaload, 1, (0, 0, 0), 0, 0), (.iload_n 2, 1, (2, 0, 0), 0, 0), (.putfield 65, 3, (2, 1, 2), 0, 0), (.iload_n 3, 1, (3, 0, 0), 0, 0), (.ireturn, 1, (0, 0, 0), 0, 0)]
theorem kwX5_shut_8 {X : KX} {S : KS} {mc ms : Nat} {E : KEnd} {ls : KL} {st : List KV} {M : KM} {cs sl : Nat} (hC : KC X mX5_shut 5 false S mc ms) (hE : KRet X mX5_shut E) (h : kblk (kroom mX5_shut mc ms) S E (KW X) kbX5_shut_8 8 ls st M cs sl) : KW X 8 ls st M cs sl := KW_blk hC hE kbX5_shut_8 8 ls st M cs sl (by decide +kernel) h
def kbX5_stretch_0 : List KE := [(.iload_n 1, 1, (1, 0, 0), 0, 0), (.iconst 2, 1, (0, 0, 0), 2, 0), (.bipush (12), 2, (0, 0, 0), 12, 0)]
theorem kwX5_stretch_0 {X : KX} {S : KS} {mc ms : Nat} {E : KEnd} {ls : KL} {st : List KV} {M : KM} {cs sl : Nat} (hC : KC X mX5_stretch 5 false S mc ms) (hE : KRet X mX5_stretch E) (h : kblk (kroom mX5_stretch mc ms) S E (KW X) kbX5_stretch_0 0 ls st M cs sl) : KW X 0 ls st M cs sl := KW_blk hC hE kbX5_stretch_0 0 ls st M cs sl (by decide +kernel) h
def kbX5_stretch_10 : List KE := [(.aload_n 0, 1, (0, 0, 0), 0, 0), (.getfield 12, 3, (5, 0, 1), 0, 0)]
theorem kwX5_stretch_10 {X : KX} {S : KS} {mc ms : Nat} {E : KEnd} {ls : KL} {st : List KV} {M : KM} {cs sl : Nat} (hC : KC X mX5_stretch 5 false S mc ms) (hE : KRet X mX5_stretch E) (h : kblk (kroom mX5_stretch mc ms) S E (KW X) kbX5_stretch_10 10 ls st M cs sl) : KW X 10 ls st M cs sl := KW_blk hC hE kbX5_stretch_10 10 ls st M cs sl (by decide +kernel) h
def kbX5_stretch_17 : List KE := [(.ifCond .ne (7), 3, (24, 0, 0), 0, 0)]
theorem kwX5_stretch_17 {X : KX} {S : KS} {mc ms : Nat} {E : KEnd} {ls : KL} {st : List KV} {M : KM} {cs sl : Nat} (hC : KC X mX5_stretch 5 false S mc ms) (hE : KRet X mX5_stretch E) (h : kblk (kroom mX5_stretch mc ms) S E (KW X) kbX5_stretch_17 17 ls st M cs sl) : KW X 17 ls st M cs sl := KW_blk hC hE kbX5_stretch_17 17 ls st M cs sl (by decide +kernel) h
def kbX5_stretch_20 : List KE := [(.iconst 1, 1, (0, 0, 0), 1, 0), (.goto (4), 3, (25, 0, 0), 0, 0)]
theorem kwX5_stretch_20 {X : KX} {S : KS} {mc ms : Nat} {E : KEnd} {ls : KL} {st : List KV} {M : KM} {cs sl : Nat} (hC : KC X mX5_stretch 5 false S mc ms) (hE : KRet X mX5_stretch E) (h : kblk (kroom mX5_stretch mc ms) S E (KW X) kbX5_stretch_20 20 ls st M cs sl) : KW X 20 ls st M cs sl := KW_blk hC hE kbX5_stretch_20 20 ls st M cs sl (by decide +kernel) h
def kbX5_stretch_24 : List KE := [(.iconst 0, 1, (0, 0, 0), 0, 0)]
theorem kwX5_stretch_24 {X : KX} {S : KS} {mc ms : Nat} {E : KEnd} {ls : KL} {st : List KV} {M : KM} {cs sl : Nat} (hC : KC X mX5_stretch 5 false S mc ms) (hE : KRet X mX5_stretch E) (h : kblk (kroom mX5_stretch mc ms) S E (KW X) kbX5_stretch_24 24 ls st M cs sl) : KW X 24 ls st M cs sl := KW_blk hC hE kbX5_stretch_24 24 ls st M cs sl (by decide +kernel) h
def kbX5_stretch_28 : List KE := [(.aload_n 0, 1, (0, 0, 0), 0, 0), (.getfield 12, 3, (5, 0, 1), 0, 0), (.getfield 34, 3, (3, 8, 0), 0, 0), (.istore_n 2, 1, (2, 0, 0), 0, 0), (.aload_n 0, 1, (0, 0, 0), 0, 0), (.getfield 12, 3, (5, 0, 1), 0, 0), (.iload_n 1, 1, (1, 0, 0), 0, 0), (.putfield 34, 3, (3, 8, 0), 0, 0), (.iload_n 2, 1, (2, 0, 0), 0, 0), (.ireturn, 1, (0, 0, 0), 0, 0)]
theorem kwX5_stretch_28 {X : KX} {S : KS} {mc ms : Nat} {E : KEnd} {ls : KL} {st : List KV} {M : KM} {cs sl : Nat} (hC : KC X mX5_stretch 5 false S mc ms) (hE : KRet X mX5_stretch E) (h : kblk (kroom mX5_stretch mc ms) S E (KW X) kbX5_stretch_28 28 ls st M cs sl) : KW X 28 ls st M cs sl := KW_blk hC hE kbX5_stretch_28 28 ls st M cs sl (by decide +kernel) h
def kbX5_want_0 : List KE := [(.iload_n 1, 1, (1, 0, 0), 0, 0), (.iconst 0, 1, (0, 0, 0), 0, 0), (.bipush (20), 2, (0, 0, 0), 20, 0)]
theorem kwX5_want_0 {X : KX} {S : KS} {mc ms : Nat} {E : KEnd} {ls : KL} {st : List KV} {M : KM} {cs sl : Nat} (hC : KC X mX5_want 5 false S mc ms) (hE : KRet X mX5_want E) (h : kblk (kroom mX5_want mc ms) S E (KW X) kbX5_want_0 0 ls st M cs sl) : KW X 0 ls st M cs sl := KW_blk hC hE kbX5_want_0 0 ls st M cs sl (by decide +kernel) h
def kbX5_want_10 : List KE := [(.aload_n 0, 1, (0, 0, 0), 0, 0), (.getfield 12, 3, (5, 0, 1), 0, 0), (.getfield 45, 3, (3, 9, 0), 0, 0), (.istore_n 2, 1, (2, 0, 0), 0, 0), (.aload_n 0, 1, (0, 0, 0), 0, 0), (.getfield 12, 3, (5, 0, 1), 0, 0), (.iload_n 1, 1, (1, 0, 0), 0, 0), (.putfield 45, 3, (3, 9, 0), 0, 0), (.iload_n 2, 1, (2, 0, 0), 0, 0), (.ireturn, 1, (0, 0, 0), 0, 0)]
theorem kwX5_want_10 {X : KX} {S : KS} {mc ms : Nat} {E : KEnd} {ls : KL} {st : List KV} {M : KM} {cs sl : Nat} (hC : KC X mX5_want 5 false S mc ms) (hE : KRet X mX5_want E) (h : kblk (kroom mX5_want mc ms) S E (KW X) kbX5_want_10 10 ls st M cs sl) : KW X 10 ls st M cs sl := KW_blk hC hE kbX5_want_10 10 ls st M cs sl (by decide +kernel) h
def kbX5_when_0 : List KE := [(.aload_n 0, 1, (0, 0, 0), 0, 0), (.iload_n 1, 1, (1, 0, 0), 0, 0)]
theorem kwX5_when_0 {X : KX} {S : KS} {mc ms : Nat} {E : KEnd} {ls : KL} {st : List KV} {M : KM} {cs sl : Nat} (hC : KC X mX5_when 5 false S mc ms) (hE : KRet X mX5_when E) (h : kblk (kroom mX5_when mc ms) S E (KW X) kbX5_when_0 0 ls st M cs sl) : KW X 0 ls st M cs sl := KW_blk hC hE kbX5_when_0 0 ls st M cs sl (by decide +kernel) h
def kbX5_when_8 : List KE := [(.aload_n 0, 1, (0, 0, 0), 0, 0), (.getfield 12, 3, (5, 0, 1), 0, 0), (.getfield 89, 3, (3, 3, 1), 0, 0), (.iload_n 1, 1, (1, 0, 0), 0, 0), (.aaload, 1, (0, 0, 0), 0, 0), (.getfield 93, 3, (1, 2, 0), 0, 0), (.iconst 2, 1, (0, 0, 0), 2, 0), (.if_icmp .ne (5), 3, (26, 0, 0), 0, 0)]
theorem kwX5_when_8 {X : KX} {S : KS} {mc ms : Nat} {E : KEnd} {ls : KL} {st : List KV} {M : KM} {cs sl : Nat} (hC : KC X mX5_when 5 false S mc ms) (hE : KRet X mX5_when E) (h : kblk (kroom mX5_when mc ms) S E (KW X) kbX5_when_8 8 ls st M cs sl) : KW X 8 ls st M cs sl := KW_blk hC hE kbX5_when_8 8 ls st M cs sl (by decide +kernel) h
def kbX5_when_24 : List KE := [(.iconst 0, 1, (0, 0, 0), 0, 0), (.ireturn, 1, (0, 0, 0), 0, 0)]
theorem kwX5_when_24 {X : KX} {S : KS} {mc ms : Nat} {E : KEnd} {ls : KL} {st : List KV} {M : KM} {cs sl : Nat} (hC : KC X mX5_when 5 false S mc ms) (hE : KRet X mX5_when E) (h : kblk (kroom mX5_when mc ms) S E (KW X) kbX5_when_24 24 ls st M cs sl) : KW X 24 ls st M cs sl := KW_blk hC hE kbX5_when_24 24 ls st M cs sl (by decide +kernel) h
def kbX5_when_26 : List KE := [(.aload_n 0, 1, (0, 0, 0), 0, 0), (.getfield 16, 3, (5, 1, 1), 0, 0), (.aload_n 0, 1, (0, 0, 0), 0, 0), (.getfield 12, 3, (5, 0, 1), 0, 0)]
theorem kwX5_when_26 {X : KX} {S : KS} {mc ms : Nat} {E : KEnd} {ls : KL} {st : List KV} {M : KM} {cs sl : Nat} (hC : KC X mX5_when 5 false S mc ms) (hE : KRet X mX5_when E) (h : kblk (kroom mX5_when mc ms) S E (KW X) kbX5_when_26 26 ls st M cs sl) : KW X 26 ls st M cs sl := KW_blk hC hE kbX5_when_26 26 ls st M cs sl (by decide +kernel) h
def kbX5_when_37 : List KE := [(.aload_n 0, 1, (0, 0, 0), 0, 0), (.getfield 16, 3, (5, 1, 1), 0, 0), (.iload_n 1, 1, (1, 0, 0), 0, 0), (.sipush (250), 3, (0, 0, 0), 250, 0)]
theorem kwX5_when_37 {X : KX} {S : KS} {mc ms : Nat} {E : KEnd} {ls : KL} {st : List KV} {M : KM} {cs sl : Nat} (hC : KC X mX5_when 5 false S mc ms) (hE : KRet X mX5_when E) (h : kblk (kroom mX5_when mc ms) S E (KW X) kbX5_when_37 37 ls st M cs sl) : KW X 37 ls st M cs sl := KW_blk hC hE kbX5_when_37 37 ls st M cs sl (by decide +kernel) h
def kbX5_when_48 : List KE := [(.ireturn, 1, (0, 0, 0), 0, 0)]
theorem kwX5_when_48 {X : KX} {S : KS} {mc ms : Nat} {E : KEnd} {ls : KL} {st : List KV} {M : KM} {cs sl : Nat} (hC : KC X mX5_when 5 false S mc ms) (hE : KRet X mX5_when E) (h : kblk (kroom mX5_when mc ms) S E (KW X) kbX5_when_48 48 ls st M cs sl) : KW X 48 ls st M cs sl := KW_blk hC hE kbX5_when_48 48 ls st M cs sl (by decide +kernel) h
def kbX6_become_0 : List KE := [(.aload_n 0, 1, (0, 0, 0), 0, 0), (.aload_n 1, 1, (1, 0, 0), 0, 0), (.getfield 61, 3, (6, 0, 0), 0, 0), (.putfield 61, 3, (6, 0, 0), 0, 0), (.aload_n 0, 1, (0, 0, 0), 0, 0), (.aload_n 1, 1, (1, 0, 0), 0, 0), (.getfield 65, 3, (6, 1, 0), 0, 0), (.putfield 65, 3, (6, 1, 0), 0, 0), (.aload_n 0, 1, (0, 0, 0), 0, 0), (.aload_n 1, 1, (1, 0, 0), 0, 0), (.getfield 68, 3, (6, 2, 0), 0, 0), (.putfield 68, 3, (6, 2, 0), 0, 0), (.aload_n 0, 1, (0, 0, 0), 0, 0), (.aload_n 1, 1, (1, 0, 0), 0, 0), (.getfield 71, 3, (6, 3, 0), 0, 0), (.putfield 71, 3, (6, 3, 0), 0, 0), (.aload_n 0, 1, (0, 0, 0), 0, 0), (.aload_n 1, 1, (1, 0, 0), 0, 0), (.getfield 74, 3, (6, 4, 0), 0, 0), (.putfield 74, 3, (6, 4, 0), 0, 0), (.aload_n 0, 1, (0, 0, 0), 0, 0), (.aload_n 1, 1, (1, 0, 0), 0, 0), (.getfield 77, 3, (6, 5, 0), 0, 0), (.putfield 77, 3, (6, 5, 0), 0, 0), (.aload_n 0, 1, (0, 0, 0), 0, 0), (.aload_n 1, 1, (1, 0, 0), 0, 0), (.getfield 80, 3, (6, 6, 0), 0, 0), (.putfield 80, 3, (6, 6, 0), 0, 0), (.aload_n 0, 1, (0, 0, 0), 0, 0), (.aload_n 1, 1, (1, 0, 0), 0, 0), (.getfield 83, 3, (6, 7, 0), 0, 0), (.putfield 83, 3, (6, 7, 0), 0, 0), (.aload_n 0, 1, (0, 0, 0), 0, 0), (.aload_n 1, 1, (1, 0, 0), 0, 0), (.getfield 86, 3, (6, 8, 0), 0, 0), (.putfield 86, 3, (6, 8, 0), 0, 0), (.aload_n 0, 1, (0, 0, 0), 0, 0), (.aload_n 1, 1, (1, 0, 0), 0, 0), (.getfield 15, 3, (6, 9, 1), 0, 0), (.aload_n 0, 1, (0, 0, 0), 0, 0), (.getfield 15, 3, (6, 9, 1), 0, 0)]
theorem kwX6_become_0 {X : KX} {S : KS} {mc ms : Nat} {E : KEnd} {ls : KL} {st : List KV} {M : KM} {cs sl : Nat} (hC : KC X mX6_become 6 false S mc ms) (hE : KRet X mX6_become E) (h : kblk (kroom mX6_become mc ms) S E (KW X) kbX6_become_0 0 ls st M cs sl) : KW X 0 ls st M cs sl := KW_blk hC hE kbX6_become_0 0 ls st M cs sl (by decide +kernel) h
def kbX6_become_84 : List KE := [(.aload_n 0, 1, (0, 0, 0), 0, 0), (.aload_n 1, 1, (1, 0, 0), 0, 0), (.getfield 19, 3, (6, 10, 1), 0, 0), (.aload_n 0, 1, (0, 0, 0), 0, 0), (.getfield 19, 3, (6, 10, 1), 0, 0)]
theorem kwX6_become_84 {X : KX} {S : KS} {mc ms : Nat} {E : KEnd} {ls : KL} {st : List KV} {M : KM} {cs sl : Nat} (hC : KC X mX6_become 6 false S mc ms) (hE : KRet X mX6_become E) (h : kblk (kroom mX6_become mc ms) S E (KW X) kbX6_become_84 84 ls st M cs sl) : KW X 84 ls st M cs sl := KW_blk hC hE kbX6_become_84 84 ls st M cs sl (by decide +kernel) h
def kbX6_become_96 : List KE := [(.aload_n 0, 1, (0, 0, 0), 0, 0), (.aload_n 1, 1, (1, 0, 0), 0, 0), (.getfield 22, 3, (6, 11, 1), 0, 0), (.aload_n 0, 1, (0, 0, 0), 0, 0), (.getfield 22, 3, (6, 11, 1), 0, 0)]
theorem kwX6_become_96 {X : KX} {S : KS} {mc ms : Nat} {E : KEnd} {ls : KL} {st : List KV} {M : KM} {cs sl : Nat} (hC : KC X mX6_become 6 false S mc ms) (hE : KRet X mX6_become E) (h : kblk (kroom mX6_become mc ms) S E (KW X) kbX6_become_96 96 ls st M cs sl) : KW X 96 ls st M cs sl := KW_blk hC hE kbX6_become_96 96 ls st M cs sl (by decide +kernel) h
def kbX6_become_108 : List KE := [(.aload_n 0, 1, (0, 0, 0), 0, 0), (.aload_n 1, 1, (1, 0, 0), 0, 0), (.getfield 25, 3, (6, 12, 1), 0, 0), (.aload_n 0, 1, (0, 0, 0), 0, 0), (.getfield 25, 3, (6, 12, 1), 0, 0)]
theorem kwX6_become_108 {X : KX} {S : KS} {mc ms : Nat} {E : KEnd} {ls : KL} {st : List KV} {M : KM} {cs sl : Nat} (hC : KC X mX6_become 6 false S mc ms) (hE : KRet X mX6_become E) (h : kblk (kroom mX6_become mc ms) S E (KW X) kbX6_become_108 108 ls st M cs sl) : KW X 108 ls st M cs sl := KW_blk hC hE kbX6_become_108 108 ls st M cs sl (by decide +kernel) h
def kbX6_become_120 : List KE := [(.aload_n 0, 1, (0, 0, 0), 0, 0), (.aload_n 1, 1, (1, 0, 0), 0, 0), (.getfield 28, 3, (6, 13, 1), 0, 0), (.aload_n 0, 1, (0, 0, 0), 0, 0), (.getfield 28, 3, (6, 13, 1), 0, 0)]
theorem kwX6_become_120 {X : KX} {S : KS} {mc ms : Nat} {E : KEnd} {ls : KL} {st : List KV} {M : KM} {cs sl : Nat} (hC : KC X mX6_become 6 false S mc ms) (hE : KRet X mX6_become E) (h : kblk (kroom mX6_become mc ms) S E (KW X) kbX6_become_120 120 ls st M cs sl) : KW X 120 ls st M cs sl := KW_blk hC hE kbX6_become_120 120 ls st M cs sl (by decide +kernel) h
def kbX6_become_132 : List KE := [(.aload_n 0, 1, (0, 0, 0), 0, 0), (.aload_n 1, 1, (1, 0, 0), 0, 0), (.getfield 31, 3, (6, 14, 1), 0, 0), (.aload_n 0, 1, (0, 0, 0), 0, 0), (.getfield 31, 3, (6, 14, 1), 0, 0)]
theorem kwX6_become_132 {X : KX} {S : KS} {mc ms : Nat} {E : KEnd} {ls : KL} {st : List KV} {M : KM} {cs sl : Nat} (hC : KC X mX6_become 6 false S mc ms) (hE : KRet X mX6_become E) (h : kblk (kroom mX6_become mc ms) S E (KW X) kbX6_become_132 132 ls st M cs sl) : KW X 132 ls st M cs sl := KW_blk hC hE kbX6_become_132 132 ls st M cs sl (by decide +kernel) h
def kbX6_become_144 : List KE := [(.aload_n 0, 1, (0, 0, 0), 0, 0), (.aload_n 1, 1, (1, 0, 0), 0, 0), (.getfield 34, 3, (6, 15, 1), 0, 0), (.aload_n 0, 1, (0, 0, 0), 0, 0), (.getfield 34, 3, (6, 15, 1), 0, 0)]
theorem kwX6_become_144 {X : KX} {S : KS} {mc ms : Nat} {E : KEnd} {ls : KL} {st : List KV} {M : KM} {cs sl : Nat} (hC : KC X mX6_become 6 false S mc ms) (hE : KRet X mX6_become E) (h : kblk (kroom mX6_become mc ms) S E (KW X) kbX6_become_144 144 ls st M cs sl) : KW X 144 ls st M cs sl := KW_blk hC hE kbX6_become_144 144 ls st M cs sl (by decide +kernel) h
def kbX6_become_156 : List KE := [(.aload_n 0, 1, (0, 0, 0), 0, 0), (.aload_n 1, 1, (1, 0, 0), 0, 0), (.getfield 37, 3, (6, 16, 1), 0, 0), (.aload_n 0, 1, (0, 0, 0), 0, 0), (.getfield 37, 3, (6, 16, 1), 0, 0)]
theorem kwX6_become_156 {X : KX} {S : KS} {mc ms : Nat} {E : KEnd} {ls : KL} {st : List KV} {M : KM} {cs sl : Nat} (hC : KC X mX6_become 6 false S mc ms) (hE : KRet X mX6_become E) (h : kblk (kroom mX6_become mc ms) S E (KW X) kbX6_become_156 156 ls st M cs sl) : KW X 156 ls st M cs sl := KW_blk hC hE kbX6_become_156 156 ls st M cs sl (by decide +kernel) h
def kbX6_become_168 : List KE := [(.aload_n 0, 1, (0, 0, 0), 0, 0), (.aload_n 1, 1, (1, 0, 0), 0, 0), (.getfield 40, 3, (6, 17, 1), 0, 0), (.aload_n 0, 1, (0, 0, 0), 0, 0), (.getfield 40, 3, (6, 17, 1), 0, 0)]
theorem kwX6_become_168 {X : KX} {S : KS} {mc ms : Nat} {E : KEnd} {ls : KL} {st : List KV} {M : KM} {cs sl : Nat} (hC : KC X mX6_become 6 false S mc ms) (hE : KRet X mX6_become E) (h : kblk (kroom mX6_become mc ms) S E (KW X) kbX6_become_168 168 ls st M cs sl) : KW X 168 ls st M cs sl := KW_blk hC hE kbX6_become_168 168 ls st M cs sl (by decide +kernel) h
def kbX6_become_180 : List KE := [(.aload_n 0, 1, (0, 0, 0), 0, 0), (.aload_n 1, 1, (1, 0, 0), 0, 0), (.getfield 43, 3, (6, 18, 1), 0, 0), (.aload_n 0, 1, (0, 0, 0), 0, 0), (.getfield 43, 3, (6, 18, 1), 0, 0)]
theorem kwX6_become_180 {X : KX} {S : KS} {mc ms : Nat} {E : KEnd} {ls : KL} {st : List KV} {M : KM} {cs sl : Nat} (hC : KC X mX6_become 6 false S mc ms) (hE : KRet X mX6_become E) (h : kblk (kroom mX6_become mc ms) S E (KW X) kbX6_become_180 180 ls st M cs sl) : KW X 180 ls st M cs sl := KW_blk hC hE kbX6_become_180 180 ls st M cs sl (by decide +kernel) h
def kbX6_become_192 : List KE := [(.aload_n 0, 1, (0, 0, 0), 0, 0), (.aload_n 1, 1, (1, 0, 0), 0, 0), (.getfield 46, 3, (6, 19, 1), 0, 0), (.aload_n 0, 1, (0, 0, 0), 0, 0), (.getfield 46, 3, (6, 19, 1), 0, 0)]
theorem kwX6_become_192 {X : KX} {S : KS} {mc ms : Nat} {E : KEnd} {ls : KL} {st : List KV} {M : KM} {cs sl : Nat} (hC : KC X mX6_become 6 false S mc ms) (hE : KRet X mX6_become E) (h : kblk (kroom mX6_become mc ms) S E (KW X) kbX6_become_192 192 ls st M cs sl) : KW X 192 ls st M cs sl := KW_blk hC hE kbX6_become_192 192 ls st M cs sl (by decide +kernel) h
def kbX6_become_204 : List KE := [(.aload_n 0, 1, (0, 0, 0), 0, 0), (.aload_n 1, 1, (1, 0, 0), 0, 0), (.getfield 49, 3, (6, 20, 1), 0, 0), (.aload_n 0, 1, (0, 0, 0), 0, 0), (.getfield 49, 3, (6, 20, 1), 0, 0)]
theorem kwX6_become_204 {X : KX} {S : KS} {mc ms : Nat} {E : KEnd} {ls : KL} {st : List KV} {M : KM} {cs sl : Nat} (hC : KC X mX6_become 6 false S mc ms) (hE : KRet X mX6_become E) (h : kblk (kroom mX6_become mc ms) S E (KW X) kbX6_become_204 204 ls st M cs sl) : KW X 204 ls st M cs sl := KW_blk hC hE kbX6_become_204 204 ls st M cs sl (by decide +kernel) h
def kbX6_become_216 : List KE := [(.aload_n 0, 1, (0, 0, 0), 0, 0), (.aload_n 1, 1, (1, 0, 0), 0, 0), (.getfield 52, 3, (6, 21, 1), 0, 0), (.aload_n 0, 1, (0, 0, 0), 0, 0), (.getfield 52, 3, (6, 21, 1), 0, 0)]
theorem kwX6_become_216 {X : KX} {S : KS} {mc ms : Nat} {E : KEnd} {ls : KL} {st : List KV} {M : KM} {cs sl : Nat} (hC : KC X mX6_become 6 false S mc ms) (hE : KRet X mX6_become E) (h : kblk (kroom mX6_become mc ms) S E (KW X) kbX6_become_216 216 ls st M cs sl) : KW X 216 ls st M cs sl := KW_blk hC hE kbX6_become_216 216 ls st M cs sl (by decide +kernel) h
def kbX6_become_228 : List KE := [(.return_, 1, (0, 0, 0), 0, 0)]
theorem kwX6_become_228 {X : KX} {S : KS} {mc ms : Nat} {E : KEnd} {ls : KL} {st : List KV} {M : KM} {cs sl : Nat} (hC : KC X mX6_become 6 false S mc ms) (hE : KRet X mX6_become E) (h : kblk (kroom mX6_become mc ms) S E (KW X) kbX6_become_228 228 ls st M cs sl) : KW X 228 ls st M cs sl := KW_blk hC hE kbX6_become_228 228 ls st M cs sl (by decide +kernel) h
def kbX6_chill_0 : List KE := [(.iconst 0, 1, (0, 0, 0), 0, 0), (.istore_n 1, 1, (1, 0, 0), 0, 0)]
theorem kwX6_chill_0 {X : KX} {S : KS} {mc ms : Nat} {E : KEnd} {ls : KL} {st : List KV} {M : KM} {cs sl : Nat} (hC : KC X mX6_chill 6 false S mc ms) (hE : KRet X mX6_chill E) (h : kblk (kroom mX6_chill mc ms) S E (KW X) kbX6_chill_0 0 ls st M cs sl) : KW X 0 ls st M cs sl := KW_blk hC hE kbX6_chill_0 0 ls st M cs sl (by decide +kernel) h
def kbX6_chill_2 : List KE := [(.iload_n 1, 1, (1, 0, 0), 0, 0), (.aload_n 0, 1, (0, 0, 0), 0, 0), (.getfield 71, 3, (6, 3, 0), 0, 0), (.if_icmp .ge (47), 3, (54, 0, 0), 0, 0)]
theorem kwX6_chill_2 {X : KX} {S : KS} {mc ms : Nat} {E : KEnd} {ls : KL} {st : List KV} {M : KM} {cs sl : Nat} (hC : KC X mX6_chill 6 false S mc ms) (hE : KRet X mX6_chill E) (h : kblk (kroom mX6_chill mc ms) S E (KW X) kbX6_chill_2 2 ls st M cs sl) : KW X 2 ls st M cs sl := KW_blk hC hE kbX6_chill_2 2 ls st M cs sl (by decide +kernel) h
def kbX6_chill_10 : List KE := [(.aload_n 0, 1, (0, 0, 0), 0, 0), (.getfield 40, 3, (6, 17, 1), 0, 0), (.iload_n 1, 1, (1, 0, 0), 0, 0), (.iaload, 1, (0, 0, 0), 0, 0), (.iconst 1, 1, (0, 0, 0), 1, 0), (.if_icmp .eq (6), 3, (23, 0, 0), 0, 0)]
theorem kwX6_chill_10 {X : KX} {S : KS} {mc ms : Nat} {E : KEnd} {ls : KL} {st : List KV} {M : KM} {cs sl : Nat} (hC : KC X mX6_chill 6 false S mc ms) (hE : KRet X mX6_chill E) (h : kblk (kroom mX6_chill mc ms) S E (KW X) kbX6_chill_10 10 ls st M cs sl) : KW X 10 ls st M cs sl := KW_blk hC hE kbX6_chill_10 10 ls st M cs sl (by decide +kernel) h
def kbX6_chill_20 : List KE := [(.goto (28), 3, (48, 0, 0), 0, 0)]
theorem kwX6_chill_20 {X : KX} {S : KS} {mc ms : Nat} {E : KEnd} {ls : KL} {st : List KV} {M : KM} {cs sl : Nat} (hC : KC X mX6_chill 6 false S mc ms) (hE : KRet X mX6_chill E) (h : kblk (kroom mX6_chill mc ms) S E (KW X) kbX6_chill_20 20 ls st M cs sl) : KW X 20 ls st M cs sl := KW_blk hC hE kbX6_chill_20 20 ls st M cs sl (by decide +kernel) h
def kbX6_chill_23 : List KE := [(.aload_n 0, 1, (0, 0, 0), 0, 0), (.getfield 52, 3, (6, 21, 1), 0, 0), (.iload_n 1, 1, (1, 0, 0), 0, 0), (.dup2, 1, (0, 0, 0), 0, 0), (.iaload, 1, (0, 0, 0), 0, 0), (.iconst 1, 1, (0, 0, 0), 1, 0), (.iadd, 1, (0, 0, 0), 0, 0), (.iastore, 1, (0, 0, 0), 0, 0), (.aload_n 0, 1, (0, 0, 0), 0, 0), (.dup, 1, (0, 0, 0), 0, 0), (.getfield 77, 3, (6, 5, 0), 0, 0), (.aload_n 0, 1, (0, 0, 0), 0, 0), (.getfield 34, 3, (6, 15, 1), 0, 0), (.iload_n 1, 1, (1, 0, 0), 0, 0), (.iaload, 1, (0, 0, 0), 0, 0), (.iadd, 1, (0, 0, 0), 0, 0), (.putfield 77, 3, (6, 5, 0), 0, 0)]
theorem kwX6_chill_23 {X : KX} {S : KS} {mc ms : Nat} {E : KEnd} {ls : KL} {st : List KV} {M : KM} {cs sl : Nat} (hC : KC X mX6_chill 6 false S mc ms) (hE : KRet X mX6_chill E) (h : kblk (kroom mX6_chill mc ms) S E (KW X) kbX6_chill_23 23 ls st M cs sl) : KW X 23 ls st M cs sl := KW_blk hC hE kbX6_chill_23 23 ls st M cs sl (by decide +kernel) h
def kbX6_chill_48 : List KE := [(.iinc 1 (1), 3, (1, 0, 0), 1, 0), (.goto (-49), 3, (2, 0, 0), 0, 0)]
theorem kwX6_chill_48 {X : KX} {S : KS} {mc ms : Nat} {E : KEnd} {ls : KL} {st : List KV} {M : KM} {cs sl : Nat} (hC : KC X mX6_chill 6 false S mc ms) (hE : KRet X mX6_chill E) (h : kblk (kroom mX6_chill mc ms) S E (KW X) kbX6_chill_48 48 ls st M cs sl) : KW X 48 ls st M cs sl := KW_blk hC hE kbX6_chill_48 48 ls st M cs sl (by decide +kernel) h
def kbX6_chill_54 : List KE := [(.return_, 1, (0, 0, 0), 0, 0)]
theorem kwX6_chill_54 {X : KX} {S : KS} {mc ms : Nat} {E : KEnd} {ls : KL} {st : List KV} {M : KM} {cs sl : Nat} (hC : KC X mX6_chill 6 false S mc ms) (hE : KRet X mX6_chill E) (h : kblk (kroom mX6_chill mc ms) S E (KW X) kbX6_chill_54 54 ls st M cs sl) : KW X 54 ls st M cs sl := KW_blk hC hE kbX6_chill_54 54 ls st M cs sl (by decide +kernel) h
def kbX6_copy_0 : List KE := [(.aload_n 1, 1, (1, 0, 0), 0, 0), (.iconst 0, 1, (0, 0, 0), 0, 0), (.aload_n 2, 1, (2, 0, 0), 0, 0), (.iconst 0, 1, (0, 0, 0), 0, 0), (.aload_n 1, 1, (1, 0, 0), 0, 0), (.arraylength, 1, (0, 0, 0), 0, 0), (.invokestatic 55, 3, (0, 0, 0), 0, 0), (.return_, 1, (0, 0, 0), 0, 0)]
theorem kwX6_copy_0 {X : KX} {S : KS} {mc ms : Nat} {E : KEnd} {ls : KL} {st : List KV} {M : KM} {cs sl : Nat} (hC : KC X mX6_copy 6 false S mc ms) (hE : KRet X mX6_copy E) (h : kblk (kroom mX6_copy mc ms) S E (KW X) kbX6_copy_0 0 ls st M cs sl) : KW X 0 ls st M cs sl := KW_blk hC hE kbX6_copy_0 0 ls st M cs sl (by decide +kernel) h
def kbX6_drop_0 : List KE := [(.aload_n 0, 1, (0, 0, 0), 0, 0), (.getfield 43, 3, (6, 18, 1), 0, 0), (.iload_n 1, 1, (1, 0, 0), 0, 0), (.iaload, 1, (0, 0, 0), 0, 0), (.istore_n 2, 1, (2, 0, 0), 0, 0), (.bipush (91), 2, (0, 0, 0), 91, 0), (.iload_n 2, 1, (2, 0, 0), 0, 0), (.imul, 1, (0, 0, 0), 0, 0), (.istore_n 3, 1, (3, 0, 0), 0, 0), (.iconst 0, 1, (0, 0, 0), 0, 0), (.istore 4, 2, (4, 0, 0), 0, 0)]
theorem kwX6_drop_0 {X : KX} {S : KS} {mc ms : Nat} {E : KEnd} {ls : KL} {st : List KV} {M : KM} {cs sl : Nat} (hC : KC X mX6_drop 6 false S mc ms) (hE : KRet X mX6_drop E) (h : kblk (kroom mX6_drop mc ms) S E (KW X) kbX6_drop_0 0 ls st M cs sl) : KW X 0 ls st M cs sl := KW_blk hC hE kbX6_drop_0 0 ls st M cs sl (by decide +kernel) h
def kbX6_drop_15 : List KE := [(.aload_n 0, 1, (0, 0, 0), 0, 0), (.getfield 31, 3, (6, 14, 1), 0, 0), (.iload_n 3, 1, (3, 0, 0), 0, 0), (.iload 4, 2, (4, 0, 0), 0, 0), (.iadd, 1, (0, 0, 0), 0, 0), (.iaload, 1, (0, 0, 0), 0, 0), (.iload_n 1, 1, (1, 0, 0), 0, 0), (.if_icmp .eq (9), 3, (34, 0, 0), 0, 0)]
theorem kwX6_drop_15 {X : KX} {S : KS} {mc ms : Nat} {E : KEnd} {ls : KL} {st : List KV} {M : KM} {cs sl : Nat} (hC : KC X mX6_drop 6 false S mc ms) (hE : KRet X mX6_drop E) (h : kblk (kroom mX6_drop mc ms) S E (KW X) kbX6_drop_15 15 ls st M cs sl) : KW X 15 ls st M cs sl := KW_blk hC hE kbX6_drop_15 15 ls st M cs sl (by decide +kernel) h
def kbX6_drop_28 : List KE := [(.iinc 4 (1), 3, (4, 0, 0), 1, 0), (.goto (-16), 3, (15, 0, 0), 0, 0)]
theorem kwX6_drop_28 {X : KX} {S : KS} {mc ms : Nat} {E : KEnd} {ls : KL} {st : List KV} {M : KM} {cs sl : Nat} (hC : KC X mX6_drop 6 false S mc ms) (hE : KRet X mX6_drop E) (h : kblk (kroom mX6_drop mc ms) S E (KW X) kbX6_drop_28 28 ls st M cs sl) : KW X 28 ls st M cs sl := KW_blk hC hE kbX6_drop_28 28 ls st M cs sl (by decide +kernel) h
def kbX6_drop_34 : List KE := [(.aload_n 0, 1, (0, 0, 0), 0, 0), (.getfield 28, 3, (6, 13, 1), 0, 0), (.iload_n 2, 1, (2, 0, 0), 0, 0), (.dup2, 1, (0, 0, 0), 0, 0), (.iaload, 1, (0, 0, 0), 0, 0), (.iconst 1, 1, (0, 0, 0), 1, 0), (.isub, 1, (0, 0, 0), 0, 0), (.iastore, 1, (0, 0, 0), 0, 0), (.aload_n 0, 1, (0, 0, 0), 0, 0), (.getfield 31, 3, (6, 14, 1), 0, 0), (.iload_n 3, 1, (3, 0, 0), 0, 0), (.iload 4, 2, (4, 0, 0), 0, 0), (.iadd, 1, (0, 0, 0), 0, 0), (.iconst 1, 1, (0, 0, 0), 1, 0), (.iadd, 1, (0, 0, 0), 0, 0), (.aload_n 0, 1, (0, 0, 0), 0, 0), (.getfield 31, 3, (6, 14, 1), 0, 0), (.iload_n 3, 1, (3, 0, 0), 0, 0), (.iload 4, 2, (4, 0, 0), 0, 0), (.iadd, 1, (0, 0, 0), 0, 0), (.aload_n 0, 1, (0, 0, 0), 0, 0), (.getfield 28, 3, (6, 13, 1), 0, 0), (.iload_n 2, 1, (2, 0, 0), 0, 0), (.iaload, 1, (0, 0, 0), 0, 0), (.iload 4, 2, (4, 0, 0), 0, 0), (.isub, 1, (0, 0, 0), 0, 0), (.invokestatic 55, 3, (0, 0, 0), 0, 0), (.iload_n 2, 1, (2, 0, 0), 0, 0), (.ireturn, 1, (0, 0, 0), 0, 0)]
theorem kwX6_drop_34 {X : KX} {S : KS} {mc ms : Nat} {E : KEnd} {ls : KL} {st : List KV} {M : KM} {cs sl : Nat} (hC : KC X mX6_drop 6 false S mc ms) (hE : KRet X mX6_drop E) (h : kblk (kroom mX6_drop mc ms) S E (KW X) kbX6_drop_34 34 ls st M cs sl) : KW X 34 ls st M cs sl := KW_blk hC hE kbX6_drop_34 34 ls st M cs sl (by decide +kernel) h
def kbX6_enter_0 : List KE := [(.aload_n 0, 1, (0, 0, 0), 0, 0), (.getfield 40, 3, (6, 17, 1), 0, 0), (.iload_n 1, 1, (1, 0, 0), 0, 0), (.iconst 0, 1, (0, 0, 0), 0, 0), (.iastore, 1, (0, 0, 0), 0, 0), (.aload_n 0, 1, (0, 0, 0), 0, 0), (.getfield 43, 3, (6, 18, 1), 0, 0), (.iload_n 1, 1, (1, 0, 0), 0, 0), (.iload_n 2, 1, (2, 0, 0), 0, 0), (.iastore, 1, (0, 0, 0), 0, 0), (.aload_n 0, 1, (0, 0, 0), 0, 0), (.getfield 31, 3, (6, 14, 1), 0, 0), (.bipush (91), 2, (0, 0, 0), 91, 0), (.iload_n 2, 1, (2, 0, 0), 0, 0), (.imul, 1, (0, 0, 0), 0, 0), (.aload_n 0, 1, (0, 0, 0), 0, 0), (.getfield 28, 3, (6, 13, 1), 0, 0), (.iload_n 2, 1, (2, 0, 0), 0, 0), (.iaload, 1, (0, 0, 0), 0, 0), (.iadd, 1, (0, 0, 0), 0, 0), (.iload_n 1, 1, (1, 0, 0), 0, 0), (.iastore, 1, (0, 0, 0), 0, 0), (.aload_n 0, 1, (0, 0, 0), 0, 0), (.getfield 28, 3, (6, 13, 1), 0, 0), (.iload_n 2, 1, (2, 0, 0), 0, 0), (.dup2, 1, (0, 0, 0), 0, 0), (.iaload, 1, (0, 0, 0), 0, 0), (.iconst 1, 1, (0, 0, 0), 1, 0), (.iadd, 1, (0, 0, 0), 0, 0), (.iastore, 1, (0, 0, 0), 0, 0), (.aload_n 0, 1, (0, 0, 0), 0, 0), (.getfield 28, 3, (6, 13, 1), 0, 0), (.iload_n 2, 1, (2, 0, 0), 0, 0), (.iaload, 1, (0, 0, 0), 0, 0), (.iconst 1, 1, (0, 0, 0), 1, 0), (.isub, 1, (0, 0, 0), 0, 0), (.ireturn, 1, (0, 0, 0), 0, 0)]
theorem kwX6_enter_0 {X : KX} {S : KS} {mc ms : Nat} {E : KEnd} {ls : KL} {st : List KV} {M : KM} {cs sl : Nat} (hC : KC X mX6_enter 6 false S mc ms) (hE : KRet X mX6_enter E) (h : kblk (kroom mX6_enter mc ms) S E (KW X) kbX6_enter_0 0 ls st M cs sl) : KW X 0 ls st M cs sl := KW_blk hC hE kbX6_enter_0 0 ls st M cs sl (by decide +kernel) h
def kbX6_find_0 : List KE := [(.iconst 0, 1, (0, 0, 0), 0, 0), (.istore_n 2, 1, (2, 0, 0), 0, 0)]
theorem kwX6_find_0 {X : KX} {S : KS} {mc ms : Nat} {E : KEnd} {ls : KL} {st : List KV} {M : KM} {cs sl : Nat} (hC : KC X mX6_find 6 false S mc ms) (hE : KRet X mX6_find E) (h : kblk (kroom mX6_find mc ms) S E (KW X) kbX6_find_0 0 ls st M cs sl) : KW X 0 ls st M cs sl := KW_blk hC hE kbX6_find_0 0 ls st M cs sl (by decide +kernel) h
def kbX6_find_2 : List KE := [(.iload_n 2, 1, (2, 0, 0), 0, 0), (.aload_n 0, 1, (0, 0, 0), 0, 0), (.getfield 3, 3, (6, 22, 1), 0, 0), (.getfield 97, 3, (7, 2, 0), 0, 0), (.if_icmp .ge (21), 3, (31, 0, 0), 0, 0)]
theorem kwX6_find_2 {X : KX} {S : KS} {mc ms : Nat} {E : KEnd} {ls : KL} {st : List KV} {M : KM} {cs sl : Nat} (hC : KC X mX6_find 6 false S mc ms) (hE : KRet X mX6_find E) (h : kblk (kroom mX6_find mc ms) S E (KW X) kbX6_find_2 2 ls st M cs sl) : KW X 2 ls st M cs sl := KW_blk hC hE kbX6_find_2 2 ls st M cs sl (by decide +kernel) h
def kbX6_find_13 : List KE := [(.aload_n 0, 1, (0, 0, 0), 0, 0), (.getfield 19, 3, (6, 10, 1), 0, 0), (.iload_n 2, 1, (2, 0, 0), 0, 0), (.iaload, 1, (0, 0, 0), 0, 0), (.iload_n 1, 1, (1, 0, 0), 0, 0), (.if_icmp .ne (5), 3, (25, 0, 0), 0, 0)]
theorem kwX6_find_13 {X : KX} {S : KS} {mc ms : Nat} {E : KEnd} {ls : KL} {st : List KV} {M : KM} {cs sl : Nat} (hC : KC X mX6_find 6 false S mc ms) (hE : KRet X mX6_find E) (h : kblk (kroom mX6_find mc ms) S E (KW X) kbX6_find_13 13 ls st M cs sl) : KW X 13 ls st M cs sl := KW_blk hC hE kbX6_find_13 13 ls st M cs sl (by decide +kernel) h
def kbX6_find_23 : List KE := [(.iload_n 2, 1, (2, 0, 0), 0, 0), (.ireturn, 1, (0, 0, 0), 0, 0)]
theorem kwX6_find_23 {X : KX} {S : KS} {mc ms : Nat} {E : KEnd} {ls : KL} {st : List KV} {M : KM} {cs sl : Nat} (hC : KC X mX6_find 6 false S mc ms) (hE : KRet X mX6_find E) (h : kblk (kroom mX6_find mc ms) S E (KW X) kbX6_find_23 23 ls st M cs sl) : KW X 23 ls st M cs sl := KW_blk hC hE kbX6_find_23 23 ls st M cs sl (by decide +kernel) h
def kbX6_find_25 : List KE := [(.iinc 2 (1), 3, (2, 0, 0), 1, 0), (.goto (-26), 3, (2, 0, 0), 0, 0)]
theorem kwX6_find_25 {X : KX} {S : KS} {mc ms : Nat} {E : KEnd} {ls : KL} {st : List KV} {M : KM} {cs sl : Nat} (hC : KC X mX6_find 6 false S mc ms) (hE : KRet X mX6_find E) (h : kblk (kroom mX6_find mc ms) S E (KW X) kbX6_find_25 25 ls st M cs sl) : KW X 25 ls st M cs sl := KW_blk hC hE kbX6_find_25 25 ls st M cs sl (by decide +kernel) h
def kbX6_find_31 : List KE := [(.iconst (-1), 1, (0, 0, 0), (-1), 0), (.ireturn, 1, (0, 0, 0), 0, 0)]
theorem kwX6_find_31 {X : KX} {S : KS} {mc ms : Nat} {E : KEnd} {ls : KL} {st : List KV} {M : KM} {cs sl : Nat} (hC : KC X mX6_find 6 false S mc ms) (hE : KRet X mX6_find E) (h : kblk (kroom mX6_find mc ms) S E (KW X) kbX6_find_31 31 ls st M cs sl) : KW X 31 ls st M cs sl := KW_blk hC hE kbX6_find_31 31 ls st M cs sl (by decide +kernel) h
def kbX6_init_0 : List KE := [(.aload_n 0, 1, (0, 0, 0), 0, 0), (.aload_n 1, 1, (1, 0, 0), 0, 0), (.putfield 3, 3, (6, 22, 1), 0, 0), (.aload_n 0, 1, (0, 0, 0), 0, 0), (.invokespecial 9, 3, (0, 0, 0), 0, 0), (.aload_n 0, 1, (0, 0, 0), 0, 0), (.bipush (20), 2, (0, 0, 0), 20, 0), (.newarray .int, 2, (8, 0, 0), 0, 0), (.putfield 15, 3, (6, 9, 1), 0, 0), (.aload_n 0, 1, (0, 0, 0), 0, 0), (.bipush (20), 2, (0, 0, 0), 20, 0), (.newarray .int, 2, (8, 0, 0), 0, 0), (.putfield 19, 3, (6, 10, 1), 0, 0), (.aload_n 0, 1, (0, 0, 0), 0, 0), (.bipush (20), 2, (0, 0, 0), 20, 0), (.newarray .int, 2, (8, 0, 0), 0, 0), (.putfield 22, 3, (6, 11, 1), 0, 0), (.aload_n 0, 1, (0, 0, 0), 0, 0), (.iconst 4, 1, (0, 0, 0), 4, 0), (.newarray .int, 2, (8, 0, 0), 0, 0), (.putfield 25, 3, (6, 12, 1), 0, 0), (.aload_n 0, 1, (0, 0, 0), 0, 0), (.iconst 4, 1, (0, 0, 0), 4, 0), (.newarray .int, 2, (8, 0, 0), 0, 0), (.putfield 28, 3, (6, 13, 1), 0, 0), (.aload_n 0, 1, (0, 0, 0), 0, 0), (.sipush (364), 3, (0, 0, 0), 364, 0), (.newarray .int, 2, (8, 0, 0), 0, 0), (.putfield 31, 3, (6, 14, 1), 0, 0), (.aload_n 0, 1, (0, 0, 0), 0, 0), (.bipush (91), 2, (0, 0, 0), 91, 0), (.newarray .int, 2, (8, 0, 0), 0, 0), (.putfield 34, 3, (6, 15, 1), 0, 0), (.aload_n 0, 1, (0, 0, 0), 0, 0), (.bipush (91), 2, (0, 0, 0), 91, 0), (.newarray .int, 2, (8, 0, 0), 0, 0), (.putfield 37, 3, (6, 16, 1), 0, 0), (.aload_n 0, 1, (0, 0, 0), 0, 0), (.bipush (91), 2, (0, 0, 0), 91, 0), (.newarray .int, 2, (8, 0, 0), 0, 0), (.putfield 40, 3, (6, 17, 1), 0, 0), (.aload_n 0, 1, (0, 0, 0), 0, 0), (.bipush (91), 2, (0, 0, 0), 91, 0), (.newarray .int, 2, (8, 0, 0), 0, 0), (.putfield 43, 3, (6, 18, 1), 0, 0), (.aload_n 0, 1, (0, 0, 0), 0, 0), (.bipush (91), 2, (0, 0, 0), 91, 0), (.newarray .int, 2, (8, 0, 0), 0, 0), (.putfield 46, 3, (6, 19, 1), 0, 0), (.aload_n 0, 1, (0, 0, 0), 0, 0), (.bipush (91), 2, (0, 0, 0), 91, 0), (.newarray .int, 2, (8, 0, 0), 0, 0), (.putfield 49, 3, (6, 20, 1), 0, 0), (.aload_n 0, 1, (0, 0, 0), 0, 0), (.bipush (91), 2, (0, 0, 0), 91, 0), (.newarray .int, 2, (8, 0, 0), 0, 0), (.putfield 52, 3, (6, 21, 1), 0, 0), (.return_, 1, (0, 0, 0), 0, 0)]
theorem kwX6_init_0 {X : KX} {S : KS} {mc ms : Nat} {E : KEnd} {ls : KL} {st : List KV} {M : KM} {cs sl : Nat} (hC : KC X mX6_init 6 true S mc ms) (hE : KRet X mX6_init E) (h : kblk (kroom mX6_init mc ms) S E (KW X) kbX6_init_0 0 ls st M cs sl) : KW X 0 ls st M cs sl := KW_blk hC hE kbX6_init_0 0 ls st M cs sl (by decide +kernel) h
def kbX6_join_0 : List KE := [(.aload_n 0, 1, (0, 0, 0), 0, 0), (.getfield 71, 3, (6, 3, 0), 0, 0), (.istore 4, 2, (4, 0, 0), 0, 0), (.aload_n 0, 1, (0, 0, 0), 0, 0), (.getfield 34, 3, (6, 15, 1), 0, 0), (.iload 4, 2, (4, 0, 0), 0, 0), (.iload_n 2, 1, (2, 0, 0), 0, 0), (.iastore, 1, (0, 0, 0), 0, 0), (.aload_n 0, 1, (0, 0, 0), 0, 0), (.getfield 37, 3, (6, 16, 1), 0, 0), (.iload 4, 2, (4, 0, 0), 0, 0), (.iload_n 3, 1, (3, 0, 0), 0, 0), (.iastore, 1, (0, 0, 0), 0, 0), (.aload_n 0, 1, (0, 0, 0), 0, 0), (.getfield 46, 3, (6, 19, 1), 0, 0), (.iload 4, 2, (4, 0, 0), 0, 0), (.aload_n 0, 1, (0, 0, 0), 0, 0), (.getfield 61, 3, (6, 0, 0), 0, 0), (.iastore, 1, (0, 0, 0), 0, 0), (.aload_n 0, 1, (0, 0, 0), 0, 0), (.getfield 49, 3, (6, 20, 1), 0, 0), (.iload 4, 2, (4, 0, 0), 0, 0), (.iconst (-1), 1, (0, 0, 0), (-1), 0), (.iastore, 1, (0, 0, 0), 0, 0), (.aload_n 0, 1, (0, 0, 0), 0, 0), (.getfield 52, 3, (6, 21, 1), 0, 0), (.iload 4, 2, (4, 0, 0), 0, 0), (.iconst 0, 1, (0, 0, 0), 0, 0), (.iastore, 1, (0, 0, 0), 0, 0), (.aload_n 0, 1, (0, 0, 0), 0, 0), (.dup, 1, (0, 0, 0), 0, 0), (.getfield 71, 3, (6, 3, 0), 0, 0), (.iconst 1, 1, (0, 0, 0), 1, 0), (.iadd, 1, (0, 0, 0), 0, 0), (.putfield 71, 3, (6, 3, 0), 0, 0), (.aload_n 0, 1, (0, 0, 0), 0, 0), (.iload 4, 2, (4, 0, 0), 0, 0), (.iload_n 1, 1, (1, 0, 0), 0, 0)]
theorem kwX6_join_0 {X : KX} {S : KS} {mc ms : Nat} {E : KEnd} {ls : KL} {st : List KV} {M : KM} {cs sl : Nat} (hC : KC X mX6_join 6 false S mc ms) (hE : KRet X mX6_join E) (h : kblk (kroom mX6_join mc ms) S E (KW X) kbX6_join_0 0 ls st M cs sl) : KW X 0 ls st M cs sl := KW_blk hC hE kbX6_join_0 0 ls st M cs sl (by decide +kernel) h
def kbX6_join_66 : List KE := [(.pop, 1, (0, 0, 0), 0, 0), (.iload 4, 2, (4, 0, 0), 0, 0), (.ireturn, 1, (0, 0, 0), 0, 0)]
theorem kwX6_join_66 {X : KX} {S : KS} {mc ms : Nat} {E : KEnd} {ls : KL} {st : List KV} {M : KM} {cs sl : Nat} (hC : KC X mX6_join 6 false S mc ms) (hE : KRet X mX6_join E) (h : kblk (kroom mX6_join mc ms) S E (KW X) kbX6_join_66 66 ls st M cs sl) : KW X 66 ls st M cs sl := KW_blk hC hE kbX6_join_66 66 ls st M cs sl (by decide +kernel) h
def kbX6_load_0 : List KE := [(.aload_n 0, 1, (0, 0, 0), 0, 0), (.getfield 3, 3, (6, 22, 1), 0, 0), (.getfield 100, 3, (7, 4, 1), 0, 0), (.iload_n 1, 1, (1, 0, 0), 0, 0), (.iaload, 1, (0, 0, 0), 0, 0), (.istore_n 2, 1, (2, 0, 0), 0, 0), (.iconst 0, 1, (0, 0, 0), 0, 0), (.istore_n 3, 1, (3, 0, 0), 0, 0)]
theorem kwX6_load_0 {X : KX} {S : KS} {mc ms : Nat} {E : KEnd} {ls : KL} {st : List KV} {M : KM} {cs sl : Nat} (hC : KC X mX6_load 6 false S mc ms) (hE : KRet X mX6_load E) (h : kblk (kroom mX6_load mc ms) S E (KW X) kbX6_load_0 0 ls st M cs sl) : KW X 0 ls st M cs sl := KW_blk hC hE kbX6_load_0 0 ls st M cs sl (by decide +kernel) h
def kbX6_load_12 : List KE := [(.iload_n 3, 1, (3, 0, 0), 0, 0), (.ifCond .ne (164), 3, (177, 0, 0), 0, 0)]
theorem kwX6_load_12 {X : KX} {S : KS} {mc ms : Nat} {E : KEnd} {ls : KL} {st : List KV} {M : KM} {cs sl : Nat} (hC : KC X mX6_load 6 false S mc ms) (hE : KRet X mX6_load E) (h : kblk (kroom mX6_load mc ms) S E (KW X) kbX6_load_12 12 ls st M cs sl) : KW X 12 ls st M cs sl := KW_blk hC hE kbX6_load_12 12 ls st M cs sl (by decide +kernel) h
def kbX6_load_16 : List KE := [(.iconst 1, 1, (0, 0, 0), 1, 0), (.istore_n 3, 1, (3, 0, 0), 0, 0), (.iconst 0, 1, (0, 0, 0), 0, 0), (.istore 4, 2, (4, 0, 0), 0, 0)]
theorem kwX6_load_16 {X : KX} {S : KS} {mc ms : Nat} {E : KEnd} {ls : KL} {st : List KV} {M : KM} {cs sl : Nat} (hC : KC X mX6_load 6 false S mc ms) (hE : KRet X mX6_load E) (h : kblk (kroom mX6_load mc ms) S E (KW X) kbX6_load_16 16 ls st M cs sl) : KW X 16 ls st M cs sl := KW_blk hC hE kbX6_load_16 16 ls st M cs sl (by decide +kernel) h
def kbX6_load_21 : List KE := [(.iload 4, 2, (4, 0, 0), 0, 0), (.aload_n 0, 1, (0, 0, 0), 0, 0), (.getfield 3, 3, (6, 22, 1), 0, 0), (.getfield 103, 3, (7, 3, 0), 0, 0), (.if_icmp .ge (144), 3, (174, 0, 0), 0, 0)]
theorem kwX6_load_21 {X : KX} {S : KS} {mc ms : Nat} {E : KEnd} {ls : KL} {st : List KV} {M : KM} {cs sl : Nat} (hC : KC X mX6_load 6 false S mc ms) (hE : KRet X mX6_load E) (h : kblk (kroom mX6_load mc ms) S E (KW X) kbX6_load_21 21 ls st M cs sl) : KW X 21 ls st M cs sl := KW_blk hC hE kbX6_load_21 21 ls st M cs sl (by decide +kernel) h
def kbX6_load_33 : List KE := [(.iload_n 3, 1, (3, 0, 0), 0, 0), (.ifCond .eq (140), 3, (174, 0, 0), 0, 0)]
theorem kwX6_load_33 {X : KX} {S : KS} {mc ms : Nat} {E : KEnd} {ls : KL} {st : List KV} {M : KM} {cs sl : Nat} (hC : KC X mX6_load 6 false S mc ms) (hE : KRet X mX6_load E) (h : kblk (kroom mX6_load mc ms) S E (KW X) kbX6_load_33 33 ls st M cs sl) : KW X 33 ls st M cs sl := KW_blk hC hE kbX6_load_33 33 ls st M cs sl (by decide +kernel) h
def kbX6_load_37 : List KE := [(.aload_n 0, 1, (0, 0, 0), 0, 0), (.getfield 68, 3, (6, 2, 0), 0, 0), (.iload 4, 2, (4, 0, 0), 0, 0), (.iadd, 1, (0, 0, 0), 0, 0), (.aload_n 0, 1, (0, 0, 0), 0, 0), (.getfield 3, 3, (6, 22, 1), 0, 0), (.getfield 103, 3, (7, 3, 0), 0, 0), (.irem, 1, (0, 0, 0), 0, 0), (.istore 5, 2, (5, 0, 0), 0, 0), (.aload_n 0, 1, (0, 0, 0), 0, 0), (.getfield 28, 3, (6, 13, 1), 0, 0), (.iload 5, 2, (5, 0, 0), 0, 0), (.iaload, 1, (0, 0, 0), 0, 0), (.ifCond .ne (7), 3, (68, 0, 0), 0, 0)]
theorem kwX6_load_37 {X : KX} {S : KS} {mc ms : Nat} {E : KEnd} {ls : KL} {st : List KV} {M : KM} {cs sl : Nat} (hC : KC X mX6_load 6 false S mc ms) (hE : KRet X mX6_load E) (h : kblk (kroom mX6_load mc ms) S E (KW X) kbX6_load_37 37 ls st M cs sl) : KW X 37 ls st M cs sl := KW_blk hC hE kbX6_load_37 37 ls st M cs sl (by decide +kernel) h
def kbX6_load_64 : List KE := [(.iconst (-1), 1, (0, 0, 0), (-1), 0), (.goto (13), 3, (78, 0, 0), 0, 0)]
theorem kwX6_load_64 {X : KX} {S : KS} {mc ms : Nat} {E : KEnd} {ls : KL} {st : List KV} {M : KM} {cs sl : Nat} (hC : KC X mX6_load 6 false S mc ms) (hE : KRet X mX6_load E) (h : kblk (kroom mX6_load mc ms) S E (KW X) kbX6_load_64 64 ls st M cs sl) : KW X 64 ls st M cs sl := KW_blk hC hE kbX6_load_64 64 ls st M cs sl (by decide +kernel) h
def kbX6_load_68 : List KE := [(.aload_n 0, 1, (0, 0, 0), 0, 0), (.getfield 31, 3, (6, 14, 1), 0, 0), (.bipush (91), 2, (0, 0, 0), 91, 0), (.iload 5, 2, (5, 0, 0), 0, 0), (.imul, 1, (0, 0, 0), 0, 0), (.iaload, 1, (0, 0, 0), 0, 0)]
theorem kwX6_load_68 {X : KX} {S : KS} {mc ms : Nat} {E : KEnd} {ls : KL} {st : List KV} {M : KM} {cs sl : Nat} (hC : KC X mX6_load 6 false S mc ms) (hE : KRet X mX6_load E) (h : kblk (kroom mX6_load mc ms) S E (KW X) kbX6_load_68 68 ls st M cs sl) : KW X 68 ls st M cs sl := KW_blk hC hE kbX6_load_68 68 ls st M cs sl (by decide +kernel) h
def kbX6_load_78 : List KE := [(.istore 6, 2, (6, 0, 0), 0, 0), (.iload 6, 2, (6, 0, 0), 0, 0), (.iconst (-1), 1, (0, 0, 0), (-1), 0), (.if_icmp .eq (85), 3, (168, 0, 0), 0, 0)]
theorem kwX6_load_78 {X : KX} {S : KS} {mc ms : Nat} {E : KEnd} {ls : KL} {st : List KV} {M : KM} {cs sl : Nat} (hC : KC X mX6_load 6 false S mc ms) (hE : KRet X mX6_load E) (h : kblk (kroom mX6_load mc ms) S E (KW X) kbX6_load_78 78 ls st M cs sl) : KW X 78 ls st M cs sl := KW_blk hC hE kbX6_load_78 78 ls st M cs sl (by decide +kernel) h
def kbX6_load_86 : List KE := [(.aload_n 0, 1, (0, 0, 0), 0, 0), (.getfield 34, 3, (6, 15, 1), 0, 0), (.iload 6, 2, (6, 0, 0), 0, 0), (.iaload, 1, (0, 0, 0), 0, 0), (.iload_n 2, 1, (2, 0, 0), 0, 0), (.if_icmp .le (6), 3, (100, 0, 0), 0, 0)]
theorem kwX6_load_86 {X : KX} {S : KS} {mc ms : Nat} {E : KEnd} {ls : KL} {st : List KV} {M : KM} {cs sl : Nat} (hC : KC X mX6_load 6 false S mc ms) (hE : KRet X mX6_load E) (h : kblk (kroom mX6_load mc ms) S E (KW X) kbX6_load_86 86 ls st M cs sl) : KW X 86 ls st M cs sl := KW_blk hC hE kbX6_load_86 86 ls st M cs sl (by decide +kernel) h
def kbX6_load_97 : List KE := [(.goto (71), 3, (168, 0, 0), 0, 0)]
theorem kwX6_load_97 {X : KX} {S : KS} {mc ms : Nat} {E : KEnd} {ls : KL} {st : List KV} {M : KM} {cs sl : Nat} (hC : KC X mX6_load 6 false S mc ms) (hE : KRet X mX6_load E) (h : kblk (kroom mX6_load mc ms) S E (KW X) kbX6_load_97 97 ls st M cs sl) : KW X 97 ls st M cs sl := KW_blk hC hE kbX6_load_97 97 ls st M cs sl (by decide +kernel) h
def kbX6_load_100 : List KE := [(.aload_n 0, 1, (0, 0, 0), 0, 0), (.iload 6, 2, (6, 0, 0), 0, 0)]
theorem kwX6_load_100 {X : KX} {S : KS} {mc ms : Nat} {E : KEnd} {ls : KL} {st : List KV} {M : KM} {cs sl : Nat} (hC : KC X mX6_load 6 false S mc ms) (hE : KRet X mX6_load E) (h : kblk (kroom mX6_load mc ms) S E (KW X) kbX6_load_100 100 ls st M cs sl) : KW X 100 ls st M cs sl := KW_blk hC hE kbX6_load_100 100 ls st M cs sl (by decide +kernel) h
def kbX6_load_106 : List KE := [(.pop, 1, (0, 0, 0), 0, 0), (.aload_n 0, 1, (0, 0, 0), 0, 0), (.getfield 40, 3, (6, 17, 1), 0, 0), (.iload 6, 2, (6, 0, 0), 0, 0), (.iconst 1, 1, (0, 0, 0), 1, 0), (.iastore, 1, (0, 0, 0), 0, 0), (.aload_n 0, 1, (0, 0, 0), 0, 0), (.getfield 43, 3, (6, 18, 1), 0, 0), (.iload 6, 2, (6, 0, 0), 0, 0), (.iload_n 1, 1, (1, 0, 0), 0, 0), (.iastore, 1, (0, 0, 0), 0, 0), (.iload_n 2, 1, (2, 0, 0), 0, 0), (.aload_n 0, 1, (0, 0, 0), 0, 0), (.getfield 34, 3, (6, 15, 1), 0, 0), (.iload 6, 2, (6, 0, 0), 0, 0), (.iaload, 1, (0, 0, 0), 0, 0), (.isub, 1, (0, 0, 0), 0, 0), (.istore_n 2, 1, (2, 0, 0), 0, 0), (.aload_n 0, 1, (0, 0, 0), 0, 0), (.getfield 25, 3, (6, 12, 1), 0, 0), (.iload 5, 2, (5, 0, 0), 0, 0), (.dup2, 1, (0, 0, 0), 0, 0), (.iaload, 1, (0, 0, 0), 0, 0), (.aload_n 0, 1, (0, 0, 0), 0, 0), (.getfield 34, 3, (6, 15, 1), 0, 0), (.iload 6, 2, (6, 0, 0), 0, 0), (.iaload, 1, (0, 0, 0), 0, 0), (.iadd, 1, (0, 0, 0), 0, 0), (.iastore, 1, (0, 0, 0), 0, 0), (.aload_n 0, 1, (0, 0, 0), 0, 0), (.iload 5, 2, (5, 0, 0), 0, 0), (.iconst 1, 1, (0, 0, 0), 1, 0), (.iadd, 1, (0, 0, 0), 0, 0), (.aload_n 0, 1, (0, 0, 0), 0, 0), (.getfield 3, 3, (6, 22, 1), 0, 0), (.getfield 103, 3, (7, 3, 0), 0, 0), (.irem, 1, (0, 0, 0), 0, 0), (.putfield 68, 3, (6, 2, 0), 0, 0), (.iconst 0, 1, (0, 0, 0), 0, 0), (.istore_n 3, 1, (3, 0, 0), 0, 0)]
theorem kwX6_load_106 {X : KX} {S : KS} {mc ms : Nat} {E : KEnd} {ls : KL} {st : List KV} {M : KM} {cs sl : Nat} (hC : KC X mX6_load 6 false S mc ms) (hE : KRet X mX6_load E) (h : kblk (kroom mX6_load mc ms) S E (KW X) kbX6_load_106 106 ls st M cs sl) : KW X 106 ls st M cs sl := KW_blk hC hE kbX6_load_106 106 ls st M cs sl (by decide +kernel) h
def kbX6_load_168 : List KE := [(.iinc 4 (1), 3, (4, 0, 0), 1, 0), (.goto (-150), 3, (21, 0, 0), 0, 0)]
theorem kwX6_load_168 {X : KX} {S : KS} {mc ms : Nat} {E : KEnd} {ls : KL} {st : List KV} {M : KM} {cs sl : Nat} (hC : KC X mX6_load 6 false S mc ms) (hE : KRet X mX6_load E) (h : kblk (kroom mX6_load mc ms) S E (KW X) kbX6_load_168 168 ls st M cs sl) : KW X 168 ls st M cs sl := KW_blk hC hE kbX6_load_168 168 ls st M cs sl (by decide +kernel) h
def kbX6_load_174 : List KE := [(.goto (-162), 3, (12, 0, 0), 0, 0)]
theorem kwX6_load_174 {X : KX} {S : KS} {mc ms : Nat} {E : KEnd} {ls : KL} {st : List KV} {M : KM} {cs sl : Nat} (hC : KC X mX6_load 6 false S mc ms) (hE : KRet X mX6_load E) (h : kblk (kroom mX6_load mc ms) S E (KW X) kbX6_load_174 174 ls st M cs sl) : KW X 174 ls st M cs sl := KW_blk hC hE kbX6_load_174 174 ls st M cs sl (by decide +kernel) h
def kbX6_load_177 : List KE := [(.iload_n 2, 1, (2, 0, 0), 0, 0), (.aload_n 0, 1, (0, 0, 0), 0, 0), (.getfield 3, 3, (6, 22, 1), 0, 0), (.getfield 100, 3, (7, 4, 1), 0, 0), (.iload_n 1, 1, (1, 0, 0), 0, 0), (.iaload, 1, (0, 0, 0), 0, 0), (.if_icmp .ne (4), 3, (191, 0, 0), 0, 0)]
theorem kwX6_load_177 {X : KX} {S : KS} {mc ms : Nat} {E : KEnd} {ls : KL} {st : List KV} {M : KM} {cs sl : Nat} (hC : KC X mX6_load 6 false S mc ms) (hE : KRet X mX6_load E) (h : kblk (kroom mX6_load mc ms) S E (KW X) kbX6_load_177 177 ls st M cs sl) : KW X 177 ls st M cs sl := KW_blk hC hE kbX6_load_177 177 ls st M cs sl (by decide +kernel) h
def kbX6_load_190 : List KE := [(.return_, 1, (0, 0, 0), 0, 0)]
theorem kwX6_load_190 {X : KX} {S : KS} {mc ms : Nat} {E : KEnd} {ls : KL} {st : List KV} {M : KM} {cs sl : Nat} (hC : KC X mX6_load 6 false S mc ms) (hE : KRet X mX6_load E) (h : kblk (kroom mX6_load mc ms) S E (KW X) kbX6_load_190 190 ls st M cs sl) : KW X 190 ls st M cs sl := KW_blk hC hE kbX6_load_190 190 ls st M cs sl (by decide +kernel) h
def kbX6_load_191 : List KE := [(.aload_n 0, 1, (0, 0, 0), 0, 0), (.getfield 22, 3, (6, 11, 1), 0, 0), (.iload_n 1, 1, (1, 0, 0), 0, 0), (.dup2, 1, (0, 0, 0), 0, 0), (.iaload, 1, (0, 0, 0), 0, 0), (.aload_n 0, 1, (0, 0, 0), 0, 0), (.getfield 3, 3, (6, 22, 1), 0, 0), (.getfield 100, 3, (7, 4, 1), 0, 0), (.iload_n 1, 1, (1, 0, 0), 0, 0), (.iaload, 1, (0, 0, 0), 0, 0), (.iload_n 2, 1, (2, 0, 0), 0, 0), (.isub, 1, (0, 0, 0), 0, 0), (.iadd, 1, (0, 0, 0), 0, 0), (.iastore, 1, (0, 0, 0), 0, 0), (.aload_n 0, 1, (0, 0, 0), 0, 0), (.dup, 1, (0, 0, 0), 0, 0), (.getfield 80, 3, (6, 6, 0), 0, 0), (.aload_n 0, 1, (0, 0, 0), 0, 0), (.getfield 3, 3, (6, 22, 1), 0, 0), (.getfield 100, 3, (7, 4, 1), 0, 0), (.iload_n 1, 1, (1, 0, 0), 0, 0), (.iaload, 1, (0, 0, 0), 0, 0), (.iload_n 2, 1, (2, 0, 0), 0, 0), (.isub, 1, (0, 0, 0), 0, 0), (.iadd, 1, (0, 0, 0), 0, 0), (.putfield 80, 3, (6, 6, 0), 0, 0), (.aload_n 0, 1, (0, 0, 0), 0, 0), (.dup, 1, (0, 0, 0), 0, 0), (.getfield 83, 3, (6, 7, 0), 0, 0), (.iconst 1, 1, (0, 0, 0), 1, 0), (.iadd, 1, (0, 0, 0), 0, 0), (.putfield 83, 3, (6, 7, 0), 0, 0), (.return_, 1, (0, 0, 0), 0, 0)]
theorem kwX6_load_191 {X : KX} {S : KS} {mc ms : Nat} {E : KEnd} {ls : KL} {st : List KV} {M : KM} {cs sl : Nat} (hC : KC X mX6_load 6 false S mc ms) (hE : KRet X mX6_load E) (h : kblk (kroom mX6_load mc ms) S E (KW X) kbX6_load_191 191 ls st M cs sl) : KW X 191 ls st M cs sl := KW_blk hC hE kbX6_load_191 191 ls st M cs sl (by decide +kernel) h
def kbX6_onRope_0 : List KE := [(.aload_n 0, 1, (0, 0, 0), 0, 0), (.getfield 3, 3, (6, 22, 1), 0, 0), (.getfield 97, 3, (7, 2, 0), 0, 0), (.aload_n 0, 1, (0, 0, 0), 0, 0), (.getfield 86, 3, (6, 8, 0), 0, 0), (.isub, 1, (0, 0, 0), 0, 0), (.ireturn, 1, (0, 0, 0), 0, 0)]
theorem kwX6_onRope_0 {X : KX} {S : KS} {mc ms : Nat} {E : KEnd} {ls : KL} {st : List KV} {M : KM} {cs sl : Nat} (hC : KC X mX6_onRope 6 false S mc ms) (hE : KRet X mX6_onRope E) (h : kblk (kroom mX6_onRope mc ms) S E (KW X) kbX6_onRope_0 0 ls st M cs sl) : KW X 0 ls st M cs sl := KW_blk hC hE kbX6_onRope_0 0 ls st M cs sl (by decide +kernel) h
def kbX6_pass_0 : List KE := [(.aload_n 0, 1, (0, 0, 0), 0, 0), (.getfield 3, 3, (6, 22, 1), 0, 0), (.getfield 110, 3, (7, 6, 1), 0, 0), (.aload_n 0, 1, (0, 0, 0), 0, 0), (.getfield 61, 3, (6, 0, 0), 0, 0), (.bipush (24), 2, (0, 0, 0), 24, 0), (.irem, 1, (0, 0, 0), 0, 0), (.iaload, 1, (0, 0, 0), 0, 0), (.istore_n 1, 1, (1, 0, 0), 0, 0), (.iload_n 1, 1, (1, 0, 0), 0, 0), (.iconst 5, 1, (0, 0, 0), 5, 0), (.if_icmp .lt (18), 3, (36, 0, 0), 0, 0)]
theorem kwX6_pass_0 {X : KX} {S : KS} {mc ms : Nat} {E : KEnd} {ls : KL} {st : List KV} {M : KM} {cs sl : Nat} (hC : KC X mX6_pass 6 false S mc ms) (hE : KRet X mX6_pass E) (h : kblk (kroom mX6_pass mc ms) S E (KW X) kbX6_pass_0 0 ls st M cs sl) : KW X 0 ls st M cs sl := KW_blk hC hE kbX6_pass_0 0 ls st M cs sl (by decide +kernel) h
def kbX6_pass_21 : List KE := [(.iload_n 1, 1, (1, 0, 0), 0, 0), (.bipush (8), 2, (0, 0, 0), 8, 0), (.if_icmp .ge (16), 3, (40, 0, 0), 0, 0)]
theorem kwX6_pass_21 {X : KX} {S : KS} {mc ms : Nat} {E : KEnd} {ls : KL} {st : List KV} {M : KM} {cs sl : Nat} (hC : KC X mX6_pass 6 false S mc ms) (hE : KRet X mX6_pass E) (h : kblk (kroom mX6_pass mc ms) S E (KW X) kbX6_pass_21 21 ls st M cs sl) : KW X 21 ls st M cs sl := KW_blk hC hE kbX6_pass_21 21 ls st M cs sl (by decide +kernel) h
def kbX6_pass_27 : List KE := [(.aload_n 0, 1, (0, 0, 0), 0, 0), (.getfield 61, 3, (6, 0, 0), 0, 0), (.iconst 2, 1, (0, 0, 0), 2, 0), (.irem, 1, (0, 0, 0), 0, 0), (.ifCond .ne (7), 3, (40, 0, 0), 0, 0)]
theorem kwX6_pass_27 {X : KX} {S : KS} {mc ms : Nat} {E : KEnd} {ls : KL} {st : List KV} {M : KM} {cs sl : Nat} (hC : KC X mX6_pass 6 false S mc ms) (hE : KRet X mX6_pass E) (h : kblk (kroom mX6_pass mc ms) S E (KW X) kbX6_pass_27 27 ls st M cs sl) : KW X 27 ls st M cs sl := KW_blk hC hE kbX6_pass_27 27 ls st M cs sl (by decide +kernel) h
def kbX6_pass_36 : List KE := [(.iconst 1, 1, (0, 0, 0), 1, 0), (.goto (4), 3, (41, 0, 0), 0, 0)]
theorem kwX6_pass_36 {X : KX} {S : KS} {mc ms : Nat} {E : KEnd} {ls : KL} {st : List KV} {M : KM} {cs sl : Nat} (hC : KC X mX6_pass 6 false S mc ms) (hE : KRet X mX6_pass E) (h : kblk (kroom mX6_pass mc ms) S E (KW X) kbX6_pass_36 36 ls st M cs sl) : KW X 36 ls st M cs sl := KW_blk hC hE kbX6_pass_36 36 ls st M cs sl (by decide +kernel) h
def kbX6_pass_40 : List KE := [(.iconst 0, 1, (0, 0, 0), 0, 0)]
theorem kwX6_pass_40 {X : KX} {S : KS} {mc ms : Nat} {E : KEnd} {ls : KL} {st : List KV} {M : KM} {cs sl : Nat} (hC : KC X mX6_pass 6 false S mc ms) (hE : KRet X mX6_pass E) (h : kblk (kroom mX6_pass mc ms) S E (KW X) kbX6_pass_40 40 ls st M cs sl) : KW X 40 ls st M cs sl := KW_blk hC hE kbX6_pass_40 40 ls st M cs sl (by decide +kernel) h
def kbX6_pass_41 : List KE := [(.istore_n 2, 1, (2, 0, 0), 0, 0), (.iconst 0, 1, (0, 0, 0), 0, 0), (.istore_n 3, 1, (3, 0, 0), 0, 0), (.iload_n 1, 1, (1, 0, 0), 0, 0), (.bipush (7), 2, (0, 0, 0), 7, 0), (.if_icmp .le (7), 3, (54, 0, 0), 0, 0)]
theorem kwX6_pass_41 {X : KX} {S : KS} {mc ms : Nat} {E : KEnd} {ls : KL} {st : List KV} {M : KM} {cs sl : Nat} (hC : KC X mX6_pass 6 false S mc ms) (hE : KRet X mX6_pass E) (h : kblk (kroom mX6_pass mc ms) S E (KW X) kbX6_pass_41 41 ls st M cs sl) : KW X 41 ls st M cs sl := KW_blk hC hE kbX6_pass_41 41 ls st M cs sl (by decide +kernel) h
def kbX6_pass_50 : List KE := [(.aload_n 0, 1, (0, 0, 0), 0, 0)]
theorem kwX6_pass_50 {X : KX} {S : KS} {mc ms : Nat} {E : KEnd} {ls : KL} {st : List KV} {M : KM} {cs sl : Nat} (hC : KC X mX6_pass 6 false S mc ms) (hE : KRet X mX6_pass E) (h : kblk (kroom mX6_pass mc ms) S E (KW X) kbX6_pass_50 50 ls st M cs sl) : KW X 50 ls st M cs sl := KW_blk hC hE kbX6_pass_50 50 ls st M cs sl (by decide +kernel) h
def kbX6_pass_54 : List KE := [(.iload_n 2, 1, (2, 0, 0), 0, 0), (.ifCond .ne (16), 3, (71, 0, 0), 0, 0)]
theorem kwX6_pass_54 {X : KX} {S : KS} {mc ms : Nat} {E : KEnd} {ls : KL} {st : List KV} {M : KM} {cs sl : Nat} (hC : KC X mX6_pass 6 false S mc ms) (hE : KRet X mX6_pass E) (h : kblk (kroom mX6_pass mc ms) S E (KW X) kbX6_pass_54 54 ls st M cs sl) : KW X 54 ls st M cs sl := KW_blk hC hE kbX6_pass_54 54 ls st M cs sl (by decide +kernel) h
def kbX6_pass_58 : List KE := [(.aload_n 0, 1, (0, 0, 0), 0, 0), (.dup, 1, (0, 0, 0), 0, 0), (.getfield 74, 3, (6, 4, 0), 0, 0), (.iconst 1, 1, (0, 0, 0), 1, 0), (.iadd, 1, (0, 0, 0), 0, 0), (.putfield 74, 3, (6, 4, 0), 0, 0), (.goto (157), 3, (225, 0, 0), 0, 0)]
theorem kwX6_pass_58 {X : KX} {S : KS} {mc ms : Nat} {E : KEnd} {ls : KL} {st : List KV} {M : KM} {cs sl : Nat} (hC : KC X mX6_pass 6 false S mc ms) (hE : KRet X mX6_pass E) (h : kblk (kroom mX6_pass mc ms) S E (KW X) kbX6_pass_58 58 ls st M cs sl) : KW X 58 ls st M cs sl := KW_blk hC hE kbX6_pass_58 58 ls st M cs sl (by decide +kernel) h
def kbX6_pass_71 : List KE := [(.iconst 0, 1, (0, 0, 0), 0, 0), (.istore 4, 2, (4, 0, 0), 0, 0)]
theorem kwX6_pass_71 {X : KX} {S : KS} {mc ms : Nat} {E : KEnd} {ls : KL} {st : List KV} {M : KM} {cs sl : Nat} (hC : KC X mX6_pass 6 false S mc ms) (hE : KRet X mX6_pass E) (h : kblk (kroom mX6_pass mc ms) S E (KW X) kbX6_pass_71 71 ls st M cs sl) : KW X 71 ls st M cs sl := KW_blk hC hE kbX6_pass_71 71 ls st M cs sl (by decide +kernel) h
def kbX6_pass_74 : List KE := [(.iload 4, 2, (4, 0, 0), 0, 0), (.aload_n 0, 1, (0, 0, 0), 0, 0), (.getfield 3, 3, (6, 22, 1), 0, 0), (.getfield 97, 3, (7, 2, 0), 0, 0), (.if_icmp .ge (46), 3, (129, 0, 0), 0, 0)]
theorem kwX6_pass_74 {X : KX} {S : KS} {mc ms : Nat} {E : KEnd} {ls : KL} {st : List KV} {M : KM} {cs sl : Nat} (hC : KC X mX6_pass 6 false S mc ms) (hE : KRet X mX6_pass E) (h : kblk (kroom mX6_pass mc ms) S E (KW X) kbX6_pass_74 74 ls st M cs sl) : KW X 74 ls st M cs sl := KW_blk hC hE kbX6_pass_74 74 ls st M cs sl (by decide +kernel) h
def kbX6_pass_86 : List KE := [(.aload_n 0, 1, (0, 0, 0), 0, 0), (.getfield 19, 3, (6, 10, 1), 0, 0), (.iload 4, 2, (4, 0, 0), 0, 0), (.iaload, 1, (0, 0, 0), 0, 0), (.iconst (-1), 1, (0, 0, 0), (-1), 0), (.if_icmp .eq (29), 3, (123, 0, 0), 0, 0)]
theorem kwX6_pass_86 {X : KX} {S : KS} {mc ms : Nat} {E : KEnd} {ls : KL} {st : List KV} {M : KM} {cs sl : Nat} (hC : KC X mX6_pass 6 false S mc ms) (hE : KRet X mX6_pass E) (h : kblk (kroom mX6_pass mc ms) S E (KW X) kbX6_pass_86 86 ls st M cs sl) : KW X 86 ls st M cs sl := KW_blk hC hE kbX6_pass_86 86 ls st M cs sl (by decide +kernel) h
def kbX6_pass_97 : List KE := [(.aload_n 0, 1, (0, 0, 0), 0, 0), (.getfield 19, 3, (6, 10, 1), 0, 0), (.iload 4, 2, (4, 0, 0), 0, 0), (.aload_n 0, 1, (0, 0, 0), 0, 0), (.getfield 19, 3, (6, 10, 1), 0, 0), (.iload 4, 2, (4, 0, 0), 0, 0), (.iaload, 1, (0, 0, 0), 0, 0), (.iconst 1, 1, (0, 0, 0), 1, 0), (.iadd, 1, (0, 0, 0), 0, 0), (.iconst 2, 1, (0, 0, 0), 2, 0), (.aload_n 0, 1, (0, 0, 0), 0, 0), (.getfield 3, 3, (6, 22, 1), 0, 0), (.getfield 116, 3, (7, 1, 0), 0, 0), (.imul, 1, (0, 0, 0), 0, 0), (.irem, 1, (0, 0, 0), 0, 0), (.iastore, 1, (0, 0, 0), 0, 0)]
theorem kwX6_pass_97 {X : KX} {S : KS} {mc ms : Nat} {E : KEnd} {ls : KL} {st : List KV} {M : KM} {cs sl : Nat} (hC : KC X mX6_pass 6 false S mc ms) (hE : KRet X mX6_pass E) (h : kblk (kroom mX6_pass mc ms) S E (KW X) kbX6_pass_97 97 ls st M cs sl) : KW X 97 ls st M cs sl := KW_blk hC hE kbX6_pass_97 97 ls st M cs sl (by decide +kernel) h
def kbX6_pass_123 : List KE := [(.iinc 4 (1), 3, (4, 0, 0), 1, 0), (.goto (-52), 3, (74, 0, 0), 0, 0)]
theorem kwX6_pass_123 {X : KX} {S : KS} {mc ms : Nat} {E : KEnd} {ls : KL} {st : List KV} {M : KM} {cs sl : Nat} (hC : KC X mX6_pass 6 false S mc ms) (hE : KRet X mX6_pass E) (h : kblk (kroom mX6_pass mc ms) S E (KW X) kbX6_pass_123 123 ls st M cs sl) : KW X 123 ls st M cs sl := KW_blk hC hE kbX6_pass_123 123 ls st M cs sl (by decide +kernel) h
def kbX6_pass_129 : List KE := [(.aload_n 0, 1, (0, 0, 0), 0, 0), (.aload_n 0, 1, (0, 0, 0), 0, 0), (.getfield 3, 3, (6, 22, 1), 0, 0), (.getfield 116, 3, (7, 1, 0), 0, 0)]
theorem kwX6_pass_129 {X : KX} {S : KS} {mc ms : Nat} {E : KEnd} {ls : KL} {st : List KV} {M : KM} {cs sl : Nat} (hC : KC X mX6_pass 6 false S mc ms) (hE : KRet X mX6_pass E) (h : kblk (kroom mX6_pass mc ms) S E (KW X) kbX6_pass_129 129 ls st M cs sl) : KW X 129 ls st M cs sl := KW_blk hC hE kbX6_pass_129 129 ls st M cs sl (by decide +kernel) h
def kbX6_pass_140 : List KE := [(.istore 4, 2, (4, 0, 0), 0, 0), (.iconst 0, 1, (0, 0, 0), 0, 0), (.istore 5, 2, (5, 0, 0), 0, 0)]
theorem kwX6_pass_140 {X : KX} {S : KS} {mc ms : Nat} {E : KEnd} {ls : KL} {st : List KV} {M : KM} {cs sl : Nat} (hC : KC X mX6_pass 6 false S mc ms) (hE : KRet X mX6_pass E) (h : kblk (kroom mX6_pass mc ms) S E (KW X) kbX6_pass_140 140 ls st M cs sl) : KW X 140 ls st M cs sl := KW_blk hC hE kbX6_pass_140 140 ls st M cs sl (by decide +kernel) h
def kbX6_pass_145 : List KE := [(.iload 5, 2, (5, 0, 0), 0, 0), (.aload_n 0, 1, (0, 0, 0), 0, 0), (.getfield 71, 3, (6, 3, 0), 0, 0), (.if_icmp .ge (70), 3, (221, 0, 0), 0, 0)]
theorem kwX6_pass_145 {X : KX} {S : KS} {mc ms : Nat} {E : KEnd} {ls : KL} {st : List KV} {M : KM} {cs sl : Nat} (hC : KC X mX6_pass 6 false S mc ms) (hE : KRet X mX6_pass E) (h : kblk (kroom mX6_pass mc ms) S E (KW X) kbX6_pass_145 145 ls st M cs sl) : KW X 145 ls st M cs sl := KW_blk hC hE kbX6_pass_145 145 ls st M cs sl (by decide +kernel) h
def kbX6_pass_154 : List KE := [(.iload 4, 2, (4, 0, 0), 0, 0), (.iconst (-1), 1, (0, 0, 0), (-1), 0), (.if_icmp .eq (64), 3, (221, 0, 0), 0, 0)]
theorem kwX6_pass_154 {X : KX} {S : KS} {mc ms : Nat} {E : KEnd} {ls : KL} {st : List KV} {M : KM} {cs sl : Nat} (hC : KC X mX6_pass 6 false S mc ms) (hE : KRet X mX6_pass E) (h : kblk (kroom mX6_pass mc ms) S E (KW X) kbX6_pass_154 154 ls st M cs sl) : KW X 154 ls st M cs sl := KW_blk hC hE kbX6_pass_154 154 ls st M cs sl (by decide +kernel) h
def kbX6_pass_160 : List KE := [(.aload_n 0, 1, (0, 0, 0), 0, 0), (.getfield 40, 3, (6, 17, 1), 0, 0), (.iload 5, 2, (5, 0, 0), 0, 0), (.iaload, 1, (0, 0, 0), 0, 0), (.iconst 1, 1, (0, 0, 0), 1, 0), (.if_icmp .ne (47), 3, (215, 0, 0), 0, 0)]
theorem kwX6_pass_160 {X : KX} {S : KS} {mc ms : Nat} {E : KEnd} {ls : KL} {st : List KV} {M : KM} {cs sl : Nat} (hC : KC X mX6_pass 6 false S mc ms) (hE : KRet X mX6_pass E) (h : kblk (kroom mX6_pass mc ms) S E (KW X) kbX6_pass_160 160 ls st M cs sl) : KW X 160 ls st M cs sl := KW_blk hC hE kbX6_pass_160 160 ls st M cs sl (by decide +kernel) h
def kbX6_pass_171 : List KE := [(.aload_n 0, 1, (0, 0, 0), 0, 0), (.getfield 43, 3, (6, 18, 1), 0, 0), (.iload 5, 2, (5, 0, 0), 0, 0), (.iaload, 1, (0, 0, 0), 0, 0), (.iload 4, 2, (4, 0, 0), 0, 0), (.if_icmp .eq (6), 3, (186, 0, 0), 0, 0)]
theorem kwX6_pass_171 {X : KX} {S : KS} {mc ms : Nat} {E : KEnd} {ls : KL} {st : List KV} {M : KM} {cs sl : Nat} (hC : KC X mX6_pass 6 false S mc ms) (hE : KRet X mX6_pass E) (h : kblk (kroom mX6_pass mc ms) S E (KW X) kbX6_pass_171 171 ls st M cs sl) : KW X 171 ls st M cs sl := KW_blk hC hE kbX6_pass_171 171 ls st M cs sl (by decide +kernel) h
def kbX6_pass_183 : List KE := [(.goto (32), 3, (215, 0, 0), 0, 0)]
theorem kwX6_pass_183 {X : KX} {S : KS} {mc ms : Nat} {E : KEnd} {ls : KL} {st : List KV} {M : KM} {cs sl : Nat} (hC : KC X mX6_pass 6 false S mc ms) (hE : KRet X mX6_pass E) (h : kblk (kroom mX6_pass mc ms) S E (KW X) kbX6_pass_183 183 ls st M cs sl) : KW X 183 ls st M cs sl := KW_blk hC hE kbX6_pass_183 183 ls st M cs sl (by decide +kernel) h
def kbX6_pass_186 : List KE := [(.aload_n 0, 1, (0, 0, 0), 0, 0), (.getfield 40, 3, (6, 17, 1), 0, 0), (.iload 5, 2, (5, 0, 0), 0, 0), (.iconst 2, 1, (0, 0, 0), 2, 0), (.iastore, 1, (0, 0, 0), 0, 0), (.aload_n 0, 1, (0, 0, 0), 0, 0), (.getfield 49, 3, (6, 20, 1), 0, 0), (.iload 5, 2, (5, 0, 0), 0, 0), (.aload_n 0, 1, (0, 0, 0), 0, 0), (.getfield 61, 3, (6, 0, 0), 0, 0), (.iastore, 1, (0, 0, 0), 0, 0), (.iload_n 3, 1, (3, 0, 0), 0, 0), (.aload_n 0, 1, (0, 0, 0), 0, 0), (.getfield 34, 3, (6, 15, 1), 0, 0), (.iload 5, 2, (5, 0, 0), 0, 0), (.iaload, 1, (0, 0, 0), 0, 0), (.iadd, 1, (0, 0, 0), 0, 0), (.istore_n 3, 1, (3, 0, 0), 0, 0)]
theorem kwX6_pass_186 {X : KX} {S : KS} {mc ms : Nat} {E : KEnd} {ls : KL} {st : List KV} {M : KM} {cs sl : Nat} (hC : KC X mX6_pass 6 false S mc ms) (hE : KRet X mX6_pass E) (h : kblk (kroom mX6_pass mc ms) S E (KW X) kbX6_pass_186 186 ls st M cs sl) : KW X 186 ls st M cs sl := KW_blk hC hE kbX6_pass_186 186 ls st M cs sl (by decide +kernel) h
def kbX6_pass_215 : List KE := [(.iinc 5 (1), 3, (5, 0, 0), 1, 0), (.goto (-73), 3, (145, 0, 0), 0, 0)]
theorem kwX6_pass_215 {X : KX} {S : KS} {mc ms : Nat} {E : KEnd} {ls : KL} {st : List KV} {M : KM} {cs sl : Nat} (hC : KC X mX6_pass 6 false S mc ms) (hE : KRet X mX6_pass E) (h : kblk (kroom mX6_pass mc ms) S E (KW X) kbX6_pass_215 215 ls st M cs sl) : KW X 215 ls st M cs sl := KW_blk hC hE kbX6_pass_215 215 ls st M cs sl (by decide +kernel) h
def kbX6_pass_221 : List KE := [(.aload_n 0, 1, (0, 0, 0), 0, 0)]
theorem kwX6_pass_221 {X : KX} {S : KS} {mc ms : Nat} {E : KEnd} {ls : KL} {st : List KV} {M : KM} {cs sl : Nat} (hC : KC X mX6_pass 6 false S mc ms) (hE : KRet X mX6_pass E) (h : kblk (kroom mX6_pass mc ms) S E (KW X) kbX6_pass_221 221 ls st M cs sl) : KW X 221 ls st M cs sl := KW_blk hC hE kbX6_pass_221 221 ls st M cs sl (by decide +kernel) h
def kbX6_pass_225 : List KE := [(.iconst 0, 1, (0, 0, 0), 0, 0), (.istore 4, 2, (4, 0, 0), 0, 0)]
theorem kwX6_pass_225 {X : KX} {S : KS} {mc ms : Nat} {E : KEnd} {ls : KL} {st : List KV} {M : KM} {cs sl : Nat} (hC : KC X mX6_pass 6 false S mc ms) (hE : KRet X mX6_pass E) (h : kblk (kroom mX6_pass mc ms) S E (KW X) kbX6_pass_225 225 ls st M cs sl) : KW X 225 ls st M cs sl := KW_blk hC hE kbX6_pass_225 225 ls st M cs sl (by decide +kernel) h
def kbX6_pass_228 : List KE := [(.iload 4, 2, (4, 0, 0), 0, 0), (.aload_n 0, 1, (0, 0, 0), 0, 0), (.getfield 71, 3, (6, 3, 0), 0, 0), (.if_icmp .ge (61), 3, (295, 0, 0), 0, 0)]
theorem kwX6_pass_228 {X : KX} {S : KS} {mc ms : Nat} {E : KEnd} {ls : KL} {st : List KV} {M : KM} {cs sl : Nat} (hC : KC X mX6_pass 6 false S mc ms) (hE : KRet X mX6_pass E) (h : kblk (kroom mX6_pass mc ms) S E (KW X) kbX6_pass_228 228 ls st M cs sl) : KW X 228 ls st M cs sl := KW_blk hC hE kbX6_pass_228 228 ls st M cs sl (by decide +kernel) h
def kbX6_pass_237 : List KE := [(.aload_n 0, 1, (0, 0, 0), 0, 0), (.getfield 40, 3, (6, 17, 1), 0, 0), (.iload 4, 2, (4, 0, 0), 0, 0), (.iaload, 1, (0, 0, 0), 0, 0), (.ifCond .ne (45), 3, (289, 0, 0), 0, 0)]
theorem kwX6_pass_237 {X : KX} {S : KS} {mc ms : Nat} {E : KEnd} {ls : KL} {st : List KV} {M : KM} {cs sl : Nat} (hC : KC X mX6_pass 6 false S mc ms) (hE : KRet X mX6_pass E) (h : kblk (kroom mX6_pass mc ms) S E (KW X) kbX6_pass_237 237 ls st M cs sl) : KW X 237 ls st M cs sl := KW_blk hC hE kbX6_pass_237 237 ls st M cs sl (by decide +kernel) h
def kbX6_pass_247 : List KE := [(.aload_n 0, 1, (0, 0, 0), 0, 0), (.getfield 61, 3, (6, 0, 0), 0, 0), (.aload_n 0, 1, (0, 0, 0), 0, 0), (.getfield 46, 3, (6, 19, 1), 0, 0), (.iload 4, 2, (4, 0, 0), 0, 0), (.iaload, 1, (0, 0, 0), 0, 0), (.isub, 1, (0, 0, 0), 0, 0), (.iconst 1, 1, (0, 0, 0), 1, 0), (.iadd, 1, (0, 0, 0), 0, 0), (.aload_n 0, 1, (0, 0, 0), 0, 0), (.getfield 37, 3, (6, 16, 1), 0, 0), (.iload 4, 2, (4, 0, 0), 0, 0), (.iaload, 1, (0, 0, 0), 0, 0), (.if_icmp .ge (6), 3, (274, 0, 0), 0, 0)]
theorem kwX6_pass_247 {X : KX} {S : KS} {mc ms : Nat} {E : KEnd} {ls : KL} {st : List KV} {M : KM} {cs sl : Nat} (hC : KC X mX6_pass 6 false S mc ms) (hE : KRet X mX6_pass E) (h : kblk (kroom mX6_pass mc ms) S E (KW X) kbX6_pass_247 247 ls st M cs sl) : KW X 247 ls st M cs sl := KW_blk hC hE kbX6_pass_247 247 ls st M cs sl (by decide +kernel) h
def kbX6_pass_271 : List KE := [(.goto (18), 3, (289, 0, 0), 0, 0)]
theorem kwX6_pass_271 {X : KX} {S : KS} {mc ms : Nat} {E : KEnd} {ls : KL} {st : List KV} {M : KM} {cs sl : Nat} (hC : KC X mX6_pass 6 false S mc ms) (hE : KRet X mX6_pass E) (h : kblk (kroom mX6_pass mc ms) S E (KW X) kbX6_pass_271 271 ls st M cs sl) : KW X 271 ls st M cs sl := KW_blk hC hE kbX6_pass_271 271 ls st M cs sl (by decide +kernel) h
def kbX6_pass_274 : List KE := [(.aload_n 0, 1, (0, 0, 0), 0, 0), (.iload 4, 2, (4, 0, 0), 0, 0)]
theorem kwX6_pass_274 {X : KX} {S : KS} {mc ms : Nat} {E : KEnd} {ls : KL} {st : List KV} {M : KM} {cs sl : Nat} (hC : KC X mX6_pass 6 false S mc ms) (hE : KRet X mX6_pass E) (h : kblk (kroom mX6_pass mc ms) S E (KW X) kbX6_pass_274 274 ls st M cs sl) : KW X 274 ls st M cs sl := KW_blk hC hE kbX6_pass_274 274 ls st M cs sl (by decide +kernel) h
def kbX6_pass_280 : List KE := [(.pop, 1, (0, 0, 0), 0, 0), (.aload_n 0, 1, (0, 0, 0), 0, 0), (.getfield 40, 3, (6, 17, 1), 0, 0), (.iload 4, 2, (4, 0, 0), 0, 0), (.iconst 3, 1, (0, 0, 0), 3, 0), (.iastore, 1, (0, 0, 0), 0, 0)]
theorem kwX6_pass_280 {X : KX} {S : KS} {mc ms : Nat} {E : KEnd} {ls : KL} {st : List KV} {M : KM} {cs sl : Nat} (hC : KC X mX6_pass 6 false S mc ms) (hE : KRet X mX6_pass E) (h : kblk (kroom mX6_pass mc ms) S E (KW X) kbX6_pass_280 280 ls st M cs sl) : KW X 280 ls st M cs sl := KW_blk hC hE kbX6_pass_280 280 ls st M cs sl (by decide +kernel) h
def kbX6_pass_289 : List KE := [(.iinc 4 (1), 3, (4, 0, 0), 1, 0), (.goto (-64), 3, (228, 0, 0), 0, 0)]
theorem kwX6_pass_289 {X : KX} {S : KS} {mc ms : Nat} {E : KEnd} {ls : KL} {st : List KV} {M : KM} {cs sl : Nat} (hC : KC X mX6_pass 6 false S mc ms) (hE : KRet X mX6_pass E) (h : kblk (kroom mX6_pass mc ms) S E (KW X) kbX6_pass_289 289 ls st M cs sl) : KW X 289 ls st M cs sl := KW_blk hC hE kbX6_pass_289 289 ls st M cs sl (by decide +kernel) h
def kbX6_pass_295 : List KE := [(.aload_n 0, 1, (0, 0, 0), 0, 0), (.dup, 1, (0, 0, 0), 0, 0), (.getfield 61, 3, (6, 0, 0), 0, 0), (.iconst 1, 1, (0, 0, 0), 1, 0), (.iadd, 1, (0, 0, 0), 0, 0), (.putfield 61, 3, (6, 0, 0), 0, 0), (.iload_n 3, 1, (3, 0, 0), 0, 0), (.ireturn, 1, (0, 0, 0), 0, 0)]
theorem kwX6_pass_295 {X : KX} {S : KS} {mc ms : Nat} {E : KEnd} {ls : KL} {st : List KV} {M : KM} {cs sl : Nat} (hC : KC X mX6_pass 6 false S mc ms) (hE : KRet X mX6_pass E) (h : kblk (kroom mX6_pass mc ms) S E (KW X) kbX6_pass_295 295 ls st M cs sl) : KW X 295 ls st M cs sl := KW_blk hC hE kbX6_pass_295 295 ls st M cs sl (by decide +kernel) h
def kbX6_people_0 : List KE := [(.iconst 0, 1, (0, 0, 0), 0, 0), (.istore_n 2, 1, (2, 0, 0), 0, 0), (.iconst 0, 1, (0, 0, 0), 0, 0), (.istore_n 3, 1, (3, 0, 0), 0, 0)]
theorem kwX6_people_0 {X : KX} {S : KS} {mc ms : Nat} {E : KEnd} {ls : KL} {st : List KV} {M : KM} {cs sl : Nat} (hC : KC X mX6_people 6 false S mc ms) (hE : KRet X mX6_people E) (h : kblk (kroom mX6_people mc ms) S E (KW X) kbX6_people_0 0 ls st M cs sl) : KW X 0 ls st M cs sl := KW_blk hC hE kbX6_people_0 0 ls st M cs sl (by decide +kernel) h
def kbX6_people_4 : List KE := [(.iload_n 3, 1, (3, 0, 0), 0, 0), (.aload_n 0, 1, (0, 0, 0), 0, 0), (.getfield 71, 3, (6, 3, 0), 0, 0), (.if_icmp .ge (32), 3, (41, 0, 0), 0, 0)]
theorem kwX6_people_4 {X : KX} {S : KS} {mc ms : Nat} {E : KEnd} {ls : KL} {st : List KV} {M : KM} {cs sl : Nat} (hC : KC X mX6_people 6 false S mc ms) (hE : KRet X mX6_people E) (h : kblk (kroom mX6_people mc ms) S E (KW X) kbX6_people_4 4 ls st M cs sl) : KW X 4 ls st M cs sl := KW_blk hC hE kbX6_people_4 4 ls st M cs sl (by decide +kernel) h
def kbX6_people_12 : List KE := [(.iload_n 2, 1, (2, 0, 0), 0, 0), (.aload_n 0, 1, (0, 0, 0), 0, 0), (.getfield 40, 3, (6, 17, 1), 0, 0), (.iload_n 3, 1, (3, 0, 0), 0, 0), (.iaload, 1, (0, 0, 0), 0, 0), (.iload_n 1, 1, (1, 0, 0), 0, 0), (.if_icmp .ne (12), 3, (32, 0, 0), 0, 0)]
theorem kwX6_people_12 {X : KX} {S : KS} {mc ms : Nat} {E : KEnd} {ls : KL} {st : List KV} {M : KM} {cs sl : Nat} (hC : KC X mX6_people 6 false S mc ms) (hE : KRet X mX6_people E) (h : kblk (kroom mX6_people mc ms) S E (KW X) kbX6_people_12 12 ls st M cs sl) : KW X 12 ls st M cs sl := KW_blk hC hE kbX6_people_12 12 ls st M cs sl (by decide +kernel) h
def kbX6_people_23 : List KE := [(.aload_n 0, 1, (0, 0, 0), 0, 0), (.getfield 34, 3, (6, 15, 1), 0, 0), (.iload_n 3, 1, (3, 0, 0), 0, 0), (.iaload, 1, (0, 0, 0), 0, 0), (.goto (4), 3, (33, 0, 0), 0, 0)]
theorem kwX6_people_23 {X : KX} {S : KS} {mc ms : Nat} {E : KEnd} {ls : KL} {st : List KV} {M : KM} {cs sl : Nat} (hC : KC X mX6_people 6 false S mc ms) (hE : KRet X mX6_people E) (h : kblk (kroom mX6_people mc ms) S E (KW X) kbX6_people_23 23 ls st M cs sl) : KW X 23 ls st M cs sl := KW_blk hC hE kbX6_people_23 23 ls st M cs sl (by decide +kernel) h
def kbX6_people_32 : List KE := [(.iconst 0, 1, (0, 0, 0), 0, 0)]
theorem kwX6_people_32 {X : KX} {S : KS} {mc ms : Nat} {E : KEnd} {ls : KL} {st : List KV} {M : KM} {cs sl : Nat} (hC : KC X mX6_people 6 false S mc ms) (hE : KRet X mX6_people E) (h : kblk (kroom mX6_people mc ms) S E (KW X) kbX6_people_32 32 ls st M cs sl) : KW X 32 ls st M cs sl := KW_blk hC hE kbX6_people_32 32 ls st M cs sl (by decide +kernel) h
def kbX6_people_33 : List KE := [(.iadd, 1, (0, 0, 0), 0, 0), (.istore_n 2, 1, (2, 0, 0), 0, 0), (.iinc 3 (1), 3, (3, 0, 0), 1, 0), (.goto (-34), 3, (4, 0, 0), 0, 0)]
theorem kwX6_people_33 {X : KX} {S : KS} {mc ms : Nat} {E : KEnd} {ls : KL} {st : List KV} {M : KM} {cs sl : Nat} (hC : KC X mX6_people 6 false S mc ms) (hE : KRet X mX6_people E) (h : kblk (kroom mX6_people mc ms) S E (KW X) kbX6_people_33 33 ls st M cs sl) : KW X 33 ls st M cs sl := KW_blk hC hE kbX6_people_33 33 ls st M cs sl (by decide +kernel) h
def kbX6_people_41 : List KE := [(.iload_n 2, 1, (2, 0, 0), 0, 0), (.ireturn, 1, (0, 0, 0), 0, 0)]
theorem kwX6_people_41 {X : KX} {S : KS} {mc ms : Nat} {E : KEnd} {ls : KL} {st : List KV} {M : KM} {cs sl : Nat} (hC : KC X mX6_people 6 false S mc ms) (hE : KRet X mX6_people E) (h : kblk (kroom mX6_people mc ms) S E (KW X) kbX6_people_41 41 ls st M cs sl) : KW X 41 ls st M cs sl := KW_blk hC hE kbX6_people_41 41 ls st M cs sl (by decide +kernel) h
def kbX6_valley_0 : List KE := [(.aload_n 0, 1, (0, 0, 0), 0, 0), (.iconst 0, 1, (0, 0, 0), 0, 0)]
theorem kwX6_valley_0 {X : KX} {S : KS} {mc ms : Nat} {E : KEnd} {ls : KL} {st : List KV} {M : KM} {cs sl : Nat} (hC : KC X mX6_valley 6 false S mc ms) (hE : KRet X mX6_valley E) (h : kblk (kroom mX6_valley mc ms) S E (KW X) kbX6_valley_0 0 ls st M cs sl) : KW X 0 ls st M cs sl := KW_blk hC hE kbX6_valley_0 0 ls st M cs sl (by decide +kernel) h
def kbX6_valley_5 : List KE := [(.istore_n 1, 1, (1, 0, 0), 0, 0), (.iload_n 1, 1, (1, 0, 0), 0, 0), (.iconst (-1), 1, (0, 0, 0), (-1), 0), (.if_icmp .eq (46), 3, (54, 0, 0), 0, 0)]
theorem kwX6_valley_5 {X : KX} {S : KS} {mc ms : Nat} {E : KEnd} {ls : KL} {st : List KV} {M : KM} {cs sl : Nat} (hC : KC X mX6_valley 6 false S mc ms) (hE : KRet X mX6_valley E) (h : kblk (kroom mX6_valley mc ms) S E (KW X) kbX6_valley_5 5 ls st M cs sl) : KW X 5 ls st M cs sl := KW_blk hC hE kbX6_valley_5 5 ls st M cs sl (by decide +kernel) h
def kbX6_valley_11 : List KE := [(.aload_n 0, 1, (0, 0, 0), 0, 0)]
theorem kwX6_valley_11 {X : KX} {S : KS} {mc ms : Nat} {E : KEnd} {ls : KL} {st : List KV} {M : KM} {cs sl : Nat} (hC : KC X mX6_valley 6 false S mc ms) (hE : KRet X mX6_valley E) (h : kblk (kroom mX6_valley mc ms) S E (KW X) kbX6_valley_11 11 ls st M cs sl) : KW X 11 ls st M cs sl := KW_blk hC hE kbX6_valley_11 11 ls st M cs sl (by decide +kernel) h
def kbX6_valley_15 : List KE := [(.aload_n 0, 1, (0, 0, 0), 0, 0), (.getfield 65, 3, (6, 1, 0), 0, 0), (.if_icmp .le (35), 3, (54, 0, 0), 0, 0)]
theorem kwX6_valley_15 {X : KX} {S : KS} {mc ms : Nat} {E : KEnd} {ls : KL} {st : List KV} {M : KM} {cs sl : Nat} (hC : KC X mX6_valley 6 false S mc ms) (hE : KRet X mX6_valley E) (h : kblk (kroom mX6_valley mc ms) S E (KW X) kbX6_valley_15 15 ls st M cs sl) : KW X 15 ls st M cs sl := KW_blk hC hE kbX6_valley_15 15 ls st M cs sl (by decide +kernel) h
def kbX6_valley_22 : List KE := [(.aload_n 0, 1, (0, 0, 0), 0, 0), (.getfield 19, 3, (6, 10, 1), 0, 0), (.iload_n 1, 1, (1, 0, 0), 0, 0), (.iconst (-1), 1, (0, 0, 0), (-1), 0), (.iastore, 1, (0, 0, 0), 0, 0), (.aload_n 0, 1, (0, 0, 0), 0, 0), (.getfield 15, 3, (6, 9, 1), 0, 0), (.aload_n 0, 1, (0, 0, 0), 0, 0), (.getfield 86, 3, (6, 8, 0), 0, 0), (.iload_n 1, 1, (1, 0, 0), 0, 0), (.iastore, 1, (0, 0, 0), 0, 0), (.aload_n 0, 1, (0, 0, 0), 0, 0), (.dup, 1, (0, 0, 0), 0, 0), (.getfield 86, 3, (6, 8, 0), 0, 0), (.iconst 1, 1, (0, 0, 0), 1, 0), (.iadd, 1, (0, 0, 0), 0, 0), (.putfield 86, 3, (6, 8, 0), 0, 0), (.iconst (-1), 1, (0, 0, 0), (-1), 0), (.istore_n 1, 1, (1, 0, 0), 0, 0), (.goto (67), 3, (118, 0, 0), 0, 0)]
theorem kwX6_valley_22 {X : KX} {S : KS} {mc ms : Nat} {E : KEnd} {ls : KL} {st : List KV} {M : KM} {cs sl : Nat} (hC : KC X mX6_valley 6 false S mc ms) (hE : KRet X mX6_valley E) (h : kblk (kroom mX6_valley mc ms) S E (KW X) kbX6_valley_22 22 ls st M cs sl) : KW X 22 ls st M cs sl := KW_blk hC hE kbX6_valley_22 22 ls st M cs sl (by decide +kernel) h
def kbX6_valley_54 : List KE := [(.iload_n 1, 1, (1, 0, 0), 0, 0), (.iconst (-1), 1, (0, 0, 0), (-1), 0), (.if_icmp .ne (62), 3, (118, 0, 0), 0, 0)]
theorem kwX6_valley_54 {X : KX} {S : KS} {mc ms : Nat} {E : KEnd} {ls : KL} {st : List KV} {M : KM} {cs sl : Nat} (hC : KC X mX6_valley 6 false S mc ms) (hE : KRet X mX6_valley E) (h : kblk (kroom mX6_valley mc ms) S E (KW X) kbX6_valley_54 54 ls st M cs sl) : KW X 54 ls st M cs sl := KW_blk hC hE kbX6_valley_54 54 ls st M cs sl (by decide +kernel) h
def kbX6_valley_59 : List KE := [(.aload_n 0, 1, (0, 0, 0), 0, 0)]
theorem kwX6_valley_59 {X : KX} {S : KS} {mc ms : Nat} {E : KEnd} {ls : KL} {st : List KV} {M : KM} {cs sl : Nat} (hC : KC X mX6_valley 6 false S mc ms) (hE : KRet X mX6_valley E) (h : kblk (kroom mX6_valley mc ms) S E (KW X) kbX6_valley_59 59 ls st M cs sl) : KW X 59 ls st M cs sl := KW_blk hC hE kbX6_valley_59 59 ls st M cs sl (by decide +kernel) h
def kbX6_valley_63 : List KE := [(.aload_n 0, 1, (0, 0, 0), 0, 0), (.getfield 65, 3, (6, 1, 0), 0, 0), (.if_icmp .ge (51), 3, (118, 0, 0), 0, 0)]
theorem kwX6_valley_63 {X : KX} {S : KS} {mc ms : Nat} {E : KEnd} {ls : KL} {st : List KV} {M : KM} {cs sl : Nat} (hC : KC X mX6_valley 6 false S mc ms) (hE : KRet X mX6_valley E) (h : kblk (kroom mX6_valley mc ms) S E (KW X) kbX6_valley_63 63 ls st M cs sl) : KW X 63 ls st M cs sl := KW_blk hC hE kbX6_valley_63 63 ls st M cs sl (by decide +kernel) h
def kbX6_valley_70 : List KE := [(.aload_n 0, 1, (0, 0, 0), 0, 0), (.getfield 86, 3, (6, 8, 0), 0, 0), (.ifCond .le (44), 3, (118, 0, 0), 0, 0)]
theorem kwX6_valley_70 {X : KX} {S : KS} {mc ms : Nat} {E : KEnd} {ls : KL} {st : List KV} {M : KM} {cs sl : Nat} (hC : KC X mX6_valley 6 false S mc ms) (hE : KRet X mX6_valley E) (h : kblk (kroom mX6_valley mc ms) S E (KW X) kbX6_valley_70 70 ls st M cs sl) : KW X 70 ls st M cs sl := KW_blk hC hE kbX6_valley_70 70 ls st M cs sl (by decide +kernel) h
def kbX6_valley_77 : List KE := [(.aload_n 0, 1, (0, 0, 0), 0, 0), (.getfield 15, 3, (6, 9, 1), 0, 0), (.iconst 0, 1, (0, 0, 0), 0, 0), (.iaload, 1, (0, 0, 0), 0, 0), (.istore_n 1, 1, (1, 0, 0), 0, 0), (.aload_n 0, 1, (0, 0, 0), 0, 0), (.dup, 1, (0, 0, 0), 0, 0), (.getfield 86, 3, (6, 8, 0), 0, 0), (.iconst 1, 1, (0, 0, 0), 1, 0), (.isub, 1, (0, 0, 0), 0, 0), (.putfield 86, 3, (6, 8, 0), 0, 0), (.aload_n 0, 1, (0, 0, 0), 0, 0), (.getfield 15, 3, (6, 9, 1), 0, 0), (.iconst 1, 1, (0, 0, 0), 1, 0), (.aload_n 0, 1, (0, 0, 0), 0, 0), (.getfield 15, 3, (6, 9, 1), 0, 0), (.iconst 0, 1, (0, 0, 0), 0, 0), (.aload_n 0, 1, (0, 0, 0), 0, 0), (.getfield 86, 3, (6, 8, 0), 0, 0), (.invokestatic 55, 3, (0, 0, 0), 0, 0), (.aload_n 0, 1, (0, 0, 0), 0, 0), (.getfield 19, 3, (6, 10, 1), 0, 0), (.iload_n 1, 1, (1, 0, 0), 0, 0), (.iconst 0, 1, (0, 0, 0), 0, 0), (.iastore, 1, (0, 0, 0), 0, 0)]
theorem kwX6_valley_77 {X : KX} {S : KS} {mc ms : Nat} {E : KEnd} {ls : KL} {st : List KV} {M : KM} {cs sl : Nat} (hC : KC X mX6_valley 6 false S mc ms) (hE : KRet X mX6_valley E) (h : kblk (kroom mX6_valley mc ms) S E (KW X) kbX6_valley_77 77 ls st M cs sl) : KW X 77 ls st M cs sl := KW_blk hC hE kbX6_valley_77 77 ls st M cs sl (by decide +kernel) h
def kbX6_valley_118 : List KE := [(.iload_n 1, 1, (1, 0, 0), 0, 0), (.iconst (-1), 1, (0, 0, 0), (-1), 0), (.if_icmp .eq (8), 3, (128, 0, 0), 0, 0)]
theorem kwX6_valley_118 {X : KX} {S : KS} {mc ms : Nat} {E : KEnd} {ls : KL} {st : List KV} {M : KM} {cs sl : Nat} (hC : KC X mX6_valley 6 false S mc ms) (hE : KRet X mX6_valley E) (h : kblk (kroom mX6_valley mc ms) S E (KW X) kbX6_valley_118 118 ls st M cs sl) : KW X 118 ls st M cs sl := KW_blk hC hE kbX6_valley_118 118 ls st M cs sl (by decide +kernel) h
def kbX6_valley_123 : List KE := [(.aload_n 0, 1, (0, 0, 0), 0, 0), (.iload_n 1, 1, (1, 0, 0), 0, 0)]
theorem kwX6_valley_123 {X : KX} {S : KS} {mc ms : Nat} {E : KEnd} {ls : KL} {st : List KV} {M : KM} {cs sl : Nat} (hC : KC X mX6_valley 6 false S mc ms) (hE : KRet X mX6_valley E) (h : kblk (kroom mX6_valley mc ms) S E (KW X) kbX6_valley_123 123 ls st M cs sl) : KW X 123 ls st M cs sl := KW_blk hC hE kbX6_valley_123 123 ls st M cs sl (by decide +kernel) h
def kbX6_valley_128 : List KE := [(.return_, 1, (0, 0, 0), 0, 0)]
theorem kwX6_valley_128 {X : KX} {S : KS} {mc ms : Nat} {E : KEnd} {ls : KL} {st : List KV} {M : KM} {cs sl : Nat} (hC : KC X mX6_valley 6 false S mc ms) (hE : KRet X mX6_valley E) (h : kblk (kroom mX6_valley mc ms) S E (KW X) kbX6_valley_128 128 ls st M cs sl) : KW X 128 ls st M cs sl := KW_blk hC hE kbX6_valley_128 128 ls st M cs sl (by decide +kernel) h
def kbX7_addChair_0 : List KE := [(.aload_n 0, 1, (0, 0, 0), 0, 0), (.iconst 0, 1, (0, 0, 0), 0, 0), (.putfield 35, 3, (7, 0, 0), 0, 0), (.iload_n 1, 1, (1, 0, 0), 0, 0), (.iconst 1, 1, (0, 0, 0), 1, 0), (.bipush (6), 2, (0, 0, 0), 6, 0)]
theorem kwX7_addChair_0 {X : KX} {S : KS} {mc ms : Nat} {E : KEnd} {ls : KL} {st : List KV} {M : KM} {cs sl : Nat} (hC : KC X mX7_addChair 7 false S mc ms) (hE : KRet X mX7_addChair E) (h : kblk (kroom mX7_addChair mc ms) S E (KW X) kbX7_addChair_0 0 ls st M cs sl) : KW X 0 ls st M cs sl := KW_blk hC hE kbX7_addChair_0 0 ls st M cs sl (by decide +kernel) h
def kbX7_addChair_12 : List KE := [(.ifCond .ne (9), 3, (21, 0, 0), 0, 0)]
theorem kwX7_addChair_12 {X : KX} {S : KS} {mc ms : Nat} {E : KEnd} {ls : KL} {st : List KV} {M : KM} {cs sl : Nat} (hC : KC X mX7_addChair 7 false S mc ms) (hE : KRet X mX7_addChair E) (h : kblk (kroom mX7_addChair mc ms) S E (KW X) kbX7_addChair_12 12 ls st M cs sl) : KW X 12 ls st M cs sl := KW_blk hC hE kbX7_addChair_12 12 ls st M cs sl (by decide +kernel) h
def kbX7_addChair_15 : List KE := [(.aload_n 0, 1, (0, 0, 0), 0, 0), (.iconst 1, 1, (0, 0, 0), 1, 0)]
theorem kwX7_addChair_15 {X : KX} {S : KS} {mc ms : Nat} {E : KEnd} {ls : KL} {st : List KV} {M : KM} {cs sl : Nat} (hC : KC X mX7_addChair 7 false S mc ms) (hE : KRet X mX7_addChair E) (h : kblk (kroom mX7_addChair mc ms) S E (KW X) kbX7_addChair_15 15 ls st M cs sl) : KW X 15 ls st M cs sl := KW_blk hC hE kbX7_addChair_15 15 ls st M cs sl (by decide +kernel) h
def kbX7_addChair_20 : List KE := [(.ireturn, 1, (0, 0, 0), 0, 0)]
theorem kwX7_addChair_20 {X : KX} {S : KS} {mc ms : Nat} {E : KEnd} {ls : KL} {st : List KV} {M : KM} {cs sl : Nat} (hC : KC X mX7_addChair 7 false S mc ms) (hE : KRet X mX7_addChair E) (h : kblk (kroom mX7_addChair mc ms) S E (KW X) kbX7_addChair_20 20 ls st M cs sl) : KW X 20 ls st M cs sl := KW_blk hC hE kbX7_addChair_20 20 ls st M cs sl (by decide +kernel) h
def kbX7_addChair_21 : List KE := [(.aload_n 0, 1, (0, 0, 0), 0, 0), (.getfield 56, 3, (7, 2, 0), 0, 0), (.bipush (20), 2, (0, 0, 0), 20, 0), (.if_icmp .ne (9), 3, (36, 0, 0), 0, 0)]
theorem kwX7_addChair_21 {X : KX} {S : KS} {mc ms : Nat} {E : KEnd} {ls : KL} {st : List KV} {M : KM} {cs sl : Nat} (hC : KC X mX7_addChair 7 false S mc ms) (hE : KRet X mX7_addChair E) (h : kblk (kroom mX7_addChair mc ms) S E (KW X) kbX7_addChair_21 21 ls st M cs sl) : KW X 21 ls st M cs sl := KW_blk hC hE kbX7_addChair_21 21 ls st M cs sl (by decide +kernel) h
def kbX7_addChair_30 : List KE := [(.aload_n 0, 1, (0, 0, 0), 0, 0), (.iconst 2, 1, (0, 0, 0), 2, 0)]
theorem kwX7_addChair_30 {X : KX} {S : KS} {mc ms : Nat} {E : KEnd} {ls : KL} {st : List KV} {M : KM} {cs sl : Nat} (hC : KC X mX7_addChair 7 false S mc ms) (hE : KRet X mX7_addChair E) (h : kblk (kroom mX7_addChair mc ms) S E (KW X) kbX7_addChair_30 30 ls st M cs sl) : KW X 30 ls st M cs sl := KW_blk hC hE kbX7_addChair_30 30 ls st M cs sl (by decide +kernel) h
def kbX7_addChair_35 : List KE := [(.ireturn, 1, (0, 0, 0), 0, 0)]
theorem kwX7_addChair_35 {X : KX} {S : KS} {mc ms : Nat} {E : KEnd} {ls : KL} {st : List KV} {M : KM} {cs sl : Nat} (hC : KC X mX7_addChair 7 false S mc ms) (hE : KRet X mX7_addChair E) (h : kblk (kroom mX7_addChair mc ms) S E (KW X) kbX7_addChair_35 35 ls st M cs sl) : KW X 35 ls st M cs sl := KW_blk hC hE kbX7_addChair_35 35 ls st M cs sl (by decide +kernel) h
def kbX7_addChair_36 : List KE := [(.aload_n 0, 1, (0, 0, 0), 0, 0), (.getfield 13, 3, (7, 4, 1), 0, 0), (.aload_n 0, 1, (0, 0, 0), 0, 0), (.getfield 56, 3, (7, 2, 0), 0, 0), (.iload_n 1, 1, (1, 0, 0), 0, 0), (.iastore, 1, (0, 0, 0), 0, 0), (.aload_n 0, 1, (0, 0, 0), 0, 0), (.getfield 28, 3, (7, 7, 1), 0, 0), (.getfield 59, 3, (6, 10, 1), 0, 0), (.aload_n 0, 1, (0, 0, 0), 0, 0), (.getfield 56, 3, (7, 2, 0), 0, 0), (.iconst (-1), 1, (0, 0, 0), (-1), 0), (.iastore, 1, (0, 0, 0), 0, 0), (.aload_n 0, 1, (0, 0, 0), 0, 0), (.getfield 28, 3, (7, 7, 1), 0, 0), (.getfield 62, 3, (6, 9, 1), 0, 0), (.aload_n 0, 1, (0, 0, 0), 0, 0), (.getfield 28, 3, (7, 7, 1), 0, 0), (.getfield 65, 3, (6, 8, 0), 0, 0), (.aload_n 0, 1, (0, 0, 0), 0, 0), (.getfield 56, 3, (7, 2, 0), 0, 0), (.iastore, 1, (0, 0, 0), 0, 0), (.aload_n 0, 1, (0, 0, 0), 0, 0), (.getfield 28, 3, (7, 7, 1), 0, 0), (.dup, 1, (0, 0, 0), 0, 0), (.getfield 65, 3, (6, 8, 0), 0, 0), (.iconst 1, 1, (0, 0, 0), 1, 0), (.iadd, 1, (0, 0, 0), 0, 0), (.putfield 65, 3, (6, 8, 0), 0, 0), (.aload_n 0, 1, (0, 0, 0), 0, 0), (.dup, 1, (0, 0, 0), 0, 0), (.getfield 56, 3, (7, 2, 0), 0, 0), (.iconst 1, 1, (0, 0, 0), 1, 0), (.iadd, 1, (0, 0, 0), 0, 0), (.putfield 56, 3, (7, 2, 0), 0, 0), (.aload_n 0, 1, (0, 0, 0), 0, 0), (.getfield 56, 3, (7, 2, 0), 0, 0), (.iconst 1, 1, (0, 0, 0), 1, 0), (.isub, 1, (0, 0, 0), 0, 0), (.ireturn, 1, (0, 0, 0), 0, 0)]
theorem kwX7_addChair_36 {X : KX} {S : KS} {mc ms : Nat} {E : KEnd} {ls : KL} {st : List KV} {M : KM} {cs sl : Nat} (hC : KC X mX7_addChair 7 false S mc ms) (hE : KRet X mX7_addChair E) (h : kblk (kroom mX7_addChair mc ms) S E (KW X) kbX7_addChair_36 36 ls st M cs sl) : KW X 36 ls st M cs sl := KW_blk hC hE kbX7_addChair_36 36 ls st M cs sl (by decide +kernel) h
def kbX7_addLane_0 : List KE := [(.aload_n 0, 1, (0, 0, 0), 0, 0), (.iconst 0, 1, (0, 0, 0), 0, 0), (.putfield 35, 3, (7, 0, 0), 0, 0), (.aload_n 0, 1, (0, 0, 0), 0, 0), (.getfield 38, 3, (7, 3, 0), 0, 0), (.iconst 4, 1, (0, 0, 0), 4, 0), (.if_icmp .ne (9), 3, (19, 0, 0), 0, 0)]
theorem kwX7_addLane_0 {X : KX} {S : KS} {mc ms : Nat} {E : KEnd} {ls : KL} {st : List KV} {M : KM} {cs sl : Nat} (hC : KC X mX7_addLane 7 false S mc ms) (hE : KRet X mX7_addLane E) (h : kblk (kroom mX7_addLane mc ms) S E (KW X) kbX7_addLane_0 0 ls st M cs sl) : KW X 0 ls st M cs sl := KW_blk hC hE kbX7_addLane_0 0 ls st M cs sl (by decide +kernel) h
def kbX7_addLane_13 : List KE := [(.aload_n 0, 1, (0, 0, 0), 0, 0), (.iconst 1, 1, (0, 0, 0), 1, 0)]
theorem kwX7_addLane_13 {X : KX} {S : KS} {mc ms : Nat} {E : KEnd} {ls : KL} {st : List KV} {M : KM} {cs sl : Nat} (hC : KC X mX7_addLane 7 false S mc ms) (hE : KRet X mX7_addLane E) (h : kblk (kroom mX7_addLane mc ms) S E (KW X) kbX7_addLane_13 13 ls st M cs sl) : KW X 13 ls st M cs sl := KW_blk hC hE kbX7_addLane_13 13 ls st M cs sl (by decide +kernel) h
def kbX7_addLane_18 : List KE := [(.ireturn, 1, (0, 0, 0), 0, 0)]
theorem kwX7_addLane_18 {X : KX} {S : KS} {mc ms : Nat} {E : KEnd} {ls : KL} {st : List KV} {M : KM} {cs sl : Nat} (hC : KC X mX7_addLane 7 false S mc ms) (hE : KRet X mX7_addLane E) (h : kblk (kroom mX7_addLane mc ms) S E (KW X) kbX7_addLane_18 18 ls st M cs sl) : KW X 18 ls st M cs sl := KW_blk hC hE kbX7_addLane_18 18 ls st M cs sl (by decide +kernel) h
def kbX7_addLane_19 : List KE := [(.aload_n 0, 1, (0, 0, 0), 0, 0), (.dup, 1, (0, 0, 0), 0, 0), (.getfield 38, 3, (7, 3, 0), 0, 0), (.iconst 1, 1, (0, 0, 0), 1, 0), (.iadd, 1, (0, 0, 0), 0, 0), (.putfield 38, 3, (7, 3, 0), 0, 0), (.aload_n 0, 1, (0, 0, 0), 0, 0), (.getfield 38, 3, (7, 3, 0), 0, 0), (.iconst 1, 1, (0, 0, 0), 1, 0), (.isub, 1, (0, 0, 0), 0, 0), (.ireturn, 1, (0, 0, 0), 0, 0)]
theorem kwX7_addLane_19 {X : KX} {S : KS} {mc ms : Nat} {E : KEnd} {ls : KL} {st : List KV} {M : KM} {cs sl : Nat} (hC : KC X mX7_addLane 7 false S mc ms) (hE : KRet X mX7_addLane E) (h : kblk (kroom mX7_addLane mc ms) S E (KW X) kbX7_addLane_19 19 ls st M cs sl) : KW X 19 ls st M cs sl := KW_blk hC hE kbX7_addLane_19 19 ls st M cs sl (by decide +kernel) h
def kbX7_advise_0 : List KE := [(.aload_n 0, 1, (0, 0, 0), 0, 0), (.iconst 0, 1, (0, 0, 0), 0, 0), (.putfield 35, 3, (7, 0, 0), 0, 0), (.iload_n 1, 1, (1, 0, 0), 0, 0), (.iconst 1, 1, (0, 0, 0), 1, 0), (.bipush (6), 2, (0, 0, 0), 6, 0)]
theorem kwX7_advise_0 {X : KX} {S : KS} {mc ms : Nat} {E : KEnd} {ls : KL} {st : List KV} {M : KM} {cs sl : Nat} (hC : KC X mX7_advise 7 false S mc ms) (hE : KRet X mX7_advise E) (h : kblk (kroom mX7_advise mc ms) S E (KW X) kbX7_advise_0 0 ls st M cs sl) : KW X 0 ls st M cs sl := KW_blk hC hE kbX7_advise_0 0 ls st M cs sl (by decide +kernel) h
def kbX7_advise_12 : List KE := [(.ifCond .ne (9), 3, (21, 0, 0), 0, 0)]
theorem kwX7_advise_12 {X : KX} {S : KS} {mc ms : Nat} {E : KEnd} {ls : KL} {st : List KV} {M : KM} {cs sl : Nat} (hC : KC X mX7_advise 7 false S mc ms) (hE : KRet X mX7_advise E) (h : kblk (kroom mX7_advise mc ms) S E (KW X) kbX7_advise_12 12 ls st M cs sl) : KW X 12 ls st M cs sl := KW_blk hC hE kbX7_advise_12 12 ls st M cs sl (by decide +kernel) h
def kbX7_advise_15 : List KE := [(.aload_n 0, 1, (0, 0, 0), 0, 0), (.iconst 1, 1, (0, 0, 0), 1, 0)]
theorem kwX7_advise_15 {X : KX} {S : KS} {mc ms : Nat} {E : KEnd} {ls : KL} {st : List KV} {M : KM} {cs sl : Nat} (hC : KC X mX7_advise 7 false S mc ms) (hE : KRet X mX7_advise E) (h : kblk (kroom mX7_advise mc ms) S E (KW X) kbX7_advise_15 15 ls st M cs sl) : KW X 15 ls st M cs sl := KW_blk hC hE kbX7_advise_15 15 ls st M cs sl (by decide +kernel) h
def kbX7_advise_20 : List KE := [(.ireturn, 1, (0, 0, 0), 0, 0)]
theorem kwX7_advise_20 {X : KX} {S : KS} {mc ms : Nat} {E : KEnd} {ls : KL} {st : List KV} {M : KM} {cs sl : Nat} (hC : KC X mX7_advise 7 false S mc ms) (hE : KRet X mX7_advise E) (h : kblk (kroom mX7_advise mc ms) S E (KW X) kbX7_advise_20 20 ls st M cs sl) : KW X 20 ls st M cs sl := KW_blk hC hE kbX7_advise_20 20 ls st M cs sl (by decide +kernel) h
def kbX7_advise_21 : List KE := [(.iconst (-1), 1, (0, 0, 0), (-1), 0), (.istore_n 2, 1, (2, 0, 0), 0, 0), (.sipush (201), 3, (0, 0, 0), 201, 0), (.istore_n 3, 1, (3, 0, 0), 0, 0), (.iconst 0, 1, (0, 0, 0), 0, 0), (.istore 4, 2, (4, 0, 0), 0, 0)]
theorem kwX7_advise_21 {X : KX} {S : KS} {mc ms : Nat} {E : KEnd} {ls : KL} {st : List KV} {M : KM} {cs sl : Nat} (hC : KC X mX7_advise 7 false S mc ms) (hE : KRet X mX7_advise E) (h : kblk (kroom mX7_advise mc ms) S E (KW X) kbX7_advise_21 21 ls st M cs sl) : KW X 21 ls st M cs sl := KW_blk hC hE kbX7_advise_21 21 ls st M cs sl (by decide +kernel) h
def kbX7_advise_30 : List KE := [(.iload 4, 2, (4, 0, 0), 0, 0), (.aload_n 0, 1, (0, 0, 0), 0, 0), (.getfield 38, 3, (7, 3, 0), 0, 0), (.if_icmp .ge (77), 3, (113, 0, 0), 0, 0)]
theorem kwX7_advise_30 {X : KX} {S : KS} {mc ms : Nat} {E : KEnd} {ls : KL} {st : List KV} {M : KM} {cs sl : Nat} (hC : KC X mX7_advise 7 false S mc ms) (hE : KRet X mX7_advise E) (h : kblk (kroom mX7_advise mc ms) S E (KW X) kbX7_advise_30 30 ls st M cs sl) : KW X 30 ls st M cs sl := KW_blk hC hE kbX7_advise_30 30 ls st M cs sl (by decide +kernel) h
def kbX7_advise_39 : List KE := [(.aload_n 0, 1, (0, 0, 0), 0, 0), (.getfield 17, 3, (7, 5, 1), 0, 0), (.iload 4, 2, (4, 0, 0), 0, 0), (.iaload, 1, (0, 0, 0), 0, 0), (.iconst 1, 1, (0, 0, 0), 1, 0), (.if_icmp .ne (6), 3, (53, 0, 0), 0, 0)]
theorem kwX7_advise_39 {X : KX} {S : KS} {mc ms : Nat} {E : KEnd} {ls : KL} {st : List KV} {M : KM} {cs sl : Nat} (hC : KC X mX7_advise 7 false S mc ms) (hE : KRet X mX7_advise E) (h : kblk (kroom mX7_advise mc ms) S E (KW X) kbX7_advise_39 39 ls st M cs sl) : KW X 39 ls st M cs sl := KW_blk hC hE kbX7_advise_39 39 ls st M cs sl (by decide +kernel) h
def kbX7_advise_50 : List KE := [(.goto (57), 3, (107, 0, 0), 0, 0)]
theorem kwX7_advise_50 {X : KX} {S : KS} {mc ms : Nat} {E : KEnd} {ls : KL} {st : List KV} {M : KM} {cs sl : Nat} (hC : KC X mX7_advise 7 false S mc ms) (hE : KRet X mX7_advise E) (h : kblk (kroom mX7_advise mc ms) S E (KW X) kbX7_advise_50 50 ls st M cs sl) : KW X 50 ls st M cs sl := KW_blk hC hE kbX7_advise_50 50 ls st M cs sl (by decide +kernel) h
def kbX7_advise_53 : List KE := [(.aload_n 0, 1, (0, 0, 0), 0, 0), (.getfield 32, 3, (7, 8, 1), 0, 0), (.aload_n 0, 1, (0, 0, 0), 0, 0), (.getfield 28, 3, (7, 7, 1), 0, 0)]
theorem kwX7_advise_53 {X : KX} {S : KS} {mc ms : Nat} {E : KEnd} {ls : KL} {st : List KV} {M : KM} {cs sl : Nat} (hC : KC X mX7_advise 7 false S mc ms) (hE : KRet X mX7_advise E) (h : kblk (kroom mX7_advise mc ms) S E (KW X) kbX7_advise_53 53 ls st M cs sl) : KW X 53 ls st M cs sl := KW_blk hC hE kbX7_advise_53 53 ls st M cs sl (by decide +kernel) h
def kbX7_advise_64 : List KE := [(.aload_n 0, 1, (0, 0, 0), 0, 0), (.aload_n 0, 1, (0, 0, 0), 0, 0), (.getfield 32, 3, (7, 8, 1), 0, 0), (.iload 4, 2, (4, 0, 0), 0, 0), (.iload_n 1, 1, (1, 0, 0), 0, 0), (.sipush (200), 3, (0, 0, 0), 200, 0)]
theorem kwX7_advise_64 {X : KX} {S : KS} {mc ms : Nat} {E : KEnd} {ls : KL} {st : List KV} {M : KM} {cs sl : Nat} (hC : KC X mX7_advise 7 false S mc ms) (hE : KRet X mX7_advise E) (h : kblk (kroom mX7_advise mc ms) S E (KW X) kbX7_advise_64 64 ls st M cs sl) : KW X 64 ls st M cs sl := KW_blk hC hE kbX7_advise_64 64 ls st M cs sl (by decide +kernel) h
def kbX7_advise_78 : List KE := [(.sipush (200), 3, (0, 0, 0), 200, 0)]
theorem kwX7_advise_78 {X : KX} {S : KS} {mc ms : Nat} {E : KEnd} {ls : KL} {st : List KV} {M : KM} {cs sl : Nat} (hC : KC X mX7_advise 7 false S mc ms) (hE : KRet X mX7_advise E) (h : kblk (kroom mX7_advise mc ms) S E (KW X) kbX7_advise_78 78 ls st M cs sl) : KW X 78 ls st M cs sl := KW_blk hC hE kbX7_advise_78 78 ls st M cs sl (by decide +kernel) h
def kbX7_advise_84 : List KE := [(.istore 5, 2, (5, 0, 0), 0, 0), (.iload 5, 2, (5, 0, 0), 0, 0), (.iconst (-1), 1, (0, 0, 0), (-1), 0), (.if_icmp .eq (18), 3, (107, 0, 0), 0, 0)]
theorem kwX7_advise_84 {X : KX} {S : KS} {mc ms : Nat} {E : KEnd} {ls : KL} {st : List KV} {M : KM} {cs sl : Nat} (hC : KC X mX7_advise 7 false S mc ms) (hE : KRet X mX7_advise E) (h : kblk (kroom mX7_advise mc ms) S E (KW X) kbX7_advise_84 84 ls st M cs sl) : KW X 84 ls st M cs sl := KW_blk hC hE kbX7_advise_84 84 ls st M cs sl (by decide +kernel) h
def kbX7_advise_92 : List KE := [(.iload 5, 2, (5, 0, 0), 0, 0), (.iload_n 3, 1, (3, 0, 0), 0, 0), (.if_icmp .lt (6), 3, (101, 0, 0), 0, 0)]
theorem kwX7_advise_92 {X : KX} {S : KS} {mc ms : Nat} {E : KEnd} {ls : KL} {st : List KV} {M : KM} {cs sl : Nat} (hC : KC X mX7_advise 7 false S mc ms) (hE : KRet X mX7_advise E) (h : kblk (kroom mX7_advise mc ms) S E (KW X) kbX7_advise_92 92 ls st M cs sl) : KW X 92 ls st M cs sl := KW_blk hC hE kbX7_advise_92 92 ls st M cs sl (by decide +kernel) h
def kbX7_advise_98 : List KE := [(.goto (9), 3, (107, 0, 0), 0, 0)]
theorem kwX7_advise_98 {X : KX} {S : KS} {mc ms : Nat} {E : KEnd} {ls : KL} {st : List KV} {M : KM} {cs sl : Nat} (hC : KC X mX7_advise 7 false S mc ms) (hE : KRet X mX7_advise E) (h : kblk (kroom mX7_advise mc ms) S E (KW X) kbX7_advise_98 98 ls st M cs sl) : KW X 98 ls st M cs sl := KW_blk hC hE kbX7_advise_98 98 ls st M cs sl (by decide +kernel) h
def kbX7_advise_101 : List KE := [(.iload 5, 2, (5, 0, 0), 0, 0), (.istore_n 3, 1, (3, 0, 0), 0, 0), (.iload 4, 2, (4, 0, 0), 0, 0), (.istore_n 2, 1, (2, 0, 0), 0, 0)]
theorem kwX7_advise_101 {X : KX} {S : KS} {mc ms : Nat} {E : KEnd} {ls : KL} {st : List KV} {M : KM} {cs sl : Nat} (hC : KC X mX7_advise 7 false S mc ms) (hE : KRet X mX7_advise E) (h : kblk (kroom mX7_advise mc ms) S E (KW X) kbX7_advise_101 101 ls st M cs sl) : KW X 101 ls st M cs sl := KW_blk hC hE kbX7_advise_101 101 ls st M cs sl (by decide +kernel) h
def kbX7_advise_107 : List KE := [(.iinc 4 (1), 3, (4, 0, 0), 1, 0), (.goto (-80), 3, (30, 0, 0), 0, 0)]
theorem kwX7_advise_107 {X : KX} {S : KS} {mc ms : Nat} {E : KEnd} {ls : KL} {st : List KV} {M : KM} {cs sl : Nat} (hC : KC X mX7_advise 7 false S mc ms) (hE : KRet X mX7_advise E) (h : kblk (kroom mX7_advise mc ms) S E (KW X) kbX7_advise_107 107 ls st M cs sl) : KW X 107 ls st M cs sl := KW_blk hC hE kbX7_advise_107 107 ls st M cs sl (by decide +kernel) h
def kbX7_advise_113 : List KE := [(.iload_n 2, 1, (2, 0, 0), 0, 0), (.ireturn, 1, (0, 0, 0), 0, 0)]
theorem kwX7_advise_113 {X : KX} {S : KS} {mc ms : Nat} {E : KEnd} {ls : KL} {st : List KV} {M : KM} {cs sl : Nat} (hC : KC X mX7_advise 7 false S mc ms) (hE : KRet X mX7_advise E) (h : kblk (kroom mX7_advise mc ms) S E (KW X) kbX7_advise_113 113 ls st M cs sl) : KW X 113 ls st M cs sl := KW_blk hC hE kbX7_advise_113 113 ls st M cs sl (by decide +kernel) h
def kbX7_chair_0 : List KE := [(.aload_n 0, 1, (0, 0, 0), 0, 0), (.iconst 0, 1, (0, 0, 0), 0, 0), (.putfield 35, 3, (7, 0, 0), 0, 0), (.iload_n 1, 1, (1, 0, 0), 0, 0), (.iconst 0, 1, (0, 0, 0), 0, 0), (.aload_n 0, 1, (0, 0, 0), 0, 0), (.getfield 56, 3, (7, 2, 0), 0, 0), (.iconst 1, 1, (0, 0, 0), 1, 0), (.isub, 1, (0, 0, 0), 0, 0)]
theorem kwX7_chair_0 {X : KX} {S : KS} {mc ms : Nat} {E : KEnd} {ls : KL} {st : List KV} {M : KM} {cs sl : Nat} (hC : KC X mX7_chair 7 false S mc ms) (hE : KRet X mX7_chair E) (h : kblk (kroom mX7_chair mc ms) S E (KW X) kbX7_chair_0 0 ls st M cs sl) : KW X 0 ls st M cs sl := KW_blk hC hE kbX7_chair_0 0 ls st M cs sl (by decide +kernel) h
def kbX7_chair_16 : List KE := [(.ifCond .eq (21), 3, (37, 0, 0), 0, 0)]
theorem kwX7_chair_16 {X : KX} {S : KS} {mc ms : Nat} {E : KEnd} {ls : KL} {st : List KV} {M : KM} {cs sl : Nat} (hC : KC X mX7_chair 7 false S mc ms) (hE : KRet X mX7_chair E) (h : kblk (kroom mX7_chair mc ms) S E (KW X) kbX7_chair_16 16 ls st M cs sl) : KW X 16 ls st M cs sl := KW_blk hC hE kbX7_chair_16 16 ls st M cs sl (by decide +kernel) h
def kbX7_chair_19 : List KE := [(.iload_n 2, 1, (2, 0, 0), 0, 0), (.iconst 0, 1, (0, 0, 0), 0, 0), (.iconst 4, 1, (0, 0, 0), 4, 0)]
theorem kwX7_chair_19 {X : KX} {S : KS} {mc ms : Nat} {E : KEnd} {ls : KL} {st : List KV} {M : KM} {cs sl : Nat} (hC : KC X mX7_chair 7 false S mc ms) (hE : KRet X mX7_chair E) (h : kblk (kroom mX7_chair mc ms) S E (KW X) kbX7_chair_19 19 ls st M cs sl) : KW X 19 ls st M cs sl := KW_blk hC hE kbX7_chair_19 19 ls st M cs sl (by decide +kernel) h
def kbX7_chair_25 : List KE := [(.ifCond .eq (12), 3, (37, 0, 0), 0, 0)]
theorem kwX7_chair_25 {X : KX} {S : KS} {mc ms : Nat} {E : KEnd} {ls : KL} {st : List KV} {M : KM} {cs sl : Nat} (hC : KC X mX7_chair 7 false S mc ms) (hE : KRet X mX7_chair E) (h : kblk (kroom mX7_chair mc ms) S E (KW X) kbX7_chair_25 25 ls st M cs sl) : KW X 25 ls st M cs sl := KW_blk hC hE kbX7_chair_25 25 ls st M cs sl (by decide +kernel) h
def kbX7_chair_28 : List KE := [(.aload_n 0, 1, (0, 0, 0), 0, 0), (.iload_n 1, 1, (1, 0, 0), 0, 0), (.iload_n 2, 1, (2, 0, 0), 0, 0)]
theorem kwX7_chair_28 {X : KX} {S : KS} {mc ms : Nat} {E : KEnd} {ls : KL} {st : List KV} {M : KM} {cs sl : Nat} (hC : KC X mX7_chair 7 false S mc ms) (hE : KRet X mX7_chair E) (h : kblk (kroom mX7_chair mc ms) S E (KW X) kbX7_chair_28 28 ls st M cs sl) : KW X 28 ls st M cs sl := KW_blk hC hE kbX7_chair_28 28 ls st M cs sl (by decide +kernel) h
def kbX7_chair_34 : List KE := [(.goto (8), 3, (42, 0, 0), 0, 0)]
theorem kwX7_chair_34 {X : KX} {S : KS} {mc ms : Nat} {E : KEnd} {ls : KL} {st : List KV} {M : KM} {cs sl : Nat} (hC : KC X mX7_chair 7 false S mc ms) (hE : KRet X mX7_chair E) (h : kblk (kroom mX7_chair mc ms) S E (KW X) kbX7_chair_34 34 ls st M cs sl) : KW X 34 ls st M cs sl := KW_blk hC hE kbX7_chair_34 34 ls st M cs sl (by decide +kernel) h
def kbX7_chair_37 : List KE := [(.aload_n 0, 1, (0, 0, 0), 0, 0), (.iconst 1, 1, (0, 0, 0), 1, 0)]
theorem kwX7_chair_37 {X : KX} {S : KS} {mc ms : Nat} {E : KEnd} {ls : KL} {st : List KV} {M : KM} {cs sl : Nat} (hC : KC X mX7_chair 7 false S mc ms) (hE : KRet X mX7_chair E) (h : kblk (kroom mX7_chair mc ms) S E (KW X) kbX7_chair_37 37 ls st M cs sl) : KW X 37 ls st M cs sl := KW_blk hC hE kbX7_chair_37 37 ls st M cs sl (by decide +kernel) h
def kbX7_chair_42 : List KE := [(.ireturn, 1, (0, 0, 0), 0, 0)]
theorem kwX7_chair_42 {X : KX} {S : KS} {mc ms : Nat} {E : KEnd} {ls : KL} {st : List KV} {M : KM} {cs sl : Nat} (hC : KC X mX7_chair 7 false S mc ms) (hE : KRet X mX7_chair E) (h : kblk (kroom mX7_chair mc ms) S E (KW X) kbX7_chair_42 42 ls st M cs sl) : KW X 42 ls st M cs sl := KW_blk hC hE kbX7_chair_42 42 ls st M cs sl (by decide +kernel) h
def kbX7_chairTold_0 : List KE := [(.iconst 0, 1, (0, 0, 0), 0, 0), (.istore_n 3, 1, (3, 0, 0), 0, 0), (.iconst 0, 1, (0, 0, 0), 0, 0), (.istore 4, 2, (4, 0, 0), 0, 0), (.iconst 0, 1, (0, 0, 0), 0, 0), (.istore 5, 2, (5, 0, 0), 0, 0)]
theorem kwX7_chairTold_0 {X : KX} {S : KS} {mc ms : Nat} {E : KEnd} {ls : KL} {st : List KV} {M : KM} {cs sl : Nat} (hC : KC X mX7_chairTold 7 false S mc ms) (hE : KRet X mX7_chairTold E) (h : kblk (kroom mX7_chairTold mc ms) S E (KW X) kbX7_chairTold_0 0 ls st M cs sl) : KW X 0 ls st M cs sl := KW_blk hC hE kbX7_chairTold_0 0 ls st M cs sl (by decide +kernel) h
def kbX7_chairTold_8 : List KE := [(.iload 5, 2, (5, 0, 0), 0, 0), (.aload_n 0, 1, (0, 0, 0), 0, 0), (.getfield 28, 3, (7, 7, 1), 0, 0), (.getfield 45, 3, (6, 3, 0), 0, 0), (.if_icmp .ge (56), 3, (73, 0, 0), 0, 0)]
theorem kwX7_chairTold_8 {X : KX} {S : KS} {mc ms : Nat} {E : KEnd} {ls : KL} {st : List KV} {M : KM} {cs sl : Nat} (hC : KC X mX7_chairTold 7 false S mc ms) (hE : KRet X mX7_chairTold E) (h : kblk (kroom mX7_chairTold mc ms) S E (KW X) kbX7_chairTold_8 8 ls st M cs sl) : KW X 8 ls st M cs sl := KW_blk hC hE kbX7_chairTold_8 8 ls st M cs sl (by decide +kernel) h
def kbX7_chairTold_20 : List KE := [(.aload_n 0, 1, (0, 0, 0), 0, 0), (.getfield 28, 3, (7, 7, 1), 0, 0), (.getfield 82, 3, (6, 17, 1), 0, 0), (.iload 5, 2, (5, 0, 0), 0, 0), (.iaload, 1, (0, 0, 0), 0, 0), (.iconst 1, 1, (0, 0, 0), 1, 0), (.if_icmp .ne (36), 3, (67, 0, 0), 0, 0)]
theorem kwX7_chairTold_20 {X : KX} {S : KS} {mc ms : Nat} {E : KEnd} {ls : KL} {st : List KV} {M : KM} {cs sl : Nat} (hC : KC X mX7_chairTold 7 false S mc ms) (hE : KRet X mX7_chairTold E) (h : kblk (kroom mX7_chairTold mc ms) S E (KW X) kbX7_chairTold_20 20 ls st M cs sl) : KW X 20 ls st M cs sl := KW_blk hC hE kbX7_chairTold_20 20 ls st M cs sl (by decide +kernel) h
def kbX7_chairTold_34 : List KE := [(.aload_n 0, 1, (0, 0, 0), 0, 0), (.getfield 28, 3, (7, 7, 1), 0, 0), (.getfield 98, 3, (6, 18, 1), 0, 0), (.iload 5, 2, (5, 0, 0), 0, 0), (.iaload, 1, (0, 0, 0), 0, 0), (.iload_n 1, 1, (1, 0, 0), 0, 0), (.if_icmp .eq (6), 3, (51, 0, 0), 0, 0)]
theorem kwX7_chairTold_34 {X : KX} {S : KS} {mc ms : Nat} {E : KEnd} {ls : KL} {st : List KV} {M : KM} {cs sl : Nat} (hC : KC X mX7_chairTold 7 false S mc ms) (hE : KRet X mX7_chairTold E) (h : kblk (kroom mX7_chairTold mc ms) S E (KW X) kbX7_chairTold_34 34 ls st M cs sl) : KW X 34 ls st M cs sl := KW_blk hC hE kbX7_chairTold_34 34 ls st M cs sl (by decide +kernel) h
def kbX7_chairTold_48 : List KE := [(.goto (19), 3, (67, 0, 0), 0, 0)]
theorem kwX7_chairTold_48 {X : KX} {S : KS} {mc ms : Nat} {E : KEnd} {ls : KL} {st : List KV} {M : KM} {cs sl : Nat} (hC : KC X mX7_chairTold 7 false S mc ms) (hE : KRet X mX7_chairTold E) (h : kblk (kroom mX7_chairTold mc ms) S E (KW X) kbX7_chairTold_48 48 ls st M cs sl) : KW X 48 ls st M cs sl := KW_blk hC hE kbX7_chairTold_48 48 ls st M cs sl (by decide +kernel) h
def kbX7_chairTold_51 : List KE := [(.iload_n 3, 1, (3, 0, 0), 0, 0), (.aload_n 0, 1, (0, 0, 0), 0, 0), (.getfield 28, 3, (7, 7, 1), 0, 0), (.getfield 92, 3, (6, 15, 1), 0, 0), (.iload 5, 2, (5, 0, 0), 0, 0), (.iaload, 1, (0, 0, 0), 0, 0), (.iadd, 1, (0, 0, 0), 0, 0), (.istore_n 3, 1, (3, 0, 0), 0, 0), (.iinc 4 (1), 3, (4, 0, 0), 1, 0)]
theorem kwX7_chairTold_51 {X : KX} {S : KS} {mc ms : Nat} {E : KEnd} {ls : KL} {st : List KV} {M : KM} {cs sl : Nat} (hC : KC X mX7_chairTold 7 false S mc ms) (hE : KRet X mX7_chairTold E) (h : kblk (kroom mX7_chairTold mc ms) S E (KW X) kbX7_chairTold_51 51 ls st M cs sl) : KW X 51 ls st M cs sl := KW_blk hC hE kbX7_chairTold_51 51 ls st M cs sl (by decide +kernel) h
def kbX7_chairTold_67 : List KE := [(.iinc 5 (1), 3, (5, 0, 0), 1, 0), (.goto (-62), 3, (8, 0, 0), 0, 0)]
theorem kwX7_chairTold_67 {X : KX} {S : KS} {mc ms : Nat} {E : KEnd} {ls : KL} {st : List KV} {M : KM} {cs sl : Nat} (hC : KC X mX7_chairTold 7 false S mc ms) (hE : KRet X mX7_chairTold E) (h : kblk (kroom mX7_chairTold mc ms) S E (KW X) kbX7_chairTold_67 67 ls st M cs sl) : KW X 67 ls st M cs sl := KW_blk hC hE kbX7_chairTold_67 67 ls st M cs sl (by decide +kernel) h
def kbX7_chairTold_73 : List KE := [(.iconst 5, 1, (0, 0, 0), 5, 0), (.newarray .int, 2, (8, 0, 0), 0, 0), (.dup, 1, (0, 0, 0), 0, 0), (.iconst 0, 1, (0, 0, 0), 0, 0), (.aload_n 0, 1, (0, 0, 0), 0, 0), (.getfield 13, 3, (7, 4, 1), 0, 0), (.iload_n 1, 1, (1, 0, 0), 0, 0), (.iaload, 1, (0, 0, 0), 0, 0), (.iastore, 1, (0, 0, 0), 0, 0), (.dup, 1, (0, 0, 0), 0, 0), (.iconst 1, 1, (0, 0, 0), 1, 0), (.aload_n 0, 1, (0, 0, 0), 0, 0), (.getfield 28, 3, (7, 7, 1), 0, 0), (.getfield 59, 3, (6, 10, 1), 0, 0), (.iload_n 1, 1, (1, 0, 0), 0, 0), (.iaload, 1, (0, 0, 0), 0, 0), (.iastore, 1, (0, 0, 0), 0, 0), (.dup, 1, (0, 0, 0), 0, 0), (.iconst 2, 1, (0, 0, 0), 2, 0), (.iload_n 3, 1, (3, 0, 0), 0, 0), (.iastore, 1, (0, 0, 0), 0, 0), (.dup, 1, (0, 0, 0), 0, 0), (.iconst 3, 1, (0, 0, 0), 3, 0), (.iload 4, 2, (4, 0, 0), 0, 0), (.iastore, 1, (0, 0, 0), 0, 0), (.dup, 1, (0, 0, 0), 0, 0), (.iconst 4, 1, (0, 0, 0), 4, 0), (.aload_n 0, 1, (0, 0, 0), 0, 0), (.getfield 28, 3, (7, 7, 1), 0, 0), (.getfield 113, 3, (6, 11, 1), 0, 0), (.iload_n 1, 1, (1, 0, 0), 0, 0), (.iaload, 1, (0, 0, 0), 0, 0), (.iastore, 1, (0, 0, 0), 0, 0), (.astore 5, 2, (5, 0, 0), 0, 0), (.aload 5, 2, (5, 0, 0), 0, 0), (.iload_n 2, 1, (2, 0, 0), 0, 0), (.iaload, 1, (0, 0, 0), 0, 0), (.ireturn, 1, (0, 0, 0), 0, 0)]
theorem kwX7_chairTold_73 {X : KX} {S : KS} {mc ms : Nat} {E : KEnd} {ls : KL} {st : List KV} {M : KM} {cs sl : Nat} (hC : KC X mX7_chairTold 7 false S mc ms) (hE : KRet X mX7_chairTold E) (h : kblk (kroom mX7_chairTold mc ms) S E (KW X) kbX7_chairTold_73 73 ls st M cs sl) : KW X 73 ls st M cs sl := KW_blk hC hE kbX7_chairTold_73 73 ls st M cs sl (by decide +kernel) h
def kbX7_change_0 : List KE := [(.aload_n 0, 1, (0, 0, 0), 0, 0), (.iconst 0, 1, (0, 0, 0), 0, 0), (.putfield 35, 3, (7, 0, 0), 0, 0), (.aload_n 0, 1, (0, 0, 0), 0, 0), (.iload_n 1, 1, (1, 0, 0), 0, 0)]
theorem kwX7_change_0 {X : KX} {S : KS} {mc ms : Nat} {E : KEnd} {ls : KL} {st : List KV} {M : KM} {cs sl : Nat} (hC : KC X mX7_change 7 false S mc ms) (hE : KRet X mX7_change E) (h : kblk (kroom mX7_change mc ms) S E (KW X) kbX7_change_0 0 ls st M cs sl) : KW X 0 ls st M cs sl := KW_blk hC hE kbX7_change_0 0 ls st M cs sl (by decide +kernel) h
def kbX7_change_10 : List KE := [(.ifCond .eq (11), 3, (21, 0, 0), 0, 0)]
theorem kwX7_change_10 {X : KX} {S : KS} {mc ms : Nat} {E : KEnd} {ls : KL} {st : List KV} {M : KM} {cs sl : Nat} (hC : KC X mX7_change 7 false S mc ms) (hE : KRet X mX7_change E) (h : kblk (kroom mX7_change mc ms) S E (KW X) kbX7_change_10 10 ls st M cs sl) : KW X 10 ls st M cs sl := KW_blk hC hE kbX7_change_10 10 ls st M cs sl (by decide +kernel) h
def kbX7_change_13 : List KE := [(.aload_n 0, 1, (0, 0, 0), 0, 0), (.iload_n 2, 1, (2, 0, 0), 0, 0)]
theorem kwX7_change_13 {X : KX} {S : KS} {mc ms : Nat} {E : KEnd} {ls : KL} {st : List KV} {M : KM} {cs sl : Nat} (hC : KC X mX7_change 7 false S mc ms) (hE : KRet X mX7_change E) (h : kblk (kroom mX7_change mc ms) S E (KW X) kbX7_change_13 13 ls st M cs sl) : KW X 13 ls st M cs sl := KW_blk hC hE kbX7_change_13 13 ls st M cs sl (by decide +kernel) h
def kbX7_change_18 : List KE := [(.ifCond .ne (9), 3, (27, 0, 0), 0, 0)]
theorem kwX7_change_18 {X : KX} {S : KS} {mc ms : Nat} {E : KEnd} {ls : KL} {st : List KV} {M : KM} {cs sl : Nat} (hC : KC X mX7_change 7 false S mc ms) (hE : KRet X mX7_change E) (h : kblk (kroom mX7_change mc ms) S E (KW X) kbX7_change_18 18 ls st M cs sl) : KW X 18 ls st M cs sl := KW_blk hC hE kbX7_change_18 18 ls st M cs sl (by decide +kernel) h
def kbX7_change_21 : List KE := [(.aload_n 0, 1, (0, 0, 0), 0, 0), (.iconst 1, 1, (0, 0, 0), 1, 0)]
theorem kwX7_change_21 {X : KX} {S : KS} {mc ms : Nat} {E : KEnd} {ls : KL} {st : List KV} {M : KM} {cs sl : Nat} (hC : KC X mX7_change 7 false S mc ms) (hE : KRet X mX7_change E) (h : kblk (kroom mX7_change mc ms) S E (KW X) kbX7_change_21 21 ls st M cs sl) : KW X 21 ls st M cs sl := KW_blk hC hE kbX7_change_21 21 ls st M cs sl (by decide +kernel) h
def kbX7_change_26 : List KE := [(.ireturn, 1, (0, 0, 0), 0, 0)]
theorem kwX7_change_26 {X : KX} {S : KS} {mc ms : Nat} {E : KEnd} {ls : KL} {st : List KV} {M : KM} {cs sl : Nat} (hC : KC X mX7_change 7 false S mc ms) (hE : KRet X mX7_change E) (h : kblk (kroom mX7_change mc ms) S E (KW X) kbX7_change_26 26 ls st M cs sl) : KW X 26 ls st M cs sl := KW_blk hC hE kbX7_change_26 26 ls st M cs sl (by decide +kernel) h
def kbX7_change_27 : List KE := [(.aload_n 0, 1, (0, 0, 0), 0, 0), (.getfield 28, 3, (7, 7, 1), 0, 0), (.getfield 82, 3, (6, 17, 1), 0, 0), (.iload_n 1, 1, (1, 0, 0), 0, 0), (.iaload, 1, (0, 0, 0), 0, 0), (.ifCond .ne (13), 3, (49, 0, 0), 0, 0)]
theorem kwX7_change_27 {X : KX} {S : KS} {mc ms : Nat} {E : KEnd} {ls : KL} {st : List KV} {M : KM} {cs sl : Nat} (hC : KC X mX7_change 7 false S mc ms) (hE : KRet X mX7_change E) (h : kblk (kroom mX7_change mc ms) S E (KW X) kbX7_change_27 27 ls st M cs sl) : KW X 27 ls st M cs sl := KW_blk hC hE kbX7_change_27 27 ls st M cs sl (by decide +kernel) h
def kbX7_change_39 : List KE := [(.aload_n 0, 1, (0, 0, 0), 0, 0), (.getfield 17, 3, (7, 5, 1), 0, 0), (.iload_n 2, 1, (2, 0, 0), 0, 0), (.iaload, 1, (0, 0, 0), 0, 0), (.iconst 1, 1, (0, 0, 0), 1, 0), (.if_icmp .ne (9), 3, (55, 0, 0), 0, 0)]
theorem kwX7_change_39 {X : KX} {S : KS} {mc ms : Nat} {E : KEnd} {ls : KL} {st : List KV} {M : KM} {cs sl : Nat} (hC : KC X mX7_change 7 false S mc ms) (hE : KRet X mX7_change E) (h : kblk (kroom mX7_change mc ms) S E (KW X) kbX7_change_39 39 ls st M cs sl) : KW X 39 ls st M cs sl := KW_blk hC hE kbX7_change_39 39 ls st M cs sl (by decide +kernel) h
def kbX7_change_49 : List KE := [(.aload_n 0, 1, (0, 0, 0), 0, 0), (.iconst 2, 1, (0, 0, 0), 2, 0)]
theorem kwX7_change_49 {X : KX} {S : KS} {mc ms : Nat} {E : KEnd} {ls : KL} {st : List KV} {M : KM} {cs sl : Nat} (hC : KC X mX7_change 7 false S mc ms) (hE : KRet X mX7_change E) (h : kblk (kroom mX7_change mc ms) S E (KW X) kbX7_change_49 49 ls st M cs sl) : KW X 49 ls st M cs sl := KW_blk hC hE kbX7_change_49 49 ls st M cs sl (by decide +kernel) h
def kbX7_change_54 : List KE := [(.ireturn, 1, (0, 0, 0), 0, 0)]
theorem kwX7_change_54 {X : KX} {S : KS} {mc ms : Nat} {E : KEnd} {ls : KL} {st : List KV} {M : KM} {cs sl : Nat} (hC : KC X mX7_change 7 false S mc ms) (hE : KRet X mX7_change E) (h : kblk (kroom mX7_change mc ms) S E (KW X) kbX7_change_54 54 ls st M cs sl) : KW X 54 ls st M cs sl := KW_blk hC hE kbX7_change_54 54 ls st M cs sl (by decide +kernel) h
def kbX7_change_55 : List KE := [(.aload_n 0, 1, (0, 0, 0), 0, 0), (.getfield 28, 3, (7, 7, 1), 0, 0), (.iload_n 1, 1, (1, 0, 0), 0, 0)]
theorem kwX7_change_55 {X : KX} {S : KS} {mc ms : Nat} {E : KEnd} {ls : KL} {st : List KV} {M : KM} {cs sl : Nat} (hC : KC X mX7_change 7 false S mc ms) (hE : KRet X mX7_change E) (h : kblk (kroom mX7_change mc ms) S E (KW X) kbX7_change_55 55 ls st M cs sl) : KW X 55 ls st M cs sl := KW_blk hC hE kbX7_change_55 55 ls st M cs sl (by decide +kernel) h
def kbX7_change_63 : List KE := [(.pop, 1, (0, 0, 0), 0, 0), (.aload_n 0, 1, (0, 0, 0), 0, 0), (.getfield 28, 3, (7, 7, 1), 0, 0), (.iload_n 1, 1, (1, 0, 0), 0, 0), (.iload_n 2, 1, (2, 0, 0), 0, 0)]
theorem kwX7_change_63 {X : KX} {S : KS} {mc ms : Nat} {E : KEnd} {ls : KL} {st : List KV} {M : KM} {cs sl : Nat} (hC : KC X mX7_change 7 false S mc ms) (hE : KRet X mX7_change E) (h : kblk (kroom mX7_change mc ms) S E (KW X) kbX7_change_63 63 ls st M cs sl) : KW X 63 ls st M cs sl := KW_blk hC hE kbX7_change_63 63 ls st M cs sl (by decide +kernel) h
def kbX7_change_73 : List KE := [(.ireturn, 1, (0, 0, 0), 0, 0)]
theorem kwX7_change_73 {X : KX} {S : KS} {mc ms : Nat} {E : KEnd} {ls : KL} {st : List KV} {M : KM} {cs sl : Nat} (hC : KC X mX7_change 7 false S mc ms) (hE : KRet X mX7_change E) (h : kblk (kroom mX7_change mc ms) S E (KW X) kbX7_change_73 73 ls st M cs sl) : KW X 73 ls st M cs sl := KW_blk hC hE kbX7_change_73 73 ls st M cs sl (by decide +kernel) h
def kbX7_count_0 : List KE := [(.aload_n 0, 1, (0, 0, 0), 0, 0), (.iconst 0, 1, (0, 0, 0), 0, 0), (.putfield 35, 3, (7, 0, 0), 0, 0), (.iload_n 1, 1, (1, 0, 0), 0, 0), (.iconst 0, 1, (0, 0, 0), 0, 0), (.bipush (12), 2, (0, 0, 0), 12, 0)]
theorem kwX7_count_0 {X : KX} {S : KS} {mc ms : Nat} {E : KEnd} {ls : KL} {st : List KV} {M : KM} {cs sl : Nat} (hC : KC X mX7_count 7 false S mc ms) (hE : KRet X mX7_count E) (h : kblk (kroom mX7_count mc ms) S E (KW X) kbX7_count_0 0 ls st M cs sl) : KW X 0 ls st M cs sl := KW_blk hC hE kbX7_count_0 0 ls st M cs sl (by decide +kernel) h
def kbX7_count_12 : List KE := [(.ifCond .eq (11), 3, (23, 0, 0), 0, 0)]
theorem kwX7_count_12 {X : KX} {S : KS} {mc ms : Nat} {E : KEnd} {ls : KL} {st : List KV} {M : KM} {cs sl : Nat} (hC : KC X mX7_count 7 false S mc ms) (hE : KRet X mX7_count E) (h : kblk (kroom mX7_count mc ms) S E (KW X) kbX7_count_12 12 ls st M cs sl) : KW X 12 ls st M cs sl := KW_blk hC hE kbX7_count_12 12 ls st M cs sl (by decide +kernel) h
def kbX7_count_15 : List KE := [(.aload_n 0, 1, (0, 0, 0), 0, 0), (.iload_n 1, 1, (1, 0, 0), 0, 0)]
theorem kwX7_count_15 {X : KX} {S : KS} {mc ms : Nat} {E : KEnd} {ls : KL} {st : List KV} {M : KM} {cs sl : Nat} (hC : KC X mX7_count 7 false S mc ms) (hE : KRet X mX7_count E) (h : kblk (kroom mX7_count mc ms) S E (KW X) kbX7_count_15 15 ls st M cs sl) : KW X 15 ls st M cs sl := KW_blk hC hE kbX7_count_15 15 ls st M cs sl (by decide +kernel) h
def kbX7_count_20 : List KE := [(.goto (8), 3, (28, 0, 0), 0, 0)]
theorem kwX7_count_20 {X : KX} {S : KS} {mc ms : Nat} {E : KEnd} {ls : KL} {st : List KV} {M : KM} {cs sl : Nat} (hC : KC X mX7_count 7 false S mc ms) (hE : KRet X mX7_count E) (h : kblk (kroom mX7_count mc ms) S E (KW X) kbX7_count_20 20 ls st M cs sl) : KW X 20 ls st M cs sl := KW_blk hC hE kbX7_count_20 20 ls st M cs sl (by decide +kernel) h
def kbX7_count_23 : List KE := [(.aload_n 0, 1, (0, 0, 0), 0, 0), (.iconst 1, 1, (0, 0, 0), 1, 0)]
theorem kwX7_count_23 {X : KX} {S : KS} {mc ms : Nat} {E : KEnd} {ls : KL} {st : List KV} {M : KM} {cs sl : Nat} (hC : KC X mX7_count 7 false S mc ms) (hE : KRet X mX7_count E) (h : kblk (kroom mX7_count mc ms) S E (KW X) kbX7_count_23 23 ls st M cs sl) : KW X 23 ls st M cs sl := KW_blk hC hE kbX7_count_23 23 ls st M cs sl (by decide +kernel) h
def kbX7_count_28 : List KE := [(.ireturn, 1, (0, 0, 0), 0, 0)]
theorem kwX7_count_28 {X : KX} {S : KS} {mc ms : Nat} {E : KEnd} {ls : KL} {st : List KV} {M : KM} {cs sl : Nat} (hC : KC X mX7_count 7 false S mc ms) (hE : KRet X mX7_count E) (h : kblk (kroom mX7_count mc ms) S E (KW X) kbX7_count_28 28 ls st M cs sl) : KW X 28 ls st M cs sl := KW_blk hC hE kbX7_count_28 28 ls st M cs sl (by decide +kernel) h
def kbX7_counted_0 : List KE := [(.bipush (13), 2, (0, 0, 0), 13, 0), (.newarray .int, 2, (8, 0, 0), 0, 0), (.dup, 1, (0, 0, 0), 0, 0), (.iconst 0, 1, (0, 0, 0), 0, 0), (.aload_n 0, 1, (0, 0, 0), 0, 0), (.getfield 28, 3, (7, 7, 1), 0, 0), (.getfield 134, 3, (6, 0, 0), 0, 0), (.iastore, 1, (0, 0, 0), 0, 0), (.dup, 1, (0, 0, 0), 0, 0), (.iconst 1, 1, (0, 0, 0), 1, 0), (.aload_n 0, 1, (0, 0, 0), 0, 0), (.getfield 56, 3, (7, 2, 0), 0, 0), (.iastore, 1, (0, 0, 0), 0, 0), (.dup, 1, (0, 0, 0), 0, 0), (.iconst 2, 1, (0, 0, 0), 2, 0), (.aload_n 0, 1, (0, 0, 0), 0, 0), (.getfield 28, 3, (7, 7, 1), 0, 0)]
theorem kwX7_counted_0 {X : KX} {S : KS} {mc ms : Nat} {E : KEnd} {ls : KL} {st : List KV} {M : KM} {cs sl : Nat} (hC : KC X mX7_counted 7 false S mc ms) (hE : KRet X mX7_counted E) (h : kblk (kroom mX7_counted mc ms) S E (KW X) kbX7_counted_0 0 ls st M cs sl) : KW X 0 ls st M cs sl := KW_blk hC hE kbX7_counted_0 0 ls st M cs sl (by decide +kernel) h
def kbX7_counted_30 : List KE := [(.iastore, 1, (0, 0, 0), 0, 0), (.dup, 1, (0, 0, 0), 0, 0), (.iconst 3, 1, (0, 0, 0), 3, 0), (.aload_n 0, 1, (0, 0, 0), 0, 0), (.getfield 38, 3, (7, 3, 0), 0, 0), (.iastore, 1, (0, 0, 0), 0, 0), (.dup, 1, (0, 0, 0), 0, 0), (.iconst 4, 1, (0, 0, 0), 4, 0), (.aload_n 0, 1, (0, 0, 0), 0, 0), (.getfield 28, 3, (7, 7, 1), 0, 0), (.getfield 45, 3, (6, 3, 0), 0, 0), (.iastore, 1, (0, 0, 0), 0, 0), (.dup, 1, (0, 0, 0), 0, 0), (.iconst 5, 1, (0, 0, 0), 5, 0), (.aload_n 0, 1, (0, 0, 0), 0, 0), (.getfield 28, 3, (7, 7, 1), 0, 0), (.iconst 0, 1, (0, 0, 0), 0, 0)]
theorem kwX7_counted_30 {X : KX} {S : KS} {mc ms : Nat} {E : KEnd} {ls : KL} {st : List KV} {M : KM} {cs sl : Nat} (hC : KC X mX7_counted 7 false S mc ms) (hE : KRet X mX7_counted E) (h : kblk (kroom mX7_counted mc ms) S E (KW X) kbX7_counted_30 30 ls st M cs sl) : KW X 30 ls st M cs sl := KW_blk hC hE kbX7_counted_30 30 ls st M cs sl (by decide +kernel) h
def kbX7_counted_58 : List KE := [(.iastore, 1, (0, 0, 0), 0, 0), (.dup, 1, (0, 0, 0), 0, 0), (.bipush (6), 2, (0, 0, 0), 6, 0), (.aload_n 0, 1, (0, 0, 0), 0, 0), (.getfield 28, 3, (7, 7, 1), 0, 0), (.iconst 1, 1, (0, 0, 0), 1, 0)]
theorem kwX7_counted_58 {X : KX} {S : KS} {mc ms : Nat} {E : KEnd} {ls : KL} {st : List KV} {M : KM} {cs sl : Nat} (hC : KC X mX7_counted 7 false S mc ms) (hE : KRet X mX7_counted E) (h : kblk (kroom mX7_counted mc ms) S E (KW X) kbX7_counted_58 58 ls st M cs sl) : KW X 58 ls st M cs sl := KW_blk hC hE kbX7_counted_58 58 ls st M cs sl (by decide +kernel) h
def kbX7_counted_70 : List KE := [(.iastore, 1, (0, 0, 0), 0, 0), (.dup, 1, (0, 0, 0), 0, 0), (.bipush (7), 2, (0, 0, 0), 7, 0), (.aload_n 0, 1, (0, 0, 0), 0, 0), (.getfield 28, 3, (7, 7, 1), 0, 0), (.iconst 2, 1, (0, 0, 0), 2, 0)]
theorem kwX7_counted_70 {X : KX} {S : KS} {mc ms : Nat} {E : KEnd} {ls : KL} {st : List KV} {M : KM} {cs sl : Nat} (hC : KC X mX7_counted 7 false S mc ms) (hE : KRet X mX7_counted E) (h : kblk (kroom mX7_counted mc ms) S E (KW X) kbX7_counted_70 70 ls st M cs sl) : KW X 70 ls st M cs sl := KW_blk hC hE kbX7_counted_70 70 ls st M cs sl (by decide +kernel) h
def kbX7_counted_82 : List KE := [(.iastore, 1, (0, 0, 0), 0, 0), (.dup, 1, (0, 0, 0), 0, 0), (.bipush (8), 2, (0, 0, 0), 8, 0), (.aload_n 0, 1, (0, 0, 0), 0, 0), (.getfield 28, 3, (7, 7, 1), 0, 0), (.iconst 3, 1, (0, 0, 0), 3, 0)]
theorem kwX7_counted_82 {X : KX} {S : KS} {mc ms : Nat} {E : KEnd} {ls : KL} {st : List KV} {M : KM} {cs sl : Nat} (hC : KC X mX7_counted 7 false S mc ms) (hE : KRet X mX7_counted E) (h : kblk (kroom mX7_counted mc ms) S E (KW X) kbX7_counted_82 82 ls st M cs sl) : KW X 82 ls st M cs sl := KW_blk hC hE kbX7_counted_82 82 ls st M cs sl (by decide +kernel) h
def kbX7_counted_94 : List KE := [(.iastore, 1, (0, 0, 0), 0, 0), (.dup, 1, (0, 0, 0), 0, 0), (.bipush (9), 2, (0, 0, 0), 9, 0), (.aload_n 0, 1, (0, 0, 0), 0, 0), (.getfield 28, 3, (7, 7, 1), 0, 0), (.getfield 140, 3, (6, 4, 0), 0, 0), (.iastore, 1, (0, 0, 0), 0, 0), (.dup, 1, (0, 0, 0), 0, 0), (.bipush (10), 2, (0, 0, 0), 10, 0), (.aload_n 0, 1, (0, 0, 0), 0, 0), (.getfield 28, 3, (7, 7, 1), 0, 0), (.getfield 143, 3, (6, 2, 0), 0, 0), (.iastore, 1, (0, 0, 0), 0, 0), (.dup, 1, (0, 0, 0), 0, 0), (.bipush (11), 2, (0, 0, 0), 11, 0), (.aload_n 0, 1, (0, 0, 0), 0, 0), (.getfield 28, 3, (7, 7, 1), 0, 0), (.getfield 146, 3, (6, 5, 0), 0, 0), (.iastore, 1, (0, 0, 0), 0, 0), (.dup, 1, (0, 0, 0), 0, 0), (.bipush (12), 2, (0, 0, 0), 12, 0), (.aload_n 0, 1, (0, 0, 0), 0, 0), (.getfield 7, 3, (7, 1, 0), 0, 0), (.iastore, 1, (0, 0, 0), 0, 0), (.astore_n 2, 1, (2, 0, 0), 0, 0), (.aload_n 2, 1, (2, 0, 0), 0, 0), (.iload_n 1, 1, (1, 0, 0), 0, 0), (.iaload, 1, (0, 0, 0), 0, 0), (.ireturn, 1, (0, 0, 0), 0, 0)]
theorem kwX7_counted_94 {X : KX} {S : KS} {mc ms : Nat} {E : KEnd} {ls : KL} {st : List KV} {M : KM} {cs sl : Nat} (hC : KC X mX7_counted 7 false S mc ms) (hE : KRet X mX7_counted E) (h : kblk (kroom mX7_counted mc ms) S E (KW X) kbX7_counted_94 94 ls st M cs sl) : KW X 94 ls st M cs sl := KW_blk hC hE kbX7_counted_94 94 ls st M cs sl (by decide +kernel) h
def kbX7_digest_0 : List KE := [(.aload_n 0, 1, (0, 0, 0), 0, 0), (.iconst 0, 1, (0, 0, 0), 0, 0), (.putfield 35, 3, (7, 0, 0), 0, 0), (.ldc2_w 165, 3, (0, 0, 0), 0, 677), (.lstore_n 1, 1, (1, 0, 0), 0, 0), (.iconst 0, 1, (0, 0, 0), 0, 0), (.istore_n 3, 1, (3, 0, 0), 0, 0)]
theorem kwX7_digest_0 {X : KX} {S : KS} {mc ms : Nat} {E : KEnd} {ls : KL} {st : List KV} {M : KM} {cs sl : Nat} (hC : KC X mX7_digest 7 false S mc ms) (hE : KRet X mX7_digest E) (h : kblk (kroom mX7_digest mc ms) S E (KW X) kbX7_digest_0 0 ls st M cs sl) : KW X 0 ls st M cs sl := KW_blk hC hE kbX7_digest_0 0 ls st M cs sl (by decide +kernel) h
def kbX7_digest_11 : List KE := [(.iload_n 3, 1, (3, 0, 0), 0, 0), (.bipush (13), 2, (0, 0, 0), 13, 0), (.if_icmp .ge (22), 3, (36, 0, 0), 0, 0)]
theorem kwX7_digest_11 {X : KX} {S : KS} {mc ms : Nat} {E : KEnd} {ls : KL} {st : List KV} {M : KM} {cs sl : Nat} (hC : KC X mX7_digest 7 false S mc ms) (hE : KRet X mX7_digest E) (h : kblk (kroom mX7_digest mc ms) S E (KW X) kbX7_digest_11 11 ls st M cs sl) : KW X 11 ls st M cs sl := KW_blk hC hE kbX7_digest_11 11 ls st M cs sl (by decide +kernel) h
def kbX7_digest_17 : List KE := [(.lload_n 1, 1, (1, 0, 0), 0, 0), (.ldc2_w 167, 3, (0, 0, 0), 0, 31), (.lmul, 1, (0, 0, 0), 0, 0), (.aload_n 0, 1, (0, 0, 0), 0, 0), (.iload_n 3, 1, (3, 0, 0), 0, 0)]
theorem kwX7_digest_17 {X : KX} {S : KS} {mc ms : Nat} {E : KEnd} {ls : KL} {st : List KV} {M : KM} {cs sl : Nat} (hC : KC X mX7_digest 7 false S mc ms) (hE : KRet X mX7_digest E) (h : kblk (kroom mX7_digest mc ms) S E (KW X) kbX7_digest_17 17 ls st M cs sl) : KW X 17 ls st M cs sl := KW_blk hC hE kbX7_digest_17 17 ls st M cs sl (by decide +kernel) h
def kbX7_digest_27 : List KE := [(.i2l, 1, (0, 0, 0), 0, 0), (.ladd, 1, (0, 0, 0), 0, 0), (.lstore_n 1, 1, (1, 0, 0), 0, 0), (.iinc 3 (1), 3, (3, 0, 0), 1, 0), (.goto (-22), 3, (11, 0, 0), 0, 0)]
theorem kwX7_digest_27 {X : KX} {S : KS} {mc ms : Nat} {E : KEnd} {ls : KL} {st : List KV} {M : KM} {cs sl : Nat} (hC : KC X mX7_digest 7 false S mc ms) (hE : KRet X mX7_digest E) (h : kblk (kroom mX7_digest mc ms) S E (KW X) kbX7_digest_27 27 ls st M cs sl) : KW X 27 ls st M cs sl := KW_blk hC hE kbX7_digest_27 27 ls st M cs sl (by decide +kernel) h
def kbX7_digest_36 : List KE := [(.iconst 0, 1, (0, 0, 0), 0, 0), (.istore_n 3, 1, (3, 0, 0), 0, 0)]
theorem kwX7_digest_36 {X : KX} {S : KS} {mc ms : Nat} {E : KEnd} {ls : KL} {st : List KV} {M : KM} {cs sl : Nat} (hC : KC X mX7_digest 7 false S mc ms) (hE : KRet X mX7_digest E) (h : kblk (kroom mX7_digest mc ms) S E (KW X) kbX7_digest_36 36 ls st M cs sl) : KW X 36 ls st M cs sl := KW_blk hC hE kbX7_digest_36 36 ls st M cs sl (by decide +kernel) h
def kbX7_digest_38 : List KE := [(.iload_n 3, 1, (3, 0, 0), 0, 0), (.bipush (24), 2, (0, 0, 0), 24, 0), (.if_icmp .ge (23), 3, (64, 0, 0), 0, 0)]
theorem kwX7_digest_38 {X : KX} {S : KS} {mc ms : Nat} {E : KEnd} {ls : KL} {st : List KV} {M : KM} {cs sl : Nat} (hC : KC X mX7_digest 7 false S mc ms) (hE : KRet X mX7_digest E) (h : kblk (kroom mX7_digest mc ms) S E (KW X) kbX7_digest_38 38 ls st M cs sl) : KW X 38 ls st M cs sl := KW_blk hC hE kbX7_digest_38 38 ls st M cs sl (by decide +kernel) h
def kbX7_digest_44 : List KE := [(.lload_n 1, 1, (1, 0, 0), 0, 0), (.ldc2_w 167, 3, (0, 0, 0), 0, 31), (.lmul, 1, (0, 0, 0), 0, 0), (.aload_n 0, 1, (0, 0, 0), 0, 0), (.getfield 20, 3, (7, 6, 1), 0, 0), (.iload_n 3, 1, (3, 0, 0), 0, 0), (.iaload, 1, (0, 0, 0), 0, 0), (.i2l, 1, (0, 0, 0), 0, 0), (.ladd, 1, (0, 0, 0), 0, 0), (.lstore_n 1, 1, (1, 0, 0), 0, 0), (.iinc 3 (1), 3, (3, 0, 0), 1, 0), (.goto (-23), 3, (38, 0, 0), 0, 0)]
theorem kwX7_digest_44 {X : KX} {S : KS} {mc ms : Nat} {E : KEnd} {ls : KL} {st : List KV} {M : KM} {cs sl : Nat} (hC : KC X mX7_digest 7 false S mc ms) (hE : KRet X mX7_digest E) (h : kblk (kroom mX7_digest mc ms) S E (KW X) kbX7_digest_44 44 ls st M cs sl) : KW X 44 ls st M cs sl := KW_blk hC hE kbX7_digest_44 44 ls st M cs sl (by decide +kernel) h
def kbX7_digest_64 : List KE := [(.iconst 0, 1, (0, 0, 0), 0, 0), (.istore_n 3, 1, (3, 0, 0), 0, 0)]
theorem kwX7_digest_64 {X : KX} {S : KS} {mc ms : Nat} {E : KEnd} {ls : KL} {st : List KV} {M : KM} {cs sl : Nat} (hC : KC X mX7_digest 7 false S mc ms) (hE : KRet X mX7_digest E) (h : kblk (kroom mX7_digest mc ms) S E (KW X) kbX7_digest_64 64 ls st M cs sl) : KW X 64 ls st M cs sl := KW_blk hC hE kbX7_digest_64 64 ls st M cs sl (by decide +kernel) h
def kbX7_digest_66 : List KE := [(.iload_n 3, 1, (3, 0, 0), 0, 0), (.aload_n 0, 1, (0, 0, 0), 0, 0), (.getfield 28, 3, (7, 7, 1), 0, 0), (.getfield 45, 3, (6, 3, 0), 0, 0), (.if_icmp .ge (40), 3, (114, 0, 0), 0, 0)]
theorem kwX7_digest_66 {X : KX} {S : KS} {mc ms : Nat} {E : KEnd} {ls : KL} {st : List KV} {M : KM} {cs sl : Nat} (hC : KC X mX7_digest 7 false S mc ms) (hE : KRet X mX7_digest E) (h : kblk (kroom mX7_digest mc ms) S E (KW X) kbX7_digest_66 66 ls st M cs sl) : KW X 66 ls st M cs sl := KW_blk hC hE kbX7_digest_66 66 ls st M cs sl (by decide +kernel) h
def kbX7_digest_77 : List KE := [(.iconst 0, 1, (0, 0, 0), 0, 0), (.istore 4, 2, (4, 0, 0), 0, 0)]
theorem kwX7_digest_77 {X : KX} {S : KS} {mc ms : Nat} {E : KEnd} {ls : KL} {st : List KV} {M : KM} {cs sl : Nat} (hC : KC X mX7_digest 7 false S mc ms) (hE : KRet X mX7_digest E) (h : kblk (kroom mX7_digest mc ms) S E (KW X) kbX7_digest_77 77 ls st M cs sl) : KW X 77 ls st M cs sl := KW_blk hC hE kbX7_digest_77 77 ls st M cs sl (by decide +kernel) h
def kbX7_digest_80 : List KE := [(.iload 4, 2, (4, 0, 0), 0, 0), (.bipush (8), 2, (0, 0, 0), 8, 0), (.if_icmp .ge (24), 3, (108, 0, 0), 0, 0)]
theorem kwX7_digest_80 {X : KX} {S : KS} {mc ms : Nat} {E : KEnd} {ls : KL} {st : List KV} {M : KM} {cs sl : Nat} (hC : KC X mX7_digest 7 false S mc ms) (hE : KRet X mX7_digest E) (h : kblk (kroom mX7_digest mc ms) S E (KW X) kbX7_digest_80 80 ls st M cs sl) : KW X 80 ls st M cs sl := KW_blk hC hE kbX7_digest_80 80 ls st M cs sl (by decide +kernel) h
def kbX7_digest_87 : List KE := [(.lload_n 1, 1, (1, 0, 0), 0, 0), (.ldc2_w 167, 3, (0, 0, 0), 0, 31), (.lmul, 1, (0, 0, 0), 0, 0), (.aload_n 0, 1, (0, 0, 0), 0, 0), (.iload_n 3, 1, (3, 0, 0), 0, 0), (.iload 4, 2, (4, 0, 0), 0, 0)]
theorem kwX7_digest_87 {X : KX} {S : KS} {mc ms : Nat} {E : KEnd} {ls : KL} {st : List KV} {M : KM} {cs sl : Nat} (hC : KC X mX7_digest 7 false S mc ms) (hE : KRet X mX7_digest E) (h : kblk (kroom mX7_digest mc ms) S E (KW X) kbX7_digest_87 87 ls st M cs sl) : KW X 87 ls st M cs sl := KW_blk hC hE kbX7_digest_87 87 ls st M cs sl (by decide +kernel) h
def kbX7_digest_99 : List KE := [(.i2l, 1, (0, 0, 0), 0, 0), (.ladd, 1, (0, 0, 0), 0, 0), (.lstore_n 1, 1, (1, 0, 0), 0, 0), (.iinc 4 (1), 3, (4, 0, 0), 1, 0), (.goto (-25), 3, (80, 0, 0), 0, 0)]
theorem kwX7_digest_99 {X : KX} {S : KS} {mc ms : Nat} {E : KEnd} {ls : KL} {st : List KV} {M : KM} {cs sl : Nat} (hC : KC X mX7_digest 7 false S mc ms) (hE : KRet X mX7_digest E) (h : kblk (kroom mX7_digest mc ms) S E (KW X) kbX7_digest_99 99 ls st M cs sl) : KW X 99 ls st M cs sl := KW_blk hC hE kbX7_digest_99 99 ls st M cs sl (by decide +kernel) h
def kbX7_digest_108 : List KE := [(.iinc 3 (1), 3, (3, 0, 0), 1, 0), (.goto (-45), 3, (66, 0, 0), 0, 0)]
theorem kwX7_digest_108 {X : KX} {S : KS} {mc ms : Nat} {E : KEnd} {ls : KL} {st : List KV} {M : KM} {cs sl : Nat} (hC : KC X mX7_digest 7 false S mc ms) (hE : KRet X mX7_digest E) (h : kblk (kroom mX7_digest mc ms) S E (KW X) kbX7_digest_108 108 ls st M cs sl) : KW X 108 ls st M cs sl := KW_blk hC hE kbX7_digest_108 108 ls st M cs sl (by decide +kernel) h
def kbX7_digest_114 : List KE := [(.iconst 0, 1, (0, 0, 0), 0, 0), (.istore_n 3, 1, (3, 0, 0), 0, 0)]
theorem kwX7_digest_114 {X : KX} {S : KS} {mc ms : Nat} {E : KEnd} {ls : KL} {st : List KV} {M : KM} {cs sl : Nat} (hC : KC X mX7_digest 7 false S mc ms) (hE : KRet X mX7_digest E) (h : kblk (kroom mX7_digest mc ms) S E (KW X) kbX7_digest_114 114 ls st M cs sl) : KW X 114 ls st M cs sl := KW_blk hC hE kbX7_digest_114 114 ls st M cs sl (by decide +kernel) h
def kbX7_digest_116 : List KE := [(.iload_n 3, 1, (3, 0, 0), 0, 0), (.aload_n 0, 1, (0, 0, 0), 0, 0), (.getfield 56, 3, (7, 2, 0), 0, 0), (.if_icmp .ge (39), 3, (160, 0, 0), 0, 0)]
theorem kwX7_digest_116 {X : KX} {S : KS} {mc ms : Nat} {E : KEnd} {ls : KL} {st : List KV} {M : KM} {cs sl : Nat} (hC : KC X mX7_digest 7 false S mc ms) (hE : KRet X mX7_digest E) (h : kblk (kroom mX7_digest mc ms) S E (KW X) kbX7_digest_116 116 ls st M cs sl) : KW X 116 ls st M cs sl := KW_blk hC hE kbX7_digest_116 116 ls st M cs sl (by decide +kernel) h
def kbX7_digest_124 : List KE := [(.iconst 0, 1, (0, 0, 0), 0, 0), (.istore 4, 2, (4, 0, 0), 0, 0)]
theorem kwX7_digest_124 {X : KX} {S : KS} {mc ms : Nat} {E : KEnd} {ls : KL} {st : List KV} {M : KM} {cs sl : Nat} (hC : KC X mX7_digest 7 false S mc ms) (hE : KRet X mX7_digest E) (h : kblk (kroom mX7_digest mc ms) S E (KW X) kbX7_digest_124 124 ls st M cs sl) : KW X 124 ls st M cs sl := KW_blk hC hE kbX7_digest_124 124 ls st M cs sl (by decide +kernel) h
def kbX7_digest_127 : List KE := [(.iload 4, 2, (4, 0, 0), 0, 0), (.iconst 5, 1, (0, 0, 0), 5, 0), (.if_icmp .ge (24), 3, (154, 0, 0), 0, 0)]
theorem kwX7_digest_127 {X : KX} {S : KS} {mc ms : Nat} {E : KEnd} {ls : KL} {st : List KV} {M : KM} {cs sl : Nat} (hC : KC X mX7_digest 7 false S mc ms) (hE : KRet X mX7_digest E) (h : kblk (kroom mX7_digest mc ms) S E (KW X) kbX7_digest_127 127 ls st M cs sl) : KW X 127 ls st M cs sl := KW_blk hC hE kbX7_digest_127 127 ls st M cs sl (by decide +kernel) h
def kbX7_digest_133 : List KE := [(.lload_n 1, 1, (1, 0, 0), 0, 0), (.ldc2_w 167, 3, (0, 0, 0), 0, 31), (.lmul, 1, (0, 0, 0), 0, 0), (.aload_n 0, 1, (0, 0, 0), 0, 0), (.iload_n 3, 1, (3, 0, 0), 0, 0), (.iload 4, 2, (4, 0, 0), 0, 0)]
theorem kwX7_digest_133 {X : KX} {S : KS} {mc ms : Nat} {E : KEnd} {ls : KL} {st : List KV} {M : KM} {cs sl : Nat} (hC : KC X mX7_digest 7 false S mc ms) (hE : KRet X mX7_digest E) (h : kblk (kroom mX7_digest mc ms) S E (KW X) kbX7_digest_133 133 ls st M cs sl) : KW X 133 ls st M cs sl := KW_blk hC hE kbX7_digest_133 133 ls st M cs sl (by decide +kernel) h
def kbX7_digest_145 : List KE := [(.i2l, 1, (0, 0, 0), 0, 0), (.ladd, 1, (0, 0, 0), 0, 0), (.lstore_n 1, 1, (1, 0, 0), 0, 0), (.iinc 4 (1), 3, (4, 0, 0), 1, 0), (.goto (-24), 3, (127, 0, 0), 0, 0)]
theorem kwX7_digest_145 {X : KX} {S : KS} {mc ms : Nat} {E : KEnd} {ls : KL} {st : List KV} {M : KM} {cs sl : Nat} (hC : KC X mX7_digest 7 false S mc ms) (hE : KRet X mX7_digest E) (h : kblk (kroom mX7_digest mc ms) S E (KW X) kbX7_digest_145 145 ls st M cs sl) : KW X 145 ls st M cs sl := KW_blk hC hE kbX7_digest_145 145 ls st M cs sl (by decide +kernel) h
def kbX7_digest_154 : List KE := [(.iinc 3 (1), 3, (3, 0, 0), 1, 0), (.goto (-41), 3, (116, 0, 0), 0, 0)]
theorem kwX7_digest_154 {X : KX} {S : KS} {mc ms : Nat} {E : KEnd} {ls : KL} {st : List KV} {M : KM} {cs sl : Nat} (hC : KC X mX7_digest 7 false S mc ms) (hE : KRet X mX7_digest E) (h : kblk (kroom mX7_digest mc ms) S E (KW X) kbX7_digest_154 154 ls st M cs sl) : KW X 154 ls st M cs sl := KW_blk hC hE kbX7_digest_154 154 ls st M cs sl (by decide +kernel) h
def kbX7_digest_160 : List KE := [(.iconst 0, 1, (0, 0, 0), 0, 0), (.istore_n 3, 1, (3, 0, 0), 0, 0)]
theorem kwX7_digest_160 {X : KX} {S : KS} {mc ms : Nat} {E : KEnd} {ls : KL} {st : List KV} {M : KM} {cs sl : Nat} (hC : KC X mX7_digest 7 false S mc ms) (hE : KRet X mX7_digest E) (h : kblk (kroom mX7_digest mc ms) S E (KW X) kbX7_digest_160 160 ls st M cs sl) : KW X 160 ls st M cs sl := KW_blk hC hE kbX7_digest_160 160 ls st M cs sl (by decide +kernel) h
def kbX7_digest_162 : List KE := [(.iload_n 3, 1, (3, 0, 0), 0, 0), (.aload_n 0, 1, (0, 0, 0), 0, 0), (.getfield 38, 3, (7, 3, 0), 0, 0), (.if_icmp .ge (85), 3, (252, 0, 0), 0, 0)]
theorem kwX7_digest_162 {X : KX} {S : KS} {mc ms : Nat} {E : KEnd} {ls : KL} {st : List KV} {M : KM} {cs sl : Nat} (hC : KC X mX7_digest 7 false S mc ms) (hE : KRet X mX7_digest E) (h : kblk (kroom mX7_digest mc ms) S E (KW X) kbX7_digest_162 162 ls st M cs sl) : KW X 162 ls st M cs sl := KW_blk hC hE kbX7_digest_162 162 ls st M cs sl (by decide +kernel) h
def kbX7_digest_170 : List KE := [(.iconst 0, 1, (0, 0, 0), 0, 0), (.istore 4, 2, (4, 0, 0), 0, 0)]
theorem kwX7_digest_170 {X : KX} {S : KS} {mc ms : Nat} {E : KEnd} {ls : KL} {st : List KV} {M : KM} {cs sl : Nat} (hC : KC X mX7_digest 7 false S mc ms) (hE : KRet X mX7_digest E) (h : kblk (kroom mX7_digest mc ms) S E (KW X) kbX7_digest_170 170 ls st M cs sl) : KW X 170 ls st M cs sl := KW_blk hC hE kbX7_digest_170 170 ls st M cs sl (by decide +kernel) h
def kbX7_digest_173 : List KE := [(.iload 4, 2, (4, 0, 0), 0, 0), (.iconst 4, 1, (0, 0, 0), 4, 0), (.if_icmp .ge (24), 3, (200, 0, 0), 0, 0)]
theorem kwX7_digest_173 {X : KX} {S : KS} {mc ms : Nat} {E : KEnd} {ls : KL} {st : List KV} {M : KM} {cs sl : Nat} (hC : KC X mX7_digest 7 false S mc ms) (hE : KRet X mX7_digest E) (h : kblk (kroom mX7_digest mc ms) S E (KW X) kbX7_digest_173 173 ls st M cs sl) : KW X 173 ls st M cs sl := KW_blk hC hE kbX7_digest_173 173 ls st M cs sl (by decide +kernel) h
def kbX7_digest_179 : List KE := [(.lload_n 1, 1, (1, 0, 0), 0, 0), (.ldc2_w 167, 3, (0, 0, 0), 0, 31), (.lmul, 1, (0, 0, 0), 0, 0), (.aload_n 0, 1, (0, 0, 0), 0, 0), (.iload_n 3, 1, (3, 0, 0), 0, 0), (.iload 4, 2, (4, 0, 0), 0, 0)]
theorem kwX7_digest_179 {X : KX} {S : KS} {mc ms : Nat} {E : KEnd} {ls : KL} {st : List KV} {M : KM} {cs sl : Nat} (hC : KC X mX7_digest 7 false S mc ms) (hE : KRet X mX7_digest E) (h : kblk (kroom mX7_digest mc ms) S E (KW X) kbX7_digest_179 179 ls st M cs sl) : KW X 179 ls st M cs sl := KW_blk hC hE kbX7_digest_179 179 ls st M cs sl (by decide +kernel) h
def kbX7_digest_191 : List KE := [(.i2l, 1, (0, 0, 0), 0, 0), (.ladd, 1, (0, 0, 0), 0, 0), (.lstore_n 1, 1, (1, 0, 0), 0, 0), (.iinc 4 (1), 3, (4, 0, 0), 1, 0), (.goto (-24), 3, (173, 0, 0), 0, 0)]
theorem kwX7_digest_191 {X : KX} {S : KS} {mc ms : Nat} {E : KEnd} {ls : KL} {st : List KV} {M : KM} {cs sl : Nat} (hC : KC X mX7_digest 7 false S mc ms) (hE : KRet X mX7_digest E) (h : kblk (kroom mX7_digest mc ms) S E (KW X) kbX7_digest_191 191 ls st M cs sl) : KW X 191 ls st M cs sl := KW_blk hC hE kbX7_digest_191 191 ls st M cs sl (by decide +kernel) h
def kbX7_digest_200 : List KE := [(.iconst 0, 1, (0, 0, 0), 0, 0), (.istore 4, 2, (4, 0, 0), 0, 0)]
theorem kwX7_digest_200 {X : KX} {S : KS} {mc ms : Nat} {E : KEnd} {ls : KL} {st : List KV} {M : KM} {cs sl : Nat} (hC : KC X mX7_digest 7 false S mc ms) (hE : KRet X mX7_digest E) (h : kblk (kroom mX7_digest mc ms) S E (KW X) kbX7_digest_200 200 ls st M cs sl) : KW X 200 ls st M cs sl := KW_blk hC hE kbX7_digest_200 200 ls st M cs sl (by decide +kernel) h
def kbX7_digest_203 : List KE := [(.iload 4, 2, (4, 0, 0), 0, 0), (.aload_n 0, 1, (0, 0, 0), 0, 0), (.getfield 28, 3, (7, 7, 1), 0, 0), (.getfield 119, 3, (6, 13, 1), 0, 0), (.iload_n 3, 1, (3, 0, 0), 0, 0), (.iaload, 1, (0, 0, 0), 0, 0), (.if_icmp .ge (32), 3, (246, 0, 0), 0, 0)]
theorem kwX7_digest_203 {X : KX} {S : KS} {mc ms : Nat} {E : KEnd} {ls : KL} {st : List KV} {M : KM} {cs sl : Nat} (hC : KC X mX7_digest 7 false S mc ms) (hE : KRet X mX7_digest E) (h : kblk (kroom mX7_digest mc ms) S E (KW X) kbX7_digest_203 203 ls st M cs sl) : KW X 203 ls st M cs sl := KW_blk hC hE kbX7_digest_203 203 ls st M cs sl (by decide +kernel) h
def kbX7_digest_217 : List KE := [(.lload_n 1, 1, (1, 0, 0), 0, 0), (.ldc2_w 167, 3, (0, 0, 0), 0, 31), (.lmul, 1, (0, 0, 0), 0, 0), (.aload_n 0, 1, (0, 0, 0), 0, 0), (.getfield 28, 3, (7, 7, 1), 0, 0), (.getfield 122, 3, (6, 14, 1), 0, 0), (.bipush (91), 2, (0, 0, 0), 91, 0), (.iload_n 3, 1, (3, 0, 0), 0, 0), (.imul, 1, (0, 0, 0), 0, 0), (.iload 4, 2, (4, 0, 0), 0, 0), (.iadd, 1, (0, 0, 0), 0, 0), (.iaload, 1, (0, 0, 0), 0, 0), (.i2l, 1, (0, 0, 0), 0, 0), (.ladd, 1, (0, 0, 0), 0, 0), (.lstore_n 1, 1, (1, 0, 0), 0, 0), (.iinc 4 (1), 3, (4, 0, 0), 1, 0), (.goto (-40), 3, (203, 0, 0), 0, 0)]
theorem kwX7_digest_217 {X : KX} {S : KS} {mc ms : Nat} {E : KEnd} {ls : KL} {st : List KV} {M : KM} {cs sl : Nat} (hC : KC X mX7_digest 7 false S mc ms) (hE : KRet X mX7_digest E) (h : kblk (kroom mX7_digest mc ms) S E (KW X) kbX7_digest_217 217 ls st M cs sl) : KW X 217 ls st M cs sl := KW_blk hC hE kbX7_digest_217 217 ls st M cs sl (by decide +kernel) h
def kbX7_digest_246 : List KE := [(.iinc 3 (1), 3, (3, 0, 0), 1, 0), (.goto (-87), 3, (162, 0, 0), 0, 0)]
theorem kwX7_digest_246 {X : KX} {S : KS} {mc ms : Nat} {E : KEnd} {ls : KL} {st : List KV} {M : KM} {cs sl : Nat} (hC : KC X mX7_digest 7 false S mc ms) (hE : KRet X mX7_digest E) (h : kblk (kroom mX7_digest mc ms) S E (KW X) kbX7_digest_246 246 ls st M cs sl) : KW X 246 ls st M cs sl := KW_blk hC hE kbX7_digest_246 246 ls st M cs sl (by decide +kernel) h
def kbX7_digest_252 : List KE := [(.iconst 0, 1, (0, 0, 0), 0, 0), (.istore_n 3, 1, (3, 0, 0), 0, 0)]
theorem kwX7_digest_252 {X : KX} {S : KS} {mc ms : Nat} {E : KEnd} {ls : KL} {st : List KV} {M : KM} {cs sl : Nat} (hC : KC X mX7_digest 7 false S mc ms) (hE : KRet X mX7_digest E) (h : kblk (kroom mX7_digest mc ms) S E (KW X) kbX7_digest_252 252 ls st M cs sl) : KW X 252 ls st M cs sl := KW_blk hC hE kbX7_digest_252 252 ls st M cs sl (by decide +kernel) h
def kbX7_digest_254 : List KE := [(.iload_n 3, 1, (3, 0, 0), 0, 0), (.aload_n 0, 1, (0, 0, 0), 0, 0), (.getfield 28, 3, (7, 7, 1), 0, 0), (.getfield 65, 3, (6, 8, 0), 0, 0), (.if_icmp .ge (26), 3, (288, 0, 0), 0, 0)]
theorem kwX7_digest_254 {X : KX} {S : KS} {mc ms : Nat} {E : KEnd} {ls : KL} {st : List KV} {M : KM} {cs sl : Nat} (hC : KC X mX7_digest 7 false S mc ms) (hE : KRet X mX7_digest E) (h : kblk (kroom mX7_digest mc ms) S E (KW X) kbX7_digest_254 254 ls st M cs sl) : KW X 254 ls st M cs sl := KW_blk hC hE kbX7_digest_254 254 ls st M cs sl (by decide +kernel) h
def kbX7_digest_265 : List KE := [(.lload_n 1, 1, (1, 0, 0), 0, 0), (.ldc2_w 167, 3, (0, 0, 0), 0, 31), (.lmul, 1, (0, 0, 0), 0, 0), (.aload_n 0, 1, (0, 0, 0), 0, 0), (.getfield 28, 3, (7, 7, 1), 0, 0), (.getfield 62, 3, (6, 9, 1), 0, 0), (.iload_n 3, 1, (3, 0, 0), 0, 0), (.iaload, 1, (0, 0, 0), 0, 0), (.i2l, 1, (0, 0, 0), 0, 0), (.ladd, 1, (0, 0, 0), 0, 0), (.lstore_n 1, 1, (1, 0, 0), 0, 0), (.iinc 3 (1), 3, (3, 0, 0), 1, 0), (.goto (-31), 3, (254, 0, 0), 0, 0)]
theorem kwX7_digest_265 {X : KX} {S : KS} {mc ms : Nat} {E : KEnd} {ls : KL} {st : List KV} {M : KM} {cs sl : Nat} (hC : KC X mX7_digest 7 false S mc ms) (hE : KRet X mX7_digest E) (h : kblk (kroom mX7_digest mc ms) S E (KW X) kbX7_digest_265 265 ls st M cs sl) : KW X 265 ls st M cs sl := KW_blk hC hE kbX7_digest_265 265 ls st M cs sl (by decide +kernel) h
def kbX7_digest_288 : List KE := [(.lload_n 1, 1, (1, 0, 0), 0, 0), (.lreturn, 1, (0, 0, 0), 0, 0)]
theorem kwX7_digest_288 {X : KX} {S : KS} {mc ms : Nat} {E : KEnd} {ls : KL} {st : List KV} {M : KM} {cs sl : Nat} (hC : KC X mX7_digest 7 false S mc ms) (hE : KRet X mX7_digest E) (h : kblk (kroom mX7_digest mc ms) S E (KW X) kbX7_digest_288 288 ls st M cs sl) : KW X 288 ls st M cs sl := KW_blk hC hE kbX7_digest_288 288 ls st M cs sl (by decide +kernel) h
def kbX7_foresee_0 : List KE := [(.aload_n 0, 1, (0, 0, 0), 0, 0), (.iconst 0, 1, (0, 0, 0), 0, 0), (.putfield 35, 3, (7, 0, 0), 0, 0), (.iload_n 1, 1, (1, 0, 0), 0, 0), (.iconst 1, 1, (0, 0, 0), 1, 0), (.sipush (150), 3, (0, 0, 0), 150, 0)]
theorem kwX7_foresee_0 {X : KX} {S : KS} {mc ms : Nat} {E : KEnd} {ls : KL} {st : List KV} {M : KM} {cs sl : Nat} (hC : KC X mX7_foresee 7 false S mc ms) (hE : KRet X mX7_foresee E) (h : kblk (kroom mX7_foresee mc ms) S E (KW X) kbX7_foresee_0 0 ls st M cs sl) : KW X 0 ls st M cs sl := KW_blk hC hE kbX7_foresee_0 0 ls st M cs sl (by decide +kernel) h
def kbX7_foresee_13 : List KE := [(.ifCond .ne (9), 3, (22, 0, 0), 0, 0)]
theorem kwX7_foresee_13 {X : KX} {S : KS} {mc ms : Nat} {E : KEnd} {ls : KL} {st : List KV} {M : KM} {cs sl : Nat} (hC : KC X mX7_foresee 7 false S mc ms) (hE : KRet X mX7_foresee E) (h : kblk (kroom mX7_foresee mc ms) S E (KW X) kbX7_foresee_13 13 ls st M cs sl) : KW X 13 ls st M cs sl := KW_blk hC hE kbX7_foresee_13 13 ls st M cs sl (by decide +kernel) h
def kbX7_foresee_16 : List KE := [(.aload_n 0, 1, (0, 0, 0), 0, 0), (.iconst 1, 1, (0, 0, 0), 1, 0)]
theorem kwX7_foresee_16 {X : KX} {S : KS} {mc ms : Nat} {E : KEnd} {ls : KL} {st : List KV} {M : KM} {cs sl : Nat} (hC : KC X mX7_foresee 7 false S mc ms) (hE : KRet X mX7_foresee E) (h : kblk (kroom mX7_foresee mc ms) S E (KW X) kbX7_foresee_16 16 ls st M cs sl) : KW X 16 ls st M cs sl := KW_blk hC hE kbX7_foresee_16 16 ls st M cs sl (by decide +kernel) h
def kbX7_foresee_21 : List KE := [(.ireturn, 1, (0, 0, 0), 0, 0)]
theorem kwX7_foresee_21 {X : KX} {S : KS} {mc ms : Nat} {E : KEnd} {ls : KL} {st : List KV} {M : KM} {cs sl : Nat} (hC : KC X mX7_foresee 7 false S mc ms) (hE : KRet X mX7_foresee E) (h : kblk (kroom mX7_foresee mc ms) S E (KW X) kbX7_foresee_21 21 ls st M cs sl) : KW X 21 ls st M cs sl := KW_blk hC hE kbX7_foresee_21 21 ls st M cs sl (by decide +kernel) h
def kbX7_foresee_22 : List KE := [(.iload_n 2, 1, (2, 0, 0), 0, 0), (.iconst 0, 1, (0, 0, 0), 0, 0), (.iconst 2, 1, (0, 0, 0), 2, 0)]
theorem kwX7_foresee_22 {X : KX} {S : KS} {mc ms : Nat} {E : KEnd} {ls : KL} {st : List KV} {M : KM} {cs sl : Nat} (hC : KC X mX7_foresee 7 false S mc ms) (hE : KRet X mX7_foresee E) (h : kblk (kroom mX7_foresee mc ms) S E (KW X) kbX7_foresee_22 22 ls st M cs sl) : KW X 22 ls st M cs sl := KW_blk hC hE kbX7_foresee_22 22 ls st M cs sl (by decide +kernel) h
def kbX7_foresee_28 : List KE := [(.ifCond .ne (9), 3, (37, 0, 0), 0, 0)]
theorem kwX7_foresee_28 {X : KX} {S : KS} {mc ms : Nat} {E : KEnd} {ls : KL} {st : List KV} {M : KM} {cs sl : Nat} (hC : KC X mX7_foresee 7 false S mc ms) (hE : KRet X mX7_foresee E) (h : kblk (kroom mX7_foresee mc ms) S E (KW X) kbX7_foresee_28 28 ls st M cs sl) : KW X 28 ls st M cs sl := KW_blk hC hE kbX7_foresee_28 28 ls st M cs sl (by decide +kernel) h
def kbX7_foresee_31 : List KE := [(.aload_n 0, 1, (0, 0, 0), 0, 0), (.iconst 2, 1, (0, 0, 0), 2, 0)]
theorem kwX7_foresee_31 {X : KX} {S : KS} {mc ms : Nat} {E : KEnd} {ls : KL} {st : List KV} {M : KM} {cs sl : Nat} (hC : KC X mX7_foresee 7 false S mc ms) (hE : KRet X mX7_foresee E) (h : kblk (kroom mX7_foresee mc ms) S E (KW X) kbX7_foresee_31 31 ls st M cs sl) : KW X 31 ls st M cs sl := KW_blk hC hE kbX7_foresee_31 31 ls st M cs sl (by decide +kernel) h
def kbX7_foresee_36 : List KE := [(.ireturn, 1, (0, 0, 0), 0, 0)]
theorem kwX7_foresee_36 {X : KX} {S : KS} {mc ms : Nat} {E : KEnd} {ls : KL} {st : List KV} {M : KM} {cs sl : Nat} (hC : KC X mX7_foresee 7 false S mc ms) (hE : KRet X mX7_foresee E) (h : kblk (kroom mX7_foresee mc ms) S E (KW X) kbX7_foresee_36 36 ls st M cs sl) : KW X 36 ls st M cs sl := KW_blk hC hE kbX7_foresee_36 36 ls st M cs sl (by decide +kernel) h
def kbX7_foresee_37 : List KE := [(.aload_n 0, 1, (0, 0, 0), 0, 0), (.getfield 32, 3, (7, 8, 1), 0, 0), (.aload_n 0, 1, (0, 0, 0), 0, 0), (.getfield 28, 3, (7, 7, 1), 0, 0)]
theorem kwX7_foresee_37 {X : KX} {S : KS} {mc ms : Nat} {E : KEnd} {ls : KL} {st : List KV} {M : KM} {cs sl : Nat} (hC : KC X mX7_foresee 7 false S mc ms) (hE : KRet X mX7_foresee E) (h : kblk (kroom mX7_foresee mc ms) S E (KW X) kbX7_foresee_37 37 ls st M cs sl) : KW X 37 ls st M cs sl := KW_blk hC hE kbX7_foresee_37 37 ls st M cs sl (by decide +kernel) h
def kbX7_foresee_48 : List KE := [(.iconst 0, 1, (0, 0, 0), 0, 0), (.istore_n 3, 1, (3, 0, 0), 0, 0), (.iconst 0, 1, (0, 0, 0), 0, 0), (.istore 4, 2, (4, 0, 0), 0, 0)]
theorem kwX7_foresee_48 {X : KX} {S : KS} {mc ms : Nat} {E : KEnd} {ls : KL} {st : List KV} {M : KM} {cs sl : Nat} (hC : KC X mX7_foresee 7 false S mc ms) (hE : KRet X mX7_foresee E) (h : kblk (kroom mX7_foresee mc ms) S E (KW X) kbX7_foresee_48 48 ls st M cs sl) : KW X 48 ls st M cs sl := KW_blk hC hE kbX7_foresee_48 48 ls st M cs sl (by decide +kernel) h
def kbX7_foresee_53 : List KE := [(.iload 4, 2, (4, 0, 0), 0, 0), (.iload_n 1, 1, (1, 0, 0), 0, 0), (.if_icmp .ge (19), 3, (75, 0, 0), 0, 0)]
theorem kwX7_foresee_53 {X : KX} {S : KS} {mc ms : Nat} {E : KEnd} {ls : KL} {st : List KV} {M : KM} {cs sl : Nat} (hC : KC X mX7_foresee 7 false S mc ms) (hE : KRet X mX7_foresee E) (h : kblk (kroom mX7_foresee mc ms) S E (KW X) kbX7_foresee_53 53 ls st M cs sl) : KW X 53 ls st M cs sl := KW_blk hC hE kbX7_foresee_53 53 ls st M cs sl (by decide +kernel) h
def kbX7_foresee_59 : List KE := [(.iload_n 3, 1, (3, 0, 0), 0, 0), (.aload_n 0, 1, (0, 0, 0), 0, 0), (.getfield 32, 3, (7, 8, 1), 0, 0)]
theorem kwX7_foresee_59 {X : KX} {S : KS} {mc ms : Nat} {E : KEnd} {ls : KL} {st : List KV} {M : KM} {cs sl : Nat} (hC : KC X mX7_foresee 7 false S mc ms) (hE : KRet X mX7_foresee E) (h : kblk (kroom mX7_foresee mc ms) S E (KW X) kbX7_foresee_59 59 ls st M cs sl) : KW X 59 ls st M cs sl := KW_blk hC hE kbX7_foresee_59 59 ls st M cs sl (by decide +kernel) h
def kbX7_foresee_67 : List KE := [(.iadd, 1, (0, 0, 0), 0, 0), (.istore_n 3, 1, (3, 0, 0), 0, 0), (.iinc 4 (1), 3, (4, 0, 0), 1, 0), (.goto (-19), 3, (53, 0, 0), 0, 0)]
theorem kwX7_foresee_67 {X : KX} {S : KS} {mc ms : Nat} {E : KEnd} {ls : KL} {st : List KV} {M : KM} {cs sl : Nat} (hC : KC X mX7_foresee 7 false S mc ms) (hE : KRet X mX7_foresee E) (h : kblk (kroom mX7_foresee mc ms) S E (KW X) kbX7_foresee_67 67 ls st M cs sl) : KW X 67 ls st M cs sl := KW_blk hC hE kbX7_foresee_67 67 ls st M cs sl (by decide +kernel) h
def kbX7_foresee_75 : List KE := [(.iload_n 2, 1, (2, 0, 0), 0, 0), (.ifCond .ne (7), 3, (83, 0, 0), 0, 0)]
theorem kwX7_foresee_75 {X : KX} {S : KS} {mc ms : Nat} {E : KEnd} {ls : KL} {st : List KV} {M : KM} {cs sl : Nat} (hC : KC X mX7_foresee 7 false S mc ms) (hE : KRet X mX7_foresee E) (h : kblk (kroom mX7_foresee mc ms) S E (KW X) kbX7_foresee_75 75 ls st M cs sl) : KW X 75 ls st M cs sl := KW_blk hC hE kbX7_foresee_75 75 ls st M cs sl (by decide +kernel) h
def kbX7_foresee_79 : List KE := [(.iload_n 3, 1, (3, 0, 0), 0, 0), (.goto (34), 3, (114, 0, 0), 0, 0)]
theorem kwX7_foresee_79 {X : KX} {S : KS} {mc ms : Nat} {E : KEnd} {ls : KL} {st : List KV} {M : KM} {cs sl : Nat} (hC : KC X mX7_foresee 7 false S mc ms) (hE : KRet X mX7_foresee E) (h : kblk (kroom mX7_foresee mc ms) S E (KW X) kbX7_foresee_79 79 ls st M cs sl) : KW X 79 ls st M cs sl := KW_blk hC hE kbX7_foresee_79 79 ls st M cs sl (by decide +kernel) h
def kbX7_foresee_83 : List KE := [(.iload_n 2, 1, (2, 0, 0), 0, 0), (.iconst 1, 1, (0, 0, 0), 1, 0), (.if_icmp .ne (14), 3, (99, 0, 0), 0, 0)]
theorem kwX7_foresee_83 {X : KX} {S : KS} {mc ms : Nat} {E : KEnd} {ls : KL} {st : List KV} {M : KM} {cs sl : Nat} (hC : KC X mX7_foresee 7 false S mc ms) (hE : KRet X mX7_foresee E) (h : kblk (kroom mX7_foresee mc ms) S E (KW X) kbX7_foresee_83 83 ls st M cs sl) : KW X 83 ls st M cs sl := KW_blk hC hE kbX7_foresee_83 83 ls st M cs sl (by decide +kernel) h
def kbX7_foresee_88 : List KE := [(.aload_n 0, 1, (0, 0, 0), 0, 0), (.getfield 32, 3, (7, 8, 1), 0, 0), (.iconst 0, 1, (0, 0, 0), 0, 0)]
theorem kwX7_foresee_88 {X : KX} {S : KS} {mc ms : Nat} {E : KEnd} {ls : KL} {st : List KV} {M : KM} {cs sl : Nat} (hC : KC X mX7_foresee 7 false S mc ms) (hE : KRet X mX7_foresee E) (h : kblk (kroom mX7_foresee mc ms) S E (KW X) kbX7_foresee_88 88 ls st M cs sl) : KW X 88 ls st M cs sl := KW_blk hC hE kbX7_foresee_88 88 ls st M cs sl (by decide +kernel) h
def kbX7_foresee_96 : List KE := [(.goto (18), 3, (114, 0, 0), 0, 0)]
theorem kwX7_foresee_96 {X : KX} {S : KS} {mc ms : Nat} {E : KEnd} {ls : KL} {st : List KV} {M : KM} {cs sl : Nat} (hC : KC X mX7_foresee 7 false S mc ms) (hE : KRet X mX7_foresee E) (h : kblk (kroom mX7_foresee mc ms) S E (KW X) kbX7_foresee_96 96 ls st M cs sl) : KW X 96 ls st M cs sl := KW_blk hC hE kbX7_foresee_96 96 ls st M cs sl (by decide +kernel) h
def kbX7_foresee_99 : List KE := [(.aload_n 0, 1, (0, 0, 0), 0, 0), (.getfield 32, 3, (7, 8, 1), 0, 0), (.getfield 146, 3, (6, 5, 0), 0, 0), (.aload_n 0, 1, (0, 0, 0), 0, 0), (.getfield 28, 3, (7, 7, 1), 0, 0), (.getfield 146, 3, (6, 5, 0), 0, 0), (.isub, 1, (0, 0, 0), 0, 0)]
theorem kwX7_foresee_99 {X : KX} {S : KS} {mc ms : Nat} {E : KEnd} {ls : KL} {st : List KV} {M : KM} {cs sl : Nat} (hC : KC X mX7_foresee 7 false S mc ms) (hE : KRet X mX7_foresee E) (h : kblk (kroom mX7_foresee mc ms) S E (KW X) kbX7_foresee_99 99 ls st M cs sl) : KW X 99 ls st M cs sl := KW_blk hC hE kbX7_foresee_99 99 ls st M cs sl (by decide +kernel) h
def kbX7_foresee_114 : List KE := [(.ireturn, 1, (0, 0, 0), 0, 0)]
theorem kwX7_foresee_114 {X : KX} {S : KS} {mc ms : Nat} {E : KEnd} {ls : KL} {st : List KV} {M : KM} {cs sl : Nat} (hC : KC X mX7_foresee 7 false S mc ms) (hE : KRet X mX7_foresee E) (h : kblk (kroom mX7_foresee mc ms) S E (KW X) kbX7_foresee_114 114 ls st M cs sl) : KW X 114 ls st M cs sl := KW_blk hC hE kbX7_foresee_114 114 ls st M cs sl (by decide +kernel) h
def kbX7_group_0 : List KE := [(.aload_n 0, 1, (0, 0, 0), 0, 0), (.iconst 0, 1, (0, 0, 0), 0, 0), (.putfield 35, 3, (7, 0, 0), 0, 0), (.aload_n 0, 1, (0, 0, 0), 0, 0), (.iload_n 1, 1, (1, 0, 0), 0, 0)]
theorem kwX7_group_0 {X : KX} {S : KS} {mc ms : Nat} {E : KEnd} {ls : KL} {st : List KV} {M : KM} {cs sl : Nat} (hC : KC X mX7_group 7 false S mc ms) (hE : KRet X mX7_group E) (h : kblk (kroom mX7_group mc ms) S E (KW X) kbX7_group_0 0 ls st M cs sl) : KW X 0 ls st M cs sl := KW_blk hC hE kbX7_group_0 0 ls st M cs sl (by decide +kernel) h
def kbX7_group_10 : List KE := [(.ifCond .eq (22), 3, (32, 0, 0), 0, 0)]
theorem kwX7_group_10 {X : KX} {S : KS} {mc ms : Nat} {E : KEnd} {ls : KL} {st : List KV} {M : KM} {cs sl : Nat} (hC : KC X mX7_group 7 false S mc ms) (hE : KRet X mX7_group E) (h : kblk (kroom mX7_group mc ms) S E (KW X) kbX7_group_10 10 ls st M cs sl) : KW X 10 ls st M cs sl := KW_blk hC hE kbX7_group_10 10 ls st M cs sl (by decide +kernel) h
def kbX7_group_13 : List KE := [(.iload_n 2, 1, (2, 0, 0), 0, 0), (.iconst 0, 1, (0, 0, 0), 0, 0), (.bipush (7), 2, (0, 0, 0), 7, 0)]
theorem kwX7_group_13 {X : KX} {S : KS} {mc ms : Nat} {E : KEnd} {ls : KL} {st : List KV} {M : KM} {cs sl : Nat} (hC : KC X mX7_group 7 false S mc ms) (hE : KRet X mX7_group E) (h : kblk (kroom mX7_group mc ms) S E (KW X) kbX7_group_13 13 ls st M cs sl) : KW X 13 ls st M cs sl := KW_blk hC hE kbX7_group_13 13 ls st M cs sl (by decide +kernel) h
def kbX7_group_20 : List KE := [(.ifCond .eq (12), 3, (32, 0, 0), 0, 0)]
theorem kwX7_group_20 {X : KX} {S : KS} {mc ms : Nat} {E : KEnd} {ls : KL} {st : List KV} {M : KM} {cs sl : Nat} (hC : KC X mX7_group 7 false S mc ms) (hE : KRet X mX7_group E) (h : kblk (kroom mX7_group mc ms) S E (KW X) kbX7_group_20 20 ls st M cs sl) : KW X 20 ls st M cs sl := KW_blk hC hE kbX7_group_20 20 ls st M cs sl (by decide +kernel) h
def kbX7_group_23 : List KE := [(.aload_n 0, 1, (0, 0, 0), 0, 0), (.iload_n 1, 1, (1, 0, 0), 0, 0), (.iload_n 2, 1, (2, 0, 0), 0, 0)]
theorem kwX7_group_23 {X : KX} {S : KS} {mc ms : Nat} {E : KEnd} {ls : KL} {st : List KV} {M : KM} {cs sl : Nat} (hC : KC X mX7_group 7 false S mc ms) (hE : KRet X mX7_group E) (h : kblk (kroom mX7_group mc ms) S E (KW X) kbX7_group_23 23 ls st M cs sl) : KW X 23 ls st M cs sl := KW_blk hC hE kbX7_group_23 23 ls st M cs sl (by decide +kernel) h
def kbX7_group_29 : List KE := [(.goto (8), 3, (37, 0, 0), 0, 0)]
theorem kwX7_group_29 {X : KX} {S : KS} {mc ms : Nat} {E : KEnd} {ls : KL} {st : List KV} {M : KM} {cs sl : Nat} (hC : KC X mX7_group 7 false S mc ms) (hE : KRet X mX7_group E) (h : kblk (kroom mX7_group mc ms) S E (KW X) kbX7_group_29 29 ls st M cs sl) : KW X 29 ls st M cs sl := KW_blk hC hE kbX7_group_29 29 ls st M cs sl (by decide +kernel) h
def kbX7_group_32 : List KE := [(.aload_n 0, 1, (0, 0, 0), 0, 0), (.iconst 1, 1, (0, 0, 0), 1, 0)]
theorem kwX7_group_32 {X : KX} {S : KS} {mc ms : Nat} {E : KEnd} {ls : KL} {st : List KV} {M : KM} {cs sl : Nat} (hC : KC X mX7_group 7 false S mc ms) (hE : KRet X mX7_group E) (h : kblk (kroom mX7_group mc ms) S E (KW X) kbX7_group_32 32 ls st M cs sl) : KW X 32 ls st M cs sl := KW_blk hC hE kbX7_group_32 32 ls st M cs sl (by decide +kernel) h
def kbX7_group_37 : List KE := [(.ireturn, 1, (0, 0, 0), 0, 0)]
theorem kwX7_group_37 {X : KX} {S : KS} {mc ms : Nat} {E : KEnd} {ls : KL} {st : List KV} {M : KM} {cs sl : Nat} (hC : KC X mX7_group 7 false S mc ms) (hE : KRet X mX7_group E) (h : kblk (kroom mX7_group mc ms) S E (KW X) kbX7_group_37 37 ls st M cs sl) : KW X 37 ls st M cs sl := KW_blk hC hE kbX7_group_37 37 ls st M cs sl (by decide +kernel) h
def kbX7_groupTold_0 : List KE := [(.aload_n 0, 1, (0, 0, 0), 0, 0), (.getfield 28, 3, (7, 7, 1), 0, 0), (.getfield 82, 3, (6, 17, 1), 0, 0), (.iload_n 1, 1, (1, 0, 0), 0, 0), (.iaload, 1, (0, 0, 0), 0, 0), (.istore_n 3, 1, (3, 0, 0), 0, 0), (.bipush (8), 2, (0, 0, 0), 8, 0), (.newarray .int, 2, (8, 0, 0), 0, 0), (.dup, 1, (0, 0, 0), 0, 0), (.iconst 0, 1, (0, 0, 0), 0, 0), (.aload_n 0, 1, (0, 0, 0), 0, 0), (.getfield 28, 3, (7, 7, 1), 0, 0), (.getfield 92, 3, (6, 15, 1), 0, 0), (.iload_n 1, 1, (1, 0, 0), 0, 0), (.iaload, 1, (0, 0, 0), 0, 0), (.iastore, 1, (0, 0, 0), 0, 0), (.dup, 1, (0, 0, 0), 0, 0), (.iconst 1, 1, (0, 0, 0), 1, 0), (.aload_n 0, 1, (0, 0, 0), 0, 0), (.getfield 28, 3, (7, 7, 1), 0, 0), (.getfield 95, 3, (6, 16, 1), 0, 0), (.iload_n 1, 1, (1, 0, 0), 0, 0), (.iaload, 1, (0, 0, 0), 0, 0), (.iastore, 1, (0, 0, 0), 0, 0), (.dup, 1, (0, 0, 0), 0, 0), (.iconst 2, 1, (0, 0, 0), 2, 0), (.iload_n 3, 1, (3, 0, 0), 0, 0), (.iastore, 1, (0, 0, 0), 0, 0), (.dup, 1, (0, 0, 0), 0, 0), (.iconst 3, 1, (0, 0, 0), 3, 0), (.iload_n 3, 1, (3, 0, 0), 0, 0), (.ifCond .ne (15), 3, (60, 0, 0), 0, 0)]
theorem kwX7_groupTold_0 {X : KX} {S : KS} {mc ms : Nat} {E : KEnd} {ls : KL} {st : List KV} {M : KM} {cs sl : Nat} (hC : KC X mX7_groupTold 7 false S mc ms) (hE : KRet X mX7_groupTold E) (h : kblk (kroom mX7_groupTold mc ms) S E (KW X) kbX7_groupTold_0 0 ls st M cs sl) : KW X 0 ls st M cs sl := KW_blk hC hE kbX7_groupTold_0 0 ls st M cs sl (by decide +kernel) h
def kbX7_groupTold_48 : List KE := [(.aload_n 0, 1, (0, 0, 0), 0, 0), (.getfield 28, 3, (7, 7, 1), 0, 0), (.getfield 98, 3, (6, 18, 1), 0, 0), (.iload_n 1, 1, (1, 0, 0), 0, 0), (.iaload, 1, (0, 0, 0), 0, 0), (.goto (4), 3, (61, 0, 0), 0, 0)]
theorem kwX7_groupTold_48 {X : KX} {S : KS} {mc ms : Nat} {E : KEnd} {ls : KL} {st : List KV} {M : KM} {cs sl : Nat} (hC : KC X mX7_groupTold 7 false S mc ms) (hE : KRet X mX7_groupTold E) (h : kblk (kroom mX7_groupTold mc ms) S E (KW X) kbX7_groupTold_48 48 ls st M cs sl) : KW X 48 ls st M cs sl := KW_blk hC hE kbX7_groupTold_48 48 ls st M cs sl (by decide +kernel) h
def kbX7_groupTold_60 : List KE := [(.iconst (-1), 1, (0, 0, 0), (-1), 0)]
theorem kwX7_groupTold_60 {X : KX} {S : KS} {mc ms : Nat} {E : KEnd} {ls : KL} {st : List KV} {M : KM} {cs sl : Nat} (hC : KC X mX7_groupTold 7 false S mc ms) (hE : KRet X mX7_groupTold E) (h : kblk (kroom mX7_groupTold mc ms) S E (KW X) kbX7_groupTold_60 60 ls st M cs sl) : KW X 60 ls st M cs sl := KW_blk hC hE kbX7_groupTold_60 60 ls st M cs sl (by decide +kernel) h
def kbX7_groupTold_61 : List KE := [(.iastore, 1, (0, 0, 0), 0, 0), (.dup, 1, (0, 0, 0), 0, 0), (.iconst 4, 1, (0, 0, 0), 4, 0), (.iload_n 3, 1, (3, 0, 0), 0, 0), (.iconst 1, 1, (0, 0, 0), 1, 0), (.if_icmp .ne (15), 3, (81, 0, 0), 0, 0)]
theorem kwX7_groupTold_61 {X : KX} {S : KS} {mc ms : Nat} {E : KEnd} {ls : KL} {st : List KV} {M : KM} {cs sl : Nat} (hC : KC X mX7_groupTold 7 false S mc ms) (hE : KRet X mX7_groupTold E) (h : kblk (kroom mX7_groupTold mc ms) S E (KW X) kbX7_groupTold_61 61 ls st M cs sl) : KW X 61 ls st M cs sl := KW_blk hC hE kbX7_groupTold_61 61 ls st M cs sl (by decide +kernel) h
def kbX7_groupTold_69 : List KE := [(.aload_n 0, 1, (0, 0, 0), 0, 0), (.getfield 28, 3, (7, 7, 1), 0, 0), (.getfield 98, 3, (6, 18, 1), 0, 0), (.iload_n 1, 1, (1, 0, 0), 0, 0), (.iaload, 1, (0, 0, 0), 0, 0), (.goto (4), 3, (82, 0, 0), 0, 0)]
theorem kwX7_groupTold_69 {X : KX} {S : KS} {mc ms : Nat} {E : KEnd} {ls : KL} {st : List KV} {M : KM} {cs sl : Nat} (hC : KC X mX7_groupTold 7 false S mc ms) (hE : KRet X mX7_groupTold E) (h : kblk (kroom mX7_groupTold mc ms) S E (KW X) kbX7_groupTold_69 69 ls st M cs sl) : KW X 69 ls st M cs sl := KW_blk hC hE kbX7_groupTold_69 69 ls st M cs sl (by decide +kernel) h
def kbX7_groupTold_81 : List KE := [(.iconst (-1), 1, (0, 0, 0), (-1), 0)]
theorem kwX7_groupTold_81 {X : KX} {S : KS} {mc ms : Nat} {E : KEnd} {ls : KL} {st : List KV} {M : KM} {cs sl : Nat} (hC : KC X mX7_groupTold 7 false S mc ms) (hE : KRet X mX7_groupTold E) (h : kblk (kroom mX7_groupTold mc ms) S E (KW X) kbX7_groupTold_81 81 ls st M cs sl) : KW X 81 ls st M cs sl := KW_blk hC hE kbX7_groupTold_81 81 ls st M cs sl (by decide +kernel) h
def kbX7_groupTold_82 : List KE := [(.iastore, 1, (0, 0, 0), 0, 0), (.dup, 1, (0, 0, 0), 0, 0), (.iconst 5, 1, (0, 0, 0), 5, 0), (.aload_n 0, 1, (0, 0, 0), 0, 0), (.getfield 28, 3, (7, 7, 1), 0, 0), (.getfield 101, 3, (6, 19, 1), 0, 0), (.iload_n 1, 1, (1, 0, 0), 0, 0), (.iaload, 1, (0, 0, 0), 0, 0), (.iastore, 1, (0, 0, 0), 0, 0), (.dup, 1, (0, 0, 0), 0, 0), (.bipush (6), 2, (0, 0, 0), 6, 0), (.aload_n 0, 1, (0, 0, 0), 0, 0), (.getfield 28, 3, (7, 7, 1), 0, 0), (.getfield 104, 3, (6, 20, 1), 0, 0), (.iload_n 1, 1, (1, 0, 0), 0, 0), (.iaload, 1, (0, 0, 0), 0, 0), (.iastore, 1, (0, 0, 0), 0, 0), (.dup, 1, (0, 0, 0), 0, 0), (.bipush (7), 2, (0, 0, 0), 7, 0), (.aload_n 0, 1, (0, 0, 0), 0, 0), (.getfield 28, 3, (7, 7, 1), 0, 0), (.getfield 107, 3, (6, 21, 1), 0, 0), (.iload_n 1, 1, (1, 0, 0), 0, 0), (.iaload, 1, (0, 0, 0), 0, 0), (.iastore, 1, (0, 0, 0), 0, 0), (.astore 4, 2, (4, 0, 0), 0, 0), (.aload 4, 2, (4, 0, 0), 0, 0), (.iload_n 2, 1, (2, 0, 0), 0, 0), (.iaload, 1, (0, 0, 0), 0, 0), (.ireturn, 1, (0, 0, 0), 0, 0)]
theorem kwX7_groupTold_82 {X : KX} {S : KS} {mc ms : Nat} {E : KEnd} {ls : KL} {st : List KV} {M : KM} {cs sl : Nat} (hC : KC X mX7_groupTold 7 false S mc ms) (hE : KRet X mX7_groupTold E) (h : kblk (kroom mX7_groupTold mc ms) S E (KW X) kbX7_groupTold_82 82 ls st M cs sl) : KW X 82 ls st M cs sl := KW_blk hC hE kbX7_groupTold_82 82 ls st M cs sl (by decide +kernel) h
def kbX7_init_0 : List KE := [(.aload_n 0, 1, (0, 0, 0), 0, 0), (.invokespecial 1, 3, (0, 0, 0), 0, 0), (.aload_n 0, 1, (0, 0, 0), 0, 0), (.bipush (6), 2, (0, 0, 0), 6, 0), (.putfield 7, 3, (7, 1, 0), 0, 0), (.aload_n 0, 1, (0, 0, 0), 0, 0), (.bipush (20), 2, (0, 0, 0), 20, 0), (.newarray .int, 2, (8, 0, 0), 0, 0), (.putfield 13, 3, (7, 4, 1), 0, 0), (.aload_n 0, 1, (0, 0, 0), 0, 0), (.iconst 4, 1, (0, 0, 0), 4, 0), (.newarray .int, 2, (8, 0, 0), 0, 0), (.putfield 17, 3, (7, 5, 1), 0, 0), (.aload_n 0, 1, (0, 0, 0), 0, 0), (.bipush (24), 2, (0, 0, 0), 24, 0), (.newarray .int, 2, (8, 0, 0), 0, 0), (.putfield 20, 3, (7, 6, 1), 0, 0), (.aload_n 0, 1, (0, 0, 0), 0, 0), (.new 23, 3, (6, 23, 0), 0, 0), (.dup, 1, (0, 0, 0), 0, 0), (.aload_n 0, 1, (0, 0, 0), 0, 0)]
theorem kwX7_init_0 {X : KX} {S : KS} {mc ms : Nat} {E : KEnd} {ls : KL} {st : List KV} {M : KM} {cs sl : Nat} (hC : KC X mX7_init 7 true S mc ms) (hE : KRet X mX7_init E) (h : kblk (kroom mX7_init mc ms) S E (KW X) kbX7_init_0 0 ls st M cs sl) : KW X 0 ls st M cs sl := KW_blk hC hE kbX7_init_0 0 ls st M cs sl (by decide +kernel) h
def kbX7_init_42 : List KE := [(.putfield 28, 3, (7, 7, 1), 0, 0), (.aload_n 0, 1, (0, 0, 0), 0, 0), (.new 23, 3, (6, 23, 0), 0, 0), (.dup, 1, (0, 0, 0), 0, 0), (.aload_n 0, 1, (0, 0, 0), 0, 0)]
theorem kwX7_init_42 {X : KX} {S : KS} {mc ms : Nat} {E : KEnd} {ls : KL} {st : List KV} {M : KM} {cs sl : Nat} (hC : KC X mX7_init 7 true S mc ms) (hE : KRet X mX7_init E) (h : kblk (kroom mX7_init mc ms) S E (KW X) kbX7_init_42 42 ls st M cs sl) : KW X 42 ls st M cs sl := KW_blk hC hE kbX7_init_42 42 ls st M cs sl (by decide +kernel) h
def kbX7_init_54 : List KE := [(.putfield 32, 3, (7, 8, 1), 0, 0), (.return_, 1, (0, 0, 0), 0, 0)]
theorem kwX7_init_54 {X : KX} {S : KS} {mc ms : Nat} {E : KEnd} {ls : KL} {st : List KV} {M : KM} {cs sl : Nat} (hC : KC X mX7_init 7 true S mc ms) (hE : KRet X mX7_init E) (h : kblk (kroom mX7_init mc ms) S E (KW X) kbX7_init_54 54 ls st M cs sl) : KW X 54 ls st M cs sl := KW_blk hC hE kbX7_init_54 54 ls st M cs sl (by decide +kernel) h
def kbX7_isGroup_0 : List KE := [(.iload_n 1, 1, (1, 0, 0), 0, 0), (.iconst 0, 1, (0, 0, 0), 0, 0), (.aload_n 0, 1, (0, 0, 0), 0, 0), (.getfield 28, 3, (7, 7, 1), 0, 0), (.getfield 45, 3, (6, 3, 0), 0, 0), (.iconst 1, 1, (0, 0, 0), 1, 0), (.isub, 1, (0, 0, 0), 0, 0)]
theorem kwX7_isGroup_0 {X : KX} {S : KS} {mc ms : Nat} {E : KEnd} {ls : KL} {st : List KV} {M : KM} {cs sl : Nat} (hC : KC X mX7_isGroup 7 false S mc ms) (hE : KRet X mX7_isGroup E) (h : kblk (kroom mX7_isGroup mc ms) S E (KW X) kbX7_isGroup_0 0 ls st M cs sl) : KW X 0 ls st M cs sl := KW_blk hC hE kbX7_isGroup_0 0 ls st M cs sl (by decide +kernel) h
def kbX7_isGroup_14 : List KE := [(.ireturn, 1, (0, 0, 0), 0, 0)]
theorem kwX7_isGroup_14 {X : KX} {S : KS} {mc ms : Nat} {E : KEnd} {ls : KL} {st : List KV} {M : KM} {cs sl : Nat} (hC : KC X mX7_isGroup 7 false S mc ms) (hE : KRet X mX7_isGroup E) (h : kblk (kroom mX7_isGroup mc ms) S E (KW X) kbX7_isGroup_14 14 ls st M cs sl) : KW X 14 ls st M cs sl := KW_blk hC hE kbX7_isGroup_14 14 ls st M cs sl (by decide +kernel) h
def kbX7_isIn_0 : List KE := [(.iload_n 0, 1, (0, 0, 0), 0, 0), (.iload_n 1, 1, (1, 0, 0), 0, 0), (.if_icmp .lt (12), 3, (14, 0, 0), 0, 0)]
theorem kwX7_isIn_0 {X : KX} {S : KS} {mc ms : Nat} {E : KEnd} {ls : KL} {st : List KV} {M : KM} {cs sl : Nat} (hC : KC X mX7_isIn 7 false S mc ms) (hE : KRet X mX7_isIn E) (h : kblk (kroom mX7_isIn mc ms) S E (KW X) kbX7_isIn_0 0 ls st M cs sl) : KW X 0 ls st M cs sl := KW_blk hC hE kbX7_isIn_0 0 ls st M cs sl (by decide +kernel) h
def kbX7_isIn_5 : List KE := [(.iload_n 0, 1, (0, 0, 0), 0, 0), (.iload_n 2, 1, (2, 0, 0), 0, 0), (.if_icmp .gt (7), 3, (14, 0, 0), 0, 0)]
theorem kwX7_isIn_5 {X : KX} {S : KS} {mc ms : Nat} {E : KEnd} {ls : KL} {st : List KV} {M : KM} {cs sl : Nat} (hC : KC X mX7_isIn 7 false S mc ms) (hE : KRet X mX7_isIn E) (h : kblk (kroom mX7_isIn mc ms) S E (KW X) kbX7_isIn_5 5 ls st M cs sl) : KW X 5 ls st M cs sl := KW_blk hC hE kbX7_isIn_5 5 ls st M cs sl (by decide +kernel) h
def kbX7_isIn_10 : List KE := [(.iconst 1, 1, (0, 0, 0), 1, 0), (.goto (4), 3, (15, 0, 0), 0, 0)]
theorem kwX7_isIn_10 {X : KX} {S : KS} {mc ms : Nat} {E : KEnd} {ls : KL} {st : List KV} {M : KM} {cs sl : Nat} (hC : KC X mX7_isIn 7 false S mc ms) (hE : KRet X mX7_isIn E) (h : kblk (kroom mX7_isIn mc ms) S E (KW X) kbX7_isIn_10 10 ls st M cs sl) : KW X 10 ls st M cs sl := KW_blk hC hE kbX7_isIn_10 10 ls st M cs sl (by decide +kernel) h
def kbX7_isIn_14 : List KE := [(.iconst 0, 1, (0, 0, 0), 0, 0)]
theorem kwX7_isIn_14 {X : KX} {S : KS} {mc ms : Nat} {E : KEnd} {ls : KL} {st : List KV} {M : KM} {cs sl : Nat} (hC : KC X mX7_isIn 7 false S mc ms) (hE : KRet X mX7_isIn E) (h : kblk (kroom mX7_isIn mc ms) S E (KW X) kbX7_isIn_14 14 ls st M cs sl) : KW X 14 ls st M cs sl := KW_blk hC hE kbX7_isIn_14 14 ls st M cs sl (by decide +kernel) h
def kbX7_isIn_15 : List KE := [(.ireturn, 1, (0, 0, 0), 0, 0)]
theorem kwX7_isIn_15 {X : KX} {S : KS} {mc ms : Nat} {E : KEnd} {ls : KL} {st : List KV} {M : KM} {cs sl : Nat} (hC : KC X mX7_isIn 7 false S mc ms) (hE : KRet X mX7_isIn E) (h : kblk (kroom mX7_isIn mc ms) S E (KW X) kbX7_isIn_15 15 ls st M cs sl) : KW X 15 ls st M cs sl := KW_blk hC hE kbX7_isIn_15 15 ls st M cs sl (by decide +kernel) h
def kbX7_isLane_0 : List KE := [(.iload_n 1, 1, (1, 0, 0), 0, 0), (.iconst 0, 1, (0, 0, 0), 0, 0), (.aload_n 0, 1, (0, 0, 0), 0, 0), (.getfield 38, 3, (7, 3, 0), 0, 0), (.iconst 1, 1, (0, 0, 0), 1, 0), (.isub, 1, (0, 0, 0), 0, 0)]
theorem kwX7_isLane_0 {X : KX} {S : KS} {mc ms : Nat} {E : KEnd} {ls : KL} {st : List KV} {M : KM} {cs sl : Nat} (hC : KC X mX7_isLane 7 false S mc ms) (hE : KRet X mX7_isLane E) (h : kblk (kroom mX7_isLane mc ms) S E (KW X) kbX7_isLane_0 0 ls st M cs sl) : KW X 0 ls st M cs sl := KW_blk hC hE kbX7_isLane_0 0 ls st M cs sl (by decide +kernel) h
def kbX7_isLane_11 : List KE := [(.ireturn, 1, (0, 0, 0), 0, 0)]
theorem kwX7_isLane_11 {X : KX} {S : KS} {mc ms : Nat} {E : KEnd} {ls : KL} {st : List KV} {M : KM} {cs sl : Nat} (hC : KC X mX7_isLane 7 false S mc ms) (hE : KRet X mX7_isLane E) (h : kblk (kroom mX7_isLane mc ms) S E (KW X) kbX7_isLane_11 11 ls st M cs sl) : KW X 11 ls st M cs sl := KW_blk hC hE kbX7_isLane_11 11 ls st M cs sl (by decide +kernel) h
def kbX7_join_0 : List KE := [(.aload_n 0, 1, (0, 0, 0), 0, 0), (.iconst 0, 1, (0, 0, 0), 0, 0), (.putfield 35, 3, (7, 0, 0), 0, 0), (.aload_n 0, 1, (0, 0, 0), 0, 0), (.iload_n 1, 1, (1, 0, 0), 0, 0)]
theorem kwX7_join_0 {X : KX} {S : KS} {mc ms : Nat} {E : KEnd} {ls : KL} {st : List KV} {M : KM} {cs sl : Nat} (hC : KC X mX7_join 7 false S mc ms) (hE : KRet X mX7_join E) (h : kblk (kroom mX7_join mc ms) S E (KW X) kbX7_join_0 0 ls st M cs sl) : KW X 0 ls st M cs sl := KW_blk hC hE kbX7_join_0 0 ls st M cs sl (by decide +kernel) h
def kbX7_join_10 : List KE := [(.ifCond .ne (9), 3, (19, 0, 0), 0, 0)]
theorem kwX7_join_10 {X : KX} {S : KS} {mc ms : Nat} {E : KEnd} {ls : KL} {st : List KV} {M : KM} {cs sl : Nat} (hC : KC X mX7_join 7 false S mc ms) (hE : KRet X mX7_join E) (h : kblk (kroom mX7_join mc ms) S E (KW X) kbX7_join_10 10 ls st M cs sl) : KW X 10 ls st M cs sl := KW_blk hC hE kbX7_join_10 10 ls st M cs sl (by decide +kernel) h
def kbX7_join_13 : List KE := [(.aload_n 0, 1, (0, 0, 0), 0, 0), (.iconst 1, 1, (0, 0, 0), 1, 0)]
theorem kwX7_join_13 {X : KX} {S : KS} {mc ms : Nat} {E : KEnd} {ls : KL} {st : List KV} {M : KM} {cs sl : Nat} (hC : KC X mX7_join 7 false S mc ms) (hE : KRet X mX7_join E) (h : kblk (kroom mX7_join mc ms) S E (KW X) kbX7_join_13 13 ls st M cs sl) : KW X 13 ls st M cs sl := KW_blk hC hE kbX7_join_13 13 ls st M cs sl (by decide +kernel) h
def kbX7_join_18 : List KE := [(.ireturn, 1, (0, 0, 0), 0, 0)]
theorem kwX7_join_18 {X : KX} {S : KS} {mc ms : Nat} {E : KEnd} {ls : KL} {st : List KV} {M : KM} {cs sl : Nat} (hC : KC X mX7_join 7 false S mc ms) (hE : KRet X mX7_join E) (h : kblk (kroom mX7_join mc ms) S E (KW X) kbX7_join_18 18 ls st M cs sl) : KW X 18 ls st M cs sl := KW_blk hC hE kbX7_join_18 18 ls st M cs sl (by decide +kernel) h
def kbX7_join_19 : List KE := [(.iload_n 2, 1, (2, 0, 0), 0, 0), (.iconst 1, 1, (0, 0, 0), 1, 0), (.bipush (6), 2, (0, 0, 0), 6, 0)]
theorem kwX7_join_19 {X : KX} {S : KS} {mc ms : Nat} {E : KEnd} {ls : KL} {st : List KV} {M : KM} {cs sl : Nat} (hC : KC X mX7_join 7 false S mc ms) (hE : KRet X mX7_join E) (h : kblk (kroom mX7_join mc ms) S E (KW X) kbX7_join_19 19 ls st M cs sl) : KW X 19 ls st M cs sl := KW_blk hC hE kbX7_join_19 19 ls st M cs sl (by decide +kernel) h
def kbX7_join_26 : List KE := [(.ifCond .eq (14), 3, (40, 0, 0), 0, 0)]
theorem kwX7_join_26 {X : KX} {S : KS} {mc ms : Nat} {E : KEnd} {ls : KL} {st : List KV} {M : KM} {cs sl : Nat} (hC : KC X mX7_join 7 false S mc ms) (hE : KRet X mX7_join E) (h : kblk (kroom mX7_join mc ms) S E (KW X) kbX7_join_26 26 ls st M cs sl) : KW X 26 ls st M cs sl := KW_blk hC hE kbX7_join_26 26 ls st M cs sl (by decide +kernel) h
def kbX7_join_29 : List KE := [(.iload_n 3, 1, (3, 0, 0), 0, 0), (.iconst 1, 1, (0, 0, 0), 1, 0), (.sipush (200), 3, (0, 0, 0), 200, 0)]
theorem kwX7_join_29 {X : KX} {S : KS} {mc ms : Nat} {E : KEnd} {ls : KL} {st : List KV} {M : KM} {cs sl : Nat} (hC : KC X mX7_join 7 false S mc ms) (hE : KRet X mX7_join E) (h : kblk (kroom mX7_join mc ms) S E (KW X) kbX7_join_29 29 ls st M cs sl) : KW X 29 ls st M cs sl := KW_blk hC hE kbX7_join_29 29 ls st M cs sl (by decide +kernel) h
def kbX7_join_37 : List KE := [(.ifCond .ne (9), 3, (46, 0, 0), 0, 0)]
theorem kwX7_join_37 {X : KX} {S : KS} {mc ms : Nat} {E : KEnd} {ls : KL} {st : List KV} {M : KM} {cs sl : Nat} (hC : KC X mX7_join 7 false S mc ms) (hE : KRet X mX7_join E) (h : kblk (kroom mX7_join mc ms) S E (KW X) kbX7_join_37 37 ls st M cs sl) : KW X 37 ls st M cs sl := KW_blk hC hE kbX7_join_37 37 ls st M cs sl (by decide +kernel) h
def kbX7_join_40 : List KE := [(.aload_n 0, 1, (0, 0, 0), 0, 0), (.iconst 2, 1, (0, 0, 0), 2, 0)]
theorem kwX7_join_40 {X : KX} {S : KS} {mc ms : Nat} {E : KEnd} {ls : KL} {st : List KV} {M : KM} {cs sl : Nat} (hC : KC X mX7_join 7 false S mc ms) (hE : KRet X mX7_join E) (h : kblk (kroom mX7_join mc ms) S E (KW X) kbX7_join_40 40 ls st M cs sl) : KW X 40 ls st M cs sl := KW_blk hC hE kbX7_join_40 40 ls st M cs sl (by decide +kernel) h
def kbX7_join_45 : List KE := [(.ireturn, 1, (0, 0, 0), 0, 0)]
theorem kwX7_join_45 {X : KX} {S : KS} {mc ms : Nat} {E : KEnd} {ls : KL} {st : List KV} {M : KM} {cs sl : Nat} (hC : KC X mX7_join 7 false S mc ms) (hE : KRet X mX7_join E) (h : kblk (kroom mX7_join mc ms) S E (KW X) kbX7_join_45 45 ls st M cs sl) : KW X 45 ls st M cs sl := KW_blk hC hE kbX7_join_45 45 ls st M cs sl (by decide +kernel) h
def kbX7_join_46 : List KE := [(.aload_n 0, 1, (0, 0, 0), 0, 0), (.getfield 17, 3, (7, 5, 1), 0, 0), (.iload_n 1, 1, (1, 0, 0), 0, 0), (.iaload, 1, (0, 0, 0), 0, 0), (.iconst 1, 1, (0, 0, 0), 1, 0), (.if_icmp .eq (15), 3, (68, 0, 0), 0, 0)]
theorem kwX7_join_46 {X : KX} {S : KS} {mc ms : Nat} {E : KEnd} {ls : KL} {st : List KV} {M : KM} {cs sl : Nat} (hC : KC X mX7_join 7 false S mc ms) (hE : KRet X mX7_join E) (h : kblk (kroom mX7_join mc ms) S E (KW X) kbX7_join_46 46 ls st M cs sl) : KW X 46 ls st M cs sl := KW_blk hC hE kbX7_join_46 46 ls st M cs sl (by decide +kernel) h
def kbX7_join_56 : List KE := [(.aload_n 0, 1, (0, 0, 0), 0, 0), (.getfield 28, 3, (7, 7, 1), 0, 0), (.getfield 45, 3, (6, 3, 0), 0, 0), (.bipush (90), 2, (0, 0, 0), 90, 0), (.if_icmp .ne (11), 3, (76, 0, 0), 0, 0)]
theorem kwX7_join_56 {X : KX} {S : KS} {mc ms : Nat} {E : KEnd} {ls : KL} {st : List KV} {M : KM} {cs sl : Nat} (hC : KC X mX7_join 7 false S mc ms) (hE : KRet X mX7_join E) (h : kblk (kroom mX7_join mc ms) S E (KW X) kbX7_join_56 56 ls st M cs sl) : KW X 56 ls st M cs sl := KW_blk hC hE kbX7_join_56 56 ls st M cs sl (by decide +kernel) h
def kbX7_join_68 : List KE := [(.aload_n 0, 1, (0, 0, 0), 0, 0), (.iconst 3, 1, (0, 0, 0), 3, 0)]
theorem kwX7_join_68 {X : KX} {S : KS} {mc ms : Nat} {E : KEnd} {ls : KL} {st : List KV} {M : KM} {cs sl : Nat} (hC : KC X mX7_join 7 false S mc ms) (hE : KRet X mX7_join E) (h : kblk (kroom mX7_join mc ms) S E (KW X) kbX7_join_68 68 ls st M cs sl) : KW X 68 ls st M cs sl := KW_blk hC hE kbX7_join_68 68 ls st M cs sl (by decide +kernel) h
def kbX7_join_73 : List KE := [(.goto (13), 3, (86, 0, 0), 0, 0)]
theorem kwX7_join_73 {X : KX} {S : KS} {mc ms : Nat} {E : KEnd} {ls : KL} {st : List KV} {M : KM} {cs sl : Nat} (hC : KC X mX7_join 7 false S mc ms) (hE : KRet X mX7_join E) (h : kblk (kroom mX7_join mc ms) S E (KW X) kbX7_join_73 73 ls st M cs sl) : KW X 73 ls st M cs sl := KW_blk hC hE kbX7_join_73 73 ls st M cs sl (by decide +kernel) h
def kbX7_join_76 : List KE := [(.aload_n 0, 1, (0, 0, 0), 0, 0), (.getfield 28, 3, (7, 7, 1), 0, 0), (.iload_n 1, 1, (1, 0, 0), 0, 0), (.iload_n 2, 1, (2, 0, 0), 0, 0), (.iload_n 3, 1, (3, 0, 0), 0, 0)]
theorem kwX7_join_76 {X : KX} {S : KS} {mc ms : Nat} {E : KEnd} {ls : KL} {st : List KV} {M : KM} {cs sl : Nat} (hC : KC X mX7_join 7 false S mc ms) (hE : KRet X mX7_join E) (h : kblk (kroom mX7_join mc ms) S E (KW X) kbX7_join_76 76 ls st M cs sl) : KW X 76 ls st M cs sl := KW_blk hC hE kbX7_join_76 76 ls st M cs sl (by decide +kernel) h
def kbX7_join_86 : List KE := [(.ireturn, 1, (0, 0, 0), 0, 0)]
theorem kwX7_join_86 {X : KX} {S : KS} {mc ms : Nat} {E : KEnd} {ls : KL} {st : List KV} {M : KM} {cs sl : Nat} (hC : KC X mX7_join 7 false S mc ms) (hE : KRet X mX7_join E) (h : kblk (kroom mX7_join mc ms) S E (KW X) kbX7_join_86 86 ls st M cs sl) : KW X 86 ls st M cs sl := KW_blk hC hE kbX7_join_86 86 ls st M cs sl (by decide +kernel) h
def kbX7_lane_0 : List KE := [(.aload_n 0, 1, (0, 0, 0), 0, 0), (.iconst 0, 1, (0, 0, 0), 0, 0), (.putfield 35, 3, (7, 0, 0), 0, 0), (.aload_n 0, 1, (0, 0, 0), 0, 0), (.iload_n 1, 1, (1, 0, 0), 0, 0)]
theorem kwX7_lane_0 {X : KX} {S : KS} {mc ms : Nat} {E : KEnd} {ls : KL} {st : List KV} {M : KM} {cs sl : Nat} (hC : KC X mX7_lane 7 false S mc ms) (hE : KRet X mX7_lane E) (h : kblk (kroom mX7_lane mc ms) S E (KW X) kbX7_lane_0 0 ls st M cs sl) : KW X 0 ls st M cs sl := KW_blk hC hE kbX7_lane_0 0 ls st M cs sl (by decide +kernel) h
def kbX7_lane_10 : List KE := [(.ifCond .eq (21), 3, (31, 0, 0), 0, 0)]
theorem kwX7_lane_10 {X : KX} {S : KS} {mc ms : Nat} {E : KEnd} {ls : KL} {st : List KV} {M : KM} {cs sl : Nat} (hC : KC X mX7_lane 7 false S mc ms) (hE : KRet X mX7_lane E) (h : kblk (kroom mX7_lane mc ms) S E (KW X) kbX7_lane_10 10 ls st M cs sl) : KW X 10 ls st M cs sl := KW_blk hC hE kbX7_lane_10 10 ls st M cs sl (by decide +kernel) h
def kbX7_lane_13 : List KE := [(.iload_n 2, 1, (2, 0, 0), 0, 0), (.iconst 0, 1, (0, 0, 0), 0, 0), (.iconst 3, 1, (0, 0, 0), 3, 0)]
theorem kwX7_lane_13 {X : KX} {S : KS} {mc ms : Nat} {E : KEnd} {ls : KL} {st : List KV} {M : KM} {cs sl : Nat} (hC : KC X mX7_lane 7 false S mc ms) (hE : KRet X mX7_lane E) (h : kblk (kroom mX7_lane mc ms) S E (KW X) kbX7_lane_13 13 ls st M cs sl) : KW X 13 ls st M cs sl := KW_blk hC hE kbX7_lane_13 13 ls st M cs sl (by decide +kernel) h
def kbX7_lane_19 : List KE := [(.ifCond .eq (12), 3, (31, 0, 0), 0, 0)]
theorem kwX7_lane_19 {X : KX} {S : KS} {mc ms : Nat} {E : KEnd} {ls : KL} {st : List KV} {M : KM} {cs sl : Nat} (hC : KC X mX7_lane 7 false S mc ms) (hE : KRet X mX7_lane E) (h : kblk (kroom mX7_lane mc ms) S E (KW X) kbX7_lane_19 19 ls st M cs sl) : KW X 19 ls st M cs sl := KW_blk hC hE kbX7_lane_19 19 ls st M cs sl (by decide +kernel) h
def kbX7_lane_22 : List KE := [(.aload_n 0, 1, (0, 0, 0), 0, 0), (.iload_n 1, 1, (1, 0, 0), 0, 0), (.iload_n 2, 1, (2, 0, 0), 0, 0)]
theorem kwX7_lane_22 {X : KX} {S : KS} {mc ms : Nat} {E : KEnd} {ls : KL} {st : List KV} {M : KM} {cs sl : Nat} (hC : KC X mX7_lane 7 false S mc ms) (hE : KRet X mX7_lane E) (h : kblk (kroom mX7_lane mc ms) S E (KW X) kbX7_lane_22 22 ls st M cs sl) : KW X 22 ls st M cs sl := KW_blk hC hE kbX7_lane_22 22 ls st M cs sl (by decide +kernel) h
def kbX7_lane_28 : List KE := [(.goto (8), 3, (36, 0, 0), 0, 0)]
theorem kwX7_lane_28 {X : KX} {S : KS} {mc ms : Nat} {E : KEnd} {ls : KL} {st : List KV} {M : KM} {cs sl : Nat} (hC : KC X mX7_lane 7 false S mc ms) (hE : KRet X mX7_lane E) (h : kblk (kroom mX7_lane mc ms) S E (KW X) kbX7_lane_28 28 ls st M cs sl) : KW X 28 ls st M cs sl := KW_blk hC hE kbX7_lane_28 28 ls st M cs sl (by decide +kernel) h
def kbX7_lane_31 : List KE := [(.aload_n 0, 1, (0, 0, 0), 0, 0), (.iconst 1, 1, (0, 0, 0), 1, 0)]
theorem kwX7_lane_31 {X : KX} {S : KS} {mc ms : Nat} {E : KEnd} {ls : KL} {st : List KV} {M : KM} {cs sl : Nat} (hC : KC X mX7_lane 7 false S mc ms) (hE : KRet X mX7_lane E) (h : kblk (kroom mX7_lane mc ms) S E (KW X) kbX7_lane_31 31 ls st M cs sl) : KW X 31 ls st M cs sl := KW_blk hC hE kbX7_lane_31 31 ls st M cs sl (by decide +kernel) h
def kbX7_lane_36 : List KE := [(.ireturn, 1, (0, 0, 0), 0, 0)]
theorem kwX7_lane_36 {X : KX} {S : KS} {mc ms : Nat} {E : KEnd} {ls : KL} {st : List KV} {M : KM} {cs sl : Nat} (hC : KC X mX7_lane 7 false S mc ms) (hE : KRet X mX7_lane E) (h : kblk (kroom mX7_lane mc ms) S E (KW X) kbX7_lane_36 36 ls st M cs sl) : KW X 36 ls st M cs sl := KW_blk hC hE kbX7_lane_36 36 ls st M cs sl (by decide +kernel) h
def kbX7_laneTold_0 : List KE := [(.iconst 0, 1, (0, 0, 0), 0, 0), (.istore_n 3, 1, (3, 0, 0), 0, 0), (.iconst 0, 1, (0, 0, 0), 0, 0), (.istore 4, 2, (4, 0, 0), 0, 0)]
theorem kwX7_laneTold_0 {X : KX} {S : KS} {mc ms : Nat} {E : KEnd} {ls : KL} {st : List KV} {M : KM} {cs sl : Nat} (hC : KC X mX7_laneTold 7 false S mc ms) (hE : KRet X mX7_laneTold E) (h : kblk (kroom mX7_laneTold mc ms) S E (KW X) kbX7_laneTold_0 0 ls st M cs sl) : KW X 0 ls st M cs sl := KW_blk hC hE kbX7_laneTold_0 0 ls st M cs sl (by decide +kernel) h
def kbX7_laneTold_5 : List KE := [(.iload 4, 2, (4, 0, 0), 0, 0), (.aload_n 0, 1, (0, 0, 0), 0, 0), (.getfield 28, 3, (7, 7, 1), 0, 0), (.getfield 119, 3, (6, 13, 1), 0, 0), (.iload_n 1, 1, (1, 0, 0), 0, 0), (.iaload, 1, (0, 0, 0), 0, 0), (.if_icmp .ge (35), 3, (51, 0, 0), 0, 0)]
theorem kwX7_laneTold_5 {X : KX} {S : KS} {mc ms : Nat} {E : KEnd} {ls : KL} {st : List KV} {M : KM} {cs sl : Nat} (hC : KC X mX7_laneTold 7 false S mc ms) (hE : KRet X mX7_laneTold E) (h : kblk (kroom mX7_laneTold mc ms) S E (KW X) kbX7_laneTold_5 5 ls st M cs sl) : KW X 5 ls st M cs sl := KW_blk hC hE kbX7_laneTold_5 5 ls st M cs sl (by decide +kernel) h
def kbX7_laneTold_19 : List KE := [(.iload_n 3, 1, (3, 0, 0), 0, 0), (.aload_n 0, 1, (0, 0, 0), 0, 0), (.getfield 28, 3, (7, 7, 1), 0, 0), (.getfield 92, 3, (6, 15, 1), 0, 0), (.aload_n 0, 1, (0, 0, 0), 0, 0), (.getfield 28, 3, (7, 7, 1), 0, 0), (.getfield 122, 3, (6, 14, 1), 0, 0), (.bipush (91), 2, (0, 0, 0), 91, 0), (.iload_n 1, 1, (1, 0, 0), 0, 0), (.imul, 1, (0, 0, 0), 0, 0), (.iload 4, 2, (4, 0, 0), 0, 0), (.iadd, 1, (0, 0, 0), 0, 0), (.iaload, 1, (0, 0, 0), 0, 0), (.iaload, 1, (0, 0, 0), 0, 0), (.iadd, 1, (0, 0, 0), 0, 0), (.istore_n 3, 1, (3, 0, 0), 0, 0), (.iinc 4 (1), 3, (4, 0, 0), 1, 0), (.goto (-43), 3, (5, 0, 0), 0, 0)]
theorem kwX7_laneTold_19 {X : KX} {S : KS} {mc ms : Nat} {E : KEnd} {ls : KL} {st : List KV} {M : KM} {cs sl : Nat} (hC : KC X mX7_laneTold 7 false S mc ms) (hE : KRet X mX7_laneTold E) (h : kblk (kroom mX7_laneTold mc ms) S E (KW X) kbX7_laneTold_19 19 ls st M cs sl) : KW X 19 ls st M cs sl := KW_blk hC hE kbX7_laneTold_19 19 ls st M cs sl (by decide +kernel) h
def kbX7_laneTold_51 : List KE := [(.iconst 4, 1, (0, 0, 0), 4, 0), (.newarray .int, 2, (8, 0, 0), 0, 0), (.dup, 1, (0, 0, 0), 0, 0), (.iconst 0, 1, (0, 0, 0), 0, 0), (.aload_n 0, 1, (0, 0, 0), 0, 0), (.getfield 28, 3, (7, 7, 1), 0, 0), (.getfield 119, 3, (6, 13, 1), 0, 0), (.iload_n 1, 1, (1, 0, 0), 0, 0), (.iaload, 1, (0, 0, 0), 0, 0), (.iastore, 1, (0, 0, 0), 0, 0), (.dup, 1, (0, 0, 0), 0, 0), (.iconst 1, 1, (0, 0, 0), 1, 0), (.iload_n 3, 1, (3, 0, 0), 0, 0), (.iastore, 1, (0, 0, 0), 0, 0), (.dup, 1, (0, 0, 0), 0, 0), (.iconst 2, 1, (0, 0, 0), 2, 0), (.aload_n 0, 1, (0, 0, 0), 0, 0), (.getfield 17, 3, (7, 5, 1), 0, 0), (.iload_n 1, 1, (1, 0, 0), 0, 0), (.iaload, 1, (0, 0, 0), 0, 0), (.iastore, 1, (0, 0, 0), 0, 0), (.dup, 1, (0, 0, 0), 0, 0), (.iconst 3, 1, (0, 0, 0), 3, 0), (.aload_n 0, 1, (0, 0, 0), 0, 0), (.getfield 28, 3, (7, 7, 1), 0, 0), (.getfield 125, 3, (6, 12, 1), 0, 0), (.iload_n 1, 1, (1, 0, 0), 0, 0), (.iaload, 1, (0, 0, 0), 0, 0), (.iastore, 1, (0, 0, 0), 0, 0), (.astore 4, 2, (4, 0, 0), 0, 0), (.aload 4, 2, (4, 0, 0), 0, 0), (.iload_n 2, 1, (2, 0, 0), 0, 0), (.iaload, 1, (0, 0, 0), 0, 0), (.ireturn, 1, (0, 0, 0), 0, 0)]
theorem kwX7_laneTold_51 {X : KX} {S : KS} {mc ms : Nat} {E : KEnd} {ls : KL} {st : List KV} {M : KM} {cs sl : Nat} (hC : KC X mX7_laneTold 7 false S mc ms) (hE : KRet X mX7_laneTold E) (h : kblk (kroom mX7_laneTold mc ms) S E (KW X) kbX7_laneTold_51 51 ls st M cs sl) : KW X 51 ls st M cs sl := KW_blk hC hE kbX7_laneTold_51 51 ls st M cs sl (by decide +kernel) h
def kbX7_leave_0 : List KE := [(.aload_n 0, 1, (0, 0, 0), 0, 0), (.iconst 0, 1, (0, 0, 0), 0, 0), (.putfield 35, 3, (7, 0, 0), 0, 0), (.aload_n 0, 1, (0, 0, 0), 0, 0), (.iload_n 1, 1, (1, 0, 0), 0, 0)]
theorem kwX7_leave_0 {X : KX} {S : KS} {mc ms : Nat} {E : KEnd} {ls : KL} {st : List KV} {M : KM} {cs sl : Nat} (hC : KC X mX7_leave 7 false S mc ms) (hE : KRet X mX7_leave E) (h : kblk (kroom mX7_leave mc ms) S E (KW X) kbX7_leave_0 0 ls st M cs sl) : KW X 0 ls st M cs sl := KW_blk hC hE kbX7_leave_0 0 ls st M cs sl (by decide +kernel) h
def kbX7_leave_10 : List KE := [(.ifCond .ne (9), 3, (19, 0, 0), 0, 0)]
theorem kwX7_leave_10 {X : KX} {S : KS} {mc ms : Nat} {E : KEnd} {ls : KL} {st : List KV} {M : KM} {cs sl : Nat} (hC : KC X mX7_leave 7 false S mc ms) (hE : KRet X mX7_leave E) (h : kblk (kroom mX7_leave mc ms) S E (KW X) kbX7_leave_10 10 ls st M cs sl) : KW X 10 ls st M cs sl := KW_blk hC hE kbX7_leave_10 10 ls st M cs sl (by decide +kernel) h
def kbX7_leave_13 : List KE := [(.aload_n 0, 1, (0, 0, 0), 0, 0), (.iconst 1, 1, (0, 0, 0), 1, 0)]
theorem kwX7_leave_13 {X : KX} {S : KS} {mc ms : Nat} {E : KEnd} {ls : KL} {st : List KV} {M : KM} {cs sl : Nat} (hC : KC X mX7_leave 7 false S mc ms) (hE : KRet X mX7_leave E) (h : kblk (kroom mX7_leave mc ms) S E (KW X) kbX7_leave_13 13 ls st M cs sl) : KW X 13 ls st M cs sl := KW_blk hC hE kbX7_leave_13 13 ls st M cs sl (by decide +kernel) h
def kbX7_leave_18 : List KE := [(.ireturn, 1, (0, 0, 0), 0, 0)]
theorem kwX7_leave_18 {X : KX} {S : KS} {mc ms : Nat} {E : KEnd} {ls : KL} {st : List KV} {M : KM} {cs sl : Nat} (hC : KC X mX7_leave 7 false S mc ms) (hE : KRet X mX7_leave E) (h : kblk (kroom mX7_leave mc ms) S E (KW X) kbX7_leave_18 18 ls st M cs sl) : KW X 18 ls st M cs sl := KW_blk hC hE kbX7_leave_18 18 ls st M cs sl (by decide +kernel) h
def kbX7_leave_19 : List KE := [(.aload_n 0, 1, (0, 0, 0), 0, 0), (.getfield 28, 3, (7, 7, 1), 0, 0), (.getfield 82, 3, (6, 17, 1), 0, 0), (.iload_n 1, 1, (1, 0, 0), 0, 0), (.iaload, 1, (0, 0, 0), 0, 0), (.ifCond .eq (9), 3, (37, 0, 0), 0, 0)]
theorem kwX7_leave_19 {X : KX} {S : KS} {mc ms : Nat} {E : KEnd} {ls : KL} {st : List KV} {M : KM} {cs sl : Nat} (hC : KC X mX7_leave 7 false S mc ms) (hE : KRet X mX7_leave E) (h : kblk (kroom mX7_leave mc ms) S E (KW X) kbX7_leave_19 19 ls st M cs sl) : KW X 19 ls st M cs sl := KW_blk hC hE kbX7_leave_19 19 ls st M cs sl (by decide +kernel) h
def kbX7_leave_31 : List KE := [(.aload_n 0, 1, (0, 0, 0), 0, 0), (.iconst 2, 1, (0, 0, 0), 2, 0)]
theorem kwX7_leave_31 {X : KX} {S : KS} {mc ms : Nat} {E : KEnd} {ls : KL} {st : List KV} {M : KM} {cs sl : Nat} (hC : KC X mX7_leave 7 false S mc ms) (hE : KRet X mX7_leave E) (h : kblk (kroom mX7_leave mc ms) S E (KW X) kbX7_leave_31 31 ls st M cs sl) : KW X 31 ls st M cs sl := KW_blk hC hE kbX7_leave_31 31 ls st M cs sl (by decide +kernel) h
def kbX7_leave_36 : List KE := [(.ireturn, 1, (0, 0, 0), 0, 0)]
theorem kwX7_leave_36 {X : KX} {S : KS} {mc ms : Nat} {E : KEnd} {ls : KL} {st : List KV} {M : KM} {cs sl : Nat} (hC : KC X mX7_leave 7 false S mc ms) (hE : KRet X mX7_leave E) (h : kblk (kroom mX7_leave mc ms) S E (KW X) kbX7_leave_36 36 ls st M cs sl) : KW X 36 ls st M cs sl := KW_blk hC hE kbX7_leave_36 36 ls st M cs sl (by decide +kernel) h
def kbX7_leave_37 : List KE := [(.aload_n 0, 1, (0, 0, 0), 0, 0), (.getfield 28, 3, (7, 7, 1), 0, 0), (.getfield 82, 3, (6, 17, 1), 0, 0), (.iload_n 1, 1, (1, 0, 0), 0, 0), (.iconst 3, 1, (0, 0, 0), 3, 0), (.iastore, 1, (0, 0, 0), 0, 0), (.aload_n 0, 1, (0, 0, 0), 0, 0), (.getfield 28, 3, (7, 7, 1), 0, 0), (.iload_n 1, 1, (1, 0, 0), 0, 0)]
theorem kwX7_leave_37 {X : KX} {S : KS} {mc ms : Nat} {E : KEnd} {ls : KL} {st : List KV} {M : KM} {cs sl : Nat} (hC : KC X mX7_leave 7 false S mc ms) (hE : KRet X mX7_leave E) (h : kblk (kroom mX7_leave mc ms) S E (KW X) kbX7_leave_37 37 ls st M cs sl) : KW X 37 ls st M cs sl := KW_blk hC hE kbX7_leave_37 37 ls st M cs sl (by decide +kernel) h
def kbX7_leave_55 : List KE := [(.ireturn, 1, (0, 0, 0), 0, 0)]
theorem kwX7_leave_55 {X : KX} {S : KS} {mc ms : Nat} {E : KEnd} {ls : KL} {st : List KV} {M : KM} {cs sl : Nat} (hC : KC X mX7_leave 7 false S mc ms) (hE : KRet X mX7_leave E) (h : kblk (kroom mX7_leave mc ms) S E (KW X) kbX7_leave_55 55 ls st M cs sl) : KW X 55 ls st M cs sl := KW_blk hC hE kbX7_leave_55 55 ls st M cs sl (by decide +kernel) h
def kbX7_mean_0 : List KE := [(.aload_n 0, 1, (0, 0, 0), 0, 0), (.iconst 0, 1, (0, 0, 0), 0, 0), (.putfield 35, 3, (7, 0, 0), 0, 0), (.aload_n 0, 1, (0, 0, 0), 0, 0), (.getfield 28, 3, (7, 7, 1), 0, 0), (.getfield 159, 3, (6, 7, 0), 0, 0), (.ifCond .ne (7), 3, (19, 0, 0), 0, 0)]
theorem kwX7_mean_0 {X : KX} {S : KS} {mc ms : Nat} {E : KEnd} {ls : KL} {st : List KV} {M : KM} {cs sl : Nat} (hC : KC X mX7_mean 7 false S mc ms) (hE : KRet X mX7_mean E) (h : kblk (kroom mX7_mean mc ms) S E (KW X) kbX7_mean_0 0 ls st M cs sl) : KW X 0 ls st M cs sl := KW_blk hC hE kbX7_mean_0 0 ls st M cs sl (by decide +kernel) h
def kbX7_mean_15 : List KE := [(.dconst 0, 1, (0, 0, 0), 0, 0), (.goto (20), 3, (36, 0, 0), 0, 0)]
theorem kwX7_mean_15 {X : KX} {S : KS} {mc ms : Nat} {E : KEnd} {ls : KL} {st : List KV} {M : KM} {cs sl : Nat} (hC : KC X mX7_mean 7 false S mc ms) (hE : KRet X mX7_mean E) (h : kblk (kroom mX7_mean mc ms) S E (KW X) kbX7_mean_15 15 ls st M cs sl) : KW X 15 ls st M cs sl := KW_blk hC hE kbX7_mean_15 15 ls st M cs sl (by decide +kernel) h
def kbX7_mean_19 : List KE := [(.aload_n 0, 1, (0, 0, 0), 0, 0), (.getfield 28, 3, (7, 7, 1), 0, 0), (.getfield 162, 3, (6, 6, 0), 0, 0), (.i2d, 1, (0, 0, 0), 0, 0), (.aload_n 0, 1, (0, 0, 0), 0, 0), (.getfield 28, 3, (7, 7, 1), 0, 0), (.getfield 159, 3, (6, 7, 0), 0, 0), (.i2d, 1, (0, 0, 0), 0, 0), (.ddiv, 1, (0, 0, 0), 0, 0)]
theorem kwX7_mean_19 {X : KX} {S : KS} {mc ms : Nat} {E : KEnd} {ls : KL} {st : List KV} {M : KM} {cs sl : Nat} (hC : KC X mX7_mean 7 false S mc ms) (hE : KRet X mX7_mean E) (h : kblk (kroom mX7_mean mc ms) S E (KW X) kbX7_mean_19 19 ls st M cs sl) : KW X 19 ls st M cs sl := KW_blk hC hE kbX7_mean_19 19 ls st M cs sl (by decide +kernel) h
def kbX7_mean_36 : List KE := [(.dreturn, 1, (0, 0, 0), 0, 0)]
theorem kwX7_mean_36 {X : KX} {S : KS} {mc ms : Nat} {E : KEnd} {ls : KL} {st : List KV} {M : KM} {cs sl : Nat} (hC : KC X mX7_mean 7 false S mc ms) (hE : KRet X mX7_mean E) (h : kblk (kroom mX7_mean mc ms) S E (KW X) kbX7_mean_36 36 ls st M cs sl) : KW X 36 ls st M cs sl := KW_blk hC hE kbX7_mean_36 36 ls st M cs sl (by decide +kernel) h
def kbX7_needs_0 : List KE := [(.aload_n 0, 1, (0, 0, 0), 0, 0), (.iconst 0, 1, (0, 0, 0), 0, 0), (.putfield 35, 3, (7, 0, 0), 0, 0), (.iload_n 1, 1, (1, 0, 0), 0, 0), (.iconst 1, 1, (0, 0, 0), 1, 0), (.sipush (500), 3, (0, 0, 0), 500, 0)]
theorem kwX7_needs_0 {X : KX} {S : KS} {mc ms : Nat} {E : KEnd} {ls : KL} {st : List KV} {M : KM} {cs sl : Nat} (hC : KC X mX7_needs 7 false S mc ms) (hE : KRet X mX7_needs E) (h : kblk (kroom mX7_needs mc ms) S E (KW X) kbX7_needs_0 0 ls st M cs sl) : KW X 0 ls st M cs sl := KW_blk hC hE kbX7_needs_0 0 ls st M cs sl (by decide +kernel) h
def kbX7_needs_13 : List KE := [(.ifCond .eq (13), 3, (26, 0, 0), 0, 0)]
theorem kwX7_needs_13 {X : KX} {S : KS} {mc ms : Nat} {E : KEnd} {ls : KL} {st : List KV} {M : KM} {cs sl : Nat} (hC : KC X mX7_needs 7 false S mc ms) (hE : KRet X mX7_needs E) (h : kblk (kroom mX7_needs mc ms) S E (KW X) kbX7_needs_13 13 ls st M cs sl) : KW X 13 ls st M cs sl := KW_blk hC hE kbX7_needs_13 13 ls st M cs sl (by decide +kernel) h
def kbX7_needs_16 : List KE := [(.iload_n 2, 1, (2, 0, 0), 0, 0), (.iconst 1, 1, (0, 0, 0), 1, 0), (.bipush (100), 2, (0, 0, 0), 100, 0)]
theorem kwX7_needs_16 {X : KX} {S : KS} {mc ms : Nat} {E : KEnd} {ls : KL} {st : List KV} {M : KM} {cs sl : Nat} (hC : KC X mX7_needs 7 false S mc ms) (hE : KRet X mX7_needs E) (h : kblk (kroom mX7_needs mc ms) S E (KW X) kbX7_needs_16 16 ls st M cs sl) : KW X 16 ls st M cs sl := KW_blk hC hE kbX7_needs_16 16 ls st M cs sl (by decide +kernel) h
def kbX7_needs_23 : List KE := [(.ifCond .ne (9), 3, (32, 0, 0), 0, 0)]
theorem kwX7_needs_23 {X : KX} {S : KS} {mc ms : Nat} {E : KEnd} {ls : KL} {st : List KV} {M : KM} {cs sl : Nat} (hC : KC X mX7_needs 7 false S mc ms) (hE : KRet X mX7_needs E) (h : kblk (kroom mX7_needs mc ms) S E (KW X) kbX7_needs_23 23 ls st M cs sl) : KW X 23 ls st M cs sl := KW_blk hC hE kbX7_needs_23 23 ls st M cs sl (by decide +kernel) h
def kbX7_needs_26 : List KE := [(.aload_n 0, 1, (0, 0, 0), 0, 0), (.iconst 1, 1, (0, 0, 0), 1, 0)]
theorem kwX7_needs_26 {X : KX} {S : KS} {mc ms : Nat} {E : KEnd} {ls : KL} {st : List KV} {M : KM} {cs sl : Nat} (hC : KC X mX7_needs 7 false S mc ms) (hE : KRet X mX7_needs E) (h : kblk (kroom mX7_needs mc ms) S E (KW X) kbX7_needs_26 26 ls st M cs sl) : KW X 26 ls st M cs sl := KW_blk hC hE kbX7_needs_26 26 ls st M cs sl (by decide +kernel) h
def kbX7_needs_31 : List KE := [(.ireturn, 1, (0, 0, 0), 0, 0)]
theorem kwX7_needs_31 {X : KX} {S : KS} {mc ms : Nat} {E : KEnd} {ls : KL} {st : List KV} {M : KM} {cs sl : Nat} (hC : KC X mX7_needs 7 false S mc ms) (hE : KRet X mX7_needs E) (h : kblk (kroom mX7_needs mc ms) S E (KW X) kbX7_needs_31 31 ls st M cs sl) : KW X 31 ls st M cs sl := KW_blk hC hE kbX7_needs_31 31 ls st M cs sl (by decide +kernel) h
def kbX7_needs_32 : List KE := [(.iconst 0, 1, (0, 0, 0), 0, 0), (.istore_n 3, 1, (3, 0, 0), 0, 0)]
theorem kwX7_needs_32 {X : KX} {S : KS} {mc ms : Nat} {E : KEnd} {ls : KL} {st : List KV} {M : KM} {cs sl : Nat} (hC : KC X mX7_needs 7 false S mc ms) (hE : KRet X mX7_needs E) (h : kblk (kroom mX7_needs mc ms) S E (KW X) kbX7_needs_32 32 ls st M cs sl) : KW X 32 ls st M cs sl := KW_blk hC hE kbX7_needs_32 32 ls st M cs sl (by decide +kernel) h
def kbX7_needs_34 : List KE := [(.iload_n 3, 1, (3, 0, 0), 0, 0), (.aload_n 0, 1, (0, 0, 0), 0, 0), (.getfield 56, 3, (7, 2, 0), 0, 0), (.if_icmp .gt (66), 3, (105, 0, 0), 0, 0)]
theorem kwX7_needs_34 {X : KX} {S : KS} {mc ms : Nat} {E : KEnd} {ls : KL} {st : List KV} {M : KM} {cs sl : Nat} (hC : KC X mX7_needs 7 false S mc ms) (hE : KRet X mX7_needs E) (h : kblk (kroom mX7_needs mc ms) S E (KW X) kbX7_needs_34 34 ls st M cs sl) : KW X 34 ls st M cs sl := KW_blk hC hE kbX7_needs_34 34 ls st M cs sl (by decide +kernel) h
def kbX7_needs_42 : List KE := [(.aload_n 0, 1, (0, 0, 0), 0, 0), (.getfield 32, 3, (7, 8, 1), 0, 0), (.aload_n 0, 1, (0, 0, 0), 0, 0), (.getfield 28, 3, (7, 7, 1), 0, 0)]
theorem kwX7_needs_42 {X : KX} {S : KS} {mc ms : Nat} {E : KEnd} {ls : KL} {st : List KV} {M : KM} {cs sl : Nat} (hC : KC X mX7_needs 7 false S mc ms) (hE : KRet X mX7_needs E) (h : kblk (kroom mX7_needs mc ms) S E (KW X) kbX7_needs_42 42 ls st M cs sl) : KW X 42 ls st M cs sl := KW_blk hC hE kbX7_needs_42 42 ls st M cs sl (by decide +kernel) h
def kbX7_needs_53 : List KE := [(.aload_n 0, 1, (0, 0, 0), 0, 0), (.getfield 32, 3, (7, 8, 1), 0, 0), (.iload_n 3, 1, (3, 0, 0), 0, 0), (.putfield 68, 3, (6, 1, 0), 0, 0), (.iconst 0, 1, (0, 0, 0), 0, 0), (.istore 4, 2, (4, 0, 0), 0, 0), (.iconst 0, 1, (0, 0, 0), 0, 0), (.istore 5, 2, (5, 0, 0), 0, 0)]
theorem kwX7_needs_53 {X : KX} {S : KS} {mc ms : Nat} {E : KEnd} {ls : KL} {st : List KV} {M : KM} {cs sl : Nat} (hC : KC X mX7_needs 7 false S mc ms) (hE : KRet X mX7_needs E) (h : kblk (kroom mX7_needs mc ms) S E (KW X) kbX7_needs_53 53 ls st M cs sl) : KW X 53 ls st M cs sl := KW_blk hC hE kbX7_needs_53 53 ls st M cs sl (by decide +kernel) h
def kbX7_needs_67 : List KE := [(.iload 5, 2, (5, 0, 0), 0, 0), (.iload_n 2, 1, (2, 0, 0), 0, 0), (.if_icmp .ge (21), 3, (91, 0, 0), 0, 0)]
theorem kwX7_needs_67 {X : KX} {S : KS} {mc ms : Nat} {E : KEnd} {ls : KL} {st : List KV} {M : KM} {cs sl : Nat} (hC : KC X mX7_needs 7 false S mc ms) (hE : KRet X mX7_needs E) (h : kblk (kroom mX7_needs mc ms) S E (KW X) kbX7_needs_67 67 ls st M cs sl) : KW X 67 ls st M cs sl := KW_blk hC hE kbX7_needs_67 67 ls st M cs sl (by decide +kernel) h
def kbX7_needs_73 : List KE := [(.iload 4, 2, (4, 0, 0), 0, 0), (.aload_n 0, 1, (0, 0, 0), 0, 0), (.getfield 32, 3, (7, 8, 1), 0, 0)]
theorem kwX7_needs_73 {X : KX} {S : KS} {mc ms : Nat} {E : KEnd} {ls : KL} {st : List KV} {M : KM} {cs sl : Nat} (hC : KC X mX7_needs 7 false S mc ms) (hE : KRet X mX7_needs E) (h : kblk (kroom mX7_needs mc ms) S E (KW X) kbX7_needs_73 73 ls st M cs sl) : KW X 73 ls st M cs sl := KW_blk hC hE kbX7_needs_73 73 ls st M cs sl (by decide +kernel) h
def kbX7_needs_82 : List KE := [(.iadd, 1, (0, 0, 0), 0, 0), (.istore 4, 2, (4, 0, 0), 0, 0), (.iinc 5 (1), 3, (5, 0, 0), 1, 0), (.goto (-21), 3, (67, 0, 0), 0, 0)]
theorem kwX7_needs_82 {X : KX} {S : KS} {mc ms : Nat} {E : KEnd} {ls : KL} {st : List KV} {M : KM} {cs sl : Nat} (hC : KC X mX7_needs 7 false S mc ms) (hE : KRet X mX7_needs E) (h : kblk (kroom mX7_needs mc ms) S E (KW X) kbX7_needs_82 82 ls st M cs sl) : KW X 82 ls st M cs sl := KW_blk hC hE kbX7_needs_82 82 ls st M cs sl (by decide +kernel) h
def kbX7_needs_91 : List KE := [(.iload 4, 2, (4, 0, 0), 0, 0), (.iload_n 1, 1, (1, 0, 0), 0, 0), (.if_icmp .lt (5), 3, (99, 0, 0), 0, 0)]
theorem kwX7_needs_91 {X : KX} {S : KS} {mc ms : Nat} {E : KEnd} {ls : KL} {st : List KV} {M : KM} {cs sl : Nat} (hC : KC X mX7_needs 7 false S mc ms) (hE : KRet X mX7_needs E) (h : kblk (kroom mX7_needs mc ms) S E (KW X) kbX7_needs_91 91 ls st M cs sl) : KW X 91 ls st M cs sl := KW_blk hC hE kbX7_needs_91 91 ls st M cs sl (by decide +kernel) h
def kbX7_needs_97 : List KE := [(.iload_n 3, 1, (3, 0, 0), 0, 0), (.ireturn, 1, (0, 0, 0), 0, 0)]
theorem kwX7_needs_97 {X : KX} {S : KS} {mc ms : Nat} {E : KEnd} {ls : KL} {st : List KV} {M : KM} {cs sl : Nat} (hC : KC X mX7_needs 7 false S mc ms) (hE : KRet X mX7_needs E) (h : kblk (kroom mX7_needs mc ms) S E (KW X) kbX7_needs_97 97 ls st M cs sl) : KW X 97 ls st M cs sl := KW_blk hC hE kbX7_needs_97 97 ls st M cs sl (by decide +kernel) h
def kbX7_needs_99 : List KE := [(.iinc 3 (1), 3, (3, 0, 0), 1, 0), (.goto (-68), 3, (34, 0, 0), 0, 0)]
theorem kwX7_needs_99 {X : KX} {S : KS} {mc ms : Nat} {E : KEnd} {ls : KL} {st : List KV} {M : KM} {cs sl : Nat} (hC : KC X mX7_needs 7 false S mc ms) (hE : KRet X mX7_needs E) (h : kblk (kroom mX7_needs mc ms) S E (KW X) kbX7_needs_99 99 ls st M cs sl) : KW X 99 ls st M cs sl := KW_blk hC hE kbX7_needs_99 99 ls st M cs sl (by decide +kernel) h
def kbX7_needs_105 : List KE := [(.iconst (-1), 1, (0, 0, 0), (-1), 0), (.ireturn, 1, (0, 0, 0), 0, 0)]
theorem kwX7_needs_105 {X : KX} {S : KS} {mc ms : Nat} {E : KEnd} {ls : KL} {st : List KV} {M : KM} {cs sl : Nat} (hC : KC X mX7_needs 7 false S mc ms) (hE : KRet X mX7_needs E) (h : kblk (kroom mX7_needs mc ms) S E (KW X) kbX7_needs_105 105 ls st M cs sl) : KW X 105 ls st M cs sl := KW_blk hC hE kbX7_needs_105 105 ls st M cs sl (by decide +kernel) h
def kbX7_no_0 : List KE := [(.aload_n 0, 1, (0, 0, 0), 0, 0), (.iload_n 1, 1, (1, 0, 0), 0, 0), (.putfield 35, 3, (7, 0, 0), 0, 0), (.iconst 0, 1, (0, 0, 0), 0, 0), (.ireturn, 1, (0, 0, 0), 0, 0)]
theorem kwX7_no_0 {X : KX} {S : KS} {mc ms : Nat} {E : KEnd} {ls : KL} {st : List KV} {M : KM} {cs sl : Nat} (hC : KC X mX7_no 7 false S mc ms) (hE : KRet X mX7_no E) (h : kblk (kroom mX7_no mc ms) S E (KW X) kbX7_no_0 0 ls st M cs sl) : KW X 0 ls st M cs sl := KW_blk hC hE kbX7_no_0 0 ls st M cs sl (by decide +kernel) h
def kbX7_pass_0 : List KE := [(.aload_n 0, 1, (0, 0, 0), 0, 0), (.iconst 0, 1, (0, 0, 0), 0, 0), (.putfield 35, 3, (7, 0, 0), 0, 0), (.iload_n 1, 1, (1, 0, 0), 0, 0), (.iconst 1, 1, (0, 0, 0), 1, 0), (.sipush (200), 3, (0, 0, 0), 200, 0)]
theorem kwX7_pass_0 {X : KX} {S : KS} {mc ms : Nat} {E : KEnd} {ls : KL} {st : List KV} {M : KM} {cs sl : Nat} (hC : KC X mX7_pass 7 false S mc ms) (hE : KRet X mX7_pass E) (h : kblk (kroom mX7_pass mc ms) S E (KW X) kbX7_pass_0 0 ls st M cs sl) : KW X 0 ls st M cs sl := KW_blk hC hE kbX7_pass_0 0 ls st M cs sl (by decide +kernel) h
def kbX7_pass_13 : List KE := [(.ifCond .ne (9), 3, (22, 0, 0), 0, 0)]
theorem kwX7_pass_13 {X : KX} {S : KS} {mc ms : Nat} {E : KEnd} {ls : KL} {st : List KV} {M : KM} {cs sl : Nat} (hC : KC X mX7_pass 7 false S mc ms) (hE : KRet X mX7_pass E) (h : kblk (kroom mX7_pass mc ms) S E (KW X) kbX7_pass_13 13 ls st M cs sl) : KW X 13 ls st M cs sl := KW_blk hC hE kbX7_pass_13 13 ls st M cs sl (by decide +kernel) h
def kbX7_pass_16 : List KE := [(.aload_n 0, 1, (0, 0, 0), 0, 0), (.iconst 1, 1, (0, 0, 0), 1, 0)]
theorem kwX7_pass_16 {X : KX} {S : KS} {mc ms : Nat} {E : KEnd} {ls : KL} {st : List KV} {M : KM} {cs sl : Nat} (hC : KC X mX7_pass 7 false S mc ms) (hE : KRet X mX7_pass E) (h : kblk (kroom mX7_pass mc ms) S E (KW X) kbX7_pass_16 16 ls st M cs sl) : KW X 16 ls st M cs sl := KW_blk hC hE kbX7_pass_16 16 ls st M cs sl (by decide +kernel) h
def kbX7_pass_21 : List KE := [(.ireturn, 1, (0, 0, 0), 0, 0)]
theorem kwX7_pass_21 {X : KX} {S : KS} {mc ms : Nat} {E : KEnd} {ls : KL} {st : List KV} {M : KM} {cs sl : Nat} (hC : KC X mX7_pass 7 false S mc ms) (hE : KRet X mX7_pass E) (h : kblk (kroom mX7_pass mc ms) S E (KW X) kbX7_pass_21 21 ls st M cs sl) : KW X 21 ls st M cs sl := KW_blk hC hE kbX7_pass_21 21 ls st M cs sl (by decide +kernel) h
def kbX7_pass_22 : List KE := [(.iconst 0, 1, (0, 0, 0), 0, 0), (.istore_n 2, 1, (2, 0, 0), 0, 0), (.iconst 0, 1, (0, 0, 0), 0, 0), (.istore_n 3, 1, (3, 0, 0), 0, 0)]
theorem kwX7_pass_22 {X : KX} {S : KS} {mc ms : Nat} {E : KEnd} {ls : KL} {st : List KV} {M : KM} {cs sl : Nat} (hC : KC X mX7_pass 7 false S mc ms) (hE : KRet X mX7_pass E) (h : kblk (kroom mX7_pass mc ms) S E (KW X) kbX7_pass_22 22 ls st M cs sl) : KW X 22 ls st M cs sl := KW_blk hC hE kbX7_pass_22 22 ls st M cs sl (by decide +kernel) h
def kbX7_pass_26 : List KE := [(.iload_n 3, 1, (3, 0, 0), 0, 0), (.iload_n 1, 1, (1, 0, 0), 0, 0), (.if_icmp .ge (19), 3, (47, 0, 0), 0, 0)]
theorem kwX7_pass_26 {X : KX} {S : KS} {mc ms : Nat} {E : KEnd} {ls : KL} {st : List KV} {M : KM} {cs sl : Nat} (hC : KC X mX7_pass 7 false S mc ms) (hE : KRet X mX7_pass E) (h : kblk (kroom mX7_pass mc ms) S E (KW X) kbX7_pass_26 26 ls st M cs sl) : KW X 26 ls st M cs sl := KW_blk hC hE kbX7_pass_26 26 ls st M cs sl (by decide +kernel) h
def kbX7_pass_31 : List KE := [(.iload_n 2, 1, (2, 0, 0), 0, 0), (.aload_n 0, 1, (0, 0, 0), 0, 0), (.getfield 28, 3, (7, 7, 1), 0, 0)]
theorem kwX7_pass_31 {X : KX} {S : KS} {mc ms : Nat} {E : KEnd} {ls : KL} {st : List KV} {M : KM} {cs sl : Nat} (hC : KC X mX7_pass 7 false S mc ms) (hE : KRet X mX7_pass E) (h : kblk (kroom mX7_pass mc ms) S E (KW X) kbX7_pass_31 31 ls st M cs sl) : KW X 31 ls st M cs sl := KW_blk hC hE kbX7_pass_31 31 ls st M cs sl (by decide +kernel) h
def kbX7_pass_39 : List KE := [(.iadd, 1, (0, 0, 0), 0, 0), (.istore_n 2, 1, (2, 0, 0), 0, 0), (.iinc 3 (1), 3, (3, 0, 0), 1, 0), (.goto (-18), 3, (26, 0, 0), 0, 0)]
theorem kwX7_pass_39 {X : KX} {S : KS} {mc ms : Nat} {E : KEnd} {ls : KL} {st : List KV} {M : KM} {cs sl : Nat} (hC : KC X mX7_pass 7 false S mc ms) (hE : KRet X mX7_pass E) (h : kblk (kroom mX7_pass mc ms) S E (KW X) kbX7_pass_39 39 ls st M cs sl) : KW X 39 ls st M cs sl := KW_blk hC hE kbX7_pass_39 39 ls st M cs sl (by decide +kernel) h
def kbX7_pass_47 : List KE := [(.iload_n 2, 1, (2, 0, 0), 0, 0), (.ireturn, 1, (0, 0, 0), 0, 0)]
theorem kwX7_pass_47 {X : KX} {S : KS} {mc ms : Nat} {E : KEnd} {ls : KL} {st : List KV} {M : KM} {cs sl : Nat} (hC : KC X mX7_pass 7 false S mc ms) (hE : KRet X mX7_pass E) (h : kblk (kroom mX7_pass mc ms) S E (KW X) kbX7_pass_47 47 ls st M cs sl) : KW X 47 ls st M cs sl := KW_blk hC hE kbX7_pass_47 47 ls st M cs sl (by decide +kernel) h
def kbX7_queue_0 : List KE := [(.aload_n 0, 1, (0, 0, 0), 0, 0), (.iconst 0, 1, (0, 0, 0), 0, 0), (.putfield 35, 3, (7, 0, 0), 0, 0), (.aload_n 0, 1, (0, 0, 0), 0, 0), (.iload_n 1, 1, (1, 0, 0), 0, 0)]
theorem kwX7_queue_0 {X : KX} {S : KS} {mc ms : Nat} {E : KEnd} {ls : KL} {st : List KV} {M : KM} {cs sl : Nat} (hC : KC X mX7_queue 7 false S mc ms) (hE : KRet X mX7_queue E) (h : kblk (kroom mX7_queue mc ms) S E (KW X) kbX7_queue_0 0 ls st M cs sl) : KW X 0 ls st M cs sl := KW_blk hC hE kbX7_queue_0 0 ls st M cs sl (by decide +kernel) h
def kbX7_queue_10 : List KE := [(.ifCond .eq (39), 3, (49, 0, 0), 0, 0)]
theorem kwX7_queue_10 {X : KX} {S : KS} {mc ms : Nat} {E : KEnd} {ls : KL} {st : List KV} {M : KM} {cs sl : Nat} (hC : KC X mX7_queue 7 false S mc ms) (hE : KRet X mX7_queue E) (h : kblk (kroom mX7_queue mc ms) S E (KW X) kbX7_queue_10 10 ls st M cs sl) : KW X 10 ls st M cs sl := KW_blk hC hE kbX7_queue_10 10 ls st M cs sl (by decide +kernel) h
def kbX7_queue_13 : List KE := [(.iload_n 2, 1, (2, 0, 0), 0, 0), (.iconst 0, 1, (0, 0, 0), 0, 0), (.aload_n 0, 1, (0, 0, 0), 0, 0), (.getfield 28, 3, (7, 7, 1), 0, 0), (.getfield 119, 3, (6, 13, 1), 0, 0), (.iload_n 1, 1, (1, 0, 0), 0, 0), (.iaload, 1, (0, 0, 0), 0, 0), (.iconst 1, 1, (0, 0, 0), 1, 0), (.isub, 1, (0, 0, 0), 0, 0)]
theorem kwX7_queue_13 {X : KX} {S : KS} {mc ms : Nat} {E : KEnd} {ls : KL} {st : List KV} {M : KM} {cs sl : Nat} (hC : KC X mX7_queue 7 false S mc ms) (hE : KRet X mX7_queue E) (h : kblk (kroom mX7_queue mc ms) S E (KW X) kbX7_queue_13 13 ls st M cs sl) : KW X 13 ls st M cs sl := KW_blk hC hE kbX7_queue_13 13 ls st M cs sl (by decide +kernel) h
def kbX7_queue_29 : List KE := [(.ifCond .eq (20), 3, (49, 0, 0), 0, 0)]
theorem kwX7_queue_29 {X : KX} {S : KS} {mc ms : Nat} {E : KEnd} {ls : KL} {st : List KV} {M : KM} {cs sl : Nat} (hC : KC X mX7_queue 7 false S mc ms) (hE : KRet X mX7_queue E) (h : kblk (kroom mX7_queue mc ms) S E (KW X) kbX7_queue_29 29 ls st M cs sl) : KW X 29 ls st M cs sl := KW_blk hC hE kbX7_queue_29 29 ls st M cs sl (by decide +kernel) h
def kbX7_queue_32 : List KE := [(.aload_n 0, 1, (0, 0, 0), 0, 0), (.getfield 28, 3, (7, 7, 1), 0, 0), (.getfield 122, 3, (6, 14, 1), 0, 0), (.bipush (91), 2, (0, 0, 0), 91, 0), (.iload_n 1, 1, (1, 0, 0), 0, 0), (.imul, 1, (0, 0, 0), 0, 0), (.iload_n 2, 1, (2, 0, 0), 0, 0), (.iadd, 1, (0, 0, 0), 0, 0), (.iaload, 1, (0, 0, 0), 0, 0), (.goto (8), 3, (54, 0, 0), 0, 0)]
theorem kwX7_queue_32 {X : KX} {S : KS} {mc ms : Nat} {E : KEnd} {ls : KL} {st : List KV} {M : KM} {cs sl : Nat} (hC : KC X mX7_queue 7 false S mc ms) (hE : KRet X mX7_queue E) (h : kblk (kroom mX7_queue mc ms) S E (KW X) kbX7_queue_32 32 ls st M cs sl) : KW X 32 ls st M cs sl := KW_blk hC hE kbX7_queue_32 32 ls st M cs sl (by decide +kernel) h
def kbX7_queue_49 : List KE := [(.aload_n 0, 1, (0, 0, 0), 0, 0), (.iconst 1, 1, (0, 0, 0), 1, 0)]
theorem kwX7_queue_49 {X : KX} {S : KS} {mc ms : Nat} {E : KEnd} {ls : KL} {st : List KV} {M : KM} {cs sl : Nat} (hC : KC X mX7_queue 7 false S mc ms) (hE : KRet X mX7_queue E) (h : kblk (kroom mX7_queue mc ms) S E (KW X) kbX7_queue_49 49 ls st M cs sl) : KW X 49 ls st M cs sl := KW_blk hC hE kbX7_queue_49 49 ls st M cs sl (by decide +kernel) h
def kbX7_queue_54 : List KE := [(.ireturn, 1, (0, 0, 0), 0, 0)]
theorem kwX7_queue_54 {X : KX} {S : KS} {mc ms : Nat} {E : KEnd} {ls : KL} {st : List KV} {M : KM} {cs sl : Nat} (hC : KC X mX7_queue 7 false S mc ms) (hE : KRet X mX7_queue E) (h : kblk (kroom mX7_queue mc ms) S E (KW X) kbX7_queue_54 54 ls st M cs sl) : KW X 54 ls st M cs sl := KW_blk hC hE kbX7_queue_54 54 ls st M cs sl (by decide +kernel) h
def kbX7_rises_0 : List KE := [(.iconst 0, 1, (0, 0, 0), 0, 0), (.istore_n 3, 1, (3, 0, 0), 0, 0)]
theorem kwX7_rises_0 {X : KX} {S : KS} {mc ms : Nat} {E : KEnd} {ls : KL} {st : List KV} {M : KM} {cs sl : Nat} (hC : KC X mX7_rises 7 false S mc ms) (hE : KRet X mX7_rises E) (h : kblk (kroom mX7_rises mc ms) S E (KW X) kbX7_rises_0 0 ls st M cs sl) : KW X 0 ls st M cs sl := KW_blk hC hE kbX7_rises_0 0 ls st M cs sl (by decide +kernel) h
def kbX7_rises_2 : List KE := [(.iload_n 3, 1, (3, 0, 0), 0, 0), (.iload_n 2, 1, (2, 0, 0), 0, 0), (.if_icmp .ge (30), 3, (34, 0, 0), 0, 0)]
theorem kwX7_rises_2 {X : KX} {S : KS} {mc ms : Nat} {E : KEnd} {ls : KL} {st : List KV} {M : KM} {cs sl : Nat} (hC : KC X mX7_rises 7 false S mc ms) (hE : KRet X mX7_rises E) (h : kblk (kroom mX7_rises mc ms) S E (KW X) kbX7_rises_2 2 ls st M cs sl) : KW X 2 ls st M cs sl := KW_blk hC hE kbX7_rises_2 2 ls st M cs sl (by decide +kernel) h
def kbX7_rises_7 : List KE := [(.aload_n 0, 1, (0, 0, 0), 0, 0), (.getfield 32, 3, (7, 8, 1), 0, 0), (.getfield 82, 3, (6, 17, 1), 0, 0), (.iload_n 1, 1, (1, 0, 0), 0, 0), (.iaload, 1, (0, 0, 0), 0, 0), (.iconst 2, 1, (0, 0, 0), 2, 0), (.if_icmp .ge (17), 3, (34, 0, 0), 0, 0)]
theorem kwX7_rises_7 {X : KX} {S : KS} {mc ms : Nat} {E : KEnd} {ls : KL} {st : List KV} {M : KM} {cs sl : Nat} (hC : KC X mX7_rises 7 false S mc ms) (hE : KRet X mX7_rises E) (h : kblk (kroom mX7_rises mc ms) S E (KW X) kbX7_rises_7 7 ls st M cs sl) : KW X 7 ls st M cs sl := KW_blk hC hE kbX7_rises_7 7 ls st M cs sl (by decide +kernel) h
def kbX7_rises_20 : List KE := [(.aload_n 0, 1, (0, 0, 0), 0, 0), (.getfield 32, 3, (7, 8, 1), 0, 0)]
theorem kwX7_rises_20 {X : KX} {S : KS} {mc ms : Nat} {E : KEnd} {ls : KL} {st : List KV} {M : KM} {cs sl : Nat} (hC : KC X mX7_rises 7 false S mc ms) (hE : KRet X mX7_rises E) (h : kblk (kroom mX7_rises mc ms) S E (KW X) kbX7_rises_20 20 ls st M cs sl) : KW X 20 ls st M cs sl := KW_blk hC hE kbX7_rises_20 20 ls st M cs sl (by decide +kernel) h
def kbX7_rises_27 : List KE := [(.pop, 1, (0, 0, 0), 0, 0), (.iinc 3 (1), 3, (3, 0, 0), 1, 0), (.goto (-29), 3, (2, 0, 0), 0, 0)]
theorem kwX7_rises_27 {X : KX} {S : KS} {mc ms : Nat} {E : KEnd} {ls : KL} {st : List KV} {M : KM} {cs sl : Nat} (hC : KC X mX7_rises 7 false S mc ms) (hE : KRet X mX7_rises E) (h : kblk (kroom mX7_rises mc ms) S E (KW X) kbX7_rises_27 27 ls st M cs sl) : KW X 27 ls st M cs sl := KW_blk hC hE kbX7_rises_27 27 ls st M cs sl (by decide +kernel) h
def kbX7_rises_34 : List KE := [(.aload_n 0, 1, (0, 0, 0), 0, 0), (.getfield 32, 3, (7, 8, 1), 0, 0), (.getfield 82, 3, (6, 17, 1), 0, 0), (.iload_n 1, 1, (1, 0, 0), 0, 0), (.iaload, 1, (0, 0, 0), 0, 0), (.iconst 2, 1, (0, 0, 0), 2, 0), (.if_icmp .ne (7), 3, (51, 0, 0), 0, 0)]
theorem kwX7_rises_34 {X : KX} {S : KS} {mc ms : Nat} {E : KEnd} {ls : KL} {st : List KV} {M : KM} {cs sl : Nat} (hC : KC X mX7_rises 7 false S mc ms) (hE : KRet X mX7_rises E) (h : kblk (kroom mX7_rises mc ms) S E (KW X) kbX7_rises_34 34 ls st M cs sl) : KW X 34 ls st M cs sl := KW_blk hC hE kbX7_rises_34 34 ls st M cs sl (by decide +kernel) h
def kbX7_rises_47 : List KE := [(.iload_n 3, 1, (3, 0, 0), 0, 0), (.goto (4), 3, (52, 0, 0), 0, 0)]
theorem kwX7_rises_47 {X : KX} {S : KS} {mc ms : Nat} {E : KEnd} {ls : KL} {st : List KV} {M : KM} {cs sl : Nat} (hC : KC X mX7_rises 7 false S mc ms) (hE : KRet X mX7_rises E) (h : kblk (kroom mX7_rises mc ms) S E (KW X) kbX7_rises_47 47 ls st M cs sl) : KW X 47 ls st M cs sl := KW_blk hC hE kbX7_rises_47 47 ls st M cs sl (by decide +kernel) h
def kbX7_rises_51 : List KE := [(.iconst (-1), 1, (0, 0, 0), (-1), 0)]
theorem kwX7_rises_51 {X : KX} {S : KS} {mc ms : Nat} {E : KEnd} {ls : KL} {st : List KV} {M : KM} {cs sl : Nat} (hC : KC X mX7_rises 7 false S mc ms) (hE : KRet X mX7_rises E) (h : kblk (kroom mX7_rises mc ms) S E (KW X) kbX7_rises_51 51 ls st M cs sl) : KW X 51 ls st M cs sl := KW_blk hC hE kbX7_rises_51 51 ls st M cs sl (by decide +kernel) h
def kbX7_rises_52 : List KE := [(.ireturn, 1, (0, 0, 0), 0, 0)]
theorem kwX7_rises_52 {X : KX} {S : KS} {mc ms : Nat} {E : KEnd} {ls : KL} {st : List KV} {M : KM} {cs sl : Nat} (hC : KC X mX7_rises 7 false S mc ms) (hE : KRet X mX7_rises E) (h : kblk (kroom mX7_rises mc ms) S E (KW X) kbX7_rises_52 52 ls st M cs sl) : KW X 52 ls st M cs sl := KW_blk hC hE kbX7_rises_52 52 ls st M cs sl (by decide +kernel) h
def kbX7_setWind_0 : List KE := [(.aload_n 0, 1, (0, 0, 0), 0, 0), (.iconst 0, 1, (0, 0, 0), 0, 0), (.putfield 35, 3, (7, 0, 0), 0, 0), (.iload_n 1, 1, (1, 0, 0), 0, 0), (.iconst 0, 1, (0, 0, 0), 0, 0), (.bipush (23), 2, (0, 0, 0), 23, 0)]
theorem kwX7_setWind_0 {X : KX} {S : KS} {mc ms : Nat} {E : KEnd} {ls : KL} {st : List KV} {M : KM} {cs sl : Nat} (hC : KC X mX7_setWind 7 false S mc ms) (hE : KRet X mX7_setWind E) (h : kblk (kroom mX7_setWind mc ms) S E (KW X) kbX7_setWind_0 0 ls st M cs sl) : KW X 0 ls st M cs sl := KW_blk hC hE kbX7_setWind_0 0 ls st M cs sl (by decide +kernel) h
def kbX7_setWind_12 : List KE := [(.ifCond .ne (9), 3, (21, 0, 0), 0, 0)]
theorem kwX7_setWind_12 {X : KX} {S : KS} {mc ms : Nat} {E : KEnd} {ls : KL} {st : List KV} {M : KM} {cs sl : Nat} (hC : KC X mX7_setWind 7 false S mc ms) (hE : KRet X mX7_setWind E) (h : kblk (kroom mX7_setWind mc ms) S E (KW X) kbX7_setWind_12 12 ls st M cs sl) : KW X 12 ls st M cs sl := KW_blk hC hE kbX7_setWind_12 12 ls st M cs sl (by decide +kernel) h
def kbX7_setWind_15 : List KE := [(.aload_n 0, 1, (0, 0, 0), 0, 0), (.iconst 1, 1, (0, 0, 0), 1, 0)]
theorem kwX7_setWind_15 {X : KX} {S : KS} {mc ms : Nat} {E : KEnd} {ls : KL} {st : List KV} {M : KM} {cs sl : Nat} (hC : KC X mX7_setWind 7 false S mc ms) (hE : KRet X mX7_setWind E) (h : kblk (kroom mX7_setWind mc ms) S E (KW X) kbX7_setWind_15 15 ls st M cs sl) : KW X 15 ls st M cs sl := KW_blk hC hE kbX7_setWind_15 15 ls st M cs sl (by decide +kernel) h
def kbX7_setWind_20 : List KE := [(.ireturn, 1, (0, 0, 0), 0, 0)]
theorem kwX7_setWind_20 {X : KX} {S : KS} {mc ms : Nat} {E : KEnd} {ls : KL} {st : List KV} {M : KM} {cs sl : Nat} (hC : KC X mX7_setWind 7 false S mc ms) (hE : KRet X mX7_setWind E) (h : kblk (kroom mX7_setWind mc ms) S E (KW X) kbX7_setWind_20 20 ls st M cs sl) : KW X 20 ls st M cs sl := KW_blk hC hE kbX7_setWind_20 20 ls st M cs sl (by decide +kernel) h
def kbX7_setWind_21 : List KE := [(.iload_n 2, 1, (2, 0, 0), 0, 0), (.iconst 0, 1, (0, 0, 0), 0, 0), (.bipush (9), 2, (0, 0, 0), 9, 0)]
theorem kwX7_setWind_21 {X : KX} {S : KS} {mc ms : Nat} {E : KEnd} {ls : KL} {st : List KV} {M : KM} {cs sl : Nat} (hC : KC X mX7_setWind 7 false S mc ms) (hE : KRet X mX7_setWind E) (h : kblk (kroom mX7_setWind mc ms) S E (KW X) kbX7_setWind_21 21 ls st M cs sl) : KW X 21 ls st M cs sl := KW_blk hC hE kbX7_setWind_21 21 ls st M cs sl (by decide +kernel) h
def kbX7_setWind_28 : List KE := [(.ifCond .ne (9), 3, (37, 0, 0), 0, 0)]
theorem kwX7_setWind_28 {X : KX} {S : KS} {mc ms : Nat} {E : KEnd} {ls : KL} {st : List KV} {M : KM} {cs sl : Nat} (hC : KC X mX7_setWind 7 false S mc ms) (hE : KRet X mX7_setWind E) (h : kblk (kroom mX7_setWind mc ms) S E (KW X) kbX7_setWind_28 28 ls st M cs sl) : KW X 28 ls st M cs sl := KW_blk hC hE kbX7_setWind_28 28 ls st M cs sl (by decide +kernel) h
def kbX7_setWind_31 : List KE := [(.aload_n 0, 1, (0, 0, 0), 0, 0), (.iconst 2, 1, (0, 0, 0), 2, 0)]
theorem kwX7_setWind_31 {X : KX} {S : KS} {mc ms : Nat} {E : KEnd} {ls : KL} {st : List KV} {M : KM} {cs sl : Nat} (hC : KC X mX7_setWind 7 false S mc ms) (hE : KRet X mX7_setWind E) (h : kblk (kroom mX7_setWind mc ms) S E (KW X) kbX7_setWind_31 31 ls st M cs sl) : KW X 31 ls st M cs sl := KW_blk hC hE kbX7_setWind_31 31 ls st M cs sl (by decide +kernel) h
def kbX7_setWind_36 : List KE := [(.ireturn, 1, (0, 0, 0), 0, 0)]
theorem kwX7_setWind_36 {X : KX} {S : KS} {mc ms : Nat} {E : KEnd} {ls : KL} {st : List KV} {M : KM} {cs sl : Nat} (hC : KC X mX7_setWind 7 false S mc ms) (hE : KRet X mX7_setWind E) (h : kblk (kroom mX7_setWind mc ms) S E (KW X) kbX7_setWind_36 36 ls st M cs sl) : KW X 36 ls st M cs sl := KW_blk hC hE kbX7_setWind_36 36 ls st M cs sl (by decide +kernel) h
def kbX7_setWind_37 : List KE := [(.aload_n 0, 1, (0, 0, 0), 0, 0), (.getfield 20, 3, (7, 6, 1), 0, 0), (.iload_n 1, 1, (1, 0, 0), 0, 0), (.iaload, 1, (0, 0, 0), 0, 0), (.istore_n 3, 1, (3, 0, 0), 0, 0), (.aload_n 0, 1, (0, 0, 0), 0, 0), (.getfield 20, 3, (7, 6, 1), 0, 0), (.iload_n 1, 1, (1, 0, 0), 0, 0), (.iload_n 2, 1, (2, 0, 0), 0, 0), (.iastore, 1, (0, 0, 0), 0, 0), (.iload_n 3, 1, (3, 0, 0), 0, 0), (.ireturn, 1, (0, 0, 0), 0, 0)]
theorem kwX7_setWind_37 {X : KX} {S : KS} {mc ms : Nat} {E : KEnd} {ls : KL} {st : List KV} {M : KM} {cs sl : Nat} (hC : KC X mX7_setWind 7 false S mc ms) (hE : KRet X mX7_setWind E) (h : kblk (kroom mX7_setWind mc ms) S E (KW X) kbX7_setWind_37 37 ls st M cs sl) : KW X 37 ls st M cs sl := KW_blk hC hE kbX7_setWind_37 37 ls st M cs sl (by decide +kernel) h
def kbX7_shed_0 : List KE := [(.aload_n 0, 1, (0, 0, 0), 0, 0), (.iconst 0, 1, (0, 0, 0), 0, 0), (.putfield 35, 3, (7, 0, 0), 0, 0), (.iload_n 1, 1, (1, 0, 0), 0, 0), (.iconst 0, 1, (0, 0, 0), 0, 0), (.aload_n 0, 1, (0, 0, 0), 0, 0), (.getfield 28, 3, (7, 7, 1), 0, 0), (.getfield 65, 3, (6, 8, 0), 0, 0), (.iconst 1, 1, (0, 0, 0), 1, 0), (.isub, 1, (0, 0, 0), 0, 0)]
theorem kwX7_shed_0 {X : KX} {S : KS} {mc ms : Nat} {E : KEnd} {ls : KL} {st : List KV} {M : KM} {cs sl : Nat} (hC : KC X mX7_shed 7 false S mc ms) (hE : KRet X mX7_shed E) (h : kblk (kroom mX7_shed mc ms) S E (KW X) kbX7_shed_0 0 ls st M cs sl) : KW X 0 ls st M cs sl := KW_blk hC hE kbX7_shed_0 0 ls st M cs sl (by decide +kernel) h
def kbX7_shed_19 : List KE := [(.ifCond .eq (15), 3, (34, 0, 0), 0, 0)]
theorem kwX7_shed_19 {X : KX} {S : KS} {mc ms : Nat} {E : KEnd} {ls : KL} {st : List KV} {M : KM} {cs sl : Nat} (hC : KC X mX7_shed 7 false S mc ms) (hE : KRet X mX7_shed E) (h : kblk (kroom mX7_shed mc ms) S E (KW X) kbX7_shed_19 19 ls st M cs sl) : KW X 19 ls st M cs sl := KW_blk hC hE kbX7_shed_19 19 ls st M cs sl (by decide +kernel) h
def kbX7_shed_22 : List KE := [(.aload_n 0, 1, (0, 0, 0), 0, 0), (.getfield 28, 3, (7, 7, 1), 0, 0), (.getfield 62, 3, (6, 9, 1), 0, 0), (.iload_n 1, 1, (1, 0, 0), 0, 0), (.iaload, 1, (0, 0, 0), 0, 0), (.goto (8), 3, (39, 0, 0), 0, 0)]
theorem kwX7_shed_22 {X : KX} {S : KS} {mc ms : Nat} {E : KEnd} {ls : KL} {st : List KV} {M : KM} {cs sl : Nat} (hC : KC X mX7_shed 7 false S mc ms) (hE : KRet X mX7_shed E) (h : kblk (kroom mX7_shed mc ms) S E (KW X) kbX7_shed_22 22 ls st M cs sl) : KW X 22 ls st M cs sl := KW_blk hC hE kbX7_shed_22 22 ls st M cs sl (by decide +kernel) h
def kbX7_shed_34 : List KE := [(.aload_n 0, 1, (0, 0, 0), 0, 0), (.iconst 1, 1, (0, 0, 0), 1, 0)]
theorem kwX7_shed_34 {X : KX} {S : KS} {mc ms : Nat} {E : KEnd} {ls : KL} {st : List KV} {M : KM} {cs sl : Nat} (hC : KC X mX7_shed 7 false S mc ms) (hE : KRet X mX7_shed E) (h : kblk (kroom mX7_shed mc ms) S E (KW X) kbX7_shed_34 34 ls st M cs sl) : KW X 34 ls st M cs sl := KW_blk hC hE kbX7_shed_34 34 ls st M cs sl (by decide +kernel) h
def kbX7_shed_39 : List KE := [(.ireturn, 1, (0, 0, 0), 0, 0)]
theorem kwX7_shed_39 {X : KX} {S : KS} {mc ms : Nat} {E : KEnd} {ls : KL} {st : List KV} {M : KM} {cs sl : Nat} (hC : KC X mX7_shed 7 false S mc ms) (hE : KRet X mX7_shed E) (h : kblk (kroom mX7_shed mc ms) S E (KW X) kbX7_shed_39 39 ls st M cs sl) : KW X 39 ls st M cs sl := KW_blk hC hE kbX7_shed_39 39 ls st M cs sl (by decide +kernel) h
def kbX7_shut_0 : List KE := [(.aload_n 0, 1, (0, 0, 0), 0, 0), (.iconst 0, 1, (0, 0, 0), 0, 0), (.putfield 35, 3, (7, 0, 0), 0, 0), (.aload_n 0, 1, (0, 0, 0), 0, 0), (.iload_n 1, 1, (1, 0, 0), 0, 0)]
theorem kwX7_shut_0 {X : KX} {S : KS} {mc ms : Nat} {E : KEnd} {ls : KL} {st : List KV} {M : KM} {cs sl : Nat} (hC : KC X mX7_shut 7 false S mc ms) (hE : KRet X mX7_shut E) (h : kblk (kroom mX7_shut mc ms) S E (KW X) kbX7_shut_0 0 ls st M cs sl) : KW X 0 ls st M cs sl := KW_blk hC hE kbX7_shut_0 0 ls st M cs sl (by decide +kernel) h
def kbX7_shut_10 : List KE := [(.ifCond .ne (17), 3, (27, 0, 0), 0, 0)]
theorem kwX7_shut_10 {X : KX} {S : KS} {mc ms : Nat} {E : KEnd} {ls : KL} {st : List KV} {M : KM} {cs sl : Nat} (hC : KC X mX7_shut 7 false S mc ms) (hE : KRet X mX7_shut E) (h : kblk (kroom mX7_shut mc ms) S E (KW X) kbX7_shut_10 10 ls st M cs sl) : KW X 10 ls st M cs sl := KW_blk hC hE kbX7_shut_10 10 ls st M cs sl (by decide +kernel) h
def kbX7_shut_13 : List KE := [(.aload_n 0, 1, (0, 0, 0), 0, 0), (.iconst 1, 1, (0, 0, 0), 1, 0)]
theorem kwX7_shut_13 {X : KX} {S : KS} {mc ms : Nat} {E : KEnd} {ls : KL} {st : List KV} {M : KM} {cs sl : Nat} (hC : KC X mX7_shut 7 false S mc ms) (hE : KRet X mX7_shut E) (h : kblk (kroom mX7_shut mc ms) S E (KW X) kbX7_shut_13 13 ls st M cs sl) : KW X 13 ls st M cs sl := KW_blk hC hE kbX7_shut_13 13 ls st M cs sl (by decide +kernel) h
def kbX7_shut_18 : List KE := [(.ifCond .eq (7), 3, (25, 0, 0), 0, 0)]
theorem kwX7_shut_18 {X : KX} {S : KS} {mc ms : Nat} {E : KEnd} {ls : KL} {st : List KV} {M : KM} {cs sl : Nat} (hC : KC X mX7_shut 7 false S mc ms) (hE : KRet X mX7_shut E) (h : kblk (kroom mX7_shut mc ms) S E (KW X) kbX7_shut_18 18 ls st M cs sl) : KW X 18 ls st M cs sl := KW_blk hC hE kbX7_shut_18 18 ls st M cs sl (by decide +kernel) h
def kbX7_shut_21 : List KE := [(.iconst 1, 1, (0, 0, 0), 1, 0), (.goto (4), 3, (26, 0, 0), 0, 0)]
theorem kwX7_shut_21 {X : KX} {S : KS} {mc ms : Nat} {E : KEnd} {ls : KL} {st : List KV} {M : KM} {cs sl : Nat} (hC : KC X mX7_shut 7 false S mc ms) (hE : KRet X mX7_shut E) (h : kblk (kroom mX7_shut mc ms) S E (KW X) kbX7_shut_21 21 ls st M cs sl) : KW X 21 ls st M cs sl := KW_blk hC hE kbX7_shut_21 21 ls st M cs sl (by decide +kernel) h
def kbX7_shut_25 : List KE := [(.iconst 0, 1, (0, 0, 0), 0, 0)]
theorem kwX7_shut_25 {X : KX} {S : KS} {mc ms : Nat} {E : KEnd} {ls : KL} {st : List KV} {M : KM} {cs sl : Nat} (hC : KC X mX7_shut 7 false S mc ms) (hE : KRet X mX7_shut E) (h : kblk (kroom mX7_shut mc ms) S E (KW X) kbX7_shut_25 25 ls st M cs sl) : KW X 25 ls st M cs sl := KW_blk hC hE kbX7_shut_25 25 ls st M cs sl (by decide +kernel) h
def kbX7_shut_26 : List KE := [(.ireturn, 1, (0, 0, 0), 0, 0)]
theorem kwX7_shut_26 {X : KX} {S : KS} {mc ms : Nat} {E : KEnd} {ls : KL} {st : List KV} {M : KM} {cs sl : Nat} (hC : KC X mX7_shut 7 false S mc ms) (hE : KRet X mX7_shut E) (h : kblk (kroom mX7_shut mc ms) S E (KW X) kbX7_shut_26 26 ls st M cs sl) : KW X 26 ls st M cs sl := KW_blk hC hE kbX7_shut_26 26 ls st M cs sl (by decide +kernel) h
def kbX7_shut_27 : List KE := [(.aload_n 0, 1, (0, 0, 0), 0, 0), (.getfield 17, 3, (7, 5, 1), 0, 0), (.iload_n 1, 1, (1, 0, 0), 0, 0), (.iaload, 1, (0, 0, 0), 0, 0), (.iconst 1, 1, (0, 0, 0), 1, 0), (.if_icmp .ne (7), 3, (41, 0, 0), 0, 0)]
theorem kwX7_shut_27 {X : KX} {S : KS} {mc ms : Nat} {E : KEnd} {ls : KL} {st : List KV} {M : KM} {cs sl : Nat} (hC : KC X mX7_shut 7 false S mc ms) (hE : KRet X mX7_shut E) (h : kblk (kroom mX7_shut mc ms) S E (KW X) kbX7_shut_27 27 ls st M cs sl) : KW X 27 ls st M cs sl := KW_blk hC hE kbX7_shut_27 27 ls st M cs sl (by decide +kernel) h
def kbX7_shut_37 : List KE := [(.iconst 1, 1, (0, 0, 0), 1, 0), (.goto (4), 3, (42, 0, 0), 0, 0)]
theorem kwX7_shut_37 {X : KX} {S : KS} {mc ms : Nat} {E : KEnd} {ls : KL} {st : List KV} {M : KM} {cs sl : Nat} (hC : KC X mX7_shut 7 false S mc ms) (hE : KRet X mX7_shut E) (h : kblk (kroom mX7_shut mc ms) S E (KW X) kbX7_shut_37 37 ls st M cs sl) : KW X 37 ls st M cs sl := KW_blk hC hE kbX7_shut_37 37 ls st M cs sl (by decide +kernel) h
def kbX7_shut_41 : List KE := [(.iconst 0, 1, (0, 0, 0), 0, 0)]
theorem kwX7_shut_41 {X : KX} {S : KS} {mc ms : Nat} {E : KEnd} {ls : KL} {st : List KV} {M : KM} {cs sl : Nat} (hC : KC X mX7_shut 7 false S mc ms) (hE : KRet X mX7_shut E) (h : kblk (kroom mX7_shut mc ms) S E (KW X) kbX7_shut_41 41 ls st M cs sl) : KW X 41 ls st M cs sl := KW_blk hC hE kbX7_shut_41 41 ls st M cs sl (by decide +kernel) h
def kbX7_shut_42 : List KE := [(.istore_n 3, 1, (3, 0, 0), 0, 0), (.aload_n 0, 1, (0, 0, 0), 0, 0), (.getfield 17, 3, (7, 5, 1), 0, 0), (.iload_n 1, 1, (1, 0, 0), 0, 0), (.iload_n 2, 1, (2, 0, 0), 0, 0), (.ifCond .eq (7), 3, (56, 0, 0), 0, 0)]
theorem kwX7_shut_42 {X : KX} {S : KS} {mc ms : Nat} {E : KEnd} {ls : KL} {st : List KV} {M : KM} {cs sl : Nat} (hC : KC X mX7_shut 7 false S mc ms) (hE : KRet X mX7_shut E) (h : kblk (kroom mX7_shut mc ms) S E (KW X) kbX7_shut_42 42 ls st M cs sl) : KW X 42 ls st M cs sl := KW_blk hC hE kbX7_shut_42 42 ls st M cs sl (by decide +kernel) h
def kbX7_shut_52 : List KE := [(.iconst 1, 1, (0, 0, 0), 1, 0), (.goto (4), 3, (57, 0, 0), 0, 0)]
theorem kwX7_shut_52 {X : KX} {S : KS} {mc ms : Nat} {E : KEnd} {ls : KL} {st : List KV} {M : KM} {cs sl : Nat} (hC : KC X mX7_shut 7 false S mc ms) (hE : KRet X mX7_shut E) (h : kblk (kroom mX7_shut mc ms) S E (KW X) kbX7_shut_52 52 ls st M cs sl) : KW X 52 ls st M cs sl := KW_blk hC hE kbX7_shut_52 52 ls st M cs sl (by decide +kernel) h
def kbX7_shut_56 : List KE := [(.iconst 0, 1, (0, 0, 0), 0, 0)]
theorem kwX7_shut_56 {X : KX} {S : KS} {mc ms : Nat} {E : KEnd} {ls : KL} {st : List KV} {M : KM} {cs sl : Nat} (hC : KC X mX7_shut 7 false S mc ms) (hE : KRet X mX7_shut E) (h : kblk (kroom mX7_shut mc ms) S E (KW X) kbX7_shut_56 56 ls st M cs sl) : KW X 56 ls st M cs sl := KW_blk hC hE kbX7_shut_56 56 ls st M cs sl (by decide +kernel) h
def kbX7_shut_57 : List KE := [(.iastore, 1, (0, 0, 0), 0, 0), (.iload_n 3, 1, (3, 0, 0), 0, 0), (.ireturn, 1, (0, 0, 0), 0, 0)]
theorem kwX7_shut_57 {X : KX} {S : KS} {mc ms : Nat} {E : KEnd} {ls : KL} {st : List KV} {M : KM} {cs sl : Nat} (hC : KC X mX7_shut 7 false S mc ms) (hE : KRet X mX7_shut E) (h : kblk (kroom mX7_shut mc ms) S E (KW X) kbX7_shut_57 57 ls st M cs sl) : KW X 57 ls st M cs sl := KW_blk hC hE kbX7_shut_57 57 ls st M cs sl (by decide +kernel) h
def kbX7_stretch_0 : List KE := [(.aload_n 0, 1, (0, 0, 0), 0, 0), (.iconst 0, 1, (0, 0, 0), 0, 0), (.putfield 35, 3, (7, 0, 0), 0, 0), (.iload_n 1, 1, (1, 0, 0), 0, 0), (.iconst 2, 1, (0, 0, 0), 2, 0), (.bipush (12), 2, (0, 0, 0), 12, 0)]
theorem kwX7_stretch_0 {X : KX} {S : KS} {mc ms : Nat} {E : KEnd} {ls : KL} {st : List KV} {M : KM} {cs sl : Nat} (hC : KC X mX7_stretch 7 false S mc ms) (hE : KRet X mX7_stretch E) (h : kblk (kroom mX7_stretch mc ms) S E (KW X) kbX7_stretch_0 0 ls st M cs sl) : KW X 0 ls st M cs sl := KW_blk hC hE kbX7_stretch_0 0 ls st M cs sl (by decide +kernel) h
def kbX7_stretch_12 : List KE := [(.ifCond .ne (9), 3, (21, 0, 0), 0, 0)]
theorem kwX7_stretch_12 {X : KX} {S : KS} {mc ms : Nat} {E : KEnd} {ls : KL} {st : List KV} {M : KM} {cs sl : Nat} (hC : KC X mX7_stretch 7 false S mc ms) (hE : KRet X mX7_stretch E) (h : kblk (kroom mX7_stretch mc ms) S E (KW X) kbX7_stretch_12 12 ls st M cs sl) : KW X 12 ls st M cs sl := KW_blk hC hE kbX7_stretch_12 12 ls st M cs sl (by decide +kernel) h
def kbX7_stretch_15 : List KE := [(.aload_n 0, 1, (0, 0, 0), 0, 0), (.iconst 1, 1, (0, 0, 0), 1, 0)]
theorem kwX7_stretch_15 {X : KX} {S : KS} {mc ms : Nat} {E : KEnd} {ls : KL} {st : List KV} {M : KM} {cs sl : Nat} (hC : KC X mX7_stretch 7 false S mc ms) (hE : KRet X mX7_stretch E) (h : kblk (kroom mX7_stretch mc ms) S E (KW X) kbX7_stretch_15 15 ls st M cs sl) : KW X 15 ls st M cs sl := KW_blk hC hE kbX7_stretch_15 15 ls st M cs sl (by decide +kernel) h
def kbX7_stretch_20 : List KE := [(.ireturn, 1, (0, 0, 0), 0, 0)]
theorem kwX7_stretch_20 {X : KX} {S : KS} {mc ms : Nat} {E : KEnd} {ls : KL} {st : List KV} {M : KM} {cs sl : Nat} (hC : KC X mX7_stretch 7 false S mc ms) (hE : KRet X mX7_stretch E) (h : kblk (kroom mX7_stretch mc ms) S E (KW X) kbX7_stretch_20 20 ls st M cs sl) : KW X 20 ls st M cs sl := KW_blk hC hE kbX7_stretch_20 20 ls st M cs sl (by decide +kernel) h
def kbX7_stretch_21 : List KE := [(.aload_n 0, 1, (0, 0, 0), 0, 0), (.getfield 28, 3, (7, 7, 1), 0, 0)]
theorem kwX7_stretch_21 {X : KX} {S : KS} {mc ms : Nat} {E : KEnd} {ls : KL} {st : List KV} {M : KM} {cs sl : Nat} (hC : KC X mX7_stretch 7 false S mc ms) (hE : KRet X mX7_stretch E) (h : kblk (kroom mX7_stretch mc ms) S E (KW X) kbX7_stretch_21 21 ls st M cs sl) : KW X 21 ls st M cs sl := KW_blk hC hE kbX7_stretch_21 21 ls st M cs sl (by decide +kernel) h
def kbX7_stretch_28 : List KE := [(.ifCond .le (9), 3, (37, 0, 0), 0, 0)]
theorem kwX7_stretch_28 {X : KX} {S : KS} {mc ms : Nat} {E : KEnd} {ls : KL} {st : List KV} {M : KM} {cs sl : Nat} (hC : KC X mX7_stretch 7 false S mc ms) (hE : KRet X mX7_stretch E) (h : kblk (kroom mX7_stretch mc ms) S E (KW X) kbX7_stretch_28 28 ls st M cs sl) : KW X 28 ls st M cs sl := KW_blk hC hE kbX7_stretch_28 28 ls st M cs sl (by decide +kernel) h
def kbX7_stretch_31 : List KE := [(.aload_n 0, 1, (0, 0, 0), 0, 0), (.iconst 2, 1, (0, 0, 0), 2, 0)]
theorem kwX7_stretch_31 {X : KX} {S : KS} {mc ms : Nat} {E : KEnd} {ls : KL} {st : List KV} {M : KM} {cs sl : Nat} (hC : KC X mX7_stretch 7 false S mc ms) (hE : KRet X mX7_stretch E) (h : kblk (kroom mX7_stretch mc ms) S E (KW X) kbX7_stretch_31 31 ls st M cs sl) : KW X 31 ls st M cs sl := KW_blk hC hE kbX7_stretch_31 31 ls st M cs sl (by decide +kernel) h
def kbX7_stretch_36 : List KE := [(.ireturn, 1, (0, 0, 0), 0, 0)]
theorem kwX7_stretch_36 {X : KX} {S : KS} {mc ms : Nat} {E : KEnd} {ls : KL} {st : List KV} {M : KM} {cs sl : Nat} (hC : KC X mX7_stretch 7 false S mc ms) (hE : KRet X mX7_stretch E) (h : kblk (kroom mX7_stretch mc ms) S E (KW X) kbX7_stretch_36 36 ls st M cs sl) : KW X 36 ls st M cs sl := KW_blk hC hE kbX7_stretch_36 36 ls st M cs sl (by decide +kernel) h
def kbX7_stretch_37 : List KE := [(.aload_n 0, 1, (0, 0, 0), 0, 0), (.getfield 7, 3, (7, 1, 0), 0, 0), (.istore_n 2, 1, (2, 0, 0), 0, 0), (.aload_n 0, 1, (0, 0, 0), 0, 0), (.iload_n 1, 1, (1, 0, 0), 0, 0), (.putfield 7, 3, (7, 1, 0), 0, 0), (.iload_n 2, 1, (2, 0, 0), 0, 0), (.ireturn, 1, (0, 0, 0), 0, 0)]
theorem kwX7_stretch_37 {X : KX} {S : KS} {mc ms : Nat} {E : KEnd} {ls : KL} {st : List KV} {M : KM} {cs sl : Nat} (hC : KC X mX7_stretch 7 false S mc ms) (hE : KRet X mX7_stretch E) (h : kblk (kroom mX7_stretch mc ms) S E (KW X) kbX7_stretch_37 37 ls st M cs sl) : KW X 37 ls st M cs sl := KW_blk hC hE kbX7_stretch_37 37 ls st M cs sl (by decide +kernel) h
def kbX7_thrown_0 : List KE := [(.aload_n 0, 1, (0, 0, 0), 0, 0), (.getfield 35, 3, (7, 0, 0), 0, 0), (.ireturn, 1, (0, 0, 0), 0, 0)]
theorem kwX7_thrown_0 {X : KX} {S : KS} {mc ms : Nat} {E : KEnd} {ls : KL} {st : List KV} {M : KM} {cs sl : Nat} (hC : KC X mX7_thrown 7 false S mc ms) (hE : KRet X mX7_thrown E) (h : kblk (kroom mX7_thrown mc ms) S E (KW X) kbX7_thrown_0 0 ls st M cs sl) : KW X 0 ls st M cs sl := KW_blk hC hE kbX7_thrown_0 0 ls st M cs sl (by decide +kernel) h
def kbX7_want_0 : List KE := [(.aload_n 0, 1, (0, 0, 0), 0, 0), (.iconst 0, 1, (0, 0, 0), 0, 0), (.putfield 35, 3, (7, 0, 0), 0, 0), (.iload_n 1, 1, (1, 0, 0), 0, 0), (.iconst 0, 1, (0, 0, 0), 0, 0), (.bipush (20), 2, (0, 0, 0), 20, 0)]
theorem kwX7_want_0 {X : KX} {S : KS} {mc ms : Nat} {E : KEnd} {ls : KL} {st : List KV} {M : KM} {cs sl : Nat} (hC : KC X mX7_want 7 false S mc ms) (hE : KRet X mX7_want E) (h : kblk (kroom mX7_want mc ms) S E (KW X) kbX7_want_0 0 ls st M cs sl) : KW X 0 ls st M cs sl := KW_blk hC hE kbX7_want_0 0 ls st M cs sl (by decide +kernel) h
def kbX7_want_12 : List KE := [(.ifCond .ne (9), 3, (21, 0, 0), 0, 0)]
theorem kwX7_want_12 {X : KX} {S : KS} {mc ms : Nat} {E : KEnd} {ls : KL} {st : List KV} {M : KM} {cs sl : Nat} (hC : KC X mX7_want 7 false S mc ms) (hE : KRet X mX7_want E) (h : kblk (kroom mX7_want mc ms) S E (KW X) kbX7_want_12 12 ls st M cs sl) : KW X 12 ls st M cs sl := KW_blk hC hE kbX7_want_12 12 ls st M cs sl (by decide +kernel) h
def kbX7_want_15 : List KE := [(.aload_n 0, 1, (0, 0, 0), 0, 0), (.iconst 1, 1, (0, 0, 0), 1, 0)]
theorem kwX7_want_15 {X : KX} {S : KS} {mc ms : Nat} {E : KEnd} {ls : KL} {st : List KV} {M : KM} {cs sl : Nat} (hC : KC X mX7_want 7 false S mc ms) (hE : KRet X mX7_want E) (h : kblk (kroom mX7_want mc ms) S E (KW X) kbX7_want_15 15 ls st M cs sl) : KW X 15 ls st M cs sl := KW_blk hC hE kbX7_want_15 15 ls st M cs sl (by decide +kernel) h
def kbX7_want_20 : List KE := [(.ireturn, 1, (0, 0, 0), 0, 0)]
theorem kwX7_want_20 {X : KX} {S : KS} {mc ms : Nat} {E : KEnd} {ls : KL} {st : List KV} {M : KM} {cs sl : Nat} (hC : KC X mX7_want 7 false S mc ms) (hE : KRet X mX7_want E) (h : kblk (kroom mX7_want mc ms) S E (KW X) kbX7_want_20 20 ls st M cs sl) : KW X 20 ls st M cs sl := KW_blk hC hE kbX7_want_20 20 ls st M cs sl (by decide +kernel) h
def kbX7_want_21 : List KE := [(.aload_n 0, 1, (0, 0, 0), 0, 0), (.getfield 28, 3, (7, 7, 1), 0, 0), (.getfield 68, 3, (6, 1, 0), 0, 0), (.istore_n 2, 1, (2, 0, 0), 0, 0), (.aload_n 0, 1, (0, 0, 0), 0, 0), (.getfield 28, 3, (7, 7, 1), 0, 0), (.iload_n 1, 1, (1, 0, 0), 0, 0), (.putfield 68, 3, (6, 1, 0), 0, 0), (.iload_n 2, 1, (2, 0, 0), 0, 0), (.ireturn, 1, (0, 0, 0), 0, 0)]
theorem kwX7_want_21 {X : KX} {S : KS} {mc ms : Nat} {E : KEnd} {ls : KL} {st : List KV} {M : KM} {cs sl : Nat} (hC : KC X mX7_want 7 false S mc ms) (hE : KRet X mX7_want E) (h : kblk (kroom mX7_want mc ms) S E (KW X) kbX7_want_21 21 ls st M cs sl) : KW X 21 ls st M cs sl := KW_blk hC hE kbX7_want_21 21 ls st M cs sl (by decide +kernel) h
def kbX7_when_0 : List KE := [(.aload_n 0, 1, (0, 0, 0), 0, 0), (.iconst 0, 1, (0, 0, 0), 0, 0), (.putfield 35, 3, (7, 0, 0), 0, 0), (.aload_n 0, 1, (0, 0, 0), 0, 0), (.iload_n 1, 1, (1, 0, 0), 0, 0)]
theorem kwX7_when_0 {X : KX} {S : KS} {mc ms : Nat} {E : KEnd} {ls : KL} {st : List KV} {M : KM} {cs sl : Nat} (hC : KC X mX7_when 7 false S mc ms) (hE : KRet X mX7_when E) (h : kblk (kroom mX7_when mc ms) S E (KW X) kbX7_when_0 0 ls st M cs sl) : KW X 0 ls st M cs sl := KW_blk hC hE kbX7_when_0 0 ls st M cs sl (by decide +kernel) h
def kbX7_when_10 : List KE := [(.ifCond .ne (9), 3, (19, 0, 0), 0, 0)]
theorem kwX7_when_10 {X : KX} {S : KS} {mc ms : Nat} {E : KEnd} {ls : KL} {st : List KV} {M : KM} {cs sl : Nat} (hC : KC X mX7_when 7 false S mc ms) (hE : KRet X mX7_when E) (h : kblk (kroom mX7_when mc ms) S E (KW X) kbX7_when_10 10 ls st M cs sl) : KW X 10 ls st M cs sl := KW_blk hC hE kbX7_when_10 10 ls st M cs sl (by decide +kernel) h
def kbX7_when_13 : List KE := [(.aload_n 0, 1, (0, 0, 0), 0, 0), (.iconst 1, 1, (0, 0, 0), 1, 0)]
theorem kwX7_when_13 {X : KX} {S : KS} {mc ms : Nat} {E : KEnd} {ls : KL} {st : List KV} {M : KM} {cs sl : Nat} (hC : KC X mX7_when 7 false S mc ms) (hE : KRet X mX7_when E) (h : kblk (kroom mX7_when mc ms) S E (KW X) kbX7_when_13 13 ls st M cs sl) : KW X 13 ls st M cs sl := KW_blk hC hE kbX7_when_13 13 ls st M cs sl (by decide +kernel) h
def kbX7_when_18 : List KE := [(.ireturn, 1, (0, 0, 0), 0, 0)]
theorem kwX7_when_18 {X : KX} {S : KS} {mc ms : Nat} {E : KEnd} {ls : KL} {st : List KV} {M : KM} {cs sl : Nat} (hC : KC X mX7_when 7 false S mc ms) (hE : KRet X mX7_when E) (h : kblk (kroom mX7_when mc ms) S E (KW X) kbX7_when_18 18 ls st M cs sl) : KW X 18 ls st M cs sl := KW_blk hC hE kbX7_when_18 18 ls st M cs sl (by decide +kernel) h
def kbX7_when_19 : List KE := [(.aload_n 0, 1, (0, 0, 0), 0, 0), (.getfield 32, 3, (7, 8, 1), 0, 0), (.aload_n 0, 1, (0, 0, 0), 0, 0), (.getfield 28, 3, (7, 7, 1), 0, 0)]
theorem kwX7_when_19 {X : KX} {S : KS} {mc ms : Nat} {E : KEnd} {ls : KL} {st : List KV} {M : KM} {cs sl : Nat} (hC : KC X mX7_when 7 false S mc ms) (hE : KRet X mX7_when E) (h : kblk (kroom mX7_when mc ms) S E (KW X) kbX7_when_19 19 ls st M cs sl) : KW X 19 ls st M cs sl := KW_blk hC hE kbX7_when_19 19 ls st M cs sl (by decide +kernel) h
def kbX7_when_30 : List KE := [(.aload_n 0, 1, (0, 0, 0), 0, 0), (.iload_n 1, 1, (1, 0, 0), 0, 0), (.sipush (250), 3, (0, 0, 0), 250, 0)]
theorem kwX7_when_30 {X : KX} {S : KS} {mc ms : Nat} {E : KEnd} {ls : KL} {st : List KV} {M : KM} {cs sl : Nat} (hC : KC X mX7_when 7 false S mc ms) (hE : KRet X mX7_when E) (h : kblk (kroom mX7_when mc ms) S E (KW X) kbX7_when_30 30 ls st M cs sl) : KW X 30 ls st M cs sl := KW_blk hC hE kbX7_when_30 30 ls st M cs sl (by decide +kernel) h
def kbX7_when_38 : List KE := [(.ireturn, 1, (0, 0, 0), 0, 0)]
theorem kwX7_when_38 {X : KX} {S : KS} {mc ms : Nat} {E : KEnd} {ls : KL} {st : List KV} {M : KM} {cs sl : Nat} (hC : KC X mX7_when 7 false S mc ms) (hE : KRet X mX7_when E) (h : kblk (kroom mX7_when mc ms) S E (KW X) kbX7_when_38 38 ls st M cs sl) : KW X 38 ls st M cs sl := KW_blk hC hE kbX7_when_38 38 ls st M cs sl (by decide +kernel) h
set_option maxRecDepth 100000 in
theorem kl2_11 : klk 2 2 11 mX4_init 1 = true := by decide +kernel
set_option maxRecDepth 100000 in
theorem kl2_20 : klk 0 2 20 mX4_copyFrom 1 = true := by decide +kernel
set_option maxRecDepth 100000 in
theorem kl3_35 : klk 2 3 35 mX4_init 1 = true := by decide +kernel
set_option maxRecDepth 100000 in
theorem kl3_46 : klk 3 3 46 mX0_init 0 = true := by decide +kernel
set_option maxRecDepth 100000 in
theorem kl3_47 : klk 3 3 47 mX2_init 0 = true := by decide +kernel
set_option maxRecDepth 100000 in
theorem kl3_48 : klk 3 3 48 mX1_init 0 = true := by decide +kernel
set_option maxRecDepth 100000 in
theorem kl3_58 : klk 0 3 58 mX0_copyFrom 1 = true := by decide +kernel
set_option maxRecDepth 100000 in
theorem kl3_65 : klk 0 3 65 mX2_copyFrom 1 = true := by decide +kernel
set_option maxRecDepth 100000 in
theorem kl3_71 : klk 0 3 71 mX1_copyFrom 1 = true := by decide +kernel
set_option maxRecDepth 100000 in
theorem kl3_74 : klk 0 3 74 mX4_copyFrom 1 = true := by decide +kernel
set_option maxRecDepth 100000 in
theorem kl3_95 : klk 0 3 95 mX4_append 1 = true := by decide +kernel
set_option maxRecDepth 100000 in
theorem kl3_98 : klk 0 3 98 mX1_start 3 = true := by decide +kernel
set_option maxRecDepth 100000 in
theorem kl3_102 : klk 0 3 102 mX3_putIntoQueue 2 = true := by decide +kernel
set_option maxRecDepth 100000 in
theorem kl3_112 : klk 0 3 112 mX4_remove 1 = true := by decide +kernel
set_option maxRecDepth 100000 in
theorem kl3_115 : klk 0 3 115 mX3_takeOutOfQueue 1 = true := by decide +kernel
set_option maxRecDepth 100000 in
theorem kl3_121 : klk 0 3 121 mX3_goOneStep 0 = true := by decide +kernel
set_option maxRecDepth 100000 in
theorem kl3_125 : klk 1 3 125 mJ9_floorMod_7cf53 2 = true := by decide +kernel
set_option maxRecDepth 100000 in
theorem kl3_131 : klk 0 3 131 mX3_ropeStands 1 = true := by decide +kernel
set_option maxRecDepth 100000 in
theorem kl3_135 : klk 0 3 135 mX3_coolRiders 0 = true := by decide +kernel
set_option maxRecDepth 100000 in
theorem kl3_138 : klk 0 3 138 mX3_moveRope 0 = true := by decide +kernel
set_option maxRecDepth 100000 in
theorem kl3_141 : klk 0 3 141 mX3_unloadAtTop 0 = true := by decide +kernel
set_option maxRecDepth 100000 in
theorem kl3_144 : klk 0 3 144 mX3_exchangeAtValley 0 = true := by decide +kernel
set_option maxRecDepth 100000 in
theorem kl3_147 : klk 0 3 147 mX3_loadAtValley 0 = true := by decide +kernel
set_option maxRecDepth 100000 in
theorem kl3_150 : klk 0 3 150 mX3_sendImpatientAway 0 = true := by decide +kernel
set_option maxRecDepth 100000 in
theorem kl3_159 : klk 0 3 159 mX3_chairAt 1 = true := by decide +kernel
set_option maxRecDepth 100000 in
theorem kl3_174 : klk 0 3 174 mX3_chairsOnRope 0 = true := by decide +kernel
set_option maxRecDepth 100000 in
theorem kl3_180 : klk 0 3 180 mX4_first 0 = true := by decide +kernel
set_option maxRecDepth 100000 in
theorem kl3_183 : klk 0 3 183 mX3_groupToBoard 1 = true := by decide +kernel
set_option maxRecDepth 100000 in
theorem kl3_186 : klk 0 3 186 mX3_board 2 = true := by decide +kernel
set_option maxRecDepth 100000 in
theorem kl3_190 : klk 0 3 190 mX3_laneBehind 1 = true := by decide +kernel
set_option maxRecDepth 100000 in
theorem kl3_203 : klk 0 3 203 mX3_sendAway 1 = true := by decide +kernel
set_option maxRecDepth 100000 in
theorem kl3_206 : klk 0 3 206 mX3_peopleInQueueOf 1 = true := by decide +kernel
set_option maxRecDepth 100000 in
theorem kl3_213 : klk 0 3 213 mX3_peopleWho 1 = true := by decide +kernel
set_option maxRecDepth 100000 in
theorem kl3_216 : klk 0 3 216 mX3_coldness 0 = true := by decide +kernel
set_option maxRecDepth 100000 in
theorem kl5_11 : klk 2 5 11 mX3_init 0 = true := by decide +kernel
set_option maxRecDepth 100000 in
theorem kl5_19 : klk 1 5 19 mX5_isWithin 3 = true := by decide +kernel
set_option maxRecDepth 100000 in
theorem kl5_23 : klk 1 5 23 mX5_requireArgument 1 = true := by decide +kernel
set_option maxRecDepth 100000 in
theorem kl5_27 : klk 0 5 27 mX3_chairsOnRope 0 = true := by decide +kernel
set_option maxRecDepth 100000 in
theorem kl5_31 : klk 1 5 31 mX5_requireState 1 = true := by decide +kernel
set_option maxRecDepth 100000 in
theorem kl5_41 : klk 0 5 41 mX3_makeChair 1 = true := by decide +kernel
set_option maxRecDepth 100000 in
theorem kl5_51 : klk 0 5 51 mX3_makeLane 0 = true := by decide +kernel
set_option maxRecDepth 100000 in
theorem kl5_54 : klk 0 5 54 mX5_isLane 1 = true := by decide +kernel
set_option maxRecDepth 100000 in
theorem kl5_58 : klk 1 5 58 mX5_requireIndex 1 = true := by decide +kernel
set_option maxRecDepth 100000 in
theorem kl5_71 : klk 1 5 71 mX5_isBelow 2 = true := by decide +kernel
set_option maxRecDepth 100000 in
theorem kl5_82 : klk 0 5 82 mX3_makeGroup 3 = true := by decide +kernel
set_option maxRecDepth 100000 in
theorem kl5_86 : klk 0 5 86 mX5_isGroup 1 = true := by decide +kernel
set_option maxRecDepth 100000 in
theorem kl5_98 : klk 0 5 98 mX3_takeOutOfQueue 1 = true := by decide +kernel
set_option maxRecDepth 100000 in
theorem kl5_102 : klk 0 5 102 mX3_putIntoQueue 2 = true := by decide +kernel
set_option maxRecDepth 100000 in
theorem kl5_118 : klk 0 5 118 mX3_sendAway 1 = true := by decide +kernel
set_option maxRecDepth 100000 in
theorem kl5_121 : klk 0 5 121 mX1_fact 1 = true := by decide +kernel
set_option maxRecDepth 100000 in
theorem kl5_128 : klk 0 5 128 mX0_fact 1 = true := by decide +kernel
set_option maxRecDepth 100000 in
theorem kl5_131 : klk 0 5 131 mX3_laneFact 2 = true := by decide +kernel
set_option maxRecDepth 100000 in
theorem kl5_141 : klk 0 5 141 mX3_goSteps 1 = true := by decide +kernel
set_option maxRecDepth 100000 in
theorem kl5_144 : klk 0 5 144 mX3_fact 1 = true := by decide +kernel
set_option maxRecDepth 100000 in
theorem kl5_145 : klk 0 5 145 mX3_copyFrom 1 = true := by decide +kernel
set_option maxRecDepth 100000 in
theorem kl5_149 : klk 0 5 149 mX3_peopleWho 1 = true := by decide +kernel
set_option maxRecDepth 100000 in
theorem kl5_152 : klk 0 5 152 mX3_coldness 0 = true := by decide +kernel
set_option maxRecDepth 100000 in
theorem kl5_155 : klk 0 5 155 mX3_stepsUntilUp 2 = true := by decide +kernel
set_option maxRecDepth 100000 in
theorem kl5_161 : klk 0 5 161 mX3_ridersTaken 0 = true := by decide +kernel
set_option maxRecDepth 100000 in
theorem kl5_166 : klk 1 5 166 mX5_mixed 2 = true := by decide +kernel
set_option maxRecDepth 100000 in
theorem kl5_170 : klk 0 5 170 mX5_mixedWithGroups 1 = true := by decide +kernel
set_option maxRecDepth 100000 in
theorem kl5_174 : klk 0 5 174 mX5_mixedWithChairs 1 = true := by decide +kernel
set_option maxRecDepth 100000 in
theorem kl5_177 : klk 0 5 177 mX5_mixedWithLanes 1 = true := by decide +kernel
set_option maxRecDepth 100000 in
theorem kl5_180 : klk 1 5 180 mX5_mixedWithRow 2 = true := by decide +kernel
set_option maxRecDepth 100000 in
theorem kl6_89 : klk 0 6 89 mX6_copy 2 = true := by decide +kernel
set_option maxRecDepth 100000 in
theorem kl6_93 : klk 0 6 93 mX6_enter 2 = true := by decide +kernel
set_option maxRecDepth 100000 in
theorem kl6_106 : klk 0 6 106 mX6_drop 1 = true := by decide +kernel
set_option maxRecDepth 100000 in
theorem kl6_113 : klk 0 6 113 mX6_chill 0 = true := by decide +kernel
set_option maxRecDepth 100000 in
theorem kl6_119 : klk 0 6 119 mX6_find 1 = true := by decide +kernel
set_option maxRecDepth 100000 in
theorem kl6_122 : klk 0 6 122 mX6_valley 0 = true := by decide +kernel
set_option maxRecDepth 100000 in
theorem kl6_125 : klk 0 6 125 mX6_onRope 0 = true := by decide +kernel
set_option maxRecDepth 100000 in
theorem kl6_129 : klk 0 6 129 mX6_load 1 = true := by decide +kernel
set_option maxRecDepth 100000 in
theorem kl7_25 : klk 3 7 25 mX6_init 1 = true := by decide +kernel
set_option maxRecDepth 100000 in
theorem kl7_41 : klk 1 7 41 mX7_isIn 3 = true := by decide +kernel
set_option maxRecDepth 100000 in
theorem kl7_48 : klk 0 7 48 mX7_no 1 = true := by decide +kernel
set_option maxRecDepth 100000 in
theorem kl7_52 : klk 0 7 52 mX6_onRope 0 = true := by decide +kernel
set_option maxRecDepth 100000 in
theorem kl7_71 : klk 0 7 71 mX7_isLane 1 = true := by decide +kernel
set_option maxRecDepth 100000 in
theorem kl7_75 : klk 0 7 75 mX6_join 3 = true := by decide +kernel
set_option maxRecDepth 100000 in
theorem kl7_79 : klk 0 7 79 mX7_isGroup 1 = true := by decide +kernel
set_option maxRecDepth 100000 in
theorem kl7_85 : klk 0 7 85 mX6_drop 1 = true := by decide +kernel
set_option maxRecDepth 100000 in
theorem kl7_88 : klk 0 7 88 mX6_enter 2 = true := by decide +kernel
set_option maxRecDepth 100000 in
theorem kl7_110 : klk 0 7 110 mX7_groupTold 2 = true := by decide +kernel
set_option maxRecDepth 100000 in
theorem kl7_116 : klk 0 7 116 mX7_chairTold 2 = true := by decide +kernel
set_option maxRecDepth 100000 in
theorem kl7_128 : klk 0 7 128 mX7_laneTold 2 = true := by decide +kernel
set_option maxRecDepth 100000 in
theorem kl7_131 : klk 0 7 131 mX6_pass 0 = true := by decide +kernel
set_option maxRecDepth 100000 in
theorem kl7_137 : klk 0 7 137 mX6_people 1 = true := by decide +kernel
set_option maxRecDepth 100000 in
theorem kl7_149 : klk 0 7 149 mX7_counted 1 = true := by decide +kernel
set_option maxRecDepth 100000 in
theorem kl7_152 : klk 0 7 152 mX6_become 1 = true := by decide +kernel
set_option maxRecDepth 100000 in
theorem kl7_156 : klk 0 7 156 mX7_rises 2 = true := by decide +kernel
set_option maxRecDepth 100000 in
theorem kl8_7 : klk 0 8 7 mX5_stretch 1 = true := by decide +kernel
set_option maxRecDepth 100000 in
theorem kl8_17 : klk 0 8 17 mX5_addChair 1 = true := by decide +kernel
set_option maxRecDepth 100000 in
theorem kl8_20 : klk 0 8 20 mX5_want 1 = true := by decide +kernel
set_option maxRecDepth 100000 in
theorem kl8_23 : klk 0 8 23 mX5_addLane 0 = true := by decide +kernel
set_option maxRecDepth 100000 in
theorem kl8_27 : klk 0 8 27 mX5_shut 2 = true := by decide +kernel
set_option maxRecDepth 100000 in
theorem kl8_33 : klk 0 8 33 mX5_setWind 2 = true := by decide +kernel
set_option maxRecDepth 100000 in
theorem kl8_37 : klk 0 8 37 mX5_join 3 = true := by decide +kernel
set_option maxRecDepth 100000 in
theorem kl8_41 : klk 0 8 41 mX5_change 2 = true := by decide +kernel
set_option maxRecDepth 100000 in
theorem kl8_44 : klk 0 8 44 mX5_leave 1 = true := by decide +kernel
set_option maxRecDepth 100000 in
theorem kl8_47 : klk 0 8 47 mX5_group 2 = true := by decide +kernel
set_option maxRecDepth 100000 in
theorem kl8_50 : klk 0 8 50 mX5_chair 2 = true := by decide +kernel
set_option maxRecDepth 100000 in
theorem kl8_53 : klk 0 8 53 mX5_lane 2 = true := by decide +kernel
set_option maxRecDepth 100000 in
theorem kl8_56 : klk 0 8 56 mX5_queue 2 = true := by decide +kernel
set_option maxRecDepth 100000 in
theorem kl8_59 : klk 0 8 59 mX5_shed 1 = true := by decide +kernel
set_option maxRecDepth 100000 in
theorem kl8_62 : klk 0 8 62 mX5_pass 1 = true := by decide +kernel
set_option maxRecDepth 100000 in
theorem kl8_65 : klk 0 8 65 mX5_count 1 = true := by decide +kernel
set_option maxRecDepth 100000 in
theorem kl8_68 : klk 0 8 68 mX5_foresee 2 = true := by decide +kernel
set_option maxRecDepth 100000 in
theorem kl8_71 : klk 0 8 71 mX5_when 1 = true := by decide +kernel
set_option maxRecDepth 100000 in
theorem kl8_74 : klk 0 8 74 mX5_advise 1 = true := by decide +kernel
set_option maxRecDepth 100000 in
theorem kl8_77 : klk 0 8 77 mX5_needs 2 = true := by decide +kernel
set_option maxRecDepth 100000 in
theorem kl8_80 : klk 2 8 80 mX5_init 0 = true := by decide +kernel
set_option maxRecDepth 100000 in
theorem kl8_83 : klk 2 8 83 mX7_init 0 = true := by decide +kernel
set_option maxRecDepth 100000 in
theorem kl8_84 : klk 4 8 84 mL_stretch 3 = true := by decide +kernel
set_option maxRecDepth 100000 in
theorem kl8_89 : klk 0 8 89 mX7_stretch 1 = true := by decide +kernel
set_option maxRecDepth 100000 in
theorem kl8_90 : klk 0 8 90 mX7_thrown 0 = true := by decide +kernel
set_option maxRecDepth 100000 in
theorem kl8_93 : klk 4 8 93 mL_addChair 3 = true := by decide +kernel
set_option maxRecDepth 100000 in
theorem kl8_95 : klk 0 8 95 mX7_addChair 1 = true := by decide +kernel
set_option maxRecDepth 100000 in
theorem kl8_96 : klk 4 8 96 mL_want 3 = true := by decide +kernel
set_option maxRecDepth 100000 in
theorem kl8_98 : klk 0 8 98 mX7_want 1 = true := by decide +kernel
set_option maxRecDepth 100000 in
theorem kl8_99 : klk 4 8 99 mL_addLane 2 = true := by decide +kernel
set_option maxRecDepth 100000 in
theorem kl8_102 : klk 0 8 102 mX7_addLane 0 = true := by decide +kernel
set_option maxRecDepth 100000 in
theorem kl8_103 : klk 4 8 103 mL_shut 4 = true := by decide +kernel
set_option maxRecDepth 100000 in
theorem kl8_106 : klk 0 8 106 mX7_shut 2 = true := by decide +kernel
set_option maxRecDepth 100000 in
theorem kl8_107 : klk 4 8 107 mL_setWind 4 = true := by decide +kernel
set_option maxRecDepth 100000 in
theorem kl8_110 : klk 0 8 110 mX7_setWind 2 = true := by decide +kernel
set_option maxRecDepth 100000 in
theorem kl8_111 : klk 4 8 111 mL_join 5 = true := by decide +kernel
set_option maxRecDepth 100000 in
theorem kl8_114 : klk 0 8 114 mX7_join 3 = true := by decide +kernel
set_option maxRecDepth 100000 in
theorem kl8_115 : klk 4 8 115 mL_change 4 = true := by decide +kernel
set_option maxRecDepth 100000 in
theorem kl8_117 : klk 0 8 117 mX7_change 2 = true := by decide +kernel
set_option maxRecDepth 100000 in
theorem kl8_118 : klk 4 8 118 mL_leave 3 = true := by decide +kernel
set_option maxRecDepth 100000 in
theorem kl8_120 : klk 0 8 120 mX7_leave 1 = true := by decide +kernel
set_option maxRecDepth 100000 in
theorem kl8_121 : klk 4 8 121 mL_group 4 = true := by decide +kernel
set_option maxRecDepth 100000 in
theorem kl8_123 : klk 0 8 123 mX7_group 2 = true := by decide +kernel
set_option maxRecDepth 100000 in
theorem kl8_124 : klk 4 8 124 mL_chair 4 = true := by decide +kernel
set_option maxRecDepth 100000 in
theorem kl8_126 : klk 0 8 126 mX7_chair 2 = true := by decide +kernel
set_option maxRecDepth 100000 in
theorem kl8_127 : klk 4 8 127 mL_lane 4 = true := by decide +kernel
set_option maxRecDepth 100000 in
theorem kl8_129 : klk 0 8 129 mX7_lane 2 = true := by decide +kernel
set_option maxRecDepth 100000 in
theorem kl8_130 : klk 4 8 130 mL_queue 4 = true := by decide +kernel
set_option maxRecDepth 100000 in
theorem kl8_132 : klk 0 8 132 mX7_queue 2 = true := by decide +kernel
set_option maxRecDepth 100000 in
theorem kl8_133 : klk 4 8 133 mL_shed 3 = true := by decide +kernel
set_option maxRecDepth 100000 in
theorem kl8_135 : klk 0 8 135 mX7_shed 1 = true := by decide +kernel
set_option maxRecDepth 100000 in
theorem kl8_136 : klk 4 8 136 mL_pass 3 = true := by decide +kernel
set_option maxRecDepth 100000 in
theorem kl8_138 : klk 0 8 138 mX7_pass 1 = true := by decide +kernel
set_option maxRecDepth 100000 in
theorem kl8_139 : klk 4 8 139 mL_count 3 = true := by decide +kernel
set_option maxRecDepth 100000 in
theorem kl8_141 : klk 0 8 141 mX7_count 1 = true := by decide +kernel
set_option maxRecDepth 100000 in
theorem kl8_142 : klk 4 8 142 mL_foresee 4 = true := by decide +kernel
set_option maxRecDepth 100000 in
theorem kl8_144 : klk 0 8 144 mX7_foresee 2 = true := by decide +kernel
set_option maxRecDepth 100000 in
theorem kl8_145 : klk 4 8 145 mL_when 3 = true := by decide +kernel
set_option maxRecDepth 100000 in
theorem kl8_147 : klk 0 8 147 mX7_when 1 = true := by decide +kernel
set_option maxRecDepth 100000 in
theorem kl8_148 : klk 4 8 148 mL_advise 3 = true := by decide +kernel
set_option maxRecDepth 100000 in
theorem kl8_150 : klk 0 8 150 mX7_advise 1 = true := by decide +kernel
set_option maxRecDepth 100000 in
theorem kl8_151 : klk 4 8 151 mL_needs 4 = true := by decide +kernel
set_option maxRecDepth 100000 in
theorem kl8_153 : klk 0 8 153 mX7_needs 2 = true := by decide +kernel
set_option maxRecDepth 100000 in
theorem kl8_154 : klk 0 8 154 mX5_mean 0 = true := by decide +kernel
set_option maxRecDepth 100000 in
theorem kl8_158 : klk 0 8 158 mX7_mean 0 = true := by decide +kernel
set_option maxRecDepth 100000 in
theorem kl8_159 : klk 0 8 159 mX5_digest 0 = true := by decide +kernel
set_option maxRecDepth 100000 in
theorem kl8_163 : klk 0 8 163 mX7_digest 0 = true := by decide +kernel
end
section
/-! THE LAYOUT: which cells there are once both sides stand. Parts: 0 the lift, 1 the trial lift, 2 and 3 the reference's two states, 4 the reference, 9 the rest. -/
def kRR : KI → Nat → Option KI
  | (5, _, _), 0 => some (3, 0, 0)
  | (5, _, _), 1 => some (3, 1, 0)
  | (3, L, _), 0 => some (8, L, 0)
  | (3, L, _), 1 => some (9, L, 0)
  | (3, L, _), 2 => some (11, L, 0)
  | (3, L, _), 3 => some (10, L, 0)
  | (3, L, _), 4 => some (4, L, 0)
  | (2, L, l), 0 => some (4, L, l + 1)
  | (4, L, k), 0 => some (8, L, k + 1)
  | (9, L, _), c => if c < 20 then some (0, L, c) else none
  | (10, L, _), c => if c < 91 then some (1, L, c) else none
  | (11, L, _), c => if c < 4 then some (2, L, c) else none
  | (7, _, _), 4 => some (8, 4, 0)
  | (7, _, _), 5 => some (8, 4, 1)
  | (7, _, _), 6 => some (8, 4, 2)
  | (7, _, _), 7 => some (6, 2, 0)
  | (7, _, _), 8 => some (6, 3, 0)
  | (6, P, _), 9 => some (8, P, 9)
  | (6, P, _), 10 => some (8, P, 10)
  | (6, P, _), 11 => some (8, P, 11)
  | (6, P, _), 12 => some (8, P, 12)
  | (6, P, _), 13 => some (8, P, 13)
  | (6, P, _), 14 => some (8, P, 14)
  | (6, P, _), 15 => some (8, P, 15)
  | (6, P, _), 16 => some (8, P, 16)
  | (6, P, _), 17 => some (8, P, 17)
  | (6, P, _), 18 => some (8, P, 18)
  | (6, P, _), 19 => some (8, P, 19)
  | (6, P, _), 20 => some (8, P, 20)
  | (6, P, _), 21 => some (8, P, 21)
  | (6, _, _), 22 => some (7, 4, 0)
  | _, _ => none
def kN8 (L k : Nat) : Nat := if L < 2 then (if k = 0 then 24 else if k = 1 then 20 else 91) else if L = 4 then (if k = 0 then 20 else if k = 1 then 4 else 24) else if k < 12 then 20 else if k < 14 then 4 else if k = 14 then 364 else 91
def kNN : KI → Nat
  | (8, L, k) => kN8 L k
  | (9, _, _) => 20
  | (10, _, _) => 91
  | (11, _, _) => 4
  | (12, _, _) => 1
  | _ => 0
def kLive : KI → Prop
  | (0, L, c) => L < 2 ∧ c < 20
  | (1, L, c) => L < 2 ∧ c < 91
  | (2, L, c) => L < 2 ∧ c < 4
  | (3, L, c) => L < 2 ∧ c = 0
  | (4, L, c) => L < 2 ∧ c < 5
  | (5, a, b) => a = 9 ∧ b = 0
  | (6, P, b) => (P = 2 ∨ P = 3) ∧ b = 0
  | (7, a, b) => a = 4 ∧ b = 0
  | (8, L, k) => (L < 2 ∧ k < 6) ∨ ((L = 2 ∨ L = 3) ∧ 9 ≤ k ∧ k ≤ 21) ∨ (L = 4 ∧ k < 3)
  | (9, L, c) => L < 2 ∧ c = 0
  | (10, L, c) => L < 2 ∧ c = 0
  | (11, L, c) => L < 2 ∧ c = 0
  | (12, a, b) => a = 9 ∧ b = 0
  | _ => False
/-- the memory once both sides stand: only its ints and longs move -/
abbrev km (D : KI → Nat → Int32) (G : KI → Nat → Int64) : KM := (kLive, kRR, D, G, kNN)
theorem km_live {D : KI → Nat → Int32} {G : KI → Nat → Int64} {i : KI} (h : kLive i) : (km D G).1 i := h
theorem kN_wind {L : Nat} (h : L < 2) : kN8 L 0 = 24 := by simp [kN8, h]
theorem kN_shed {L : Nat} (h : L < 2) : kN8 L 1 = 20 := by simp [kN8, h]
theorem kN_lane {L : Nat} (h : L < 2) (k : Nat) : kN8 L (k + 2) = 91 := by simp [kN8, h]
theorem kRR_live : ∀ (i : KI) (j : Nat) (r : KI), kLive i → kRR i j = some r → kLive r := by
  intro i j r hi hr
  unfold kRR at hr
  split at hr <;> (try split at hr) <;> cases hr <;> simp_all [kLive] <;> omega
end
section
/-! Row: numbers in a row, as a list. -/
def rowRep (D : KI → Nat → Int32) (L k : Nat) (xs : List Nat) : Prop := D (4, L, k) 1 = nI xs.length ∧ ∀ i x, xs[i]? = some x → D (8, L, k + 1) i = nI x
/-- only this row's cells have changed -/
def rowOff (D' D : KI → Nat → Int32) (L k : Nat) : Prop := ∀ i : KI, i ≠ (4, L, k) → i ≠ (8, L, k + 1) → D' i = D i
theorem rowRep_0 {D : KI → Nat → Int32} {L k : Nat} {xs : List Nat} (h : rowRep D L k xs) : D (4, L, k) 1 = nI xs.length := h.1
theorem s_Row_first {D : KI → Nat → Int32} {G : KI → Nat → Int64} {L k : Nat} {xs : List Nat} (hL : L < 2) (hk : k < 5) (hr : rowRep D L k xs) (hlen : xs.length ≤ kN8 L (k + 1)) (h91 : xs.length ≤ 91) :
    SpQ mX4_first 0 0 [kR (some (4, L, k))] (km D G) (fun v M' => v = some (kI (match xs.head? with | none => -1 | some x => nI x)) ∧ M' = km D G) := by
  refine SpQ_of (own := 4) (ini := false) (by decide +kernel) rfl (by decide) (Nat.le_of_ble_eq_true rfl) ?_
  intro X hC hE hL0
  have hlive : kLive (4, L, k) := ⟨hL, hk⟩
  have hlive8 : kLive (8, L, k + 1) := Or.inl ⟨hL, by omega⟩
  refine kwX4_first_0 hC hE ?_
  simp only [kbX4_first_0, mX4_first, kblk, kstp, kent, kpad, kget, kst1, kst2, kc2, cond_false, cond_true, kfv, kfit, kOkf, kputv, kputD, kputG, kcpy, kcat, kRR, kNN, true_and, and_true, if_true, if_false, if_pos, Nat.reduceAdd, Nat.reduceEqDiff, Nat.reduceLeDiff, Nat.reduceLT, reduceIte, Prod.mk.injEq, eq_self, false_and, and_false, reduceCtorEq, Nat.reduceSub, List.reverse_cons, List.reverse_nil, List.nil_append, List.cons_append, Option.toList_some, Option.toList_none, not_true_eq_false, not_false_eq_true, hlive, hr.1]
  refine ⟨fun h => ?_, fun h => ?_⟩
  · have hx : xs = [] := by
      cases xs with
      | nil => rfl
      | cons a r => exact absurd h (nI_nle (by simp) (by simp at h91 ⊢; omega))
    subst hx
    refine kwX4_first_16 hC hE ?_
    simp only [kbX4_first_16, mX4_first, kblk, kstp, kent, kpad, kget, kst1, kst2, kc2, cond_false, cond_true, kfv, kfit, kOkf, kputv, kputD, kputG, kcpy, kcat, kRR, kNN, true_and, and_true, if_true, if_false, if_pos, Nat.reduceAdd, Nat.reduceEqDiff, Nat.reduceLeDiff, Nat.reduceLT, reduceIte, Prod.mk.injEq, eq_self, false_and, and_false, reduceCtorEq, Nat.reduceSub, List.reverse_cons, List.reverse_nil, List.nil_append, List.cons_append, Option.toList_some, Option.toList_none, not_true_eq_false, not_false_eq_true]
    refine kwX4_first_17 hC hE ?_
    simp only [kbX4_first_17, mX4_first, kblk, kstp, kent, kpad, kget, kst1, kst2, kc2, cond_false, cond_true, kfv, kfit, kOkf, kputv, kputD, kputG, kcpy, kcat, kRR, kNN, true_and, and_true, if_true, if_false, if_pos, Nat.reduceAdd, Nat.reduceEqDiff, Nat.reduceLeDiff, Nat.reduceLT, reduceIte, Prod.mk.injEq, eq_self, false_and, and_false, reduceCtorEq, Nat.reduceSub, List.reverse_cons, List.reverse_nil, List.nil_append, List.cons_append, Option.toList_some, Option.toList_none, not_true_eq_false, not_false_eq_true]
    exact ⟨⟨rfl, rfl⟩, trivial, Nat.le_refl _, Nat.le_refl _⟩
  · cases xs with
    | nil => exact absurd nI_0 (fun z => h (by simp [z]))
    | cons a r =>
      refine kwX4_first_7 hC hE ?_
      simp only [kbX4_first_7, mX4_first, kblk, kstp, kent, kpad, kget, kst1, kst2, kc2, cond_false, cond_true, kfv, kfit, kOkf, kputv, kputD, kputG, kcpy, kcat, kRR, kNN, true_and, and_true, if_true, if_false, if_pos, Nat.reduceAdd, Nat.reduceEqDiff, Nat.reduceLeDiff, Nat.reduceLT, reduceIte, Prod.mk.injEq, eq_self, false_and, and_false, reduceCtorEq, Nat.reduceSub, List.reverse_cons, List.reverse_nil, List.nil_append, List.cons_append, Option.toList_some, Option.toList_none, not_true_eq_false, not_false_eq_true, hlive, hlive8]
      refine ⟨by simp [vp_in]; simp at hlen; omega, ?_⟩
      refine kwX4_first_17 hC hE ?_
      simp only [kbX4_first_17, mX4_first, kblk, kstp, kent, kpad, kget, kst1, kst2, kc2, cond_false, cond_true, kfv, kfit, kOkf, kputv, kputD, kputG, kcpy, kcat, kRR, kNN, true_and, and_true, if_true, if_false, if_pos, Nat.reduceAdd, Nat.reduceEqDiff, Nat.reduceLeDiff, Nat.reduceLT, reduceIte, Prod.mk.injEq, eq_self, false_and, and_false, reduceCtorEq, Nat.reduceSub, List.reverse_cons, List.reverse_nil, List.nil_append, List.cons_append, Option.toList_some, Option.toList_none, not_true_eq_false, not_false_eq_true]
      have h0 := hr.2 0 a rfl
      have e : (0 : Int32).toNatClampNeg = 0 := by decide
      refine ⟨⟨?_, rfl⟩, trivial, Nat.le_refl _, Nat.le_refl _⟩
      rw [e, h0]; rfl
theorem rowOff.refl {D : KI → Nat → Int32} {L k : Nat} : rowOff D D L k := fun _ _ _ => rfl
theorem rowOff.trans {D1 D2 D3 : KI → Nat → Int32} {L k : Nat} (h1 : rowOff D1 D2 L k) (h2 : rowOff D2 D3 L k) : rowOff D1 D3 L k := fun i a b => (h1 i a b).trans (h2 i a b)
theorem s_Row_append {D : KI → Nat → Int32} {G : KI → Nat → Int64} {L k : Nat} {xs : List Nat} {n : Nat} (hL : L < 2) (hk : k < 5) (hr : rowRep D L k xs) (hlen : xs.length < kN8 L (k + 1)) (h91 : kN8 L (k + 1) ≤ 91) :
    SpQ mX4_append 0 0 [kR (some (4, L, k)), kI (nI n)] (km D G) (fun v M' => v = none ∧ ∃ D', M' = km D' G ∧ rowRep D' L k (xs ++ [n]) ∧ rowOff D' D L k) := by
  refine SpQ_of (own := 4) (ini := false) (by decide +kernel) rfl (by decide) (Nat.le_of_ble_eq_true rfl) ?_
  intro X hC hE hL0
  have hlive : kLive (4, L, k) := ⟨hL, hk⟩
  have hlive8 : kLive (8, L, k + 1) := Or.inl ⟨hL, by omega⟩
  have hle : (8 : Nat) ≤ 12 := by decide
  refine kwX4_append_0 hC hE ?_
  simp only [kbX4_append_0, mX4_append, kblk, kstp, kent, kpad, kget, kst1, kst2, kc2, cond_false, cond_true, kfv, kfit, kOkf, kputv, kputD, kputG, kcpy, kcat, kRR, kNN, true_and, and_true, if_true, if_false, if_pos, Nat.reduceAdd, Nat.reduceEqDiff, Nat.reduceLeDiff, Nat.reduceLT, reduceIte, Prod.mk.injEq, eq_self, false_and, and_false, reduceCtorEq, Nat.reduceSub, List.reverse_cons, List.reverse_nil, List.nil_append, List.cons_append, Option.toList_some, Option.toList_none, not_true_eq_false, not_false_eq_true, hlive, hr.1, hlive8, Nat.le_refl]
  refine ⟨fun h => ?_, fun h => ?_⟩
  · exact absurd h (nI_ge hlen (by omega))
  · refine kwX4_append_12 hC hE ?_
    simp only [kbX4_append_12, mX4_append, kblk, kstp, kent, kpad, kget, kst1, kst2, kc2, cond_false, cond_true, kfv, kfit, kOkf, kputv, kputD, kputG, kcpy, kcat, kRR, kNN, true_and, and_true, if_true, if_false, if_pos, Nat.reduceAdd, Nat.reduceEqDiff, Nat.reduceLeDiff, Nat.reduceLT, reduceIte, Prod.mk.injEq, eq_self, false_and, and_false, reduceCtorEq, Nat.reduceSub, List.reverse_cons, List.reverse_nil, List.nil_append, List.cons_append, Option.toList_some, Option.toList_none, not_true_eq_false, not_false_eq_true, hlive, hr.1, hlive8]
    refine ⟨vp_in_nI hlen (by omega), ?_⟩
    simp only [nI_clamp (show xs.length < 2 ^ 31 by omega)]
    refine kwX4_append_32 hC hE ?_
    simp only [kbX4_append_32, mX4_append, kblk, kstp, kent, kpad, kget, kst1, kst2, kc2, cond_false, cond_true, kfv, kfit, kOkf, kputv, kputD, kputG, kcpy, kcat, kRR, kNN, true_and, and_true, if_true, if_false, if_pos, Nat.reduceAdd, Nat.reduceEqDiff, Nat.reduceLeDiff, Nat.reduceLT, reduceIte, Prod.mk.injEq, eq_self, false_and, and_false, reduceCtorEq, Nat.reduceSub, List.reverse_cons, List.reverse_nil, List.nil_append, List.cons_append, Option.toList_some, Option.toList_none, not_true_eq_false, not_false_eq_true]
    refine ⟨⟨rfl, _, rfl, ?_, ?_⟩, trivial, Nat.le_refl _, Nat.le_refl _⟩
    · refine ⟨?_, fun i x hx => ?_⟩
      · simp [kput, hr.1, nI_1]
      · rw [List.getElem?_append] at hx
        by_cases hi : i < xs.length
        · rw [if_pos hi] at hx
          have h1 := hr.2 i x hx
          have h2 : i ≠ xs.length := by omega
          simp [kput, h2, h1]
        · rw [if_neg hi] at hx
          have h2 : i = xs.length := by
            have := (List.getElem?_eq_some_iff.mp hx).1
            simp at this
            omega
          subst h2
          simp at hx
          simp [kput, hx]
    · intro i h1 h2
      funext j
      simp [kput, h1, h2]
theorem take_filter {xs : List Nat} {n i x : Nat} (hx : xs[i]? = some x) : (xs.take (i + 1)).filter (fun a => decide (a ≠ n)) = (xs.take i).filter (fun a => decide (a ≠ n)) ++ (if x = n then [] else [x]) := by
  rw [List.take_succ, hx, List.filter_append]
  congr 1
  by_cases h : x = n <;> simp [h]
theorem take_filter_le {xs : List Nat} {n i : Nat} : ((xs.take i).filter (fun a => decide (a ≠ n))).length ≤ i := by
  have h1 := List.length_filter_le (fun a => decide (a ≠ n)) (xs.take i)
  have h2 : (xs.take i).length ≤ i := by rw [List.length_take]; omega
  omega
theorem s_Row_remove {D : KI → Nat → Int32} {G : KI → Nat → Int64} {L k : Nat} {xs : List Nat} {n : Nat} (hL : L < 2) (hk : k < 5) (hr : rowRep D L k xs) (hlen : xs.length ≤ kN8 L (k + 1)) (h91 : kN8 L (k + 1) ≤ 91) (hn : n < 128) (hxs : ∀ x ∈ xs, x < 128) :
    SpQ mX4_remove 0 0 [kR (some (4, L, k)), kI (nI n)] (km D G) (fun v M' => v = none ∧ ∃ D', M' = km D' G ∧ rowRep D' L k (xs.filter (fun a => decide (a ≠ n))) ∧ rowOff D' D L k) := by
  refine SpQ_of (own := 4) (ini := false) (by decide +kernel) rfl (by decide) (Nat.le_of_ble_eq_true rfl) ?_
  intro X hC hE hL0
  have hlive : kLive (4, L, k) := ⟨hL, hk⟩
  have hlive8 : kLive (8, L, k + 1) := Or.inl ⟨hL, by omega⟩
  have loop : ∀ (m i : Nat) (D1 : KI → Nat → Int32), i + m = xs.length → D1 (4, L, k) 1 = nI xs.length → (∀ j y, ((xs.take i).filter (fun a => decide (a ≠ n)))[j]? = some y → D1 (8, L, k + 1) j = nI y) → (∀ j x, i ≤ j → xs[j]? = some x → D1 (8, L, k + 1) j = nI x) → rowOff D1 D L k →
      KW X 4 [some (kR (some (4, L, k))), some (kI (nI n)), some (kI (nI ((xs.take i).filter (fun a => decide (a ≠ n))).length)), some (kI (nI i))] [] (km D1 G) 0 0 := by
    intro m
    induction m with
    | zero =>
      intro i D1 him h1 h2 h3 h4
      have hi : i = xs.length := by omega
      subst hi
      refine kwX4_remove_4 hC hE ?_
      simp only [kbX4_remove_4, mX4_remove, kblk, kstp, kent, kpad, kget, kst1, kst2, kc2, cond_false, cond_true, kfv, kfit, kOkf, kputv, kputD, kputG, kcpy, kcat, kRR, kNN, true_and, and_true, if_true, if_false, if_pos, Nat.reduceAdd, Nat.reduceEqDiff, Nat.reduceLeDiff, Nat.reduceLT, reduceIte, Prod.mk.injEq, eq_self, false_and, and_false, reduceCtorEq, Nat.reduceSub, List.reverse_cons, List.reverse_nil, List.nil_append, List.cons_append, Option.toList_some, Option.toList_none, not_true_eq_false, not_false_eq_true, hlive, h1]
      refine ⟨fun _ => ?_, fun h => absurd (nI_le (Nat.le_refl _) (by omega)) h⟩
      refine kwX4_remove_43 hC hE ?_
      simp only [kbX4_remove_43, mX4_remove, kblk, kstp, kent, kpad, kget, kst1, kst2, kc2, cond_false, cond_true, kfv, kfit, kOkf, kputv, kputD, kputG, kcpy, kcat, kRR, kNN, true_and, and_true, if_true, if_false, if_pos, Nat.reduceAdd, Nat.reduceEqDiff, Nat.reduceLeDiff, Nat.reduceLT, reduceIte, Prod.mk.injEq, eq_self, false_and, and_false, reduceCtorEq, Nat.reduceSub, List.reverse_cons, List.reverse_nil, List.nil_append, List.cons_append, Option.toList_some, Option.toList_none, not_true_eq_false, not_false_eq_true, hlive]
      rw [List.take_length] at h2 ⊢
      refine ⟨⟨rfl, _, rfl, ⟨?_, fun j y hy => ?_⟩, ?_⟩, trivial, Nat.le_refl _, Nat.le_refl _⟩
      · simp [kput]
      · simp only [kput, Prod.mk.injEq, reduceCtorEq, false_and, if_false, Nat.reduceEqDiff]
        exact h2 j y hy
      · intro a ha1 ha2
        rw [← h4 a ha1 ha2]
        funext j
        simp [kput, ha1]
    | succ m ih =>
      intro i D1 him h1 h2 h3 h4
      have hi : i < xs.length := by omega
      have hxi : xs[i]? = some xs[i] := List.getElem?_eq_getElem hi
      have hlt : xs[i] < 128 := hxs _ (List.getElem_mem hi)
      have hys := take_filter_le (xs := xs) (n := n) (i := i)
      have hxv := h3 i _ (Nat.le_refl _) hxi
      refine kwX4_remove_4 hC hE ?_
      simp only [kbX4_remove_4, mX4_remove, kblk, kstp, kent, kpad, kget, kst1, kst2, kc2, cond_false, cond_true, kfv, kfit, kOkf, kputv, kputD, kputG, kcpy, kcat, kRR, kNN, true_and, and_true, if_true, if_false, if_pos, Nat.reduceAdd, Nat.reduceEqDiff, Nat.reduceLeDiff, Nat.reduceLT, reduceIte, Prod.mk.injEq, eq_self, false_and, and_false, reduceCtorEq, Nat.reduceSub, List.reverse_cons, List.reverse_nil, List.nil_append, List.cons_append, Option.toList_some, Option.toList_none, not_true_eq_false, not_false_eq_true, hlive, h1]
      refine ⟨fun h => absurd h (nI_ge hi (by omega)), fun _ => ?_⟩
      refine kwX4_remove_12 hC hE ?_
      simp only [kbX4_remove_12, mX4_remove, kblk, kstp, kent, kpad, kget, kst1, kst2, kc2, cond_false, cond_true, kfv, kfit, kOkf, kputv, kputD, kputG, kcpy, kcat, kRR, kNN, true_and, and_true, if_true, if_false, if_pos, Nat.reduceAdd, Nat.reduceEqDiff, Nat.reduceLeDiff, Nat.reduceLT, reduceIte, Prod.mk.injEq, eq_self, false_and, and_false, reduceCtorEq, Nat.reduceSub, List.reverse_cons, List.reverse_nil, List.nil_append, List.cons_append, Option.toList_some, Option.toList_none, not_true_eq_false, not_false_eq_true, hlive, hlive8, nI_clamp (show i < 2 ^ 31 by omega), hxv]
      refine ⟨vp_in_nI (by omega) (by omega), fun h => ?_, fun h => ?_⟩
      · have hx : xs[i] = n := (nI_eq (by omega) (by omega)).mp h
        have e := take_filter (n := n) hxi
        rw [if_pos hx, List.append_nil] at e
        refine kwX4_remove_37 hC hE ?_
        simp only [kbX4_remove_37, mX4_remove, kblk, kstp, kent, kpad, kget, kst1, kst2, kc2, cond_false, cond_true, kfv, kfit, kOkf, kputv, kputD, kputG, kcpy, kcat, kRR, kNN, true_and, and_true, if_true, if_false, if_pos, Nat.reduceAdd, Nat.reduceEqDiff, Nat.reduceLeDiff, Nat.reduceLT, reduceIte, Prod.mk.injEq, eq_self, false_and, and_false, reduceCtorEq, Nat.reduceSub, List.reverse_cons, List.reverse_nil, List.nil_append, List.cons_append, Option.toList_some, Option.toList_none, not_true_eq_false, not_false_eq_true, nI_1]
        have := ih (i + 1) D1 (by omega) h1 (by rw [e]; exact h2) (fun j x hj hx => h3 j x (by omega) hx) h4
        rw [e] at this
        exact this
      · have hx : ¬ xs[i] = n := fun z => h (by rw [z])
        have e := take_filter (n := n) hxi
        rw [if_neg hx] at e
        refine kwX4_remove_22 hC hE ?_
        simp only [kbX4_remove_22, mX4_remove, kblk, kstp, kent, kpad, kget, kst1, kst2, kc2, cond_false, cond_true, kfv, kfit, kOkf, kputv, kputD, kputG, kcpy, kcat, kRR, kNN, true_and, and_true, if_true, if_false, if_pos, Nat.reduceAdd, Nat.reduceEqDiff, Nat.reduceLeDiff, Nat.reduceLT, reduceIte, Prod.mk.injEq, eq_self, false_and, and_false, reduceCtorEq, Nat.reduceSub, List.reverse_cons, List.reverse_nil, List.nil_append, List.cons_append, Option.toList_some, Option.toList_none, not_true_eq_false, not_false_eq_true, hlive, hlive8, nI_clamp (show i < 2 ^ 31 by omega), hxv]
        refine ⟨vp_in_nI (by omega) (by omega), vp_in_nI (by omega) (by omega), ?_⟩
        rw [nI_clamp (show ((xs.take i).filter (fun a => decide (a ≠ n))).length < 2 ^ 31 by omega)]
        refine kwX4_remove_37 hC hE ?_
        simp only [kbX4_remove_37, mX4_remove, kblk, kstp, kent, kpad, kget, kst1, kst2, kc2, cond_false, cond_true, kfv, kfit, kOkf, kputv, kputD, kputG, kcpy, kcat, kRR, kNN, true_and, and_true, if_true, if_false, if_pos, Nat.reduceAdd, Nat.reduceEqDiff, Nat.reduceLeDiff, Nat.reduceLT, reduceIte, Prod.mk.injEq, eq_self, false_and, and_false, reduceCtorEq, Nat.reduceSub, List.reverse_cons, List.reverse_nil, List.nil_append, List.cons_append, Option.toList_some, Option.toList_none, not_true_eq_false, not_false_eq_true, nI_1]
        have := ih (i + 1) (kput D1 (8, L, k + 1) ((xs.take i).filter (fun a => decide (a ≠ n))).length (nI xs[i])) (by omega) (by simp [kput, h1]) (fun j y hy => ?_) (fun j x hj hx => ?_) (fun a ha1 ha2 => ?_)
        · rw [e, List.length_append] at this
          exact this
        · rw [e, List.getElem?_append] at hy
          by_cases hj : j < ((xs.take i).filter (fun a => decide (a ≠ n))).length
          · rw [if_pos hj] at hy
            have h5 := h2 j y hy
            have h6 : j ≠ ((xs.take i).filter (fun a => decide (a ≠ n))).length := by omega
            simp only [kput, h6, and_false, if_false]
            exact h5
          · rw [if_neg hj] at hy
            have h6 : j = ((xs.take i).filter (fun a => decide (a ≠ n))).length := by
              have := (List.getElem?_eq_some_iff.mp hy).1
              simp only [List.length_cons, List.length_nil] at this
              omega
            rw [h6, Nat.sub_self] at hy
            simp only [List.getElem?_cons_zero, Option.some.injEq] at hy
            simp only [kput, h6, and_self, if_true, hy]
        · have h6 : j ≠ ((xs.take i).filter (fun a => decide (a ≠ n))).length := by omega
          simp only [kput, h6, and_false, if_false]
          exact h3 j x (by omega) hx
        · rw [← h4 a ha1 ha2]
          funext j
          simp [kput, ha2]
  refine kwX4_remove_0 hC hE ?_
  simp only [kbX4_remove_0, mX4_remove, kblk, kstp, kent, kpad, kget, kst1, kst2, kc2, cond_false, cond_true, kfv, kfit, kOkf, kputv, kputD, kputG, kcpy, kcat, kRR, kNN, true_and, and_true, if_true, if_false, if_pos, Nat.reduceAdd, Nat.reduceEqDiff, Nat.reduceLeDiff, Nat.reduceLT, reduceIte, Prod.mk.injEq, eq_self, false_and, and_false, reduceCtorEq, Nat.reduceSub, List.reverse_cons, List.reverse_nil, List.nil_append, List.cons_append, Option.toList_some, Option.toList_none, not_true_eq_false, not_false_eq_true]
  exact loop xs.length 0 D (by omega) hr.1 (fun j y hy => by simp at hy) (fun j x _ hx => hr.2 j x hx) rowOff.refl
end
section
theorem cl0 : (0 : Int32).toNatClampNeg = 0 := by decide
theorem nl0 : ¬ (0 : Int32) < 0 := by decide
theorem s_Row_copyFrom {D : KI → Nat → Int32} {G : KI → Nat → Int64} {L L2 k : Nat} {xs : List Nat} (hL : L < 2) (hL2 : L2 < 2) (hk : k < 5) (hne : L ≠ L2) (hr : rowRep D L2 k xs) (hlen : xs.length ≤ kN8 L (k + 1)) (hlen2 : xs.length ≤ kN8 L2 (k + 1)) (h91 : kN8 L (k + 1) ≤ 91) :
    SpQ mX4_copyFrom 0 0 [kR (some (4, L, k)), kR (some (4, L2, k))] (km D G) (fun v M' => v = none ∧ ∃ D', M' = km D' G ∧ rowRep D' L k xs ∧ rowOff D' D L k) := by
  refine SpQ_of (own := 4) (ini := false) (by decide +kernel) rfl (by decide) (Nat.le_of_ble_eq_true rfl) ?_
  intro X hC hE hL0
  have hlive : kLive (4, L, k) := ⟨hL, hk⟩
  have hlive8 : kLive (8, L, k + 1) := Or.inl ⟨hL, by omega⟩
  have hlive2 : kLive (4, L2, k) := ⟨hL2, hk⟩
  have hlive82 : kLive (8, L2, k + 1) := Or.inl ⟨hL2, by omega⟩
  have fin : KW X 25 [some (kR (some (4, L, k))), some (kR (some (4, L2, k)))] [kI (nI xs.length), kR (some (4, L, k))] (km D G) 0 0 := by
    refine kwX4_copyFrom_25 hC hE ?_
    simp only [kbX4_copyFrom_25, mX4_copyFrom, kblk, kstp, kent, kpad, kget, kst1, kst2, kc2, cond_false, cond_true, kfv, kfit, kOkf, kputv, kputD, kputG, kcpy, kcat, kRR, kNN, true_and, and_true, if_true, if_false, if_pos, Nat.reduceAdd, Nat.reduceEqDiff, Nat.reduceLeDiff, Nat.reduceLT, reduceIte, Prod.mk.injEq, eq_self, false_and, and_false, reduceCtorEq, Nat.reduceSub, List.reverse_cons, List.reverse_nil, List.nil_append, List.cons_append, Option.toList_some, Option.toList_none, not_true_eq_false, not_false_eq_true, hlive, hlive2, hlive8, hlive82, cl0, nl0, kroom, Nat.le_refl, Nat.zero_add]
    have e : kput D (4, L, k) 1 (nI xs.length) (4, L, k) 1 = nI xs.length := by simp [kput]
    simp only [e, nI_clamp (show xs.length < 2 ^ 31 by omega)]
    refine ⟨nI_pos (by omega), hlen2, hlen, by decide, ?_⟩
    refine ⟨⟨rfl, _, rfl, ⟨?_, fun j y hy => ?_⟩, ?_⟩, trivial, Nat.le_refl _, Nat.le_refl _⟩
    · simp [kset, kput]
    · have hj : j < xs.length := (List.getElem?_eq_some_iff.mp hy).1
      simp only [kset, kput, if_true, va_cpy, Nat.zero_le, true_and, Nat.zero_add, hj, Nat.sub_zero, Prod.mk.injEq, Nat.reduceEqDiff, false_and, if_false]
      exact hr.2 j y hy
    · intro a ha1 ha2
      funext j
      simp [kset, kput, ha1, ha2]
  refine kwX4_copyFrom_0 hC hE ?_
  simp only [kbX4_copyFrom_0, mX4_copyFrom, kblk, kstp, kent, kpad, kget, kst1, kst2, kc2, cond_false, cond_true, kfv, kfit, kOkf, kputv, kputD, kputG, kcpy, kcat, kRR, kNN, true_and, and_true, if_true, if_false, if_pos, Nat.reduceAdd, Nat.reduceEqDiff, Nat.reduceLeDiff, Nat.reduceLT, reduceIte, Prod.mk.injEq, eq_self, false_and, and_false, reduceCtorEq, Nat.reduceSub, List.reverse_cons, List.reverse_nil, List.nil_append, List.cons_append, Option.toList_some, Option.toList_none, not_true_eq_false, not_false_eq_true, hlive, hlive2, hlive8, hr.1, Nat.reduceLeDiff]
  refine ⟨fun h => ?_, fun h => ?_⟩
  · have e : xs.length = kN8 L (k + 1) := by
      rcases Nat.lt_or_ge xs.length (kN8 L (k + 1)) with h1 | h1
      · exact absurd h (nI_ge h1 (by omega))
      · omega
    refine kwX4_copyFrom_20 hC hE ?_
    simp only [kbX4_copyFrom_20, mX4_copyFrom, kblk, kstp, kent, kpad, kget, kst1, kst2, kc2, cond_false, cond_true, kfv, kfit, kOkf, kputv, kputD, kputG, kcpy, kcat, kRR, kNN, true_and, and_true, if_true, if_false, if_pos, Nat.reduceAdd, Nat.reduceEqDiff, Nat.reduceLeDiff, Nat.reduceLT, reduceIte, Prod.mk.injEq, eq_self, false_and, and_false, reduceCtorEq, Nat.reduceSub, List.reverse_cons, List.reverse_nil, List.nil_append, List.cons_append, Option.toList_some, Option.toList_none, not_true_eq_false, not_false_eq_true, hlive, hlive8]
    rw [← e]
    exact fin
  · refine kwX4_copyFrom_13 hC hE ?_
    simp only [kbX4_copyFrom_13, mX4_copyFrom, kblk, kstp, kent, kpad, kget, kst1, kst2, kc2, cond_false, cond_true, kfv, kfit, kOkf, kputv, kputD, kputG, kcpy, kcat, kRR, kNN, true_and, and_true, if_true, if_false, if_pos, Nat.reduceAdd, Nat.reduceEqDiff, Nat.reduceLeDiff, Nat.reduceLT, reduceIte, Prod.mk.injEq, eq_self, false_and, and_false, reduceCtorEq, Nat.reduceSub, List.reverse_cons, List.reverse_nil, List.nil_append, List.cons_append, Option.toList_some, Option.toList_none, not_true_eq_false, not_false_eq_true, hlive2, hr.1]
    exact fin
end
section
/-! THE MATHEMATICAL STATE of a lift: counts, fields, queues, shed. Field numbers: chairs 0 seats, 1 place, 2 riders, 3 groups, 4 taken; groups 10 size, 11 patience, 12 state, 13 lane, 14 chair, 15 joined, 16 up, 17 colder; lanes 21 shut, 22 taken; 38 half, 39 wanted, 40 turn, 41 step, 42 stood, 43 loadings (place 0); 50 the winds. -/
abbrev KT : Type := (Nat × Nat × Nat) × (Nat → Nat → Int32) × (Nat → List Nat) × List Nat
abbrev tC (σ : KT) : Nat := σ.1.1
abbrev tL (σ : KT) : Nat := σ.1.2.1
abbrev tG (σ : KT) : Nat := σ.1.2.2
abbrev tZ (σ : KT) : Nat → Nat → Int32 := σ.2.1
abbrev tQ (σ : KT) : Nat → List Nat := σ.2.2.1
abbrev tS (σ : KT) : List Nat := σ.2.2.2
def zup (Z : Nat → Nat → Int32) (f i : Nat) (v : Int32) : Nat → Nat → Int32 := fun a b => if a = f ∧ b = i then v else Z a b
def qup (q : Nat → List Nat) (l : Nat) (xs : List Nat) : Nat → List Nat := fun a => if a = l then xs else q a
abbrev tset (σ : KT) (f i : Nat) (v : Int32) : KT := (σ.1, zup σ.2.1 f i v, σ.2.2.1, σ.2.2.2)
abbrev tsetQ (σ : KT) (l : Nat) (xs : List Nat) : KT := (σ.1, σ.2.1, qup σ.2.2.1 l xs, σ.2.2.2)
abbrev tsetS (σ : KT) (xs : List Nat) : KT := (σ.1, σ.2.1, σ.2.2.1, xs)
/-- the lift of part L holds σ -/
def kRep (L : Nat) (D : KI → Nat → Int32) (σ : KT) : Prop :=
  (D (3, L, 0) 5 = nI (tC σ) ∧ D (3, L, 0) 6 = nI (tL σ) ∧ D (3, L, 0) 7 = nI (tG σ)) ∧
  (∀ j, 8 ≤ j → j ≤ 13 → D (3, L, 0) j = tZ σ (30 + j) 0) ∧
  (∀ c, c < tC σ → ∀ j, j < 5 → D (0, L, c) j = tZ σ j c) ∧
  (∀ g, g < tG σ → ∀ j, j < 8 → D (1, L, g) j = tZ σ (10 + j) g) ∧
  (∀ l, l < tL σ → ∀ j, 1 ≤ j → j ≤ 2 → D (2, L, l) j = tZ σ (20 + j) l) ∧
  (∀ t, t < 24 → D (8, L, 0) t = tZ σ 50 t) ∧
  rowRep D L 0 (tS σ) ∧ ∀ l, l < tL σ → rowRep D L (l + 1) (tQ σ l)
def kOff (L : Nat) (D' D : KI → Nat → Int32) : Prop := ∀ i : KI, i.2.1 ≠ L → D' i = D i
theorem kOff.refl {L : Nat} {D : KI → Nat → Int32} : kOff L D D := fun _ _ => rfl
theorem kOff.trans {L : Nat} {D1 D2 D3 : KI → Nat → Int32} (h1 : kOff L D1 D2) (h2 : kOff L D2 D3) : kOff L D1 D3 := fun i hi => (h1 i hi).trans (h2 i hi)
theorem kOff.put {L a b j : Nat} {D : KI → Nat → Int32} {v : Int32} : kOff L (kput D (a, L, b) j v) D := by
  intro i hi
  funext k
  have : i ≠ (a, L, b) := fun z => hi (by rw [z])
  simp [kput, this]
theorem kOff.row {L k : Nat} {D D' : KI → Nat → Int32} (h : rowOff D' D L k) : kOff L D' D := by
  intro i hi
  exact h i (fun z => hi (by rw [z])) (fun z => hi (by rw [z]))
/-- how many there may be, and that numbers in rows are numbers of things -/
def kB (σ : KT) : Prop := tC σ ≤ 20 ∧ tL σ ≤ 4 ∧ tG σ ≤ 91 ∧ ((tS σ).length ≤ 20 ∧ ∀ x ∈ tS σ, x < tC σ) ∧ ∀ l, l < tL σ → (tQ σ l).length ≤ 91 ∧ ∀ x ∈ tQ σ l, x < tG σ
theorem rowRep.keep {D D' : KI → Nat → Int32} {L k : Nat} {xs : List Nat} (h : rowRep D L k xs) (h1 : D' (4, L, k) 1 = D (4, L, k) 1) (h2 : ∀ i, i < xs.length → D' (8, L, k + 1) i = D (8, L, k + 1) i) : rowRep D' L k xs :=
  ⟨h1.trans h.1, fun i x hx => (h2 i (List.getElem?_eq_some_iff.mp hx).1).trans (h.2 i x hx)⟩
theorem rep_put {L : Nat} {D : KI → Nat → Int32} {σ : KT} (h : kRep L D σ) (a n j f i : Nat) (v : Int32)
    (hloc : (a = 0 ∧ j < 5 ∧ f = j ∧ i = n) ∨ (a = 1 ∧ j < 8 ∧ f = 10 + j ∧ i = n) ∨ (a = 2 ∧ 1 ≤ j ∧ j ≤ 2 ∧ f = 20 + j ∧ i = n) ∨ (a = 3 ∧ n = 0 ∧ 8 ≤ j ∧ j ≤ 13 ∧ f = 30 + j ∧ i = 0) ∨ (a = 8 ∧ n = 0 ∧ f = 50 ∧ i = j)) : kRep L (kput D (a, L, n) j v) (tset σ f i v) := by
  obtain ⟨⟨h1, h2, h3⟩, h4, h5, h6, h7, h8, h9, h10⟩ := h
  have key : ∀ (a' n' j' f' i' : Nat), ((a' = 0 ∧ j' < 5 ∧ f' = j' ∧ i' = n') ∨ (a' = 1 ∧ j' < 8 ∧ f' = 10 + j' ∧ i' = n') ∨ (a' = 2 ∧ 1 ≤ j' ∧ j' ≤ 2 ∧ f' = 20 + j' ∧ i' = n') ∨ (a' = 3 ∧ n' = 0 ∧ 8 ≤ j' ∧ j' ≤ 13 ∧ f' = 30 + j' ∧ i' = 0) ∨ (a' = 8 ∧ n' = 0 ∧ f' = 50 ∧ i' = j')) → D (a', L, n') j' = tZ σ f' i' → kput D (a, L, n) j v (a', L, n') j' = zup (tZ σ) f i v f' i' := by
    intro a' n' j' f' i' hl' he
    by_cases hc : a' = a ∧ n' = n ∧ j' = j
    · obtain ⟨rfl, rfl, rfl⟩ := hc
      have : f' = f ∧ i' = i := by omega
      simp [kput, zup, this]
    · have h1 : ¬ ((a', L, n') = (a, L, n) ∧ j' = j) := by
        intro z
        simp only [Prod.mk.injEq, true_and] at z
        exact hc ⟨z.1.1, z.1.2, z.2⟩
      have h2 : ¬ (f' = f ∧ i' = i) := by omega
      simp only [kput, zup, h1, h2, if_false]
      exact he
  have row : ∀ k xs, rowRep D L k xs → rowRep (kput D (a, L, n) j v) L k xs := by
    intro k xs hx
    refine hx.keep ?_ (fun i' _ => ?_)
    · have : ¬ ((4, L, k) = (a, L, n) ∧ 1 = j) := by
        simp only [Prod.mk.injEq, true_and]; omega
      simp only [kput, this, if_false]
    · have : ¬ ((8, L, k + 1) = (a, L, n) ∧ i' = j) := by
        simp only [Prod.mk.injEq, true_and]; omega
      simp only [kput, this, if_false]
  have cnt : ∀ j', 5 ≤ j' → j' ≤ 7 → kput D (a, L, n) j v (3, L, 0) j' = D (3, L, 0) j' := by
    intro j' a1 a2
    have : ¬ ((3, L, 0) = (a, L, n) ∧ j' = j) := by
      simp only [Prod.mk.injEq, true_and]; omega
    simp only [kput, this, if_false]
  refine ⟨⟨(cnt 5 (by omega) (by omega)).trans h1, (cnt 6 (by omega) (by omega)).trans h2, (cnt 7 (by omega) (by omega)).trans h3⟩, fun j' a1 a2 => ?_, fun c hc j' hj => ?_, fun c hc j' hj => ?_, fun c hc j' hj hj2 => ?_, fun t ht => ?_, row _ _ h9, fun l hl => row _ _ (h10 l hl)⟩
  · exact key 3 0 j' (30 + j') 0 (by omega) (h4 j' a1 a2)
  · exact key 0 c j' j' c (by omega) (h5 c hc j' hj)
  · exact key 1 c j' (10 + j') c (by omega) (h6 c hc j' hj)
  · exact key 2 c j' (20 + j') c (by omega) (h7 c hc j' hj hj2)
  · exact key 8 0 t 50 t (by omega) (h8 t ht)
theorem rep_chair {L : Nat} {D : KI → Nat → Int32} {σ : KT} (h : kRep L D σ) (c j : Nat) (v : Int32) (hj : j < 5) : kRep L (kput D (0, L, c) j v) (tset σ j c v) := rep_put h 0 c j j c v (by omega)
theorem rep_group {L : Nat} {D : KI → Nat → Int32} {σ : KT} (h : kRep L D σ) (g j : Nat) (v : Int32) (hj : j < 8) : kRep L (kput D (1, L, g) j v) (tset σ (10 + j) g v) := rep_put h 1 g j (10 + j) g v (by omega)
theorem rep_lane {L : Nat} {D : KI → Nat → Int32} {σ : KT} (h : kRep L D σ) (l j : Nat) (v : Int32) (h1 : 1 ≤ j) (hj : j ≤ 2) : kRep L (kput D (2, L, l) j v) (tset σ (20 + j) l v) := rep_put h 2 l j (20 + j) l v (by omega)
theorem rep_scal {L : Nat} {D : KI → Nat → Int32} {σ : KT} (h : kRep L D σ) (j : Nat) (v : Int32) (h1 : 8 ≤ j) (hj : j ≤ 13) : kRep L (kput D (3, L, 0) j v) (tset σ (30 + j) 0 v) := rep_put h 3 0 j (30 + j) 0 v (by omega)
theorem rep_wind {L : Nat} {D : KI → Nat → Int32} {σ : KT} (h : kRep L D σ) (t : Nat) (v : Int32) : kRep L (kput D (8, L, 0) t v) (tset σ 50 t v) := rep_put h 8 0 t 50 t v (by omega)
theorem rep_rowoff {L k : Nat} {D D' : KI → Nat → Int32} (ho : rowOff D' D L k) : (D' (3, L, 0) = D (3, L, 0)) ∧ (∀ c, D' (0, L, c) = D (0, L, c)) ∧ (∀ c, D' (1, L, c) = D (1, L, c)) ∧ (∀ c, D' (2, L, c) = D (2, L, c)) ∧ D' (8, L, 0) = D (8, L, 0) ∧ ∀ k2 xs, k2 ≠ k → rowRep D L k2 xs → rowRep D' L k2 xs := by
  refine ⟨ho _ (by simp) (by simp), fun c => ho _ (by simp) (by simp), fun c => ho _ (by simp) (by simp), fun c => ho _ (by simp) (by simp), ho _ (by simp) (by simp), fun k2 xs hk hx => ?_⟩
  have e1 : D' (4, L, k2) = D (4, L, k2) := ho _ (by simp [hk]) (by simp)
  have e2 : D' (8, L, k2 + 1) = D (8, L, k2 + 1) := ho _ (by simp) (by simp [hk])
  exact hx.keep (by rw [e1]) (fun i _ => by rw [e2])
theorem rep_shed {L : Nat} {D D' : KI → Nat → Int32} {σ : KT} {xs : List Nat} (h : kRep L D σ) (ho : rowOff D' D L 0) (hr : rowRep D' L 0 xs) : kRep L D' (tsetS σ xs) := by
  obtain ⟨h123, h4, h5, h6, h7, h8, h9, h10⟩ := h
  obtain ⟨e1, e2, e3, e4, e5, e6⟩ := rep_rowoff ho
  refine ⟨by rw [e1]; exact h123, fun j a b => by rw [e1]; exact h4 j a b, fun c hc j hj => by rw [e2]; exact h5 c hc j hj, fun c hc j hj => by rw [e3]; exact h6 c hc j hj, fun c hc j hj => by rw [e4]; exact h7 c hc j hj, fun t ht => by rw [e5]; exact h8 t ht, hr, fun l hl => e6 _ _ (by omega) (h10 l hl)⟩
theorem rep_queue {L l : Nat} {D D' : KI → Nat → Int32} {σ : KT} {xs : List Nat} (h : kRep L D σ) (ho : rowOff D' D L (l + 1)) (hr : rowRep D' L (l + 1) xs) : kRep L D' (tsetQ σ l xs) := by
  obtain ⟨h123, h4, h5, h6, h7, h8, h9, h10⟩ := h
  obtain ⟨e1, e2, e3, e4, e5, e6⟩ := rep_rowoff ho
  refine ⟨by rw [e1]; exact h123, fun j a b => by rw [e1]; exact h4 j a b, fun c hc j hj => by rw [e2]; exact h5 c hc j hj, fun c hc j hj => by rw [e3]; exact h6 c hc j hj, fun c hc j hj => by rw [e4]; exact h7 c hc j hj, fun t ht => by rw [e5]; exact h8 t ht, e6 _ _ (by omega) h9, fun a ha => ?_⟩
  by_cases hal : a = l
  · subst hal
    rw [show tQ (tsetQ σ a xs) a = xs from if_pos rfl]
    exact hr
  · rw [show tQ (tsetQ σ l xs) a = tQ σ a from if_neg hal]
    exact e6 _ _ (by omega) (h10 a ha)
theorem rep_cnt {L : Nat} {D : KI → Nat → Int32} {σ : KT} (h : kRep L D σ) (j n : Nat) (nC nL nG : Nat) (hn : (nC, nL, nG) = (if j = 5 then n else tC σ, if j = 6 then n else tL σ, if j = 7 then n else tG σ)) (hj : 5 ≤ j ∧ j ≤ 7)
    (hc : ∀ c, tC σ ≤ c → c < nC → ∀ j, j < 5 → D (0, L, c) j = tZ σ j c) (hg : ∀ c, tG σ ≤ c → c < nG → ∀ j, j < 8 → D (1, L, c) j = tZ σ (10 + j) c) (hl : ∀ c, tL σ ≤ c → c < nL → (∀ j, 1 ≤ j → j ≤ 2 → D (2, L, c) j = tZ σ (20 + j) c) ∧ rowRep D L (c + 1) (tQ σ c)) :
    kRep L (kput D (3, L, 0) j (nI n)) ((nC, nL, nG), σ.2) := by
  obtain ⟨⟨h1, h2, h3⟩, h4, h5, h6, h7, h8, h9, h10⟩ := h
  simp only [Prod.mk.injEq] at hn
  obtain ⟨n1, n2, n3⟩ := hn
  have row : ∀ k xs, rowRep D L k xs → rowRep (kput D (3, L, 0) j (nI n)) L k xs := fun k xs hx => hx.keep (by simp [kput]) (fun i' _ => by simp [kput])
  refine ⟨⟨?_, ?_, ?_⟩, fun j' a b => ?_, fun c hc2 j' hj' => ?_, fun c hc2 j' hj' => ?_, fun c hc2 j' hj' hj2 => ?_, fun t ht => ?_, row _ _ h9, fun l hl2 => ?_⟩
  · by_cases e : j = 5
    · subst e; simp [kput, n1]
    · have : ¬ (5 = j) := fun z => e z.symm
      simp [kput, this, n1, e, h1]
  · by_cases e : j = 6
    · subst e; simp [kput, n2]
    · have : ¬ (6 = j) := fun z => e z.symm
      simp [kput, this, n2, e, h2]
  · by_cases e : j = 7
    · subst e; simp [kput, n3]
    · have : ¬ (7 = j) := fun z => e z.symm
      simp [kput, this, n3, e, h3]
  · have : ¬ (j' = j) := by omega
    simp only [kput, this, and_false, if_false]
    exact h4 j' a b
  · simp only [kput, Prod.mk.injEq, Nat.reduceEqDiff, false_and, if_false]
    rcases Nat.lt_or_ge c (tC σ) with q | q
    · exact h5 c q j' hj'
    · exact hc c q hc2 j' hj'
  · simp only [kput, Prod.mk.injEq, Nat.reduceEqDiff, false_and, if_false]
    rcases Nat.lt_or_ge c (tG σ) with q | q
    · exact h6 c q j' hj'
    · exact hg c q hc2 j' hj'
  · simp only [kput, Prod.mk.injEq, Nat.reduceEqDiff, false_and, if_false]
    rcases Nat.lt_or_ge c (tL σ) with q | q
    · exact h7 c q j' hj' hj2
    · exact (hl c q hc2).1 j' hj' hj2
  · simp only [kput, Prod.mk.injEq, Nat.reduceEqDiff, false_and, if_false]
    exact h8 t ht
  · rcases Nat.lt_or_ge l (tL σ) with q | q
    · exact row _ _ (h10 l q)
    · exact row _ _ (hl l q hl2).2
/-! sums over the first n, as the loops make them -/
def isum (f : Nat → Int32) : Nat → Int32
  | 0 => 0
  | n + 1 => isum f n + f n
def tPeople (σ : KT) (s : Int32) : Int32 := isum (fun g => if tZ σ 12 g = s then tZ σ 10 g else 0) (tG σ)
def tInQueue (σ : KT) (l : Int32) : Int32 := isum (fun g => if tZ σ 13 g = l then tZ σ 10 g else 0) (tG σ)
def tCold (σ : KT) : Int32 := isum (fun g => tZ σ 10 g * tZ σ 17 g) (tG σ)
def tTaken (σ : KT) : Int32 := isum (fun c => tZ σ 4 c) (tC σ)
/-- the first chair at a place, -1 if there is none -/
def tAt (σ : KT) (p : Int32) : Nat → Nat → Int32
  | _, 0 => -1
  | i, n + 1 => if tZ σ 1 i = p then nI i else tAt σ p (i + 1) n
def tChairAt (σ : KT) (p : Int32) : Int32 := tAt σ p 0 (tC σ)
def tOnRope (σ : KT) : Int32 := nI (tC σ) - nI (tS σ).length
def tLaneFact (σ : KT) (l what : Nat) : Int32 := if what = 0 then nI (tQ σ l).length else if what = 1 then tInQueue σ (nI l) else if what = 2 then (if tZ σ 21 l = 0 then 0 else 1) else tZ σ 22 l
def tFact (σ : KT) (what : Nat) : Int32 :=
  if what = 0 then tZ σ 41 0 else if what = 1 then nI (tC σ) else if what = 2 then tOnRope σ else if what = 3 then nI (tL σ) else if what = 4 then nI (tG σ) else if what = 5 then tPeople σ 0 else if what = 6 then tPeople σ 1 else if what = 7 then tPeople σ 2 else if what = 8 then tPeople σ 3 else if what = 9 then tZ σ 42 0 else if what = 10 then tZ σ 40 0 else if what = 11 then tCold σ else tZ σ 38 0
end
section
/-! Lift: what only looks. -/
section LOOK
variable {D : KI → Nat → Int32} {G : KI → Nat → Int64} {L : Nat} {σ : KT}
theorem s_chairsOnRope (hL : L < 2) (hr : kRep L D σ) : SpQ mX3_chairsOnRope 0 0 [kR (some (3, L, 0))] (km D G) (fun v M' => v = some (kI (tOnRope σ)) ∧ M' = km D G) := by
  refine SpQ_of (own := 3) (ini := false) (by decide +kernel) rfl (by decide) (Nat.le_of_ble_eq_true rfl) ?_
  intro X hC hE hL0
  have hlive : kLive (3, L, 0) := ⟨hL, rfl⟩
  have hlive4 : kLive (4, L, 0) := ⟨hL, by decide⟩
  obtain ⟨⟨c5, c6, c7⟩, r4, r5, r6, r7, r8, r9, r10⟩ := hr
  refine kwX3_chairsOnRope_0 hC hE ?_
  simp only [kbX3_chairsOnRope_0, mX3_chairsOnRope, kblk, kstp, kent, kpad, kget, kst1, kst2, kc2, cond_false, cond_true, kfv, kfit, kOkf, kputv, kputD, kputG, kcpy, kcat, kRR, kNN, true_and, and_true, if_true, if_false, if_pos, Nat.reduceAdd, Nat.reduceEqDiff, Nat.reduceLeDiff, Nat.reduceLT, reduceIte, Prod.mk.injEq, eq_self, false_and, and_false, reduceCtorEq, Nat.reduceSub, List.reverse_cons, List.reverse_nil, List.nil_append, List.cons_append, Option.toList_some, Option.toList_none, not_true_eq_false, not_false_eq_true, hlive, hlive4, c5, r9.1]
  exact ⟨⟨rfl, rfl⟩, trivial, Nat.le_refl _, Nat.le_refl _⟩
theorem s_chairAt (hL : L < 2) (hr : kRep L D σ) (hb : kB σ) (p : Int32) : SpQ mX3_chairAt 0 0 [kR (some (3, L, 0)), kI p] (km D G) (fun v M' => v = some (kI (tChairAt σ p)) ∧ M' = km D G) := by
  refine SpQ_of (own := 3) (ini := false) (by decide +kernel) rfl (by decide) (Nat.le_of_ble_eq_true rfl) ?_
  intro X hC hE hL0
  have hlive : kLive (3, L, 0) := ⟨hL, rfl⟩
  have hlive9 : kLive (9, L, 0) := ⟨hL, rfl⟩
  have hb1 := hb.1
  obtain ⟨⟨c5, c6, c7⟩, r4, r5, r6, r7, r8, r9, r10⟩ := hr
  have loop : ∀ (m i : Nat), i + m = tC σ → tAt σ p i m = tChairAt σ p → KW X 2 [some (kR (some (3, L, 0))), some (kI p), some (kI (nI i))] [] (km D G) 0 0 := by
    intro m
    induction m with
    | zero =>
      intro i him he
      have hi : i = tC σ := by omega
      subst hi
      refine kwX3_chairAt_2 hC hE ?_
      simp only [kbX3_chairAt_2, mX3_chairAt, kblk, kstp, kent, kpad, kget, kst1, kst2, kc2, cond_false, cond_true, kfv, kfit, kOkf, kputv, kputD, kputG, kcpy, kcat, kRR, kNN, true_and, and_true, if_true, if_false, if_pos, Nat.reduceAdd, Nat.reduceEqDiff, Nat.reduceLeDiff, Nat.reduceLT, reduceIte, Prod.mk.injEq, eq_self, false_and, and_false, reduceCtorEq, Nat.reduceSub, List.reverse_cons, List.reverse_nil, List.nil_append, List.cons_append, Option.toList_some, Option.toList_none, not_true_eq_false, not_false_eq_true, hlive, c5]
      refine ⟨fun _ => ?_, fun h => absurd (nI_le (Nat.le_refl _) (by omega)) h⟩
      refine kwX3_chairAt_31 hC hE ?_
      simp only [kbX3_chairAt_31, mX3_chairAt, kblk, kstp, kent, kpad, kget, kst1, kst2, kc2, cond_false, cond_true, kfv, kfit, kOkf, kputv, kputD, kputG, kcpy, kcat, kRR, kNN, true_and, and_true, if_true, if_false, if_pos, Nat.reduceAdd, Nat.reduceEqDiff, Nat.reduceLeDiff, Nat.reduceLT, reduceIte, Prod.mk.injEq, eq_self, false_and, and_false, reduceCtorEq, Nat.reduceSub, List.reverse_cons, List.reverse_nil, List.nil_append, List.cons_append, Option.toList_some, Option.toList_none, not_true_eq_false, not_false_eq_true]
      exact ⟨⟨by rw [← he]; rfl, rfl⟩, trivial, Nat.le_refl _, Nat.le_refl _⟩
    | succ m ih =>
      intro i him he
      have hi : i < tC σ := by omega
      have hi20 : i < 20 := by omega
      have hli : kLive (0, L, i) := ⟨hL, hi20⟩
      have hpl := r5 i hi 1 (by decide)
      refine kwX3_chairAt_2 hC hE ?_
      simp only [kbX3_chairAt_2, mX3_chairAt, kblk, kstp, kent, kpad, kget, kst1, kst2, kc2, cond_false, cond_true, kfv, kfit, kOkf, kputv, kputD, kputG, kcpy, kcat, kRR, kNN, true_and, and_true, if_true, if_false, if_pos, Nat.reduceAdd, Nat.reduceEqDiff, Nat.reduceLeDiff, Nat.reduceLT, reduceIte, Prod.mk.injEq, eq_self, false_and, and_false, reduceCtorEq, Nat.reduceSub, List.reverse_cons, List.reverse_nil, List.nil_append, List.cons_append, Option.toList_some, Option.toList_none, not_true_eq_false, not_false_eq_true, hlive, c5]
      refine ⟨fun h => absurd h (nI_ge hi (by omega)), fun _ => ?_⟩
      refine kwX3_chairAt_10 hC hE ?_
      simp only [kbX3_chairAt_10, mX3_chairAt, kblk, kstp, kent, kpad, kget, kst1, kst2, kc2, cond_false, cond_true, kfv, kfit, kOkf, kputv, kputD, kputG, kcpy, kcat, kRR, kNN, true_and, and_true, if_true, if_false, if_pos, Nat.reduceAdd, Nat.reduceEqDiff, Nat.reduceLeDiff, Nat.reduceLT, reduceIte, Prod.mk.injEq, eq_self, false_and, and_false, reduceCtorEq, Nat.reduceSub, List.reverse_cons, List.reverse_nil, List.nil_append, List.cons_append, Option.toList_some, Option.toList_none, not_true_eq_false, not_false_eq_true, hlive, hlive9, nI_clamp (show i < 2 ^ 31 by omega), hi20, hli, hpl, true_or, or_true]
      refine ⟨vp_in_nI hi20 (by omega), fun h => ?_, fun h => ?_⟩
      · refine kwX3_chairAt_25 hC hE ?_
        simp only [kbX3_chairAt_25, mX3_chairAt, kblk, kstp, kent, kpad, kget, kst1, kst2, kc2, cond_false, cond_true, kfv, kfit, kOkf, kputv, kputD, kputG, kcpy, kcat, kRR, kNN, true_and, and_true, if_true, if_false, if_pos, Nat.reduceAdd, Nat.reduceEqDiff, Nat.reduceLeDiff, Nat.reduceLT, reduceIte, Prod.mk.injEq, eq_self, false_and, and_false, reduceCtorEq, Nat.reduceSub, List.reverse_cons, List.reverse_nil, List.nil_append, List.cons_append, Option.toList_some, Option.toList_none, not_true_eq_false, not_false_eq_true, nI_1]
        refine ih (i + 1) (by omega) ?_
        rw [← he]
        simp only [tAt]
        rw [if_neg h]
      · refine kwX3_chairAt_23 hC hE ?_
        simp only [kbX3_chairAt_23, mX3_chairAt, kblk, kstp, kent, kpad, kget, kst1, kst2, kc2, cond_false, cond_true, kfv, kfit, kOkf, kputv, kputD, kputG, kcpy, kcat, kRR, kNN, true_and, and_true, if_true, if_false, if_pos, Nat.reduceAdd, Nat.reduceEqDiff, Nat.reduceLeDiff, Nat.reduceLT, reduceIte, Prod.mk.injEq, eq_self, false_and, and_false, reduceCtorEq, Nat.reduceSub, List.reverse_cons, List.reverse_nil, List.nil_append, List.cons_append, Option.toList_some, Option.toList_none, not_true_eq_false, not_false_eq_true]
        refine ⟨⟨?_, rfl⟩, trivial, Nat.le_refl _, Nat.le_refl _⟩
        rw [← he]
        simp only [tAt]
        rw [if_pos h]
  refine kwX3_chairAt_0 hC hE ?_
  simp only [kbX3_chairAt_0, mX3_chairAt, kblk, kstp, kent, kpad, kget, kst1, kst2, kc2, cond_false, cond_true, kfv, kfit, kOkf, kputv, kputD, kputG, kcpy, kcat, kRR, kNN, true_and, and_true, if_true, if_false, if_pos, Nat.reduceAdd, Nat.reduceEqDiff, Nat.reduceLeDiff, Nat.reduceLT, reduceIte, Prod.mk.injEq, eq_self, false_and, and_false, reduceCtorEq, Nat.reduceSub, List.reverse_cons, List.reverse_nil, List.nil_append, List.cons_append, Option.toList_some, Option.toList_none, not_true_eq_false, not_false_eq_true]
  exact loop (tC σ) 0 (by omega) rfl
theorem s_peopleWho (hL : L < 2) (hr : kRep L D σ) (hb : kB σ) (p : Int32) : SpQ mX3_peopleWho 0 0 [kR (some (3, L, 0)), kI p] (km D G) (fun v M' => v = some (kI (tPeople σ p)) ∧ M' = km D G) := by
  refine SpQ_of (own := 3) (ini := false) (by decide +kernel) rfl (by decide) (Nat.le_of_ble_eq_true rfl) ?_
  intro X hC hE hL0
  have hlive : kLive (3, L, 0) := ⟨hL, rfl⟩
  have hlive9 : kLive (10, L, 0) := ⟨hL, rfl⟩
  have hb1 := hb.2.2.1
  obtain ⟨⟨c5, c6, c7⟩, r4, r5, r6, r7, r8, r9, r10⟩ := hr
  have loop : ∀ (m i : Nat), i + m = tG σ → KW X 4 [some (kR (some (3, L, 0))), some (kI p), some (kI (isum (fun g => if tZ σ 12 g = p then tZ σ 10 g else 0) i)), some (kI (nI i))] [] (km D G) 0 0 := by
    intro m
    induction m with
    | zero =>
      intro i him
      have hi : i = tG σ := by omega
      subst hi
      refine kwX3_peopleWho_4 hC hE ?_
      simp only [kbX3_peopleWho_4, mX3_peopleWho, kblk, kstp, kent, kpad, kget, kst1, kst2, kc2, cond_false, cond_true, kfv, kfit, kOkf, kputv, kputD, kputG, kcpy, kcat, kRR, kNN, true_and, and_true, if_true, if_false, if_pos, Nat.reduceAdd, Nat.reduceEqDiff, Nat.reduceLeDiff, Nat.reduceLT, reduceIte, Prod.mk.injEq, eq_self, false_and, and_false, reduceCtorEq, Nat.reduceSub, List.reverse_cons, List.reverse_nil, List.nil_append, List.cons_append, Option.toList_some, Option.toList_none, not_true_eq_false, not_false_eq_true, hlive, c7]
      refine ⟨fun _ => ?_, fun h => absurd (nI_le (Nat.le_refl _) (by omega)) h⟩
      refine kwX3_peopleWho_43 hC hE ?_
      simp only [kbX3_peopleWho_43, mX3_peopleWho, kblk, kstp, kent, kpad, kget, kst1, kst2, kc2, cond_false, cond_true, kfv, kfit, kOkf, kputv, kputD, kputG, kcpy, kcat, kRR, kNN, true_and, and_true, if_true, if_false, if_pos, Nat.reduceAdd, Nat.reduceEqDiff, Nat.reduceLeDiff, Nat.reduceLT, reduceIte, Prod.mk.injEq, eq_self, false_and, and_false, reduceCtorEq, Nat.reduceSub, List.reverse_cons, List.reverse_nil, List.nil_append, List.cons_append, Option.toList_some, Option.toList_none, not_true_eq_false, not_false_eq_true]
      exact ⟨⟨rfl, rfl⟩, trivial, Nat.le_refl _, Nat.le_refl _⟩
    | succ m ih =>
      intro i him
      have hi : i < tG σ := by omega
      have hi91 : i < 91 := by omega
      have hli : kLive (1, L, i) := ⟨hL, hi91⟩
      have hst := r6 i hi 2 (by decide)
      have hsz := r6 i hi 0 (by decide)
      refine kwX3_peopleWho_4 hC hE ?_
      simp only [kbX3_peopleWho_4, mX3_peopleWho, kblk, kstp, kent, kpad, kget, kst1, kst2, kc2, cond_false, cond_true, kfv, kfit, kOkf, kputv, kputD, kputG, kcpy, kcat, kRR, kNN, true_and, and_true, if_true, if_false, if_pos, Nat.reduceAdd, Nat.reduceEqDiff, Nat.reduceLeDiff, Nat.reduceLT, reduceIte, Prod.mk.injEq, eq_self, false_and, and_false, reduceCtorEq, Nat.reduceSub, List.reverse_cons, List.reverse_nil, List.nil_append, List.cons_append, Option.toList_some, Option.toList_none, not_true_eq_false, not_false_eq_true, hlive, c7]
      refine ⟨fun h => absurd h (nI_ge hi (by omega)), fun _ => ?_⟩
      refine kwX3_peopleWho_12 hC hE ?_
      simp only [kbX3_peopleWho_12, mX3_peopleWho, kblk, kstp, kent, kpad, kget, kst1, kst2, kc2, cond_false, cond_true, kfv, kfit, kOkf, kputv, kputD, kputG, kcpy, kcat, kRR, kNN, true_and, and_true, if_true, if_false, if_pos, Nat.reduceAdd, Nat.reduceEqDiff, Nat.reduceLeDiff, Nat.reduceLT, reduceIte, Prod.mk.injEq, eq_self, false_and, and_false, reduceCtorEq, Nat.reduceSub, List.reverse_cons, List.reverse_nil, List.nil_append, List.cons_append, Option.toList_some, Option.toList_none, not_true_eq_false, not_false_eq_true, hlive, hlive9, nI_clamp (show i < 2 ^ 31 by omega), hi91, hli, hst, true_or, or_true]
      refine ⟨vp_in_nI hi91 (by omega), fun h => ?_, fun h => ?_⟩
      · refine kwX3_peopleWho_37 hC hE ?_
        simp only [kbX3_peopleWho_37, mX3_peopleWho, kblk, kstp, kent, kpad, kget, kst1, kst2, kc2, cond_false, cond_true, kfv, kfit, kOkf, kputv, kputD, kputG, kcpy, kcat, kRR, kNN, true_and, and_true, if_true, if_false, if_pos, Nat.reduceAdd, Nat.reduceEqDiff, Nat.reduceLeDiff, Nat.reduceLT, reduceIte, Prod.mk.injEq, eq_self, false_and, and_false, reduceCtorEq, Nat.reduceSub, List.reverse_cons, List.reverse_nil, List.nil_append, List.cons_append, Option.toList_some, Option.toList_none, not_true_eq_false, not_false_eq_true, nI_1]
        have := ih (i + 1) (by omega)
        simp only [isum] at this
        rw [if_neg h, Int32.add_zero] at this
        exact this
      · refine kwX3_peopleWho_25 hC hE ?_
        simp only [kbX3_peopleWho_25, mX3_peopleWho, kblk, kstp, kent, kpad, kget, kst1, kst2, kc2, cond_false, cond_true, kfv, kfit, kOkf, kputv, kputD, kputG, kcpy, kcat, kRR, kNN, true_and, and_true, if_true, if_false, if_pos, Nat.reduceAdd, Nat.reduceEqDiff, Nat.reduceLeDiff, Nat.reduceLT, reduceIte, Prod.mk.injEq, eq_self, false_and, and_false, reduceCtorEq, Nat.reduceSub, List.reverse_cons, List.reverse_nil, List.nil_append, List.cons_append, Option.toList_some, Option.toList_none, not_true_eq_false, not_false_eq_true, hlive, hlive9, nI_clamp (show i < 2 ^ 31 by omega), hi91, hli, hsz, true_or, or_true]
        refine ⟨vp_in_nI hi91 (by omega), ?_⟩
        refine kwX3_peopleWho_37 hC hE ?_
        simp only [kbX3_peopleWho_37, mX3_peopleWho, kblk, kstp, kent, kpad, kget, kst1, kst2, kc2, cond_false, cond_true, kfv, kfit, kOkf, kputv, kputD, kputG, kcpy, kcat, kRR, kNN, true_and, and_true, if_true, if_false, if_pos, Nat.reduceAdd, Nat.reduceEqDiff, Nat.reduceLeDiff, Nat.reduceLT, reduceIte, Prod.mk.injEq, eq_self, false_and, and_false, reduceCtorEq, Nat.reduceSub, List.reverse_cons, List.reverse_nil, List.nil_append, List.cons_append, Option.toList_some, Option.toList_none, not_true_eq_false, not_false_eq_true, nI_1]
        have := ih (i + 1) (by omega)
        simp only [isum] at this
        rw [if_pos h] at this
        exact this
  refine kwX3_peopleWho_0 hC hE ?_
  simp only [kbX3_peopleWho_0, mX3_peopleWho, kblk, kstp, kent, kpad, kget, kst1, kst2, kc2, cond_false, cond_true, kfv, kfit, kOkf, kputv, kputD, kputG, kcpy, kcat, kRR, kNN, true_and, and_true, if_true, if_false, if_pos, Nat.reduceAdd, Nat.reduceEqDiff, Nat.reduceLeDiff, Nat.reduceLT, reduceIte, Prod.mk.injEq, eq_self, false_and, and_false, reduceCtorEq, Nat.reduceSub, List.reverse_cons, List.reverse_nil, List.nil_append, List.cons_append, Option.toList_some, Option.toList_none, not_true_eq_false, not_false_eq_true]
  exact loop (tG σ) 0 (by omega)
end LOOK
end
