/-! A small machine of our own over numbered cells: what a straight run of instructions does, as a Prop. A cell's number: kind, part, place. Kinds 0 to 7: the objects of vwCl's entries; 8 int rows, 9 to 11 rows of chairs, groups, lanes; 12 long rows; 13 the script. -/
abbrev KI : Type := Nat × Nat × Nat
abbrev KV : Type := Int32 ⊕ (Int64 ⊕ (UInt64 ⊕ Option KI))
abbrev kI (x : Int32) : KV := .inl x
abbrev kL (x : Int64) : KV := .inr (.inl x)
abbrev kD (x : UInt64) : KV := .inr (.inr (.inl x))
abbrev kR (r : Option KI) : KV := .inr (.inr (.inr r))
abbrev KM : Type := (KI → Prop) × (KI → Nat → Option KI) × (KI → Nat → Int32) × (KI → Nat → Int64) × (KI → Nat)
def kset {α : Type} (f : KI → α) (i : KI) (v : α) : KI → α := fun a => if a = i then v else f a
def kput {α : Type} (f : KI → Nat → α) (i : KI) (j : Nat) (v : α) : KI → Nat → α := fun a b => if a = i ∧ b = j then v else f a b
abbrev KL : Type := List (Option KV)
def kget : KL → Nat → Option KV
  | [], _ => none
  | a :: _, 0 => a
  | _ :: l, i + 1 => kget l i
def kc2 : Option KV → Bool
  | some (.inr (.inl _)) => true
  | some (.inr (.inr (.inl _))) => true
  | _ => false
def kst1 : KL → Nat → KV → KL
  | [], _, _ => []
  | _ :: l, 0, v => some v :: l
  | a :: l, 1, v => (bif kc2 a then none else a) :: kst1 l 0 v
  | a :: l, i + 2, v => a :: kst1 l (i + 1) v
def kst2 : KL → Nat → KV → KL
  | _ :: _ :: l, 0, v => some v :: none :: l
  | a :: l, 1, v => (bif kc2 a then none else a) :: kst2 l 0 v
  | a :: l, i + 2, v => a :: kst2 l (i + 1) v
  | l, _, _ => l
def kcat : KV → Nat
  | .inl _ => 1
  | .inr (.inl _) => 2
  | .inr (.inr (.inl _)) => 2
  | .inr (.inr (.inr _)) => 1
def kcats : List KV → Nat
  | [] => 0
  | v :: r => kcat v + kcats r
/-- continuation: pc, locals, stack, memory, cells and slots made -/
abbrev KK : Type := Nat → KL → List KV → KM → Nat → Nat → Prop
abbrev KEnd : Type := Option KV → KM → Nat → Nat → Prop
abbrev KS : Type := Option (Nat × (Nat → Int32))
def kfv (M : KM) (i : KI) (j : Nat) : Nat → KV
  | 0 => kI (M.2.2.1 i j)
  | _ => kR (M.2.1 i j)
def kputD (M : KM) (i : KI) (j : Nat) (x : Int32) : KM := (M.1, M.2.1, kput M.2.2.1 i j x, M.2.2.2.1, M.2.2.2.2)
def kputR (M : KM) (i : KI) (j : Nat) (x : Option KI) : KM := (M.1, kput M.2.1 i j x, M.2.2.1, M.2.2.2.1, M.2.2.2.2)
def kputG (M : KM) (i : KI) (j : Nat) (x : Int64) : KM := (M.1, M.2.1, M.2.2.1, kput M.2.2.2.1 i j x, M.2.2.2.2)
def kcpy (M : KM) (i d : KI) (sp dp n : Nat) : KM := (M.1, M.2.1, kset M.2.2.1 d (va_cpy (M.2.2.1 i) (M.2.2.1 d) sp dp n), M.2.2.2.1, M.2.2.2.2)
def knew (M : KM) (i : KI) (n : Nat) : KM := (fun a => a = i ∨ M.1 a, kset M.2.1 i (fun _ => none), kset M.2.2.1 i (fun _ => 0), kset M.2.2.2.1 i (fun _ => 0), kset M.2.2.2.2 i n)
def kelem : Nat → Nat
  | 9 => 0
  | 10 => 1
  | _ => 2
def kcases (K : Nat → Prop) (pc : Nat) (x : Int32) : List Int → Int → Prop
  | [], _ => True
  | o :: r, i => (x.toInt = i → K ((pc : Int) + o).toNat) ∧ kcases K pc x r (i + 1)
def klook (K : Nat → Prop) (pc : Nat) (x : Int32) (d : Int) : List (Int × Int) → Prop
  | [] => K ((pc : Int) + d).toNat
  | q :: r => (x.toInt = q.1 → K ((pc : Int) + q.2).toNat) ∧ (¬ x.toInt = q.1 → klook K pc x d r)
/-- a value that names no cell but live ones (or the script) -/
def kOk (M : KM) : Option KV → Prop
  | some (.inr (.inr (.inr (some r)))) => M.1 r ∨ r = (13, 0, 0)
  | _ => True
def kOkf (M : KM) : KV → Prop
  | .inr (.inr (.inr (some r))) => M.1 r
  | _ => True
def kOkL (M : KM) : KL → Prop
  | [] => True
  | a :: l => kOk M a ∧ kOkL M l
def kOkS (M : KM) : List KV → Prop
  | [] => True
  | a :: l => kOk M (some a) ∧ kOkS M l
/-- fits a field: 0 int, 1 a reference, 2 boolean -/
def kfit (t : Nat) (v : KV) : Prop := match t, v with
  | 0, .inl _ => True
  | 2, .inl x => x = 0 ∨ x = 1
  | 1, .inr (.inr (.inr _)) => True
  | _, _ => False
def kputv (M : KM) (i : KI) (j : Nat) : KV → KM
  | .inl x => kputD M i j x
  | .inr (.inr (.inr r)) => kputR M i j r
  | _ => M
/-- one instruction -/
def kstp (R : Room) (S : KS) (E : KEnd) (K : KK) (ins : Instr) (len a b t : Nat) (v : Int32) (w : Int64) (pc : Nat) (ls : KL) (st : List KV) (M : KM) (cs sl : Nat) : Prop :=
  match ins with
  | .iconst _ => K (pc + len) ls (kI v :: st) M cs sl
  | .bipush _ => K (pc + len) ls (kI v :: st) M cs sl
  | .sipush _ => K (pc + len) ls (kI v :: st) M cs sl
  | .lconst _ => K (pc + len) ls (kL w :: st) M cs sl
  | .ldc2_w _ => K (pc + len) ls (kL w :: st) M cs sl
  | .dconst _ => K (pc + len) ls (kD FP.dconst0 :: st) M cs sl
  | .iload_n _ => match kget ls a with | some (.inl x) => K (pc + len) ls (kI x :: st) M cs sl | _ => False
  | .iload _ => match kget ls a with | some (.inl x) => K (pc + len) ls (kI x :: st) M cs sl | _ => False
  | .lload_n _ => match kget ls a with | some (.inr (.inl x)) => K (pc + len) ls (kL x :: st) M cs sl | _ => False
  | .lload _ => match kget ls a with | some (.inr (.inl x)) => K (pc + len) ls (kL x :: st) M cs sl | _ => False
  | .dload _ => match kget ls a with | some (.inr (.inr (.inl x))) => K (pc + len) ls (kD x :: st) M cs sl | _ => False
  | .aload_n _ => match kget ls a with | some (.inr (.inr (.inr r))) => K (pc + len) ls (kR r :: st) M cs sl | _ => False
  | .aload _ => match kget ls a with | some (.inr (.inr (.inr r))) => K (pc + len) ls (kR r :: st) M cs sl | _ => False
  | .istore_n _ => match st with | .inl x :: st => K (pc + len) (kst1 ls a (kI x)) st M cs sl | _ => False
  | .istore _ => match st with | .inl x :: st => K (pc + len) (kst1 ls a (kI x)) st M cs sl | _ => False
  | .astore_n _ => match st with | .inr (.inr (.inr r)) :: st => K (pc + len) (kst1 ls a (kR r)) st M cs sl | _ => False
  | .astore _ => match st with | .inr (.inr (.inr r)) :: st => K (pc + len) (kst1 ls a (kR r)) st M cs sl | _ => False
  | .lstore_n _ => match st with | .inr (.inl x) :: st => K (pc + len) (kst2 ls a (kL x)) st M cs sl | _ => False
  | .lstore _ => match st with | .inr (.inl x) :: st => K (pc + len) (kst2 ls a (kL x)) st M cs sl | _ => False
  | .dstore _ => match st with | .inr (.inr (.inl x)) :: st => K (pc + len) (kst2 ls a (kD x)) st M cs sl | _ => False
  | .iinc _ _ => match kget ls a with | some (.inl x) => K (pc + len) (kst1 ls a (kI (x + v))) st M cs sl | _ => False
  | .iadd => match st with | .inl y :: .inl x :: st => K (pc + len) ls (kI (x + y) :: st) M cs sl | _ => False
  | .isub => match st with | .inl y :: .inl x :: st => K (pc + len) ls (kI (x - y) :: st) M cs sl | _ => False
  | .imul => match st with | .inl y :: .inl x :: st => K (pc + len) ls (kI (x * y) :: st) M cs sl | _ => False
  | .iand => match st with | .inl y :: .inl x :: st => K (pc + len) ls (kI (x &&& y) :: st) M cs sl | _ => False
  | .ixor => match st with | .inl y :: .inl x :: st => K (pc + len) ls (kI (x ^^^ y) :: st) M cs sl | _ => False
  | .irem => match st with | .inl y :: .inl x :: st => ¬ y = 0 ∧ K (pc + len) ls (kI (x - x / y * y) :: st) M cs sl | _ => False
  | .ladd => match st with | .inr (.inl y) :: .inr (.inl x) :: st => K (pc + len) ls (kL (x + y) :: st) M cs sl | _ => False
  | .lmul => match st with | .inr (.inl y) :: .inr (.inl x) :: st => K (pc + len) ls (kL (x * y) :: st) M cs sl | _ => False
  | .lcmp => match st with | .inr (.inl y) :: .inr (.inl x) :: st => K (pc + len) ls (kI (lg_cmp x y) :: st) M cs sl | _ => False
  | .i2l => match st with | .inl x :: st => K (pc + len) ls (kL x.toInt64 :: st) M cs sl | _ => False
  | .i2d => match st with | .inl x :: st => K (pc + len) ls (kD (FP.i2d x) :: st) M cs sl | _ => False
  | .ddiv => match st with | .inr (.inr (.inl y)) :: .inr (.inr (.inl x)) :: st => vf_n64 (FP.ddiv x y) ∧ K (pc + len) ls (kD (FP.ddiv x y) :: st) M cs sl | _ => False
  | .dcmp op => match st with | .inr (.inr (.inl y)) :: .inr (.inr (.inl x)) :: st => K (pc + len) ls (kI (Op.cmpValue (FP.dcmp x y) op) :: st) M cs sl | _ => False
  | .dup => match st with
    | .inl x :: st => K (pc + len) ls (kI x :: kI x :: st) M cs sl
    | .inr (.inr (.inr x)) :: st => K (pc + len) ls (kR x :: kR x :: st) M cs sl
    | _ => False
  | .dup2 => match st with
    | .inl x :: .inr (.inr (.inr y)) :: st => K (pc + len) ls (kI x :: kR y :: kI x :: kR y :: st) M cs sl
    | _ => False
  | .pop => match st with
    | .inl _ :: st => K (pc + len) ls st M cs sl
    | .inr (.inr (.inr _)) :: st => K (pc + len) ls st M cs sl
    | _ => False
  | .goto _ => K a ls st M cs sl
  | .ifCond .eq _ => match st with | .inl x :: st => (x = 0 → K a ls st M cs sl) ∧ (¬ x = 0 → K (pc + len) ls st M cs sl) | _ => False
  | .ifCond .ne _ => match st with | .inl x :: st => (¬ x = 0 → K a ls st M cs sl) ∧ (x = 0 → K (pc + len) ls st M cs sl) | _ => False
  | .ifCond .lt _ => match st with | .inl x :: st => (x < 0 → K a ls st M cs sl) ∧ (¬ x < 0 → K (pc + len) ls st M cs sl) | _ => False
  | .ifCond .ge _ => match st with | .inl x :: st => (0 ≤ x → K a ls st M cs sl) ∧ (¬ 0 ≤ x → K (pc + len) ls st M cs sl) | _ => False
  | .ifCond .gt _ => match st with | .inl x :: st => (0 < x → K a ls st M cs sl) ∧ (¬ 0 < x → K (pc + len) ls st M cs sl) | _ => False
  | .ifCond .le _ => match st with | .inl x :: st => (x ≤ 0 → K a ls st M cs sl) ∧ (¬ x ≤ 0 → K (pc + len) ls st M cs sl) | _ => False
  | .if_icmp .eq _ => match st with | .inl y :: .inl x :: st => (x = y → K a ls st M cs sl) ∧ (¬ x = y → K (pc + len) ls st M cs sl) | _ => False
  | .if_icmp .ne _ => match st with | .inl y :: .inl x :: st => (¬ x = y → K a ls st M cs sl) ∧ (x = y → K (pc + len) ls st M cs sl) | _ => False
  | .if_icmp .lt _ => match st with | .inl y :: .inl x :: st => (x < y → K a ls st M cs sl) ∧ (¬ x < y → K (pc + len) ls st M cs sl) | _ => False
  | .if_icmp .ge _ => match st with | .inl y :: .inl x :: st => (y ≤ x → K a ls st M cs sl) ∧ (¬ y ≤ x → K (pc + len) ls st M cs sl) | _ => False
  | .if_icmp .gt _ => match st with | .inl y :: .inl x :: st => (y < x → K a ls st M cs sl) ∧ (¬ y < x → K (pc + len) ls st M cs sl) | _ => False
  | .if_icmp .le _ => match st with | .inl y :: .inl x :: st => (x ≤ y → K a ls st M cs sl) ∧ (¬ x ≤ y → K (pc + len) ls st M cs sl) | _ => False
  | .tableswitch d lo hi offs => match st with
    | .inl x :: st => ((x.toInt < lo ∨ hi < x.toInt) → K ((pc : Int) + d).toNat ls st M cs sl) ∧ kcases (fun q => K q ls st M cs sl) pc x offs.toList lo
    | _ => False
  | .lookupswitch d ps => match st with | .inl x :: st => klook (fun q => K q ls st M cs sl) pc x d ps.toList | _ => False
  | .getfield _ => match st with | .inr (.inr (.inr (some i))) :: st => i.1 = a ∧ M.1 i ∧ K (pc + len) ls (kfv M i b t :: st) M cs sl | _ => False
  | .putfield _ => match st with
    | x :: .inr (.inr (.inr (some i))) :: st => i.1 = a ∧ M.1 i ∧ kfit t x ∧ kOkf M x ∧ K (pc + len) ls st (kputv M i b x) cs sl
    | _ => False
  | .arraylength => match st with
    | .inr (.inr (.inr (some i))) :: st => match S with
      | some q => i = (13, 0, 0) ∧ K (pc + len) ls (kI (Int32.ofNat q.1) :: st) M cs sl
      | none => 8 ≤ i.1 ∧ i.1 ≤ 12 ∧ M.1 i ∧ K (pc + len) ls (kI (Int32.ofNat (M.2.2.2.2 i)) :: st) M cs sl
    | _ => False
  | .iaload => match st with
    | .inl x :: .inr (.inr (.inr (some i))) :: st => match S with
      | some q => i = (13, 0, 0) ∧ vp_in x q.1 ∧ K (pc + len) ls (kI (q.2 x.toNatClampNeg) :: st) M cs sl
      | none => i.1 = 8 ∧ M.1 i ∧ vp_in x (M.2.2.2.2 i) ∧ K (pc + len) ls (kI (M.2.2.1 i x.toNatClampNeg) :: st) M cs sl
    | _ => False
  | .laload => match st with
    | .inl x :: .inr (.inr (.inr (some i))) :: st => i.1 = 12 ∧ M.1 i ∧ vp_in x (M.2.2.2.2 i) ∧ K (pc + len) ls (kL (M.2.2.2.1 i x.toNatClampNeg) :: st) M cs sl
    | _ => False
  | .aaload => match st with
    | .inl x :: .inr (.inr (.inr (some i))) :: st => (i.1 = 9 ∨ i.1 = 10 ∨ i.1 = 11) ∧ M.1 i ∧ vp_in x (M.2.2.2.2 i) ∧ K (pc + len) ls (kR (M.2.1 i x.toNatClampNeg) :: st) M cs sl
    | _ => False
  | .iastore => match st with
    | .inl y :: .inl x :: .inr (.inr (.inr (some i))) :: st => i.1 = 8 ∧ M.1 i ∧ vp_in x (M.2.2.2.2 i) ∧ K (pc + len) ls st (kputD M i x.toNatClampNeg y) cs sl
    | _ => False
  | .lastore => match st with
    | .inr (.inl y) :: .inl x :: .inr (.inr (.inr (some i))) :: st => i.1 = 12 ∧ M.1 i ∧ vp_in x (M.2.2.2.2 i) ∧ K (pc + len) ls st (kputG M i x.toNatClampNeg y) cs sl
    | _ => False
  | .aastore => match st with
    | .inr (.inr (.inr (some o))) :: .inl x :: .inr (.inr (.inr (some i))) :: st => (i.1 = 9 ∨ i.1 = 10 ∨ i.1 = 11) ∧ o.1 = kelem i.1 ∧ M.1 o ∧ M.1 i ∧ vp_in x (M.2.2.2.2 i) ∧ K (pc + len) ls st (kputR M i x.toNatClampNeg (some o)) cs sl
    | _ => False
  | .newarray _ => match st with
    | .inl x :: st => ∃ i : KI, i.1 = a ∧ ¬ M.1 i ∧ kOkL M ls ∧ kOkS M st ∧ ¬ x < 0 ∧ x.toNatClampNeg ≤ 1000 ∧ cs + 1 ≤ R.cells ∧ sl + x.toNatClampNeg ≤ R.slots ∧ K (pc + len) ls (kR (some i) :: st) (knew M i x.toNatClampNeg) (cs + 1) (sl + x.toNatClampNeg)
    | _ => False
  | .anewarray _ => match st with
    | .inl x :: st => ∃ i : KI, i.1 = a ∧ ¬ M.1 i ∧ kOkL M ls ∧ kOkS M st ∧ ¬ x < 0 ∧ x.toNatClampNeg ≤ 1000 ∧ cs + 1 ≤ R.cells ∧ sl + x.toNatClampNeg ≤ R.slots ∧ K (pc + len) ls (kR (some i) :: st) (knew M i x.toNatClampNeg) (cs + 1) (sl + x.toNatClampNeg)
    | _ => False
  | .new _ => ∃ i : KI, i.1 = a ∧ ¬ M.1 i ∧ kOkL M ls ∧ kOkS M st ∧ cs + 1 ≤ R.cells ∧ sl + b ≤ R.slots ∧ K (pc + len) ls (kR (some i) :: st) (knew M i 0) (cs + 1) (sl + b)
  | .invokespecial _ => match st with
    | .inr (.inr (.inr (some _))) :: st => 1 ≤ R.frames ∧ kcats st + 12 ≤ R.locals ∧ K (pc + len) ls st M cs sl
    | _ => False
  | .invokestatic _ => match st with
    | .inl n :: .inl dp :: .inr (.inr (.inr (some d))) :: .inl sp :: .inr (.inr (.inr (some i))) :: st => i.1 = 8 ∧ d.1 = 8 ∧ M.1 i ∧ M.1 d ∧ ¬ sp < 0 ∧ ¬ dp < 0 ∧ ¬ n < 0 ∧ sp.toNatClampNeg + n.toNatClampNeg ≤ M.2.2.2.2 i ∧ dp.toNatClampNeg + n.toNatClampNeg ≤ M.2.2.2.2 d ∧ 1 ≤ R.frames ∧ kcats st + (nativeFrameWords "java/lang/System" "arraycopy" 5 + 11) ≤ R.locals ∧ K (pc + len) ls st (kcpy M i d sp.toNatClampNeg dp.toNatClampNeg n.toNatClampNeg) cs sl
    | _ => False
  | .ireturn => match st with | [.inl x] => E (some (kI x)) M cs sl | _ => False
  | .lreturn => match st with | [.inr (.inl x)] => E (some (kL x)) M cs sl | _ => False
  | .dreturn => match st with | [.inr (.inr (.inl x))] => E (some (kD x)) M cs sl | _ => False
  | .return_ => match st with | [] => E none M cs sl | _ => False
  | _ => False
/-- an instruction as our tables hold it: the instruction, its length, three numbers (target; cell kind, field, field type ..), an int, a long -/
abbrev KE : Type := Instr × Nat × (Nat × Nat × Nat) × Int32 × Int64
/-- a straight run of instructions; only the last may go elsewhere -/
def kblk (R : Room) (S : KS) (E : KEnd) (K : KK) : List KE → KK
  | [], pc, ls, st, M, cs, sl => K pc ls st M cs sl
  | e :: [], pc, ls, st, M, cs, sl => kstp R S E K e.1 e.2.1 e.2.2.1.1 e.2.2.1.2.1 e.2.2.1.2.2 e.2.2.2.1 e.2.2.2.2 pc ls st M cs sl
  | e :: f :: r, pc, ls, st, M, cs, sl => kstp R S E (fun pc1 ls1 st1 M1 cs1 sl1 => pc1 = pc + e.2.1 ∧ kblk R S E K (f :: r) (pc + e.2.1) ls1 st1 M1 cs1 sl1) e.1 e.2.1 e.2.2.1.1 e.2.2.1.2.1 e.2.2.1.2.2 e.2.2.2.1 e.2.2.2.2 pc ls st M cs sl
