/-! What the steps do to the mathematical state. -/
def coolTo (σ : KT) (n : Nat) : KT := tMod σ (fun f i => if f = 17 ∧ i < n ∧ tZ σ 12 i = 1 then tZ σ f i + 1 else tZ σ f i)
def mvT (h p : Int32) : Int32 := if p + 1 < 2 * h then p + 1 else 0
def moveTo (σ : KT) (n : Nat) : KT := tMod σ (fun f i => if f = 1 ∧ i < n ∧ tZ σ 1 i ≠ -1 then mvT (tZ σ 38 0) (tZ σ 1 i) else tZ σ f i)
def unlTo (σ : KT) (top : Int32) (n : Nat) : KT := tMod σ (fun f i => if (f = 12 ∨ f = 14 ∨ f = 16) ∧ i < n ∧ tZ σ 14 i = top then (if f = 12 then 2 else if f = 14 then -1 else tZ σ 41 0) else tZ σ f i)
def tUnload (σ : KT) : KT := if tChairAt σ (tZ σ 38 0) = -1 then σ else tset (tset (unlTo σ (tChairAt σ (tZ σ 38 0)) (tG σ)) 2 (tChairAt σ (tZ σ 38 0)).toNatClampNeg 0) 3 (tChairAt σ (tZ σ 38 0)).toNatClampNeg 0
def tUp (σ : KT) : Int32 := if tChairAt σ (tZ σ 38 0) = -1 then 0 else tZ σ 2 (tChairAt σ (tZ σ 38 0)).toNatClampNeg
def takeOut (σ : KT) (g : Nat) : KT := if tZ σ 13 g = -1 then tset σ 13 g (-1) else tset (tsetQ σ (tZ σ 13 g).toNatClampNeg ((tQ σ (tZ σ 13 g).toNatClampNeg).filter (fun a => decide (a ≠ g)))) 13 g (-1)
def sendT (σ : KT) (g : Nat) : KT := tset (takeOut σ g) 12 g 3
def putT (σ : KT) (g l : Nat) : KT := tsetQ (tset σ 13 g (nI l)) l (tQ σ l ++ [g])
def behind (σ : KT) (l : Int32) : Int32 := if l + 1 < nI (tL σ) then l + 1 else 0
abbrev standsT (σ : KT) (w : Int32) : Prop := 8 ≤ w ∨ (5 ≤ w ∧ tZ σ 41 0 &&& 1 = 1)
def gtb (σ : KT) (seats : Int32) : Nat → Int32 → Int32
  | 0, _ => -1
  | n + 1, l => match (tQ σ l.toNatClampNeg).head? with
    | some g => if tZ σ 10 g ≤ seats then nI g else gtb σ seats n (behind σ l)
    | none => gtb σ seats n (behind σ l)
def tNext (σ : KT) (seats : Int32) : Int32 := gtb σ seats (tL σ) (tZ σ 40 0)
def boardT (σ : KT) (g c : Nat) : KT :=
  let σ2 := tset (tset σ 22 (tZ σ 13 g).toNatClampNeg (tZ σ 22 (tZ σ 13 g).toNatClampNeg + tZ σ 10 g)) 40 0 (behind σ (tZ σ 13 g))
  let σ5 := tset (tset (takeOut σ2 g) 12 g 1) 14 g (nI c)
  let σ6 := tset σ5 2 c (tZ σ5 2 c + tZ σ5 10 g)
  let σ7 := tset σ6 3 c (tZ σ6 3 c + 1)
  tset σ7 4 c (tZ σ7 4 c + tZ σ7 10 g)
/-- loading chair c: k more groups at most, n have come -/
def loadT (c : Nat) : Nat → KT → Nat → KT × Nat
  | 0, σ, n => (σ, n)
  | k + 1, σ, n => if tNext σ (tZ σ 0 c - tZ σ 2 c) = -1 then (σ, n) else loadT c k (boardT σ (tNext σ (tZ σ 0 c - tZ σ 2 c)).toNatClampNeg c) (n + 1)
def tLoadAt (σ : KT) (c : Nat) : KT := if (loadT c 6 σ 0).2 = 0 then (loadT c 6 σ 0).1 else tset (loadT c 6 σ 0).1 43 0 (tZ (loadT c 6 σ 0).1 43 0 + 1)
def tLoad (σ : KT) : KT := if tChairAt σ 0 = -1 then σ else tLoadAt σ (tChairAt σ 0).toNatClampNeg
def tExch (σ : KT) : KT :=
  if tZ σ 39 0 < tOnRope σ ∧ tChairAt σ 0 ≠ -1 then tsetS (tset σ 1 (tChairAt σ 0).toNatClampNeg (-1)) (tS σ ++ [(tChairAt σ 0).toNatClampNeg])
  else if tOnRope σ < tZ σ 39 0 ∧ tChairAt σ 0 = -1 then (match tS σ with
    | [] => σ
    | c :: r => tset (tsetS σ ((c :: r).filter (fun a => decide (a ≠ c)))) 1 c 0)
  else σ
def tImpat (σ : KT) (g : Nat) : Prop := tZ σ 12 g = 0 ∧ tZ σ 11 g ≤ tZ σ 41 0 - tZ σ 15 g + 1
def impTo (σ : KT) : Nat → KT
  | 0 => σ
  | n + 1 => if tZ (impTo σ n) 12 n = 0 ∧ tZ (impTo σ n) 11 n ≤ tZ (impTo σ n) 41 0 - tZ (impTo σ n) 15 n + 1 then sendT (impTo σ n) n else impTo σ n
def fmod24 (x : Int32) : Int32 := if (x ^^^ 24 < 0) ∧ ¬ (x - x / 24 * 24 = 0) then (x - x / 24 * 24) + 24 else x - x / 24 * 24
def tWind (σ : KT) : Int32 := tZ σ 50 (fmod24 (tZ σ 41 0)).toNatClampNeg
def tMove (σ : KT) : KT := tLoad (tExch (tUnload (moveTo σ (tC σ))))
def tStand (σ : KT) : KT := tset σ 42 0 (tZ σ 42 0 + 1)
/-- ahead of the impatient -/
def tHalfStep (σ : KT) : KT := @ite _ (standsT σ (tWind σ)) inferInstance (if 8 ≤ tWind σ then coolTo (tStand σ) (tG σ) else tStand σ) (tMove σ)
def tStepUp (σ : KT) : Int32 := @ite _ (standsT σ (tWind σ)) inferInstance 0 (tUp (moveTo σ (tC σ)))
def tStep (σ : KT) : KT := tset (impTo (tHalfStep σ) (tG σ)) 41 0 (tZ σ 41 0 + 1)
def tSteps : Nat → KT → KT
  | 0, σ => σ
  | n + 1, σ => tSteps n (tStep σ)
def tStepsUp : Nat → KT → Int32
  | 0, _ => 0
  | n + 1, σ => tStepUp σ + tStepsUp n (tStep σ)
