/-! What a call answers: code, value, the lift behind it. -/
theorem rng {i n : Nat} (hi : i < n) (hn : n < 2 ^ 31) : 0 ≤ nI i ∧ nI i < nI n := by
  refine ⟨?_, nI_lt hi hn⟩
  rw [Int32.le_iff_toInt_le, nI_toInt (by omega), show (0 : Int32).toInt = 0 from rfl]
  omega
theorem rng1 {k n : Nat} (k1 : 1 ≤ k) (k2 : k ≤ n) (hn : n < 2 ^ 31) : 1 ≤ nI k ∧ nI k ≤ nI n := by
  refine ⟨?_, nI_le k2 hn⟩
  rw [Int32.le_iff_toInt_le, nI_toInt (by omega), show (1 : Int32).toInt = 1 from rfl]
  omega
theorem clamp_lt {c : Int32} {n : Nat} (h : 0 ≤ c ∧ c < nI n) (hn : n < 2 ^ 31) : c.toNatClampNeg < n := by
  obtain ⟨i, hi, rfl⟩ := in_range hn h
  rw [nI_clamp (by omega)]
  exact hi
theorem kWf0.mono {b b2 h lo hi : Nat} {σ : KT} (hw : kWf0 b h lo hi σ) (hb : b ≤ b2) : kWf0 b2 h lo hi σ := by
  obtain ⟨w1, ⟨s, hs, e⟩, w3⟩ := hw
  exact ⟨w1, ⟨s, by omega, e⟩, w3⟩
theorem tG_tSteps : ∀ (n : Nat) (σ : KT), tG (tSteps n σ) = tG σ
  | 0, _ => rfl
  | n + 1, σ => (tG_tSteps n (tStep σ)).trans tG_tStep
abbrev KA3 : Type := Int32 × Int32 × KT
def mAns (D : KI → Nat → Int32) (G : KI → Nat → Int64) (r : KA3) (v : Option KV) (M' : KM) : Prop := (∃ x, v = some (kI x) ∧ (r.1 = 0 → x = r.2.1)) ∧ mPub D G r.2.2 r.1 M'
theorem mAns.of {D : KI → Nat → Int32} {G : KI → Nat → Int64} {r : KA3} {k val x : Int32} {σ' : KT} {M' : KM} (re : r = (k, val, σ')) (hx : x = val) (hp : mPub D G σ' k M') : mAns D G r (some (kI x)) M' := by
  subst re
  exact ⟨⟨x, rfl, fun _ => hx⟩, hp⟩
def hOut (D : KI → Nat → Int32) (G : KI → Nat → Int64) (r : KA3) (M' : KM) : Prop := ∃ D' G', M' = km D' G' ∧ kRep 0 D' r.2.2 ∧ (∀ i : KI, i.2.1 ≠ 0 → i.2.1 ≠ 1 → D' i = D i) ∧ (r.1 = 0 → G' (12, 9, 0) 0 = r.2.1.toInt64)
theorem hOut.thr {D : KI → Nat → Int32} {G : KI → Nat → Int64} {r : KA3} {k : Int32} {σ : KT} (hr : kRep 0 D σ) (re : r = (k, 0, σ)) (hk : ¬ k = 0) : hOut D G r (km D G) := by
  subst re
  exact ⟨D, G, rfl, hr, fun i _ _ => rfl, fun z => absurd z hk⟩
theorem hOut.ret {D : KI → Nat → Int32} {G : KI → Nat → Int64} {r : KA3} {val : Int32} {σ' : KT} {D1 : KI → Nat → Int32} (hr : kRep 0 D1 σ') (ho : ∀ i : KI, i.2.1 ≠ 0 → i.2.1 ≠ 1 → D1 i = D i) (re : r = (0, val, σ')) : hOut D G r (km D1 (kput G (12, 9, 0) 0 val.toInt64)) := by
  subst re
  exact ⟨D1, _, rfl, hr, ho, fun _ => by simp [kput]⟩
section ANSWERS
variable {D : KI → Nat → Int32} {G : KI → Nat → Int64} {σ : KT}
def rStretch (σ : KT) (n : Int32) : KA3 := if 2 ≤ n ∧ n ≤ 12 then (if tOnRope σ = 0 then (0, tZ σ 38 0, tset σ 38 0 n) else (2, 0, σ)) else (1, 0, σ)
theorem w_stretch {b0 b2 h : Nat} (hw : kWf0 b0 h 0 h σ) (hG : tG σ ≤ 90) (hb : b0 + 200 ≤ b2) (n : Int32) : (∃ h, kWf0 b2 h 0 h (rStretch σ n).2.2) ∧ tG (rStretch σ n).2.2 ≤ 90 := by
  obtain ⟨bC, bL, bG, -⟩ := hw.1.1
  replace hb : b0 ≤ b2 := by omega
  have same : (∃ h, kWf0 b2 h 0 h σ) ∧ tG σ ≤ 90 := ⟨⟨h, hw.mono (by omega)⟩, hG⟩
  unfold rStretch
  by_cases c1 : 2 ≤ n ∧ n ≤ 12
  · rw [if_pos c1]
    by_cases c2 : tOnRope σ = 0
    · rw [if_pos c2]
      obtain ⟨k, k1, k2, rfl⟩ := in_within (a := 2) (b := 12) (by decide) c1 (by decide)
      exact ⟨⟨k, (hw.mono hb).stretch c2 k1 k2⟩, hG⟩
    · rw [if_neg c2]; exact same
  · rw [if_neg c1]; exact same
def rAddChair (σ : KT) (n : Int32) : KA3 := if 1 ≤ n ∧ n ≤ 6 then (if tC σ < 20 then (0, nI (tC σ), mkChair σ n) else (2, 0, σ)) else (1, 0, σ)
theorem w_addChair {b0 b2 h : Nat} (hw : kWf0 b0 h 0 h σ) (hG : tG σ ≤ 90) (hb : b0 + 200 ≤ b2) (n : Int32) : (∃ h, kWf0 b2 h 0 h (rAddChair σ n).2.2) ∧ tG (rAddChair σ n).2.2 ≤ 90 := by
  obtain ⟨bC, bL, bG, -⟩ := hw.1.1
  replace hb : b0 ≤ b2 := by omega
  have same : (∃ h, kWf0 b2 h 0 h σ) ∧ tG σ ≤ 90 := ⟨⟨h, hw.mono (by omega)⟩, hG⟩
  unfold rAddChair
  by_cases c1 : 1 ≤ n ∧ n ≤ 6
  · rw [if_pos c1]
    by_cases c2 : tC σ < 20
    · rw [if_pos c2]
      obtain ⟨k, k1, k2, rfl⟩ := in_range1 (n := 6) (by decide) c1
      exact ⟨⟨h, (hw.mono hb).newChair c2 k1 k2⟩, hG⟩
    · rw [if_neg c2]; exact same
  · rw [if_neg c1]; exact same
def rWant (σ : KT) (n : Int32) : KA3 := if 0 ≤ n ∧ n ≤ 20 then (0, tZ σ 39 0, tset σ 39 0 n) else (1, 0, σ)
theorem w_want {b0 b2 h : Nat} (hw : kWf0 b0 h 0 h σ) (hG : tG σ ≤ 90) (hb : b0 + 200 ≤ b2) (n : Int32) : (∃ h, kWf0 b2 h 0 h (rWant σ n).2.2) ∧ tG (rWant σ n).2.2 ≤ 90 := by
  obtain ⟨bC, bL, bG, -⟩ := hw.1.1
  replace hb : b0 ≤ b2 := by omega
  have same : (∃ h, kWf0 b2 h 0 h σ) ∧ tG σ ≤ 90 := ⟨⟨h, hw.mono (by omega)⟩, hG⟩
  unfold rWant
  by_cases c1 : 0 ≤ n ∧ n ≤ 20
  · rw [if_pos c1]
    exact ⟨⟨h, (hw.mono hb).free (by decide)⟩, hG⟩
  · rw [if_neg c1]; exact same
def rAddLane (σ : KT) : KA3 := if tL σ < 4 then (0, nI (tL σ), mkLane σ) else (1, 0, σ)
theorem w_addLane {b0 b2 h : Nat} (hw : kWf0 b0 h 0 h σ) (hG : tG σ ≤ 90) (hb : b0 + 200 ≤ b2)  : (∃ h, kWf0 b2 h 0 h (rAddLane σ).2.2) ∧ tG (rAddLane σ).2.2 ≤ 90 := by
  obtain ⟨bC, bL, bG, -⟩ := hw.1.1
  replace hb : b0 ≤ b2 := by omega
  have same : (∃ h, kWf0 b2 h 0 h σ) ∧ tG σ ≤ 90 := ⟨⟨h, hw.mono (by omega)⟩, hG⟩
  unfold rAddLane
  by_cases c1 : tL σ < 4
  · rw [if_pos c1]
    exact ⟨⟨h, (hw.mono hb).newLane c1⟩, hG⟩
  · rw [if_neg c1]; exact same
def rShut (σ : KT) (c b : Int32) : KA3 := if 0 ≤ c ∧ c < nI (tL σ) then (0, tZ σ 21 c.toNatClampNeg, tset σ 21 c.toNatClampNeg b) else (1, 0, σ)
theorem w_shut {b0 b2 h : Nat} (hw : kWf0 b0 h 0 h σ) (hG : tG σ ≤ 90) (hb : b0 + 200 ≤ b2) (c b : Int32) (hb01 : b = 0 ∨ b = 1) : (∃ h, kWf0 b2 h 0 h (rShut σ c b).2.2) ∧ tG (rShut σ c b).2.2 ≤ 90 := by
  obtain ⟨bC, bL, bG, -⟩ := hw.1.1
  replace hb : b0 ≤ b2 := by omega
  have same : (∃ h, kWf0 b2 h 0 h σ) ∧ tG σ ≤ 90 := ⟨⟨h, hw.mono (by omega)⟩, hG⟩
  unfold rShut
  by_cases c1 : 0 ≤ c ∧ c < nI (tL σ)
  · rw [if_pos c1]
    exact ⟨⟨h, (hw.mono hb).shut (clamp_lt c1 (by omega)) hb01⟩, hG⟩
  · rw [if_neg c1]; exact same
def rSetWind (σ : KT) (c n : Int32) : KA3 := if 0 ≤ c ∧ c < 24 then (if 0 ≤ n ∧ n ≤ 9 then (0, tZ σ 50 c.toNatClampNeg, tset σ 50 c.toNatClampNeg n) else (2, 0, σ)) else (1, 0, σ)
theorem w_setWind {b0 b2 h : Nat} (hw : kWf0 b0 h 0 h σ) (hG : tG σ ≤ 90) (hb : b0 + 200 ≤ b2) (c n : Int32) : (∃ h, kWf0 b2 h 0 h (rSetWind σ c n).2.2) ∧ tG (rSetWind σ c n).2.2 ≤ 90 := by
  obtain ⟨bC, bL, bG, -⟩ := hw.1.1
  replace hb : b0 ≤ b2 := by omega
  have same : (∃ h, kWf0 b2 h 0 h σ) ∧ tG σ ≤ 90 := ⟨⟨h, hw.mono (by omega)⟩, hG⟩
  unfold rSetWind
  by_cases c1 : 0 ≤ c ∧ c < 24
  · rw [if_pos c1]
    by_cases c2 : 0 ≤ n ∧ n ≤ 9
    · rw [if_pos c2]
      exact ⟨⟨h, (hw.mono hb).free (by decide)⟩, hG⟩
    · rw [if_neg c2]; exact same
  · rw [if_neg c1]; exact same
def rJoin (σ : KT) (c a b : Int32) : KA3 := if 0 ≤ c ∧ c < nI (tL σ) then (if (1 ≤ a ∧ a ≤ 6) ∧ 1 ≤ b ∧ b ≤ 200 then (if tZ σ 21 c.toNatClampNeg = 0 ∧ tG σ < 90 then (0, nI (tG σ), mkGroup σ c.toNatClampNeg a b) else (3, 0, σ)) else (2, 0, σ)) else (1, 0, σ)
theorem w_join {b0 b2 h : Nat} (hw : kWf0 b0 h 0 h σ) (hG : tG σ ≤ 90) (hb : b0 + 200 ≤ b2) (c a b : Int32) : (∃ h, kWf0 b2 h 0 h (rJoin σ c a b).2.2) ∧ tG (rJoin σ c a b).2.2 ≤ 90 := by
  obtain ⟨bC, bL, bG, -⟩ := hw.1.1
  replace hb : b0 ≤ b2 := by omega
  have same : (∃ h, kWf0 b2 h 0 h σ) ∧ tG σ ≤ 90 := ⟨⟨h, hw.mono (by omega)⟩, hG⟩
  unfold rJoin
  by_cases c1 : 0 ≤ c ∧ c < nI (tL σ)
  · rw [if_pos c1]
    by_cases c2 : (1 ≤ a ∧ a ≤ 6) ∧ 1 ≤ b ∧ b ≤ 200
    · rw [if_pos c2]
      by_cases c3 : tZ σ 21 c.toNatClampNeg = 0 ∧ tG σ < 90
      · rw [if_pos c3]
        obtain ⟨k, k1, k2, rfl⟩ := in_range1 (n := 6) (by decide) c2.1
        exact ⟨⟨h, (hw.mono hb).newGroup (by omega) (clamp_lt c1 (by omega)) k1 k2 b⟩, c3.2⟩
      · rw [if_neg c3]; exact same
    · rw [if_neg c2]; exact same
  · rw [if_neg c1]; exact same
def rChange (σ : KT) (c n : Int32) : KA3 := if (0 ≤ c ∧ c < nI (tG σ)) ∧ 0 ≤ n ∧ n < nI (tL σ) then (if tZ σ 12 c.toNatClampNeg = 0 ∧ tZ σ 21 n.toNatClampNeg = 0 then (0, nI (tQ (putT (takeOut σ c.toNatClampNeg) c.toNatClampNeg n.toNatClampNeg) n.toNatClampNeg).length - 1, putT (takeOut σ c.toNatClampNeg) c.toNatClampNeg n.toNatClampNeg) else (2, 0, σ)) else (1, 0, σ)
theorem w_change {b0 b2 h : Nat} (hw : kWf0 b0 h 0 h σ) (hG : tG σ ≤ 90) (hb : b0 + 200 ≤ b2) (c n : Int32) : (∃ h, kWf0 b2 h 0 h (rChange σ c n).2.2) ∧ tG (rChange σ c n).2.2 ≤ 90 := by
  obtain ⟨bC, bL, bG, -⟩ := hw.1.1
  replace hb : b0 ≤ b2 := by omega
  have same : (∃ h, kWf0 b2 h 0 h σ) ∧ tG σ ≤ 90 := ⟨⟨h, hw.mono (by omega)⟩, hG⟩
  unfold rChange
  by_cases c1 : (0 ≤ c ∧ c < nI (tG σ)) ∧ 0 ≤ n ∧ n < nI (tL σ)
  · rw [if_pos c1]
    by_cases c2 : tZ σ 12 c.toNatClampNeg = 0 ∧ tZ σ 21 n.toNatClampNeg = 0
    · rw [if_pos c2]
      exact ⟨⟨h, (hw.mono hb).change (clamp_lt c1.1 (by omega)) (clamp_lt c1.2 (by omega)) c2.1⟩, by show tG (takeOut σ _) ≤ 90; rw [tG_takeOut]; exact hG⟩
    · rw [if_neg c2]; exact same
  · rw [if_neg c1]; exact same
def rLeave (σ : KT) (c : Int32) : KA3 := if 0 ≤ c ∧ c < nI (tG σ) then (if tZ σ 12 c.toNatClampNeg = 0 then (0, tZ σ 13 c.toNatClampNeg, sendT σ c.toNatClampNeg) else (2, 0, σ)) else (1, 0, σ)
theorem w_leave {b0 b2 h : Nat} (hw : kWf0 b0 h 0 h σ) (hG : tG σ ≤ 90) (hb : b0 + 200 ≤ b2) (c : Int32) : (∃ h, kWf0 b2 h 0 h (rLeave σ c).2.2) ∧ tG (rLeave σ c).2.2 ≤ 90 := by
  obtain ⟨bC, bL, bG, -⟩ := hw.1.1
  replace hb : b0 ≤ b2 := by omega
  have same : (∃ h, kWf0 b2 h 0 h σ) ∧ tG σ ≤ 90 := ⟨⟨h, hw.mono (by omega)⟩, hG⟩
  unfold rLeave
  by_cases c1 : 0 ≤ c ∧ c < nI (tG σ)
  · rw [if_pos c1]
    by_cases c2 : tZ σ 12 c.toNatClampNeg = 0
    · rw [if_pos c2]
      exact ⟨⟨h, (hw.mono hb).send (clamp_lt c1 (by omega)) c2⟩, by rw [tG_sendT]; exact hG⟩
    · rw [if_neg c2]; exact same
  · rw [if_neg c1]; exact same
def rGroup (σ : KT) (c n : Int32) : KA3 := if (0 ≤ c ∧ c < nI (tG σ)) ∧ 0 ≤ n ∧ n < 8 then (0, tZ σ (10 + n.toNatClampNeg) c.toNatClampNeg, σ) else (1, 0, σ)
theorem w_group {b0 b2 h : Nat} (hw : kWf0 b0 h 0 h σ) (hG : tG σ ≤ 90) (hb : b0 + 200 ≤ b2) (c n : Int32) : (∃ h, kWf0 b2 h 0 h (rGroup σ c n).2.2) ∧ tG (rGroup σ c n).2.2 ≤ 90 := by
  obtain ⟨bC, bL, bG, -⟩ := hw.1.1
  replace hb : b0 ≤ b2 := by omega
  have same : (∃ h, kWf0 b2 h 0 h σ) ∧ tG σ ≤ 90 := ⟨⟨h, hw.mono (by omega)⟩, hG⟩
  unfold rGroup
  by_cases c1 : (0 ≤ c ∧ c < nI (tG σ)) ∧ 0 ≤ n ∧ n < 8
  · rw [if_pos c1]; exact same
  · rw [if_neg c1]; exact same
def rChair (σ : KT) (c n : Int32) : KA3 := if (0 ≤ c ∧ c < nI (tC σ)) ∧ 0 ≤ n ∧ n < 5 then (0, tZ σ n.toNatClampNeg c.toNatClampNeg, σ) else (1, 0, σ)
theorem w_chair {b0 b2 h : Nat} (hw : kWf0 b0 h 0 h σ) (hG : tG σ ≤ 90) (hb : b0 + 200 ≤ b2) (c n : Int32) : (∃ h, kWf0 b2 h 0 h (rChair σ c n).2.2) ∧ tG (rChair σ c n).2.2 ≤ 90 := by
  obtain ⟨bC, bL, bG, -⟩ := hw.1.1
  replace hb : b0 ≤ b2 := by omega
  have same : (∃ h, kWf0 b2 h 0 h σ) ∧ tG σ ≤ 90 := ⟨⟨h, hw.mono (by omega)⟩, hG⟩
  unfold rChair
  by_cases c1 : (0 ≤ c ∧ c < nI (tC σ)) ∧ 0 ≤ n ∧ n < 5
  · rw [if_pos c1]; exact same
  · rw [if_neg c1]; exact same
def rLane (σ : KT) (c n : Int32) : KA3 := if (0 ≤ c ∧ c < nI (tL σ)) ∧ 0 ≤ n ∧ n < 4 then (0, tLaneFact σ c.toNatClampNeg n.toNatClampNeg, σ) else (1, 0, σ)
theorem w_lane {b0 b2 h : Nat} (hw : kWf0 b0 h 0 h σ) (hG : tG σ ≤ 90) (hb : b0 + 200 ≤ b2) (c n : Int32) : (∃ h, kWf0 b2 h 0 h (rLane σ c n).2.2) ∧ tG (rLane σ c n).2.2 ≤ 90 := by
  obtain ⟨bC, bL, bG, -⟩ := hw.1.1
  replace hb : b0 ≤ b2 := by omega
  have same : (∃ h, kWf0 b2 h 0 h σ) ∧ tG σ ≤ 90 := ⟨⟨h, hw.mono (by omega)⟩, hG⟩
  unfold rLane
  by_cases c1 : (0 ≤ c ∧ c < nI (tL σ)) ∧ 0 ≤ n ∧ n < 4
  · rw [if_pos c1]; exact same
  · rw [if_neg c1]; exact same
def rQueue (σ : KT) (c n : Int32) : KA3 := if (0 ≤ c ∧ c < nI (tL σ)) ∧ 0 ≤ n ∧ n < nI (tQ σ c.toNatClampNeg).length then (0, nI ((tQ σ c.toNatClampNeg)[n.toNatClampNeg]?.getD 0), σ) else (1, 0, σ)
theorem w_queue {b0 b2 h : Nat} (hw : kWf0 b0 h 0 h σ) (hG : tG σ ≤ 90) (hb : b0 + 200 ≤ b2) (c n : Int32) : (∃ h, kWf0 b2 h 0 h (rQueue σ c n).2.2) ∧ tG (rQueue σ c n).2.2 ≤ 90 := by
  obtain ⟨bC, bL, bG, -⟩ := hw.1.1
  replace hb : b0 ≤ b2 := by omega
  have same : (∃ h, kWf0 b2 h 0 h σ) ∧ tG σ ≤ 90 := ⟨⟨h, hw.mono (by omega)⟩, hG⟩
  unfold rQueue
  by_cases c1 : (0 ≤ c ∧ c < nI (tL σ)) ∧ 0 ≤ n ∧ n < nI (tQ σ c.toNatClampNeg).length
  · rw [if_pos c1]; exact same
  · rw [if_neg c1]; exact same
def rShed (σ : KT) (n : Int32) : KA3 := if 0 ≤ n ∧ n < nI (tS σ).length then (0, nI ((tS σ)[n.toNatClampNeg]?.getD 0), σ) else (1, 0, σ)
theorem w_shed {b0 b2 h : Nat} (hw : kWf0 b0 h 0 h σ) (hG : tG σ ≤ 90) (hb : b0 + 200 ≤ b2) (n : Int32) : (∃ h, kWf0 b2 h 0 h (rShed σ n).2.2) ∧ tG (rShed σ n).2.2 ≤ 90 := by
  obtain ⟨bC, bL, bG, -⟩ := hw.1.1
  replace hb : b0 ≤ b2 := by omega
  have same : (∃ h, kWf0 b2 h 0 h σ) ∧ tG σ ≤ 90 := ⟨⟨h, hw.mono (by omega)⟩, hG⟩
  unfold rShed
  by_cases c1 : 0 ≤ n ∧ n < nI (tS σ).length
  · rw [if_pos c1]; exact same
  · rw [if_neg c1]; exact same
def rPass (σ : KT) (n : Int32) : KA3 := if 1 ≤ n ∧ n ≤ 200 then (0, tStepsUp n.toNatClampNeg σ, tSteps n.toNatClampNeg σ) else (1, 0, σ)
theorem w_pass {b0 b2 h : Nat} (hw : kWf0 b0 h 0 h σ) (hG : tG σ ≤ 90) (hb : b0 + 200 ≤ b2) (n : Int32) : (∃ h, kWf0 b2 h 0 h (rPass σ n).2.2) ∧ tG (rPass σ n).2.2 ≤ 90 := by
  obtain ⟨bC, bL, bG, -⟩ := hw.1.1
  have same : (∃ h, kWf0 b2 h 0 h σ) ∧ tG σ ≤ 90 := ⟨⟨h, hw.mono (by omega)⟩, hG⟩
  unfold rPass
  by_cases c1 : 1 ≤ n ∧ n ≤ 200
  · rw [if_pos c1]
    obtain ⟨k, k1, k2, rfl⟩ := in_range1 (n := 200) (by decide) c1
    rw [nI_clamp (by omega)]
    exact ⟨⟨h, (hw.steps k b0 σ).mono (by omega)⟩, by show tG (tSteps k σ) ≤ 90; rw [tG_tSteps]; exact hG⟩
  · rw [if_neg c1]; exact same
def rCount (σ : KT) (n : Int32) : KA3 := if 0 ≤ n ∧ n < 13 then (0, tFact σ n.toNatClampNeg, σ) else (1, 0, σ)
theorem w_count {b0 b2 h : Nat} (hw : kWf0 b0 h 0 h σ) (hG : tG σ ≤ 90) (hb : b0 + 200 ≤ b2) (n : Int32) : (∃ h, kWf0 b2 h 0 h (rCount σ n).2.2) ∧ tG (rCount σ n).2.2 ≤ 90 := by
  obtain ⟨bC, bL, bG, -⟩ := hw.1.1
  replace hb : b0 ≤ b2 := by omega
  have same : (∃ h, kWf0 b2 h 0 h σ) ∧ tG σ ≤ 90 := ⟨⟨h, hw.mono (by omega)⟩, hG⟩
  unfold rCount
  by_cases c1 : 0 ≤ n ∧ n < 13
  · rw [if_pos c1]; exact same
  · rw [if_neg c1]; exact same
def rForesee (σ : KT) (c n : Int32) : KA3 := if 1 ≤ c ∧ c ≤ 150 then (if 0 ≤ n ∧ n < 3 then (0, (if n = 0 then tStepsUp c.toNatClampNeg σ else if n = 1 then tPeople (tSteps c.toNatClampNeg σ) 0 else tCold (tSteps c.toNatClampNeg σ) - tCold σ), σ) else (2, 0, σ)) else (1, 0, σ)
theorem w_foresee {b0 b2 h : Nat} (hw : kWf0 b0 h 0 h σ) (hG : tG σ ≤ 90) (hb : b0 + 200 ≤ b2) (c n : Int32) : (∃ h, kWf0 b2 h 0 h (rForesee σ c n).2.2) ∧ tG (rForesee σ c n).2.2 ≤ 90 := by
  obtain ⟨bC, bL, bG, -⟩ := hw.1.1
  replace hb : b0 ≤ b2 := by omega
  have same : (∃ h, kWf0 b2 h 0 h σ) ∧ tG σ ≤ 90 := ⟨⟨h, hw.mono (by omega)⟩, hG⟩
  unfold rForesee
  by_cases c1 : 1 ≤ c ∧ c ≤ 150
  · rw [if_pos c1]
    by_cases c2 : 0 ≤ n ∧ n < 3
    · rw [if_pos c2]; exact same
    · rw [if_neg c2]; exact same
  · rw [if_neg c1]; exact same
def rWhen (σ : KT) (c : Int32) : KA3 := if 0 ≤ c ∧ c < nI (tG σ) then (0, (if tZ σ 12 c.toNatClampNeg = 2 then 0 else tUntil c.toNatClampNeg 250 1 σ), σ) else (1, 0, σ)
theorem w_when {b0 b2 h : Nat} (hw : kWf0 b0 h 0 h σ) (hG : tG σ ≤ 90) (hb : b0 + 200 ≤ b2) (c : Int32) : (∃ h, kWf0 b2 h 0 h (rWhen σ c).2.2) ∧ tG (rWhen σ c).2.2 ≤ 90 := by
  obtain ⟨bC, bL, bG, -⟩ := hw.1.1
  replace hb : b0 ≤ b2 := by omega
  have same : (∃ h, kWf0 b2 h 0 h σ) ∧ tG σ ≤ 90 := ⟨⟨h, hw.mono (by omega)⟩, hG⟩
  unfold rWhen
  by_cases c1 : 0 ≤ c ∧ c < nI (tG σ)
  · rw [if_pos c1]; exact same
  · rw [if_neg c1]; exact same
def rAdvise (σ : KT) (n : Int32) : KA3 := if 1 ≤ n ∧ n ≤ 6 then (0, tAdv σ n (tL σ) 0 (-1) 200, σ) else (1, 0, σ)
theorem w_advise {b0 b2 h : Nat} (hw : kWf0 b0 h 0 h σ) (hG : tG σ ≤ 90) (hb : b0 + 200 ≤ b2) (n : Int32) : (∃ h, kWf0 b2 h 0 h (rAdvise σ n).2.2) ∧ tG (rAdvise σ n).2.2 ≤ 90 := by
  obtain ⟨bC, bL, bG, -⟩ := hw.1.1
  replace hb : b0 ≤ b2 := by omega
  have same : (∃ h, kWf0 b2 h 0 h σ) ∧ tG σ ≤ 90 := ⟨⟨h, hw.mono (by omega)⟩, hG⟩
  unfold rAdvise
  by_cases c1 : 1 ≤ n ∧ n ≤ 6
  · rw [if_pos c1]; exact same
  · rw [if_neg c1]; exact same
def rNeeds (σ : KT) (c n : Int32) : KA3 := if (1 ≤ c ∧ c ≤ 500) ∧ 1 ≤ n ∧ n ≤ 100 then (0, tNeeds σ c n.toNatClampNeg (tC σ + 1) 0, σ) else (1, 0, σ)
theorem w_needs {b0 b2 h : Nat} (hw : kWf0 b0 h 0 h σ) (hG : tG σ ≤ 90) (hb : b0 + 200 ≤ b2) (c n : Int32) : (∃ h, kWf0 b2 h 0 h (rNeeds σ c n).2.2) ∧ tG (rNeeds σ c n).2.2 ≤ 90 := by
  obtain ⟨bC, bL, bG, -⟩ := hw.1.1
  replace hb : b0 ≤ b2 := by omega
  have same : (∃ h, kWf0 b2 h 0 h σ) ∧ tG σ ≤ 90 := ⟨⟨h, hw.mono (by omega)⟩, hG⟩
  unfold rNeeds
  by_cases c1 : (1 ≤ c ∧ c ≤ 500) ∧ 1 ≤ n ∧ n ≤ 100
  · rw [if_pos c1]; exact same
  · rw [if_neg c1]; exact same
end ANSWERS
