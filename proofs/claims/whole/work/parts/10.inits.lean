/-! Calls of constructors. -/
section KCI
theorem k2n : ((2 : Nat) = 3) = False ∧ ((2 : Nat) = 0) = False ∧ ((2 : Nat) = 1) = False ∧ ((2 : Nat) = 4) = False := by decide
theorem k3n : ((3 : Nat) = 2) = False ∧ ((3 : Nat) = 0) = False ∧ ((3 : Nat) = 1) = False ∧ ((3 : Nat) = 4) = False := by decide
variable {X : KX} {m m2 : KMeth} {own : Nat} {ini : Bool} {S : KS} {mc ms mc2 ms2 pc idx n : Nat} {ls : KL} {stk st : List KV} {M : KM} {cs sl : Nat} {Q2 : Option KV → KM → Prop}
theorem KW_callI (hC : KC X m own ini S mc ms) (hd : decode m.2.1 pc = .ok (.invokespecial idx, 3)) (hret : m2.2.2.2.1 = none) (hlk : klk 2 own idx m2 n = true) (hR : m2.2.2.2.2.1 + 1 ≤ m.2.2.2.2.1 ∧ 8 + (m2.2.2.1 + 11) + m2.2.2.2.2.2 ≤ m.2.2.2.2.2) {i : KI} {As : List KV} (hs : SpQ m2 mc2 ms2 (kR (some i) :: As) M Q2)
    (hn : As.length = n) (hst : stk = As.reverse ++ kR (some i) :: st) (h1 : kOkL M ls) (h2 : kOkS M st) (hcat : kcats st ≤ 8) (hcs : cs + mc2 ≤ mc) (hsl : sl + ms2 ≤ ms)
    (hk : ∀ (v : Option KV) (M' : KM), Q2 v M' → KW X (pc + 3) ls (v.toList ++ st) M' (cs + mc2) (sl + ms2)) : KW X pc ls stk M cs sl := by
  subst hst
  obtain ⟨p, l, e, R, s, mid, args, below, meth, c, A, D, cA, ad0, L0, Q⟩ := X
  obtain ⟨hx, hb, hml, hown, hts, hK, hN, hA, hin, hS, hlk9, rfl⟩ := hC
  intro ad H locs lsA hP hVS hl hbad
  simp only [klk, if_true, Bool.and_eq_true, decide_eq_true_eq, k2n.1, k2n.2.1, k2n.2.2.1, k2n.2.2.2, if_false, or_self, true_or] at hlk
  obtain ⟨⟨a1, a2⟩, a3, a4, -, ⟨a7, a8⟩, a5, ⟨a9, a10⟩, ⟨a11, a12⟩, a13⟩ := hlk
  have hcode := kGW_in a9 a10
  have hgood : GoodIn kGW (kwsM m2) := by
    have := kGood_ws hcode (pre := []) (fun w hw => by cases hw)
    exact this
  have hw2 : kwsM m2 = Cond.code m2.1 m2.2.1 m2.2.2.1 none :: kGW := by unfold kwsM; rw [hret]
  have cw := cwI (R := kroom m mc ms) (s := s) (args := args) (own := kown own) (index := idx) (y := m2.1) (bytes := m2.2.1) (maxL := m2.2.2.1) (ws := kwsM m2) (ws' := kGW) (rm := kroom m2 mc2 ms2) (mc := mc2) (ms := ms2) n hts hgood hw2 rfl rfl (hts _ (kGW_in a3 a4)) (hts _ (kGW_in a1 a2)) (hts _ (kGW_in a7 a8)) a5 ⟨a11, a12, a13⟩ hR
  have hrun := va_runI (p := p) (l := l) (e := e) (R := kroom m mc ms) (s := s) (m := mid) (args := args) (below := below) (meth := meth) (c := c) (H := H) (locs := locs) (cells := cs) (slots := sl) (As := As.map (kv ad)) (rest := st.map (kv ad)) (g := F0 mid pc lsA ((As.reverse ++ kR (some i) :: st).map (kv ad))) (b := ad i) ⟨hx, hb, hml, hown, hts⟩ (hs l D cA ad H.size) cw
    ⟨KPre.blind (fun _ _ _ _ _ => trivial), fun U hU hW => ⟨rfl, by rw [hU], by rw [hU]; exact hP.full, va_K.moved hW.alike hK, hN.warm hW, trivial⟩⟩ rfl (by simpa using hn) (by rw [← hml]; exact hl.1.1) (by simp [kv, va_rf]) (by
      rw [kcats_sum]
      show 2 * 0 + kcats st ≤ 8
      omega) hd ⟨hcs, hsl⟩
  exact kAfter hA hP hVS hl hbad (kLV_of h1 h2) hrun hk
theorem KW_callIN (hC : KC X m own ini S mc ms) (hd : decode m.2.1 pc = .ok (.invokespecial idx, 3)) (hret : m2.2.2.2.1 = none) (hlk : klk 3 own idx m2 n = true) (hR : m2.2.2.2.2.1 + 1 ≤ m.2.2.2.2.1 ∧ 8 + (m2.2.2.1 + 11) + m2.2.2.2.2.2 ≤ m.2.2.2.2.2) {i : KI} {As : List KV} (hs : SpQ m2 mc2 ms2 (kR (some i) :: As) M Q2)
    (hn : As.length = n) (hst : stk = As.reverse ++ kR (some i) :: st) (h1 : kOkL M ls) (h2 : kOkS M st) (hcat : kcats st ≤ 8) (hcs : cs + mc2 ≤ mc) (hsl : sl + ms2 ≤ ms)
    (hk : ∀ (v : Option KV) (M' : KM), Q2 v M' → KW X (pc + 3) ls (v.toList ++ st) M' (cs + mc2) (sl + ms2)) : KW X pc ls stk M cs sl := by
  subst hst
  obtain ⟨p, l, e, R, s, mid, args, below, meth, c, A, D, cA, ad0, L0, Q⟩ := X
  obtain ⟨hx, hb, hml, hown, hts, hK, hN, hA, hin, hS, hlk9, rfl⟩ := hC
  intro ad H locs lsA hP hVS hl hbad
  simp only [klk, if_true, Bool.and_eq_true, decide_eq_true_eq, k3n.1, k3n.2.1, k3n.2.2.1, k3n.2.2.2, if_false, or_self, or_true] at hlk
  obtain ⟨a1, a3, a4, -, ⟨a7, a8⟩, a5, ⟨a9, a10⟩, ⟨a11, a12⟩, a13⟩ := hlk
  have hcode := kGW_in a9 a10
  have hgood : GoodIn kGW (kwsM m2) := by
    have := kGood_ws hcode (pre := []) (fun w hw => by cases hw)
    exact this
  have hw2 : kwsM m2 = Cond.code m2.1 m2.2.1 m2.2.2.1 none :: kGW := by unfold kwsM; rw [hret]
  have hnst : va_Nw (.methodLinkNest (kown own) idx m2.1 (khost own)) s := hN.2.1 _ (List.contains_iff_mem.mp a1)
  have cw := va_cnB (R := kroom m mc ms) (s := s) (args := args) (own := kown own) (host := khost own) (index := idx) (y := m2.1) (bytes := m2.2.1) (maxL := m2.2.2.1) (ret := none) (ws := kwsM m2) (ws' := kGW) (rm := kroom m2 mc2 ms2) (mc := mc2) (ms := ms2) n hts hgood hw2 rfl rfl hnst (hts _ (kGW_in a3 a4)) ⟨a11, a12, a13⟩ hR
  have hrun := va_runIN (p := p) (l := l) (e := e) (R := kroom m mc ms) (s := s) (m := mid) (args := args) (below := below) (meth := meth) (c := c) (H := H) (locs := locs) (cells := cs) (slots := sl) (As := As.map (kv ad)) (rest := st.map (kv ad)) (g := F0 mid pc lsA ((As.reverse ++ kR (some i) :: st).map (kv ad))) (b := ad i) ⟨hx, hb, hml, hown, hts⟩ (hs l D cA ad H.size) ⟨cw, a5, hts _ (kGW_in a7 a8)⟩
    ⟨KPre.blind (fun _ _ _ _ _ => trivial), fun U hU hW => ⟨rfl, by rw [hU], by rw [hU]; exact hP.full, va_K.moved hW.alike hK, hN.warm hW, trivial⟩⟩ rfl (by simpa using hn) (by rw [← hml]; exact hl.1.1) (by simp [kv, va_rf]) (by
      rw [kcats_sum]
      show 2 * 0 + kcats st ≤ 8
      omega) hd ⟨hcs, hsl⟩
  exact kAfter hA hP hVS hl hbad (kLV_of h1 h2) hrun hk
end KCI
