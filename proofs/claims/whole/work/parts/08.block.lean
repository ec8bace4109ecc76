/-! Blocks: what is checked of a table's row, and that a block's Prop brings the machine on. -/
def kaux (nL own : Nat) (ini : Bool) (ins : Instr) (len a b t : Nat) (v : Int32) (w : Int64) (pc : Nat) : Bool :=
  match ins with
  | .iconst n => len == 1 && Int32.ofInt n == v
  | .bipush n => len == 2 && (Int8.ofInt n).toInt32 == v
  | .sipush n => len == 3 && (Int16.ofInt n).toInt32 == v
  | .lconst n => len == 1 && Int64.ofNat n.val == w
  | .ldc2_w i => len == 3 && ktabL.contains (own, i, w)
  | .dconst n => len == 1 && n == 0
  | .iload_n k => len == 1 && k.val == a
  | .iload k => len == 2 && k == a
  | .lload_n k => len == 1 && k.val == a
  | .lload k => len == 2 && k == a
  | .dload k => len == 2 && k == a
  | .aload_n k => len == 1 && k.val == a
  | .aload k => len == 2 && k == a
  | .istore_n k => len == 1 && (k.val == a && decide (a < nL))
  | .istore k => len == 2 && (k == a && decide (a < nL))
  | .astore_n k => len == 1 && (k.val == a && decide (a < nL))
  | .astore k => len == 2 && (k == a && decide (a < nL))
  | .lstore_n k => len == 1 && (k.val == a && decide (a + 1 < nL))
  | .lstore k => len == 2 && (k == a && decide (a + 1 < nL))
  | .dstore k => len == 2 && (k == a && decide (a + 1 < nL))
  | .iinc i n => len == 3 && (i == a && (Int32.ofInt n == v && decide (a < nL)))
  | .iadd => len == 1
  | .isub => len == 1
  | .imul => len == 1
  | .iand => len == 1
  | .ixor => len == 1
  | .irem => len == 1
  | .ladd => len == 1
  | .lmul => len == 1
  | .lcmp => len == 1
  | .i2l => len == 1
  | .i2d => len == 1
  | .ddiv => len == 1
  | .dcmp _ => len == 1
  | .dup => len == 1
  | .dup2 => len == 1
  | .pop => len == 1
  | .goto off => len == 3 && (pc : Int) + off == (a : Int)
  | .ifCond _ off => len == 3 && (pc : Int) + off == (a : Int)
  | .if_icmp _ off => len == 3 && (pc : Int) + off == (a : Int)
  | .tableswitch d lo hi offs => decide (0 ≤ (pc : Int) + d) && (offs.toList.all (fun o => decide (0 ≤ (pc : Int) + o)) && decide ((offs.size : Int) = hi - lo + 1))
  | .lookupswitch d ps => decide (0 ≤ (pc : Int) + d) && (ps.toList.all (fun o => decide (0 ≤ (pc : Int) + o.2)) && (ps.toList.zip (ps.toList.drop 1)).all (fun (a, next) => a.1 < next.1))
  | .getfield i => len == 3 && (decide (a < 8) && (decide (b < kN a) && ((bif kisref (kty a b) then 1 else 0) == t && (ktabF.contains (own, i, a, b) || ktabN.contains (own, i, a, b)))))
  | .putfield i => len == 3 && (decide (a < 8) && (decide (b < kN a) && (kft a b == t && ((ktabF.contains (own, i, a, b) && (!(kT a b).2.2.2 || (ini && (kT a b).1 == kown own))) || (ktabN.contains (own, i, a, b) && !(kT a b).2.2.2)))))
  | .arraylength => len == 1
  | .iaload => len == 1
  | .laload => len == 1
  | .aaload => len == 1
  | .iastore => len == 1
  | .lastore => len == 1
  | .aastore => len == 1
  | .newarray ty => len == 2 && ((decide (ty = .int) && a == 8) || (decide (ty = .long) && a == 12))
  | .anewarray i => len == 3 && ((a == 9 || a == 10 || a == 11) && ktabC.contains (own, i, kelem a))
  | .new i => len == 3 && (decide (a < 8) && (b == kN a && ktabC.contains (own, i, a)))
  | .invokespecial i => len == 3 && ktabO.contains (own, i)
  | .invokestatic i => len == 3 && ktabA.contains (own, i)
  | .ireturn => len == 1
  | .lreturn => len == 1
  | .dreturn => len == 1
  | .return_ => len == 1
  | _ => false
def kchk1 (m : KMeth) (own : Nat) (ini : Bool) (e : KE) (pc : Nat) : Bool := decide (decode m.2.1 pc = .ok (e.1, e.2.1)) && kaux m.2.2.1 own ini e.1 e.2.1 e.2.2.1.1 e.2.2.1.2.1 e.2.2.1.2.2 e.2.2.2.1 e.2.2.2.2 pc
def kchk (m : KMeth) (own : Nat) (ini : Bool) : List KE → Nat → Bool
  | [], _ => true
  | e :: r, pc => kchk1 m own ini e pc && kchk m own ini r (pc + e.2.1)
theorem kcases_mono {K K' : Nat → Prop} {pc : Nat} {x : Int32} (hK : ∀ q, K q → K' q) : ∀ (l : List Int) (i : Int), kcases K pc x l i → kcases K' pc x l i
  | [], _, _ => trivial
  | o :: r, i, h => ⟨fun z => hK _ (h.1 z), kcases_mono hK r (i + 1) h.2⟩
theorem klook_mono {K K' : Nat → Prop} {pc : Nat} {x : Int32} {d : Int} (hK : ∀ q, K q → K' q) : ∀ (l : List (Int × Int)), klook K pc x d l → klook K' pc x d l
  | [], h => hK _ h
  | q :: r, h => ⟨fun z => hK _ (h.1 z), fun z => klook_mono hK r (h.2 z)⟩
section KB
variable {X : KX} {m : KMeth} {own : Nat} {ini : Bool} {S : KS} {mc ms : Nat} {E : KEnd}
theorem KW_ret (hC : KC X m own ini S mc ms) (hE : KRet X m E) {v : Option KV} {pc : Nat} {ls : KL} {M : KM} {cs sl : Nat} (h : E v M cs sl) (hd : kretd m.2.1 pc v) : KW X pc ls v.toList M cs sl := by
  obtain ⟨p, l, e, R, s, mid, args, below, meth, c, A, D, cA, ad0, L0, Q⟩ := X
  intro ad H locs lsA hP hVS hl hbad
  exact hE v M cs sl h ad H locs lsA pc hP hVS hbad hd
theorem KW_stp (hC : KC X m own ini S mc ms) (hE : KRet X m E) {K : KK} (hK : ∀ pc ls st M cs sl, K pc ls st M cs sl → KW X pc ls st M cs sl) {ins : Instr} {len a b t : Nat} {v : Int32} {w : Int64} {pc : Nat} {ls : KL} {st : List KV} {M : KM} {cs sl : Nat}
    (hd : decode m.2.1 pc = .ok (ins, len)) (hx : kaux m.2.2.1 own ini ins len a b t v w pc = true) (h : kstp (kroom m mc ms) S E K ins len a b t v w pc ls st M cs sl) : KW X pc ls st M cs sl := by
  unfold kstp at h
  split at h <;> simp only [kaux, Bool.and_eq_true, beq_iff_eq, decide_eq_true_eq, Bool.or_eq_true] at hx
  · obtain ⟨rfl, hv⟩ := hx; exact ks_iconst hC hv hd (hK _ _ _ _ _ _ h)
  · obtain ⟨rfl, hv⟩ := hx; exact ks_bipush hC hv hd (hK _ _ _ _ _ _ h)
  · obtain ⟨rfl, hv⟩ := hx; exact ks_sipush hC hv hd (hK _ _ _ _ _ _ h)
  · obtain ⟨rfl, hv⟩ := hx; exact ks_lconst hC hv hd (hK _ _ _ _ _ _ h)
  · obtain ⟨rfl, hw⟩ := hx; exact ks_ldc2 hC (kandW (kall kL_ok hw)) hd (hK _ _ _ _ _ _ h)
  · obtain ⟨rfl, hv⟩ := hx; subst hv; exact ks_dconst hC hd (hK _ _ _ _ _ _ h)
  · obtain ⟨rfl, hk⟩ := hx
    split at h
    · rename_i hg; exact ks_iload_n hC hk hg hd (hK _ _ _ _ _ _ h)
    · exact h.elim
  · obtain ⟨rfl, rfl⟩ := hx
    split at h
    · rename_i hg; exact ks_iload hC hg hd (hK _ _ _ _ _ _ h)
    · exact h.elim
  · obtain ⟨rfl, hk⟩ := hx
    split at h
    · rename_i hg; exact ks_lload_n hC hk hg hd (hK _ _ _ _ _ _ h)
    · exact h.elim
  · obtain ⟨rfl, rfl⟩ := hx
    split at h
    · rename_i hg; exact ks_lload hC hg hd (hK _ _ _ _ _ _ h)
    · exact h.elim
  · obtain ⟨rfl, rfl⟩ := hx
    split at h
    · rename_i hg; exact ks_dload hC hg hd (hK _ _ _ _ _ _ h)
    · exact h.elim
  · obtain ⟨rfl, hk⟩ := hx
    split at h
    · rename_i hg; exact ks_aload_n hC hk hg hd (hK _ _ _ _ _ _ h)
    · exact h.elim
  · obtain ⟨rfl, rfl⟩ := hx
    split at h
    · rename_i hg; exact ks_aload hC hg hd (hK _ _ _ _ _ _ h)
    · exact h.elim
  · obtain ⟨rfl, hk, hn⟩ := hx
    split at h
    · exact ks_istore_n hC hk hn hd (hK _ _ _ _ _ _ h)
    · exact h.elim
  · obtain ⟨rfl, rfl, hn⟩ := hx
    split at h
    · exact ks_istore hC hn hd (hK _ _ _ _ _ _ h)
    · exact h.elim
  · obtain ⟨rfl, hk, hn⟩ := hx
    split at h
    · exact ks_astore_n hC hk hn hd (hK _ _ _ _ _ _ h)
    · exact h.elim
  · obtain ⟨rfl, rfl, hn⟩ := hx
    split at h
    · exact ks_astore hC hn hd (hK _ _ _ _ _ _ h)
    · exact h.elim
  · obtain ⟨rfl, hk, hn⟩ := hx
    split at h
    · exact ks_lstore_n hC hk hn hd (hK _ _ _ _ _ _ h)
    · exact h.elim
  · obtain ⟨rfl, rfl, hn⟩ := hx
    split at h
    · exact ks_lstore hC hn hd (hK _ _ _ _ _ _ h)
    · exact h.elim
  · obtain ⟨rfl, rfl, hn⟩ := hx
    split at h
    · exact ks_dstore hC hn hd (hK _ _ _ _ _ _ h)
    · exact h.elim
  · obtain ⟨rfl, rfl, hv, hn⟩ := hx
    split at h
    · rename_i hg; exact ks_iinc hC hv hg hn hd (hK _ _ _ _ _ _ h)
    · exact h.elim
  · subst hx; split at h
    · exact ks_iadd hC hd (hK _ _ _ _ _ _ h)
    · exact h.elim
  · subst hx; split at h
    · exact ks_isub hC hd (hK _ _ _ _ _ _ h)
    · exact h.elim
  · subst hx; split at h
    · exact ks_imul hC hd (hK _ _ _ _ _ _ h)
    · exact h.elim
  · subst hx; split at h
    · exact ks_iand hC hd (hK _ _ _ _ _ _ h)
    · exact h.elim
  · subst hx; split at h
    · exact ks_ixor hC hd (hK _ _ _ _ _ _ h)
    · exact h.elim
  · subst hx; split at h
    · exact ks_irem hC h.1 hd (hK _ _ _ _ _ _ h.2)
    · exact h.elim
  · subst hx; split at h
    · exact ks_ladd hC hd (hK _ _ _ _ _ _ h)
    · exact h.elim
  · subst hx; split at h
    · exact ks_lmul hC hd (hK _ _ _ _ _ _ h)
    · exact h.elim
  · subst hx; split at h
    · exact ks_lcmp hC hd (hK _ _ _ _ _ _ h)
    · exact h.elim
  · subst hx; split at h
    · exact ks_i2l hC hd (hK _ _ _ _ _ _ h)
    · exact h.elim
  · subst hx; split at h
    · exact ks_i2d hC hd (hK _ _ _ _ _ _ h)
    · exact h.elim
  · subst hx; split at h
    · exact ks_ddiv hC h.1 hd (hK _ _ _ _ _ _ h.2)
    · exact h.elim
  · subst hx; split at h
    · exact ks_dcmp hC hd (hK _ _ _ _ _ _ h)
    · exact h.elim
  · subst hx; split at h
    · exact ks_dupI hC hd (hK _ _ _ _ _ _ h)
    · exact ks_dupR hC hd (hK _ _ _ _ _ _ h)
    · exact h.elim
  · subst hx; split at h
    · exact ks_dup2 hC hd (hK _ _ _ _ _ _ h)
    · exact h.elim
  · subst hx; split at h
    · exact ks_popI hC hd (hK _ _ _ _ _ _ h)
    · exact ks_popR hC hd (hK _ _ _ _ _ _ h)
    · exact h.elim
  · obtain ⟨rfl, ht⟩ := hx; exact ks_goto hC ht hd (hK _ _ _ _ _ _ h)
  · obtain ⟨rfl, ht⟩ := hx
    split at h
    · exact ks_if_eq hC ht hd (fun z => hK _ _ _ _ _ _ (h.1 z)) (fun z => hK _ _ _ _ _ _ (h.2 z))
    · exact h.elim
  · obtain ⟨rfl, ht⟩ := hx
    split at h
    · exact ks_if_ne hC ht hd (fun z => hK _ _ _ _ _ _ (h.1 z)) (fun z => hK _ _ _ _ _ _ (h.2 z))
    · exact h.elim
  · obtain ⟨rfl, ht⟩ := hx
    split at h
    · exact ks_if_lt hC ht hd (fun z => hK _ _ _ _ _ _ (h.1 z)) (fun z => hK _ _ _ _ _ _ (h.2 z))
    · exact h.elim
  · obtain ⟨rfl, ht⟩ := hx
    split at h
    · exact ks_if_ge hC ht hd (fun z => hK _ _ _ _ _ _ (h.1 z)) (fun z => hK _ _ _ _ _ _ (h.2 z))
    · exact h.elim
  · obtain ⟨rfl, ht⟩ := hx
    split at h
    · exact ks_if_gt hC ht hd (fun z => hK _ _ _ _ _ _ (h.1 z)) (fun z => hK _ _ _ _ _ _ (h.2 z))
    · exact h.elim
  · obtain ⟨rfl, ht⟩ := hx
    split at h
    · exact ks_if_le hC ht hd (fun z => hK _ _ _ _ _ _ (h.1 z)) (fun z => hK _ _ _ _ _ _ (h.2 z))
    · exact h.elim
  · obtain ⟨rfl, ht⟩ := hx
    split at h
    · exact ks_icmp_eq hC ht hd (fun z => hK _ _ _ _ _ _ (h.1 z)) (fun z => hK _ _ _ _ _ _ (h.2 z))
    · exact h.elim
  · obtain ⟨rfl, ht⟩ := hx
    split at h
    · exact ks_icmp_ne hC ht hd (fun z => hK _ _ _ _ _ _ (h.1 z)) (fun z => hK _ _ _ _ _ _ (h.2 z))
    · exact h.elim
  · obtain ⟨rfl, ht⟩ := hx
    split at h
    · exact ks_icmp_lt hC ht hd (fun z => hK _ _ _ _ _ _ (h.1 z)) (fun z => hK _ _ _ _ _ _ (h.2 z))
    · exact h.elim
  · obtain ⟨rfl, ht⟩ := hx
    split at h
    · exact ks_icmp_ge hC ht hd (fun z => hK _ _ _ _ _ _ (h.1 z)) (fun z => hK _ _ _ _ _ _ (h.2 z))
    · exact h.elim
  · obtain ⟨rfl, ht⟩ := hx
    split at h
    · exact ks_icmp_gt hC ht hd (fun z => hK _ _ _ _ _ _ (h.1 z)) (fun z => hK _ _ _ _ _ _ (h.2 z))
    · exact h.elim
  · obtain ⟨rfl, ht⟩ := hx
    split at h
    · exact ks_icmp_le hC ht hd (fun z => hK _ _ _ _ _ _ (h.1 z)) (fun z => hK _ _ _ _ _ _ (h.2 z))
    · exact h.elim
  · obtain ⟨h0, h1, h2⟩ := hx
    split at h
    · exact ks_table hC h0 (fun o ho => by simpa using List.all_eq_true.mp h1 o ho) h2 hd (fun z => hK _ _ _ _ _ _ (h.1 z)) (kcases_mono (fun q hq => hK _ _ _ _ _ _ hq) _ _ h.2)
    · exact h.elim
  · obtain ⟨h0, h1, h2⟩ := hx
    split at h
    · exact ks_lookup hC h2 h0 (fun o ho => by simpa using List.all_eq_true.mp h1 o ho) hd (klook_mono (fun q hq => hK _ _ _ _ _ _ hq) _ h)
    · exact h.elim
  · obtain ⟨rfl, hc, hj, ht, hw⟩ := hx
    split at h
    · exact ks_get hC hc hj ht hw h.1 h.2.1 hd (hK _ _ _ _ _ _ h.2.2)
    · exact h.elim
  · obtain ⟨rfl, hc, hj, ht, hw⟩ := hx
    split at h
    · refine ks_put hC hc hj ht ?_ h.1 h.2.1 ⟨h.2.2.1, fun r hr => ?_⟩ hd (hK _ _ _ _ _ _ h.2.2.2.2)
      · rcases hw with ⟨hw, hf⟩ | ⟨hw, hf⟩
        · refine Or.inl ⟨hw, fun hfin => ?_⟩
          rcases hf with hf | hf
          · rw [hfin] at hf; simp at hf
          · exact hf
        · exact Or.inr ⟨hw, by simpa using hf⟩
      · have h4 := h.2.2.2.1
        rw [hr] at h4
        exact h4
    · exact h.elim
  · subst hx; split at h
    · split at h
      · rename_i q
        obtain ⟨rfl, h⟩ := h
        exact ks_slen hC rfl hd (hK _ _ _ _ _ _ h)
      · exact ks_alen hC h.1 h.2.1 h.2.2.1 hd (hK _ _ _ _ _ _ h.2.2.2)
    · exact h.elim
  · subst hx; split at h
    · split at h
      · rename_i q
        obtain ⟨rfl, h1, h⟩ := h
        exact ks_sld hC rfl h1 hd (hK _ _ _ _ _ _ h)
      · exact ks_iald hC h.1 h.2.1 h.2.2.1 hd (hK _ _ _ _ _ _ h.2.2.2)
    · exact h.elim
  · subst hx; split at h
    · exact ks_lald hC h.1 h.2.1 h.2.2.1 hd (hK _ _ _ _ _ _ h.2.2.2)
    · exact h.elim
  · subst hx; split at h
    · exact ks_aald hC h.1 h.2.1 h.2.2.1 hd (hK _ _ _ _ _ _ h.2.2.2)
    · exact h.elim
  · subst hx; split at h
    · exact ks_iast hC h.1 h.2.1 h.2.2.1 hd (hK _ _ _ _ _ _ h.2.2.2)
    · exact h.elim
  · subst hx; split at h
    · exact ks_last hC h.1 h.2.1 h.2.2.1 hd (hK _ _ _ _ _ _ h.2.2.2)
    · exact h.elim
  · subst hx; split at h
    · exact ks_aast hC h.1 h.2.1 h.2.2.1 h.2.2.2.1 h.2.2.2.2.1 hd (hK _ _ _ _ _ _ h.2.2.2.2.2)
    · exact h.elim
  · obtain ⟨rfl, hx⟩ := hx
    split at h
    · obtain ⟨i, hi, hM, o1, o2, h0, h9, h1, h2, h⟩ := h
      rcases hx with ⟨rfl, rfl⟩ | ⟨rfl, rfl⟩
      · exact ks_newi hC hi hM (kLV_of o1 o2) h0 h9 h1 h2 hd (hK _ _ _ _ _ _ h)
      · exact ks_newl hC hi hM (kLV_of o1 o2) h0 h9 h1 h2 hd (hK _ _ _ _ _ _ h)
    · exact h.elim
  · obtain ⟨rfl, ha, hw⟩ := hx
    split at h
    · obtain ⟨i, hi, hM, o1, o2, h0, h9, h1, h2, h⟩ := h
      subst hi
      exact ks_newq hC hw (by omega) hM (kLV_of o1 o2) h0 h9 h1 h2 hd (hK _ _ _ _ _ _ h)
    · exact h.elim
  · obtain ⟨rfl, ha, hb, hw⟩ := hx
    obtain ⟨i, hi, hM, o1, o2, h1, h2, h⟩ := h
    subst hb
    exact ks_new hC ha hw hi hM (kLV_of o1 o2) h1 h2 hd (hK _ _ _ _ _ _ h)
  · obtain ⟨rfl, hw⟩ := hx
    split at h
    · exact ks_objInit hC hw h.1 h.2.1 hd (hK _ _ _ _ _ _ h.2.2)
    · exact h.elim
  · obtain ⟨rfl, hw⟩ := hx
    split at h
    · obtain ⟨h1, h2, h3, h4, h5, h6, h7, h8, h9, h10, h11, h⟩ := h
      exact ks_copy hC hw h1 h2 h3 h4 h5 h6 h7 h8 h9 h10 h11 hd (hK _ _ _ _ _ _ h)
    · exact h.elim
  · subst hx; split at h
    · exact KW_ret hC hE h hd
    · exact h.elim
  · subst hx; split at h
    · exact KW_ret hC hE h hd
    · exact h.elim
  · subst hx; split at h
    · exact KW_ret hC hE h hd
    · exact h.elim
  · subst hx; split at h
    · exact KW_ret hC hE h hd
    · exact h.elim
  · exact h.elim
theorem KW_blk (hC : KC X m own ini S mc ms) (hE : KRet X m E) : ∀ (l : List KE) (pc : Nat) (ls : KL) (st : List KV) (M : KM) (cs sl : Nat), kchk m own ini l pc = true → kblk (kroom m mc ms) S E (KW X) l pc ls st M cs sl → KW X pc ls st M cs sl
  | [], pc, ls, st, M, cs, sl, _, h => h
  | [e], pc, ls, st, M, cs, sl, hc, h => by
    simp only [kchk, kchk1, Bool.and_eq_true, decide_eq_true_eq] at hc
    exact KW_stp hC hE (fun _ _ _ _ _ _ h => h) hc.1.1 hc.1.2 h
  | e :: f :: r, pc, ls, st, M, cs, sl, hc, h => by
    have hc2 := hc
    rw [kchk, Bool.and_eq_true] at hc2
    have hc1 := hc2.1
    simp only [kchk1, Bool.and_eq_true, decide_eq_true_eq] at hc1
    refine KW_stp hC hE (fun pc1 ls1 st1 M1 cs1 sl1 h1 => ?_) hc1.1 hc1.2 h
    obtain ⟨rfl, h1⟩ := h1
    exact KW_blk hC hE (f :: r) _ ls1 st1 M1 cs1 sl1 hc2.2 h1
end KB
