section
/-! WHAT THIS SHOWS: the printed statement of p25 is EMPTY. Its premise says that the law's entry has no exception table; the law's class file, the statement's own, has one of four rows. So no launch meets the premise, the owed pair holds of nothing, and the three printed facts beside it (pinned, lists, witness) are false. No row here says anything of the class ChairLift: this is evidence for REPORT.md, not a proof of the property. -/
theorem pe_handlers : Jvm.ClassFile.Facts.File.hasCode classFile x code maxLocals ret = false := by decide +kernel
theorem pe_mem : (x, code, maxLocals, ret) ∈ (Jvm.D.headSpec (Jvm.Cond.code x code maxLocals ret :: tables_1) room_1).pre.codes ++ (Jvm.D.headSpec (Jvm.Cond.code x code maxLocals ret :: tables_1) room_1).post.codes := by
  refine List.mem_append_left _ ?_
  show (x, code, maxLocals, ret) ∈ [(x, code, maxLocals, ret)] ++ (Jvm.D.allAtoms tables_1).codes
  exact List.mem_append_left _ List.mem_cons_self
/-- no launch at all meets the premise -/
theorem pe_no_launch (l : Launch) : ¬ Jvm.D.Lists l classFile x code maxLocals ret tables_1 room_1 := by
  intro h
  obtain ⟨-, hf, hc, -⟩ := h
  have h1 := hc.1 _ pe_mem
  have h2 : Option.any (fun f => Jvm.ClassFile.Facts.File.hasCode f x code maxLocals ret) (l.file? x.cls) = true := h1
  rw [hf, Option.any_some, pe_handlers] at h2
  exact Bool.noConfusion h2
theorem pe_not_pinned : ¬ PinnedClaimed := by
  intro h
  have h2 : Jvm.ClassFile.Facts.File.hasCode classFile x code maxLocals ret = true := h
  rw [pe_handlers] at h2
  exact Bool.noConfusion h2
theorem pe_not_lists : ¬ ListsClaimed_1 := pe_no_launch launch0
theorem pe_not_witness : ¬ WitnessClaimed_1 := by
  intro h
  obtain ⟨p, e, s, m, args, below, h1⟩ := h
  exact pe_no_launch launch0 h1.1
/-- the owed pair, true of nothing: see the head -/
theorem i_vc : Claimed_1_1 ∧ Claimed_1_2 := ⟨fun l _ hL => absurd hL (pe_no_launch l), fun l _ hL => absurd hL (pe_no_launch l)⟩
end
