section
variable {o off imm : Int32} {d s : Nat} {K : Nat → Int32} {L H : Nat → Int64} {S : Int64}
theorem yp_xU {K' : Nat → Int32} {L' H' : Nat → Int64} (k : K 0 = 0) : YP_ 60 d s off imm K L H S 2 K' L' H' := by
  intro y_place y_least y_most y_smallest y_greatest y_ways y_fault y_base y_otherKind y_otherLo y_otherHi y_low y_high y_bytes y_steps y_op y_first y_second y_offset y_given y_length y_there y_known y_lo y_hi y_at y_lookups y_safe y_met y_tag y_word y_packet y_keys y_values y_many i a w post hi ha hw eo e1 e2 eof eg eat F eS hl hE hO
  have t := F 0 (by omega)
  rw [g_lo (by omega)] at t
  exact yv_inE hi eo (yv_exU (by omega) (t.1.trans k) (hE (by decide) _ _ _ _ _ _ _ _ _ _))
theorem yp_xK {K' : Nat → Int32} {L' H' : Nat → Int64} (k : ¬ K 0 = 0) (k1 : ¬ K 0 = 1) : YP_ 60 d s off imm K L H S 3 K' L' H' := by
  intro y_place y_least y_most y_smallest y_greatest y_ways y_fault y_base y_otherKind y_otherLo y_otherHi y_low y_high y_bytes y_steps y_op y_first y_second y_offset y_given y_length y_there y_known y_lo y_hi y_at y_lookups y_safe y_met y_tag y_word y_packet y_keys y_values y_many i a w post hi ha hw eo e1 e2 eof eg eat F eS hl hE hO
  have t := F 0 (by omega)
  rw [g_lo (by omega)] at t
  exact yv_inE hi eo (yv_exK (by omega) (fun z => k (t.1.symm.trans z)) (fun z => k1 (t.1.symm.trans z)) (hE (by decide) _ _ _ _ _ _ _ _ _ _))
theorem WF_mK (W : WF_ K L H S) : WF_ (mK_ K 16) (mL_ K L 16) (mL_ K H 16) S := by
  obtain ⟨a, b, c, d, e⟩ := W
  have f : ∀ j, ¬ wi_ K 16 j → mK_ K 16 j = K j ∧ mL_ K L 16 j = L j ∧ mL_ K H 16 j = H j := by
    intro j z
    exact ⟨by unfold mK_; exact if_neg z, by unfold mL_; exact if_neg z, by unfold mL_; exact if_neg z⟩
  have n8 : ¬ wi_ K 16 8 := by
    rintro ⟨-, q | q | q⟩
    · omega
    · rw [b] at q; exact absurd q (by decide)
    · rw [b] at q; exact absurd q (by decide)
  refine ⟨fun j hj => ?_, by rw [(f 8 n8).1]; exact b, by rw [(f 8 n8).2.1]; exact c, fun j hj => ?_, e⟩
  · by_cases z : wi_ K 16 j
    · have e1 : mK_ K 16 j = 0 := by unfold mK_; exact if_pos z
      rw [e1]; exact wf_0
    · obtain ⟨x, y, w⟩ := f j z
      rw [x, y, w]; exact a j hj
  · obtain ⟨x, y, w⟩ := f j (fun z => absurd z.1 (by omega))
    rw [x, y, w]; exact d j hj
end
section
variable {x_safe : Int64} {x_at : Int32} {x_exitLeast : Int64} {x_exitMost : Int64} {x_branches : Int32} {x_faultPlace : Int32} {x_provedLeast : Int64} {x_provedMost : Int64} {x_packetLength : Int32} {x_executed : Int32} {x_ops : Nat → Int32} {x_targets : Nat → Int32} {x_sources : Nat → Int32} {x_offsets : Nat → Int32} {x_immediates : Nat → Int32} {x_lengths : Nat → Int32} {x_kinds : Nat → Int32} {x_los : Nat → Int64} {x_his : Nat → Int64} {x_reached : Nat → Int32} {x_branchAt : Nat → Int32} {x_branchSafe : Nat → Int64} {x_branchKinds : Nat → Int32} {x_branchLos : Nat → Int64} {x_branchHis : Nat → Int64} {x_packet : Nat → Int32} {x_registers : Nat → Int64} {x_cells : Nat → Int64} {x_keyWords : Nat → Int64} {x_keyTaken : Nat → Int32}
theorem st_mem {a b n d s : Nat} {o off imm : Int32} {Q : Prop} (ha : a < 40) (hn : n ≤ 40) (hl : x_lengths 2 = nI n) (hd : d < 8) (hs : s < 9) (eo : x_ops (80 + a) = o) (ed : x_targets (80 + a) = nI d) (es : x_sources (80 + a) = nI s) (ef : x_offsets (80 + a) = off) (em : x_immediates (80 + a) = imm) (W : WF_ x_kinds x_los x_his x_safe) (ho : o = 40 ∨ o = 41 ∨ o = 42) (F : ∀ (e : Int32) (K' : Nat → Int32) (L' H' : Nat → Int64), ¬ e = 0 → (∀ j, 16 ≤ j → K' j = 0 ∧ L' j = 0 ∧ H' j = 0) → (∀ post : Int32 → SX → Prop, post e (x_safe, nI a, x_exitLeast, x_exitMost, nI b, x_faultPlace, x_provedLeast, x_provedMost, x_packetLength, x_executed, x_ops, x_targets, x_sources, x_offsets, x_immediates, x_lengths, K', L', H', x_reached, x_branchAt, x_branchSafe, x_branchKinds, x_branchLos, x_branchHis, x_packet, x_registers, x_cells, x_keyWords, x_keyTaken) → wpX_check post (x_safe, nI a, x_exitLeast, x_exitMost, nI b, x_faultPlace, x_provedLeast, x_provedMost, x_packetLength, x_executed, x_ops, x_targets, x_sources, x_offsets, x_immediates, x_lengths, x_kinds, x_los, x_his, x_reached, x_branchAt, x_branchSafe, x_branchKinds, x_branchLos, x_branchHis, x_packet, x_registers, x_cells, x_keyWords, x_keyTaken) (nI (80 + a))) → YP_ o d s off imm x_kinds x_los x_his x_safe e x_kinds x_los x_his → Q) (P : ∀ (K' : Nat → Int32) (L' H' : Nat → Int64), (∀ post : Int32 → SX → Prop, post 0 (x_safe, nI a, x_exitLeast, x_exitMost, nI b, x_faultPlace, x_provedLeast, x_provedMost, x_packetLength, x_executed, x_ops, x_targets, x_sources, x_offsets, x_immediates, x_lengths, K', L', H', x_reached, x_branchAt, x_branchSafe, x_branchKinds, x_branchLos, x_branchHis, x_packet, x_registers, x_cells, x_keyWords, x_keyTaken) → wpX_check post (x_safe, nI a, x_exitLeast, x_exitMost, nI b, x_faultPlace, x_provedLeast, x_provedMost, x_packetLength, x_executed, x_ops, x_targets, x_sources, x_offsets, x_immediates, x_lengths, x_kinds, x_los, x_his, x_reached, x_branchAt, x_branchSafe, x_branchKinds, x_branchLos, x_branchHis, x_packet, x_registers, x_cells, x_keyWords, x_keyTaken) (nI (80 + a))) → YP_ o d s off imm x_kinds x_los x_his x_safe 0 K' L' H' → SP_ o d s off imm x_kinds x_los x_his x_safe K' L' H' → WF_ K' L' H' x_safe → Q) : Q := by
  have hi : 80 + a < 120 := by omega
  have t : o / 10 = 4 := by rcases ho with rfl | rfl | rfl <;> decide
  have r : rg_ o := Or.inr (Or.inr t)
  have no : ¬ ou_ (x_ops (80 + a)) (x_offsets (80 + a)) (x_immediates (80 + a)) := by
    rw [eo]; unfold ou_; rw [t]; simp
  have un : un_ o x_kinds d s ↔ (x_kinds (if o = 41 then d else s) = 0 ∨ (o = 41 ∧ x_kinds s = 0)) := by
    unfold un_
    rcases ho with rfl | rfl | rfl <;> simp
  have into : ∀ (post : Int32 → SX → Prop), (un_ o x_kinds d s → post 2 (x_safe, nI a, x_exitLeast, x_exitMost, nI b, x_faultPlace, x_provedLeast, x_provedMost, x_packetLength, x_executed, x_ops, x_targets, x_sources, x_offsets, x_immediates, x_lengths, x_kinds, x_los, x_his, x_reached, x_branchAt, x_branchSafe, x_branchKinds, x_branchLos, x_branchHis, x_packet, x_registers, x_cells, x_keyWords, x_keyTaken)) → (¬ un_ o x_kinds d s → ((o = 42 → wpX_checkByte post (x_safe, nI a, x_exitLeast, x_exitMost, nI b, x_faultPlace, x_provedLeast, x_provedMost, x_packetLength, x_executed, x_ops, x_targets, x_sources, x_offsets, x_immediates, x_lengths, x_kinds, x_los, x_his, x_reached, x_branchAt, x_branchSafe, x_branchKinds, x_branchLos, x_branchHis, x_packet, x_registers, x_cells, x_keyWords, x_keyTaken) (nI (80 + a))) ∧ (¬ o = 42 → wpX_checkCell post (x_safe, nI a, x_exitLeast, x_exitMost, nI b, x_faultPlace, x_provedLeast, x_provedMost, x_packetLength, x_executed, x_ops, x_targets, x_sources, x_offsets, x_immediates, x_lengths, x_kinds, x_los, x_his, x_reached, x_branchAt, x_branchSafe, x_branchKinds, x_branchLos, x_branchHis, x_packet, x_registers, x_cells, x_keyWords, x_keyTaken) (nI (80 + a))))) → wpX_check post (x_safe, nI a, x_exitLeast, x_exitMost, nI b, x_faultPlace, x_provedLeast, x_provedMost, x_packetLength, x_executed, x_ops, x_targets, x_sources, x_offsets, x_immediates, x_lengths, x_kinds, x_los, x_his, x_reached, x_branchAt, x_branchSafe, x_branchKinds, x_branchLos, x_branchHis, x_packet, x_registers, x_cells, x_keyWords, x_keyTaken) (nI (80 + a)) := by
    intro post U C
    refine xk_go hi (by omega) (by omega) es ed no ?_ ?_
    · rw [eo, em, k9_t r, l9_t r, l9_t r, q9_t r]; exact U
    · rw [eo, em, k9_t r, l9_t r, l9_t r, q9_t r]
      intro nu K L H eK eL eH
      subst eK eL eH
      rw [t]
      exact br_f (by decide) (br_f (by decide) (br_f (by decide) (br_f (by decide) (br_f (by decide) (br_f (by decide) (br_t rfl ⟨vp_in_nI hi (by decide), C nu⟩))))))
  by_cases u : un_ o x_kinds d s
  · exact F 2 _ _ _ (by decide) W.2.2.2.1 (fun post z => into post (fun _ => z) (fun n => absurd u n)) (yp_mU ho hd hs W rfl (un.mp u))
  · have nu : ¬ (x_kinds (if o = 41 then d else s) = 0 ∨ (o = 41 ∧ x_kinds s = 0)) := fun z => u (un.mpr z)
    have nup : ¬ x_kinds (if o = 41 then d else s) = 0 := fun z => nu (Or.inl z)
    have nus : o = 41 → ¬ x_kinds s = 0 := fun z y => nu (Or.inr ⟨z, y⟩)
    by_cases o42 : o = 42
    · subst o42
      have nus' : ¬ x_kinds s = 0 := nup
      by_cases k2 : x_kinds s = 2
      · by_cases bb : bb_ (x_los s) (x_his s) x_safe off
        · exact F 4 _ _ _ (by decide) W.2.2.2.1 (fun post z => into post (fun n => absurd n u) (fun _ => ⟨fun _ => xv_byteB hi (by omega) es k2 (by rw [ef]; exact bb) z, fun n => absurd rfl n⟩)) (yp_bB hd hs W k2 bb)
        · refine P _ _ _ (fun post z => into post (fun n => absurd n u) (fun _ => ⟨fun _ => xv_byteO hi (by omega) (by omega) es ed k2 (by rw [ef]; exact bb) z, fun n => absurd rfl n⟩)) (yp_bO hd hs W k2 bb) (sp_bO hd hs W k2 bb) ?_
          exact WF_upd W (by omega) (by omega) (wf_1 ⟨0, 255, by omega, by omega, rfl, rfl⟩)
      · exact F 3 _ _ _ (by decide) W.2.2.2.1 (fun post z => into post (fun n => absurd n u) (fun _ => ⟨fun _ => xv_byteK hi (by omega) es k2 z, fun n => absurd rfl n⟩)) (yp_bK hd hs W nus' k2)
    · have ho' : o = 40 ∨ o = 41 := by rcases ho with h | h | h; exact Or.inl h; exact Or.inr h; exact absurd h o42
      obtain ⟨p, ep⟩ : ∃ p, p = if o = 41 then d else s := ⟨_, rfl⟩
      have hp : p < 9 := by rw [ep]; split <;> omega
      rw [← ep] at nup
      have exp : (if x_ops (80 + a) = 41 then x_targets (80 + a) else x_sources (80 + a)) = nI p := by
        rw [eo, ed, es, ep]
        by_cases z : o = 41
        · rw [if_pos z, if_pos z]
        · rw [if_neg z, if_neg z]
      by_cases k45 : x_kinds p = 4 ∨ x_kinds p = 5
      · by_cases cc : cc_ (x_kinds p) (x_los p) off
        · exact F 4 _ _ _ (by decide) W.2.2.2.1 (fun post z => into post (fun n => absurd n u) (fun _ => ⟨fun n => absurd n o42, fun _ => xv_cellB hi (by omega) exp k45 (by rw [ef]; exact cc) z⟩)) (yp_cB ho' hd hs W ep nus k45 cc)
        · have nf : ¬ far_ off := fun z => cc (Or.inl z)
          have c0 : ¬ x_los p + off.toInt64 < 0 := fun z => cc (Or.inr (Or.inl z))
          have c1 : x_los p + off.toInt64 < (if x_kinds p = 4 then lN 6 else lN 2) := Classical.byContradiction fun z => cc (Or.inr (Or.inr z))
          obtain ⟨c, hc, ec⟩ := pk_lOf c0
          rw [ec] at c1
          have hc4 : x_kinds p = 4 → c < 6 := by
            intro z; rw [if_pos z, pk_lLT hc (by omega)] at c1; exact c1
          have hc5 : x_kinds p = 5 → c < 2 := by
            intro z; rw [z, if_neg (by decide), pk_lLT hc (by omega)] at c1; exact c1
          have nf' : ¬ far_ (x_offsets (80 + a)) := by rw [ef]; exact nf
          have ec' : x_los p + (x_offsets (80 + a)).toInt64 = lN c := by rw [ef]; exact ec
          rcases ho' with rfl | rfl
          · rw [if_neg (by decide)] at ep
            subst ep
            rcases k45 with k4 | k5
            · by_cases kc : x_kinds (10 + c) = 0
              · exact F 2 _ _ _ (by decide) W.2.2.2.1 (fun post z => into post (fun n => absurd n u) (fun _ => ⟨fun n => absurd n (by decide), fun _ => xv_cellSL (d := d) hi (by omega) (by omega) (by rw [eo]; decide) es ed k4 nf' ec' (hc4 k4) (fun _ => z) (fun n => absurd kc n)⟩)) (yp_cSLu hd hs W k4 nf ec (hc4 k4) kc)
              · exact P _ _ _ (fun post z => into post (fun n => absurd n u) (fun _ => ⟨fun n => absurd n (by decide), fun _ => xv_cellSL hi (by omega) (by omega) (by rw [eo]; decide) es ed k4 nf' ec' (hc4 k4) (fun n => absurd n kc) (fun _ => z)⟩)) (yp_cSL hd hs W k4 nf ec (hc4 k4) kc) (sp_cSL hd hs W k4 ec (hc4 k4) kc) (WF_upd W (by omega) (by omega) (W.1 (10 + c) (by have := hc4 k4; omega)))
            · refine P _ _ _ (fun post z => into post (fun n => absurd n u) (fun _ => ⟨fun n => absurd n (by decide), fun _ => xv_cellVL hi (by omega) (by omega) (by rw [eo]; decide) es ed k5 nf' ec' (hc5 k5) z⟩)) (yp_cVL hd hs W k5 nf ec (hc5 k5)) (sp_cVL hd hs W k5 ec (hc5 k5)) ?_
              exact WF_upd W (by omega) (by omega) (wf_1 ⟨0, 4294967295, by omega, by omega, rfl, rfl⟩)
          · rw [if_pos rfl] at ep
            subst ep
            rcases k45 with k4 | k5
            · refine P _ _ _ (fun post z => into post (fun n => absurd n u) (fun _ => ⟨fun n => absurd n (by decide), fun _ => xv_cellSS hi (by omega) (by omega) eo ed es k4 nf' ec' (hc4 k4) z⟩)) (yp_cSS hd hs W (nus rfl) k4 nf ec (hc4 k4)) (sp_cSS hd hs W (nus rfl) k4 ec (hc4 k4)) ?_
              have := hc4 k4
              exact WF_upd W (by omega) (by omega) (W.1 s (by omega))
            · by_cases k1 : x_kinds s = 1
              · exact P _ _ _ (fun post z => into post (fun n => absurd n u) (fun _ => ⟨fun n => absurd n (by decide), fun _ => xv_cellVS hi (by omega) (by omega) eo ed es k5 nf' ec' (hc5 k5) (fun _ => z) (fun n => absurd k1 n)⟩)) (yp_cVS hd hs W k5 nf ec (hc5 k5) k1) (sp_cVS hd hs W k5 ec (hc5 k5) k1) W
              · exact F 3 _ _ _ (by decide) W.2.2.2.1 (fun post z => into post (fun n => absurd n u) (fun _ => ⟨fun n => absurd n (by decide), fun _ => xv_cellVS hi (by omega) (by omega) eo ed es k5 nf' ec' (hc5 k5) (fun n => absurd n k1) (fun _ => z)⟩)) (yp_cVSf hd hs W (nus rfl) k5 nf ec (hc5 k5) k1)
      · have k' : ¬ x_kinds p = 4 ∧ ¬ x_kinds p = 5 := ⟨fun z => k45 (Or.inl z), fun z => k45 (Or.inr z)⟩
        exact F 3 _ _ _ (by decide) W.2.2.2.1 (fun post z => into post (fun n => absurd n u) (fun _ => ⟨fun n => absurd n o42, fun _ => xv_cellK hi (by omega) exp k' z⟩)) (yp_cK ho' hd hs W ep nup nus k')
theorem st_map {a b n d s : Nat} {o off imm : Int32} {Q : Prop} (ha : a < 40) (hn : n ≤ 40) (hl : x_lengths 2 = nI n) (hd : d < 8) (hs : s < 9) (eo : x_ops (80 + a) = o) (ed : x_targets (80 + a) = nI d) (es : x_sources (80 + a) = nI s) (ef : x_offsets (80 + a) = off) (em : x_immediates (80 + a) = imm) (W : WF_ x_kinds x_los x_his x_safe) (ho : o = 50 ∨ o = 51 ∨ o = 52) (F : ∀ (e : Int32) (K' : Nat → Int32) (L' H' : Nat → Int64), ¬ e = 0 → (∀ j, 16 ≤ j → K' j = 0 ∧ L' j = 0 ∧ H' j = 0) → (∀ post : Int32 → SX → Prop, post e (x_safe, nI a, x_exitLeast, x_exitMost, nI b, x_faultPlace, x_provedLeast, x_provedMost, x_packetLength, x_executed, x_ops, x_targets, x_sources, x_offsets, x_immediates, x_lengths, K', L', H', x_reached, x_branchAt, x_branchSafe, x_branchKinds, x_branchLos, x_branchHis, x_packet, x_registers, x_cells, x_keyWords, x_keyTaken) → wpX_check post (x_safe, nI a, x_exitLeast, x_exitMost, nI b, x_faultPlace, x_provedLeast, x_provedMost, x_packetLength, x_executed, x_ops, x_targets, x_sources, x_offsets, x_immediates, x_lengths, x_kinds, x_los, x_his, x_reached, x_branchAt, x_branchSafe, x_branchKinds, x_branchLos, x_branchHis, x_packet, x_registers, x_cells, x_keyWords, x_keyTaken) (nI (80 + a))) → YP_ o d s off imm x_kinds x_los x_his x_safe e x_kinds x_los x_his → Q) (P : ∀ (K' : Nat → Int32) (L' H' : Nat → Int64), (∀ post : Int32 → SX → Prop, post 0 (x_safe, nI a, x_exitLeast, x_exitMost, nI b, x_faultPlace, x_provedLeast, x_provedMost, x_packetLength, x_executed, x_ops, x_targets, x_sources, x_offsets, x_immediates, x_lengths, K', L', H', x_reached, x_branchAt, x_branchSafe, x_branchKinds, x_branchLos, x_branchHis, x_packet, x_registers, x_cells, x_keyWords, x_keyTaken) → wpX_check post (x_safe, nI a, x_exitLeast, x_exitMost, nI b, x_faultPlace, x_provedLeast, x_provedMost, x_packetLength, x_executed, x_ops, x_targets, x_sources, x_offsets, x_immediates, x_lengths, x_kinds, x_los, x_his, x_reached, x_branchAt, x_branchSafe, x_branchKinds, x_branchLos, x_branchHis, x_packet, x_registers, x_cells, x_keyWords, x_keyTaken) (nI (80 + a))) → YP_ o d s off imm x_kinds x_los x_his x_safe 0 K' L' H' → SP_ o d s off imm x_kinds x_los x_his x_safe K' L' H' → WF_ K' L' H' x_safe → Q) : Q := by
  have hi : 80 + a < 120 := by omega
  have t : o / 10 = 5 := by rcases ho with rfl | rfl | rfl <;> decide
  have r : ¬ rg_ o := by unfold rg_; rw [t]; decide
  have ou : ou_ (x_ops (80 + a)) (x_offsets (80 + a)) (x_immediates (80 + a)) ↔ (imm < 0 ∨ ¬ imm < 2) := by
    rw [eo, ef, em]; unfold ou_; rw [t]; simp
  by_cases gd : imm < 0 ∨ ¬ imm < 2
  · exact F 1 _ _ _ (by decide) W.2.2.2.1 (fun post z => xk_out hi (ou.mpr gd) z) (yp_l1 ho gd)
  · have no : ¬ ou_ (x_ops (80 + a)) (x_offsets (80 + a)) (x_immediates (80 + a)) := fun z => gd (ou.mp z)
    have W9 := WF_k9 (o := o) (x := imm) W
    have un : un_ o (k9_ o x_kinds) d (q9_ o s) ↔ uk_ o (k9_ o x_kinds) := by
      unfold un_ uk_
      rcases ho with rfl | rfl | rfl <;> simp
    have into : ∀ (post : Int32 → SX → Prop), (un_ o (k9_ o x_kinds) d (q9_ o s) → post 2 (x_safe, nI a, x_exitLeast, x_exitMost, nI b, x_faultPlace, x_provedLeast, x_provedMost, x_packetLength, x_executed, x_ops, x_targets, x_sources, x_offsets, x_immediates, x_lengths, k9_ o x_kinds, l9_ o (imm.toInt64 &&& 4294967295) x_los, l9_ o (imm.toInt64 &&& 4294967295) x_his, x_reached, x_branchAt, x_branchSafe, x_branchKinds, x_branchLos, x_branchHis, x_packet, x_registers, x_cells, x_keyWords, x_keyTaken)) → (¬ un_ o (k9_ o x_kinds) d (q9_ o s) → wpX_checkMapCall post (x_safe, nI a, x_exitLeast, x_exitMost, nI b, x_faultPlace, x_provedLeast, x_provedMost, x_packetLength, x_executed, x_ops, x_targets, x_sources, x_offsets, x_immediates, x_lengths, k9_ o x_kinds, l9_ o (imm.toInt64 &&& 4294967295) x_los, l9_ o (imm.toInt64 &&& 4294967295) x_his, x_reached, x_branchAt, x_branchSafe, x_branchKinds, x_branchLos, x_branchHis, x_packet, x_registers, x_cells, x_keyWords, x_keyTaken) o) → wpX_check post (x_safe, nI a, x_exitLeast, x_exitMost, nI b, x_faultPlace, x_provedLeast, x_provedMost, x_packetLength, x_executed, x_ops, x_targets, x_sources, x_offsets, x_immediates, x_lengths, x_kinds, x_los, x_his, x_reached, x_branchAt, x_branchSafe, x_branchKinds, x_branchLos, x_branchHis, x_packet, x_registers, x_cells, x_keyWords, x_keyTaken) (nI (80 + a)) := by
      intro post U C
      refine xk_go hi (by omega) (by omega) es ed no (by rw [eo, em]; exact U) ?_
      rw [eo, em]
      intro nu K L H eK eL eH
      subst eK eL eH
      rw [t]
      exact br_f (by decide) (br_f (by decide) (br_f (by decide) (br_f (by decide) (br_f (by decide) (br_f (by decide) (br_f (by decide) (br_t rfl ⟨vp_in_nI hi (by decide), C nu⟩)))))))
    by_cases u : un_ o (k9_ o x_kinds) d (q9_ o s)
    · exact F 2 _ _ _ (by decide) W9.2.2.2.1 (fun post z => into post (fun _ => z) (fun n => absurd u n)) (YP_k9 (w := imm.toInt64 &&& 4294967295) (yp_l2 ho gd (un.mp u)))
    · have nu : ¬ uk_ o (k9_ o x_kinds) := fun z => u (un.mpr z)
      by_cases k : sk_ o (k9_ o x_kinds)
      · refine P _ _ _ (fun post z => into post (fun n => absurd n u) (fun _ => xv_map k.1 k.2 z)) (YP_k9 (w := imm.toInt64 &&& 4294967295) (yp_l0 ho gd nu k)) ?_ ?_
        · rcases ho with rfl | rfl | rfl
          · exact SP_k9 (sp_50 hd hs W9 gd k)
          · exact SP_k9 (sp_51 hd hs W9 gd k)
          · exact SP_k9 (sp_52 hd hs W9 gd k)
        · refine WF_upd (WF_mK W9) (by decide) (by decide) ?_
          by_cases z : o = 50
          · rw [if_pos z, if_pos z]; exact wf_6
          · rw [if_neg z, if_neg z]; exact wf_1 ⟨0, 1, by omega, by omega, rfl, rfl⟩
      · exact F 3 _ _ _ (by decide) W9.2.2.2.1 (fun post z => into post (fun n => absurd n u) (fun _ => xv_mapK k z)) (YP_k9 (w := imm.toInt64 &&& 4294967295) (yp_l3 ho gd nu k))
theorem st_exit {a b n d s : Nat} {o off imm : Int32} {Q : Prop} (ha : a < 40) (hn : n ≤ 40) (hl : x_lengths 2 = nI n) (hd : d < 8) (hs : s < 9) (eo : x_ops (80 + a) = o) (ed : x_targets (80 + a) = nI d) (es : x_sources (80 + a) = nI s) (ef : x_offsets (80 + a) = off) (em : x_immediates (80 + a) = imm) (W : WF_ x_kinds x_los x_his x_safe) (ho : o = 60) (F : ∀ (e : Int32) (K' : Nat → Int32) (L' H' : Nat → Int64), ¬ e = 0 → (∀ j, 16 ≤ j → K' j = 0 ∧ L' j = 0 ∧ H' j = 0) → (∀ post : Int32 → SX → Prop, post e (x_safe, nI a, x_exitLeast, x_exitMost, nI b, x_faultPlace, x_provedLeast, x_provedMost, x_packetLength, x_executed, x_ops, x_targets, x_sources, x_offsets, x_immediates, x_lengths, K', L', H', x_reached, x_branchAt, x_branchSafe, x_branchKinds, x_branchLos, x_branchHis, x_packet, x_registers, x_cells, x_keyWords, x_keyTaken) → wpX_check post (x_safe, nI a, x_exitLeast, x_exitMost, nI b, x_faultPlace, x_provedLeast, x_provedMost, x_packetLength, x_executed, x_ops, x_targets, x_sources, x_offsets, x_immediates, x_lengths, x_kinds, x_los, x_his, x_reached, x_branchAt, x_branchSafe, x_branchKinds, x_branchLos, x_branchHis, x_packet, x_registers, x_cells, x_keyWords, x_keyTaken) (nI (80 + a))) → YP_ o d s off imm x_kinds x_los x_his x_safe e x_kinds x_los x_his → Q) (E : (∀ post : Int32 → SX → Prop, post 0 (x_safe, nI a, if x_exitLeast ≤ x_los 0 then x_exitLeast else x_los 0, if x_his 0 ≤ x_exitMost then x_exitMost else x_his 0, nI b, x_faultPlace, x_provedLeast, x_provedMost, x_packetLength, x_executed, x_ops, x_targets, x_sources, x_offsets, x_immediates, x_lengths, k9_ o x_kinds, l9_ o (imm.toInt64 &&& 4294967295) x_los, l9_ o (imm.toInt64 &&& 4294967295) x_his, x_reached, x_branchAt, x_branchSafe, x_branchKinds, x_branchLos, x_branchHis, x_packet, x_registers, x_cells, x_keyWords, x_keyTaken) → wpX_check post (x_safe, nI a, x_exitLeast, x_exitMost, nI b, x_faultPlace, x_provedLeast, x_provedMost, x_packetLength, x_executed, x_ops, x_targets, x_sources, x_offsets, x_immediates, x_lengths, x_kinds, x_los, x_his, x_reached, x_branchAt, x_branchSafe, x_branchKinds, x_branchLos, x_branchHis, x_packet, x_registers, x_cells, x_keyWords, x_keyTaken) (nI (80 + a))) → x_kinds 0 = 1 → Q) : Q := by
  have hi : 80 + a < 120 := by omega
  subst ho
  have r : ¬ rg_ 60 := by unfold rg_; decide
  have no : ¬ ou_ (x_ops (80 + a)) (x_offsets (80 + a)) (x_immediates (80 + a)) := by
    rw [eo]; unfold ou_; simp
  have k0 : k9_ 60 x_kinds 0 = x_kinds 0 := by rw [k9_f r]; exact pk_un (by decide)
  have l0 : l9_ 60 (imm.toInt64 &&& 4294967295) x_los 0 = x_los 0 := by rw [l9_f r]; exact pk_uLn (by decide)
  have h0 : l9_ 60 (imm.toInt64 &&& 4294967295) x_his 0 = x_his 0 := by rw [l9_f r]; exact pk_uLn (by decide)
  have un : un_ 60 (k9_ 60 x_kinds) d (q9_ 60 s) ↔ x_kinds 0 = 0 := by
    unfold un_; rw [k0]; simp
  have into : ∀ (post : Int32 → SX → Prop), (x_kinds 0 = 0 → post 2 (x_safe, nI a, x_exitLeast, x_exitMost, nI b, x_faultPlace, x_provedLeast, x_provedMost, x_packetLength, x_executed, x_ops, x_targets, x_sources, x_offsets, x_immediates, x_lengths, k9_ 60 x_kinds, l9_ 60 (imm.toInt64 &&& 4294967295) x_los, l9_ 60 (imm.toInt64 &&& 4294967295) x_his, x_reached, x_branchAt, x_branchSafe, x_branchKinds, x_branchLos, x_branchHis, x_packet, x_registers, x_cells, x_keyWords, x_keyTaken)) → (¬ x_kinds 0 = 0 → wpX_checkExit post (x_safe, nI a, x_exitLeast, x_exitMost, nI b, x_faultPlace, x_provedLeast, x_provedMost, x_packetLength, x_executed, x_ops, x_targets, x_sources, x_offsets, x_immediates, x_lengths, k9_ 60 x_kinds, l9_ 60 (imm.toInt64 &&& 4294967295) x_los, l9_ 60 (imm.toInt64 &&& 4294967295) x_his, x_reached, x_branchAt, x_branchSafe, x_branchKinds, x_branchLos, x_branchHis, x_packet, x_registers, x_cells, x_keyWords, x_keyTaken)) → wpX_check post (x_safe, nI a, x_exitLeast, x_exitMost, nI b, x_faultPlace, x_provedLeast, x_provedMost, x_packetLength, x_executed, x_ops, x_targets, x_sources, x_offsets, x_immediates, x_lengths, x_kinds, x_los, x_his, x_reached, x_branchAt, x_branchSafe, x_branchKinds, x_branchLos, x_branchHis, x_packet, x_registers, x_cells, x_keyWords, x_keyTaken) (nI (80 + a)) := by
    intro post U C
    refine xk_go hi (by omega) (by omega) es ed no (by rw [eo, em]; exact fun z => U (un.mp z)) ?_
    rw [eo, em]
    intro nu K L H eK eL eH
    subst eK eL eH
    exact br_f (by decide) (br_t (by decide) (C (fun z => nu (un.mpr z))))
  by_cases z0 : x_kinds 0 = 0
  · exact F 2 _ _ _ (by decide) (WF_k9 (o := 60) (x := imm) W).2.2.2.1 (fun post z => into post (fun _ => z) (fun n => absurd z0 n)) (yp_xU z0)
  · by_cases z1 : x_kinds 0 = 1
    · refine E (fun post z => into post (fun n => absurd n z0) (fun _ => xv_exit (by rw [k0]; exact z1) ?_)) z1
      rw [l0, h0]; exact z
    · exact F 3 _ _ _ (by decide) (WF_k9 (o := 60) (x := imm) W).2.2.2.1 (fun post z => into post (fun n => absurd n z0) (fun _ => xv_exitK (by rw [k0]; exact z1) z)) (yp_xK z0 z1)
end
