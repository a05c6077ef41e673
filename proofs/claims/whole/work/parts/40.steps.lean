section
variable {o off imm : Int32} {d s g : Nat} {K : Nat → Int32} {L H : Nat → Int64} {S : Int64} {w : Int64}
theorem YP_k9 {e : Int32} {K' : Nat → Int32} {L' H' : Nat → Int64} (y : YP_ o d s off imm (k9_ o K) (l9_ o w L) (l9_ o w H) S e K' L' H') : YP_ o d s off imm K L H S e K' L' H' := by
  intro y_place y_least y_most y_smallest y_greatest y_ways y_fault y_base y_otherKind y_otherLo y_otherHi y_low y_high y_bytes y_steps y_op y_first y_second y_offset y_given y_length y_there y_known y_lo y_hi y_at y_lookups y_safe y_met y_tag y_word y_packet y_keys y_values y_many i a w post hi ha hw eo e1 e2 eof eg eat F eS hl hE hO
  exact y y_place y_least y_most y_smallest y_greatest y_ways y_fault y_base y_otherKind y_otherLo y_otherHi y_low y_high y_bytes y_steps y_op y_first y_second y_offset y_given y_length y_there y_known y_lo y_hi y_at y_lookups y_safe y_met y_tag y_word y_packet y_keys y_values y_many i a w post hi ha hw eo e1 e2 eof eg eat (Fr_k9 F) eS hl hE hO
theorem YP_f {e : Int32} {K' K2 : Nat → Int32} {L' H' L2 H2 : Nat → Int64} (ne : ¬ e = 0) (y : YP_ o d s off imm K L H S e K' L' H') : YP_ o d s off imm K L H S e K2 L2 H2 := by
  intro y_place y_least y_most y_smallest y_greatest y_ways y_fault y_base y_otherKind y_otherLo y_otherHi y_low y_high y_bytes y_steps y_op y_first y_second y_offset y_given y_length y_there y_known y_lo y_hi y_at y_lookups y_safe y_met y_tag y_word y_packet y_keys y_values y_many i a w post hi ha hw eo e1 e2 eof eg eat F eS hl hE hO
  exact y y_place y_least y_most y_smallest y_greatest y_ways y_fault y_base y_otherKind y_otherLo y_otherHi y_low y_high y_bytes y_steps y_op y_first y_second y_offset y_given y_length y_there y_known y_lo y_hi y_at y_lookups y_safe y_met y_tag y_word y_packet y_keys y_values y_many i a w post hi ha hw eo e1 e2 eof eg eat F eS hl hE (fun z => absurd z ne)
theorem SP_k9 {K' : Nat → Int32} {L' H' : Nat → Int64} (y : SP_ o d s off imm (k9_ o K) (l9_ o w L) (l9_ o w H) S K' L' H') : SP_ o d s off imm K L H S K' L' H' := by
  intro π rg ce kt kw tg wd ks vs mn b pX pY C hb hp
  exact y π rg ce kt kw tg wd ks vs mn b pX pY (Con_k9 C) hb hp
end
section
variable {x_safe : Int64} {x_at : Int32} {x_exitLeast : Int64} {x_exitMost : Int64} {x_branches : Int32} {x_faultPlace : Int32} {x_provedLeast : Int64} {x_provedMost : Int64} {x_packetLength : Int32} {x_executed : Int32} {x_ops : Nat → Int32} {x_targets : Nat → Int32} {x_sources : Nat → Int32} {x_offsets : Nat → Int32} {x_immediates : Nat → Int32} {x_lengths : Nat → Int32} {x_kinds : Nat → Int32} {x_los : Nat → Int64} {x_his : Nat → Int64} {x_reached : Nat → Int32} {x_branchAt : Nat → Int32} {x_branchSafe : Nat → Int64} {x_branchKinds : Nat → Int32} {x_branchLos : Nat → Int64} {x_branchHis : Nat → Int64} {x_packet : Nat → Int32} {x_registers : Nat → Int64} {x_cells : Nat → Int64} {x_keyWords : Nat → Int64} {x_keyTaken : Nat → Int32}
theorem st_arith {f : Nat} {a b n d s : Nat} {o off imm : Int32} {Q : Prop} (ha : a < 40) (hn : n ≤ 40) (hl : x_lengths 2 = nI n) (hd : d < 8) (hs : s < 9) (eo : x_ops (80 + a) = o) (ed : x_targets (80 + a) = nI d) (es : x_sources (80 + a) = nI s) (ef : x_offsets (80 + a) = off) (em : x_immediates (80 + a) = imm) (W : WF_ x_kinds x_los x_his x_safe) (ho : oa_ o f) (F : ∀ (e : Int32) (K' : Nat → Int32) (L' H' : Nat → Int64), ¬ e = 0 → (∀ j, 16 ≤ j → K' j = 0 ∧ L' j = 0 ∧ H' j = 0) → (∀ post : Int32 → SX → Prop, post e (x_safe, nI a, x_exitLeast, x_exitMost, nI b, x_faultPlace, x_provedLeast, x_provedMost, x_packetLength, x_executed, x_ops, x_targets, x_sources, x_offsets, x_immediates, x_lengths, K', L', H', x_reached, x_branchAt, x_branchSafe, x_branchKinds, x_branchLos, x_branchHis, x_packet, x_registers, x_cells, x_keyWords, x_keyTaken) → wpX_check post (x_safe, nI a, x_exitLeast, x_exitMost, nI b, x_faultPlace, x_provedLeast, x_provedMost, x_packetLength, x_executed, x_ops, x_targets, x_sources, x_offsets, x_immediates, x_lengths, x_kinds, x_los, x_his, x_reached, x_branchAt, x_branchSafe, x_branchKinds, x_branchLos, x_branchHis, x_packet, x_registers, x_cells, x_keyWords, x_keyTaken) (nI (80 + a))) → YP_ o d s off imm x_kinds x_los x_his x_safe e x_kinds x_los x_his → Q) (P : ∀ (K' : Nat → Int32) (L' H' : Nat → Int64), (∀ post : Int32 → SX → Prop, post 0 (x_safe, nI a, x_exitLeast, x_exitMost, nI b, x_faultPlace, x_provedLeast, x_provedMost, x_packetLength, x_executed, x_ops, x_targets, x_sources, x_offsets, x_immediates, x_lengths, K', L', H', x_reached, x_branchAt, x_branchSafe, x_branchKinds, x_branchLos, x_branchHis, x_packet, x_registers, x_cells, x_keyWords, x_keyTaken) → wpX_check post (x_safe, nI a, x_exitLeast, x_exitMost, nI b, x_faultPlace, x_provedLeast, x_provedMost, x_packetLength, x_executed, x_ops, x_targets, x_sources, x_offsets, x_immediates, x_lengths, x_kinds, x_los, x_his, x_reached, x_branchAt, x_branchSafe, x_branchKinds, x_branchLos, x_branchHis, x_packet, x_registers, x_cells, x_keyWords, x_keyTaken) (nI (80 + a))) → YP_ o d s off imm x_kinds x_los x_his x_safe 0 K' L' H' → SP_ o d s off imm x_kinds x_los x_his x_safe K' L' H' → WF_ K' L' H' x_safe → Q) : Q := by
  have hi : 80 + a < 120 := by omega
  obtain ⟨-, -, -, -, f5, f6⟩ := oa_f ho
  have t : o / 10 = 0 ∨ o / 10 = 1 := by rcases f6 with q | q; exact Or.inr q.2.2; exact Or.inl q.2.2
  have no : ¬ ou_ (x_ops (80 + a)) (x_offsets (80 + a)) (x_immediates (80 + a)) := by
    rw [eo]; unfold ou_
    rcases t with t | t <;> rw [t] <;> simp
  have W9 := WF_k9 (o := o) (x := imm) W
  have n9 := nine_k9 (o := o) (w := imm.toInt64 &&& 4294967295) (K := x_kinds) (L := x_los) (H := x_his)
  have hq : q9_ o s < 16 := q9_16 hs
  have un : un_ o (k9_ o x_kinds) d (q9_ o s) ↔ ((¬ f = 0 ∧ k9_ o x_kinds d = 0) ∨ k9_ o x_kinds (q9_ o s) = 0) := by
    obtain ⟨h6, h⟩ := ho
    have e : f = 0 ∨ f = 1 ∨ f = 2 ∨ f = 3 ∨ f = 4 ∨ f = 5 ∨ f = 6 := by omega
    unfold un_
    rcases e with rfl | rfl | rfl | rfl | rfl | rfl | rfl <;> rcases h with rfl | rfl <;> simp [nI]
  -- all ways go through wX_check_76
  have into : ∀ (post : Int32 → SX → Prop), (un_ o (k9_ o x_kinds) d (q9_ o s) → post 2 (x_safe, nI a, x_exitLeast, x_exitMost, nI b, x_faultPlace, x_provedLeast, x_provedMost, x_packetLength, x_executed, x_ops, x_targets, x_sources, x_offsets, x_immediates, x_lengths, k9_ o x_kinds, l9_ o (imm.toInt64 &&& 4294967295) x_los, l9_ o (imm.toInt64 &&& 4294967295) x_his, x_reached, x_branchAt, x_branchSafe, x_branchKinds, x_branchLos, x_branchHis, x_packet, x_registers, x_cells, x_keyWords, x_keyTaken)) → (¬ un_ o (k9_ o x_kinds) d (q9_ o s) → wpX_checkArithmetic post (x_safe, nI a, x_exitLeast, x_exitMost, nI b, x_faultPlace, x_provedLeast, x_provedMost, x_packetLength, x_executed, x_ops, x_targets, x_sources, x_offsets, x_immediates, x_lengths, k9_ o x_kinds, l9_ o (imm.toInt64 &&& 4294967295) x_los, l9_ o (imm.toInt64 &&& 4294967295) x_his, x_reached, x_branchAt, x_branchSafe, x_branchKinds, x_branchLos, x_branchHis, x_packet, x_registers, x_cells, x_keyWords, x_keyTaken) (nI f) (nI d) (nI (q9_ o s))) → wpX_check post (x_safe, nI a, x_exitLeast, x_exitMost, nI b, x_faultPlace, x_provedLeast, x_provedMost, x_packetLength, x_executed, x_ops, x_targets, x_sources, x_offsets, x_immediates, x_lengths, x_kinds, x_los, x_his, x_reached, x_branchAt, x_branchSafe, x_branchKinds, x_branchLos, x_branchHis, x_packet, x_registers, x_cells, x_keyWords, x_keyTaken) (nI (80 + a)) := by
    intro post U C
    refine xk_go hi (by omega) (by omega) es ed no (by rw [eo, em]; exact U) ?_
    rw [eo, em]
    intro nu K L H eK eL eH
    subst eK eL eH
    have w76 : wX_check_76 post (nI (80 + a)) (nI (q9_ o s)) x_safe (nI a) x_exitLeast x_exitMost (nI b) x_faultPlace x_provedLeast x_provedMost x_packetLength x_executed x_ops x_targets x_sources x_offsets x_immediates x_lengths (k9_ o x_kinds) (l9_ o (imm.toInt64 &&& 4294967295) x_los) (l9_ o (imm.toInt64 &&& 4294967295) x_his) x_reached x_branchAt x_branchSafe x_branchKinds x_branchLos x_branchHis x_packet x_registers x_cells x_keyWords x_keyTaken := by
      have v : vp_in (nI (80 + a)) 120 := vp_in_nI hi (by decide)
      refine ⟨v, by decide, v, ?_⟩
      rw [nI_clamp (n := 80 + a) (by omega), eo, f5, ed]
      exact C nu
    rcases t with t | t
    · rw [t]; exact br_f (by decide) (br_f (by decide) (br_t rfl w76))
    · rw [t]; exact br_f (by decide) (br_f (by decide) (br_f (by decide) (br_t rfl w76)))
  by_cases u : un_ o (k9_ o x_kinds) d (q9_ o s)
  · exact F 2 _ _ _ (by decide) W9.2.2.2.1 (fun post z => into post (fun _ => z) (fun n => absurd u n)) (YP_k9 (yp_aU ho hd hs W9 n9 (un.mp u)))
  · have nu : ¬ ((¬ f = 0 ∧ k9_ o x_kinds d = 0) ∨ k9_ o x_kinds (q9_ o s) = 0) := fun z => u (un.mpr z)
    have nuq : ¬ k9_ o x_kinds (q9_ o s) = 0 := fun z => nu (Or.inr z)
    by_cases f0 : f = 0
    · subst f0
      exact P _ _ _ (fun post z => into post (fun n => absurd n u) (fun _ => (xv_arM (by omega) hq).mpr z)) (YP_k9 (yp_a0 ho hd hs W9 n9 nuq)) (SP_k9 (sp_a0 ho hd hs W9 n9 nuq)) (WF_upd W9 (by omega) (by omega) (W9.1 _ hq))
    · have h1 : 1 ≤ f := by omega
      have nud : ¬ k9_ o x_kinds d = 0 := fun z => nu (Or.inl ⟨f0, z⟩)
      by_cases kq : k9_ o x_kinds (q9_ o s) = 1
      · by_cases k1 : k9_ o x_kinds d = 1
        · refine P _ _ _ (fun post z => into post (fun n => absurd n u) (fun _ => xv_arS h1 ho.1 (by omega) hq kq k1 z)) (YP_k9 (yp_aS ho h1 hd hs W9 n9 kq k1 rfl rfl)) (SP_k9 (sp_aS ho h1 hd hs W9 n9 kq k1 rfl rfl)) ?_
          obtain ⟨p, q, pq, hq1, ep, eq⟩ := (W9.1 d (by omega)).2.1 k1
          obtain ⟨p2, q2, pq2, hq2, ep2, eq2⟩ := (W9.1 _ hq).2.1 kq
          have I := ab_iv (fun z => cb_le h1 ho.1 pq hq1 pq2 hq2 z)
          rw [← ep, ← eq, ← ep2, ← eq2] at I
          have G := WF_upd (j := d) W9 (by omega) (by omega) (wf_1 I)
          rw [xb_updid k1] at G
          exact G
        · by_cases k2 : k9_ o x_kinds d = 2
          · by_cases c : f = 1 ∧ l9_ o (imm.toInt64 &&& 4294967295) x_his d + l9_ o (imm.toInt64 &&& 4294967295) x_his (q9_ o s) ≤ 255
            · obtain ⟨rfl, c⟩ := c
              refine P _ _ _ (fun post z => into post (fun n => absurd n u) (fun _ => xv_arP (by omega) hq kq k2 c z)) (YP_k9 (yp_aP ho hd hs W9 n9 kq k2 c)) (SP_k9 (sp_aP ho hd hs W9 n9 kq k2 c)) ?_
              obtain ⟨p, q, pq, hq1, ep, eq⟩ := (W9.1 d (by omega)).2.2.1 k2
              obtain ⟨p2, q2, pq2, hq2, ep2, eq2⟩ := (W9.1 _ hq).2.1 kq
              have e255 : (255 : Int64) = lN 255 := by rfl
              rw [eq, eq2, lN_add, e255, pk_lLE (by omega) (by omega)] at c
              exact WF_upd (j := d) W9 (by omega) (by omega) (wf_2 ⟨p + p2, q + q2, by omega, by omega, by rw [ep, ep2, lN_add], by rw [eq, eq2, lN_add]⟩)
            · exact F 3 _ _ _ (by decide) W9.2.2.2.1 (fun post z => into post (fun n => absurd n u) (fun _ => xv_arPf h1 ho.1 (by omega) hq kq k2 c z)) (YP_k9 (yp_aPf ho h1 hd hs W9 n9 kq k2 c))
          · by_cases k45 : k9_ o x_kinds d = 4 ∨ k9_ o x_kinds d = 5
            · by_cases c : l9_ o (imm.toInt64 &&& 4294967295) x_los (q9_ o s) = l9_ o (imm.toInt64 &&& 4294967295) x_his (q9_ o s) ∧ l9_ o (imm.toInt64 &&& 4294967295) x_los (q9_ o s) ≤ 100 ∧ (f = 1 ∨ f = 2)
              · exact P _ _ _ (fun post z => into post (fun n => absurd n u) (fun _ => xv_arC c.2.2 (by omega) hq kq k45 c.1 c.2.1 z)) (YP_k9 (yp_aC ho c.2.2 hd hs W9 n9 kq k45 c.1 c.2.1 rfl)) (SP_k9 (sp_aC ho c.2.2 hd hs W9 n9 kq k45 c.1 rfl)) (WF_upd W9 (by omega) (by omega) (wf_45 k45))
              · exact F 3 _ _ _ (by decide) W9.2.2.2.1 (fun post z => into post (fun n => absurd n u) (fun _ => xv_arCf h1 ho.1 (by omega) hq kq k45 c z)) (YP_k9 (yp_aCf ho h1 hd hs W9 n9 kq k45 c))
            · have k4 : ¬ k9_ o x_kinds d = 4 := fun z => k45 (Or.inl z)
              have k5 : ¬ k9_ o x_kinds d = 5 := fun z => k45 (Or.inr z)
              exact F 3 _ _ _ (by decide) W9.2.2.2.1 (fun post z => into post (fun n => absurd n u) (fun _ => xv_arO h1 ho.1 (by omega) hq kq k1 k2 k4 k5 z)) (YP_k9 (yp_aO ho h1 hd hs W9 n9 nud kq k1 k2 k4 k5))
      · exact F 3 _ _ _ (by decide) W9.2.2.2.1 (fun post z => into post (fun n => absurd n u) (fun _ => xv_arK h1 ho.1 (by omega) hq kq z)) (YP_k9 (yp_aK ho h1 hd hs W9 n9 nud nuq kq))
end
