section
variable {K : Nat → Int32} {L H : Nat → Int64} {S : Int64} {d q f : Nat}
theorem wf_se {v : Int32} (W : WF_ K L H S) (hv : v = 1 ∨ v = 5) : WF_ (se_K K v 16) L H S := by
  obtain ⟨a, b, c, e, g⟩ := W
  refine ⟨fun j hj => ?_, ?_, c, fun j hj => ?_, g⟩
  · by_cases z : K j = 6
    · have e1 : se_K K v 16 j = v := by unfold se_K; rw [if_pos ⟨hj, z⟩]
      obtain ⟨l0, h0⟩ := (a j hj).2.2.2 z
      rw [e1, l0, h0]
      rcases hv with rfl | rfl
      · exact wf_1 ⟨0, 0, by omega, by omega, rfl, rfl⟩
      · exact wf_45 (Or.inr rfl)
    · have e1 : se_K K v 16 j = K j := by unfold se_K; rw [if_neg (fun w => z w.2)]
      rw [e1]; exact a j hj
  · unfold se_K; rw [if_neg (fun w => by have := w.2; rw [b] at this; exact absurd this (by decide))]; exact b
  · have e1 : se_K K v 16 j = K j := by unfold se_K; rw [if_neg (fun w => absurd w.1 (by omega))]
    rw [e1]; exact e j hj
theorem wf_S {n : Nat} (W : WF_ K L H S) (hn : n ≤ 256) : WF_ K L H (ra_S S (lN n)) := by
  obtain ⟨a, b, c, e, sn, hs, eS⟩ := W
  refine ⟨a, b, c, e, if n ≤ sn then sn else n, by split <;> omega, ?_⟩
  rw [eS, ra_N (by omega) (by omega)]
/-- what is learnt of two SCALARs leaves all in order -/
theorem wf_lnS (W : WF_ K L H S) (h1 : 1 ≤ f) (h4 : f ≤ 4) (hd : d < 8) (hq : q < 16) (k1 : K d = 1) (k2 : K q = 1) (m : my_ f d q K L H) (m2 : my_ (op_ f) d q K L H) : WF_ (ln_K f d K) (ln_L f d q K L H) (ln_H f d q K L H) (ln_S f d q K L S) := by
  have lK : ln_K f d K = K := by unfold ln_K; rw [if_neg (by rw [k1]; decide)]
  have lS : ln_S f d q K L S = S := by unfold ln_S; rw [k1, if_neg (by simp), if_neg (by simp)]
  rw [lK, lS]
  unfold ln_L ln_H
  by_cases z : L q = H q
  · rw [if_pos ⟨k1, z⟩, if_pos ⟨k1, z⟩]
    obtain ⟨p, b, pb, hb, ep, eb⟩ := (W.1 d (by omega)).2.1 k1
    obtain ⟨c, e, ce, he, ec, ee⟩ := (W.1 q hq).2.1 k2
    have z' : c = e := (pk_lEQ (by omega) (by omega)).mp (by rw [← ec, ← ee]; exact z)
    subst z'
    have y1 := m k1
    have y2 := m2 k1
    rw [ep, eb, ec, ee, mh_N pb hb ce he] at y1
    rw [ep, eb, ec, ee, mh_N pb hb ce he] at y2
    have I := cu_iv h1 h4 pb hb he y1 y2
    rw [← ep, ← eb, ← ec] at I
    have G := WF_upd (j := d) W (by omega) (by omega) (wf_1 I)
    rw [xb_updid k1] at G
    exact G
  · rw [if_neg (fun w => z w.2), if_neg (fun w => z w.2)]; exact W
theorem wf_lnM (W : WF_ K L H S) (k1 : K d = 6) : WF_ (ln_K f d K) (ln_L f d q K L H) (ln_H f d q K L H) (ln_S f d q K L S) := by
  have lK : ln_K f d K = se_K K (if f = 1 then 1 else 5) 16 := by unfold ln_K; rw [if_pos k1]
  have lL : ln_L f d q K L H = L := by unfold ln_L; rw [if_neg (by rw [k1]; simp)]
  have lH : ln_H f d q K L H = H := by unfold ln_H; rw [if_neg (by rw [k1]; simp)]
  have lS : ln_S f d q K L S = S := by unfold ln_S; rw [k1, if_neg (by simp), if_neg (by simp)]
  rw [lK, lL, lH, lS]
  refine wf_se W ?_
  split
  · exact Or.inl rfl
  · exact Or.inr rfl
theorem wf_lnP (W : WF_ K L H S) (hd : d < 8) (k1 : K d = 2) : WF_ (ln_K f d K) (ln_L f d q K L H) (ln_H f d q K L H) (ln_S f d q K L S) := by
  have lK : ln_K f d K = K := by unfold ln_K; rw [if_neg (by rw [k1]; decide)]
  have lL : ln_L f d q K L H = L := by unfold ln_L; rw [if_neg (by rw [k1]; simp)]
  have lH : ln_H f d q K L H = H := by unfold ln_H; rw [if_neg (by rw [k1]; simp)]
  obtain ⟨p, b, pb, hb, ep, eb⟩ := (W.1 d (by omega)).2.2.1 k1
  rw [lK, lL, lH]
  unfold ln_S
  by_cases z : f = 3
  · rw [if_pos ⟨k1, z⟩, ep, lN_1]; exact wf_S W (by omega)
  · rw [if_neg (fun w => z w.2), if_neg (by rw [k1]; simp)]; exact W
theorem wf_lnE (W : WF_ K L H S) (hq : q < 16) (k1 : K d = 3) (k2 : K q = 2) : WF_ (ln_K f d K) (ln_L f d q K L H) (ln_H f d q K L H) (ln_S f d q K L S) := by
  have lK : ln_K f d K = K := by unfold ln_K; rw [if_neg (by rw [k1]; decide)]
  have lL : ln_L f d q K L H = L := by unfold ln_L; rw [if_neg (by rw [k1]; simp)]
  have lH : ln_H f d q K L H = H := by unfold ln_H; rw [if_neg (by rw [k1]; simp)]
  obtain ⟨p, b, pb, hb, ep, eb⟩ := (W.1 q hq).2.2.1 k2
  rw [lK, lL, lH]
  unfold ln_S
  by_cases z : f = 4
  · rw [if_neg (by rw [k1]; simp), if_pos ⟨k1, z⟩, ep]; exact wf_S W (by omega)
  · rw [if_neg (by rw [k1]; simp), if_neg (fun w => z w.2)]; exact W
end
section
variable {x_safe : Int64} {x_at : Int32} {x_exitLeast : Int64} {x_exitMost : Int64} {x_branches : Int32} {x_faultPlace : Int32} {x_provedLeast : Int64} {x_provedMost : Int64} {x_packetLength : Int32} {x_executed : Int32} {x_ops : Nat → Int32} {x_targets : Nat → Int32} {x_sources : Nat → Int32} {x_offsets : Nat → Int32} {x_immediates : Nat → Int32} {x_lengths : Nat → Int32} {x_kinds : Nat → Int32} {x_los : Nat → Int64} {x_his : Nat → Int64} {x_reached : Nat → Int32} {x_branchAt : Nat → Int32} {x_branchSafe : Nat → Int64} {x_branchKinds : Nat → Int32} {x_branchLos : Nat → Int64} {x_branchHis : Nat → Int64} {x_packet : Nat → Int32} {x_registers : Nat → Int64} {x_cells : Nat → Int64} {x_keyWords : Nat → Int64} {x_keyTaken : Nat → Int32}
theorem st_ja {a b n d s : Nat} {o off imm : Int32} {Q : Prop} (ha : a < 40) (hn : n ≤ 40) (hl : x_lengths 2 = nI n) (hd : d < 8) (hs : s < 9) (eo : x_ops (80 + a) = o) (ed : x_targets (80 + a) = nI d) (es : x_sources (80 + a) = nI s) (ef : x_offsets (80 + a) = off) (em : x_immediates (80 + a) = imm) (W : WF_ x_kinds x_los x_his x_safe) (ho : o = 20) (F : ∀ (e : Int32) (K' : Nat → Int32) (L' H' : Nat → Int64), ¬ e = 0 → (∀ j, 16 ≤ j → K' j = 0 ∧ L' j = 0 ∧ H' j = 0) → (∀ post : Int32 → SX → Prop, post e (x_safe, nI a, x_exitLeast, x_exitMost, nI b, x_faultPlace, x_provedLeast, x_provedMost, x_packetLength, x_executed, x_ops, x_targets, x_sources, x_offsets, x_immediates, x_lengths, K', L', H', x_reached, x_branchAt, x_branchSafe, x_branchKinds, x_branchLos, x_branchHis, x_packet, x_registers, x_cells, x_keyWords, x_keyTaken) → wpX_check post (x_safe, nI a, x_exitLeast, x_exitMost, nI b, x_faultPlace, x_provedLeast, x_provedMost, x_packetLength, x_executed, x_ops, x_targets, x_sources, x_offsets, x_immediates, x_lengths, x_kinds, x_los, x_his, x_reached, x_branchAt, x_branchSafe, x_branchKinds, x_branchLos, x_branchHis, x_packet, x_registers, x_cells, x_keyWords, x_keyTaken) (nI (80 + a))) → YP_ o d s off imm x_kinds x_los x_his x_safe e x_kinds x_los x_his → Q) (G : ∀ (g : Nat) (K' : Nat → Int32) (L' H' : Nat → Int64), g < 2 ^ 31 → off = nI g → (∀ post : Int32 → SX → Prop, post 0 (x_safe, nI (gl_ n a g), x_exitLeast, x_exitMost, nI b, x_faultPlace, x_provedLeast, x_provedMost, x_packetLength, x_executed, x_ops, x_targets, x_sources, x_offsets, x_immediates, x_lengths, K', L', H', x_reached, x_branchAt, x_branchSafe, x_branchKinds, x_branchLos, x_branchHis, x_packet, x_registers, x_cells, x_keyWords, x_keyTaken) → wpX_check post (x_safe, nI a, x_exitLeast, x_exitMost, nI b, x_faultPlace, x_provedLeast, x_provedMost, x_packetLength, x_executed, x_ops, x_targets, x_sources, x_offsets, x_immediates, x_lengths, x_kinds, x_los, x_his, x_reached, x_branchAt, x_branchSafe, x_branchKinds, x_branchLos, x_branchHis, x_packet, x_registers, x_cells, x_keyWords, x_keyTaken) (nI (80 + a))) → YG_ o d s off imm g K' L' H' x_safe → SG_ o d s off imm g K' L' H' x_safe → WF_ K' L' H' x_safe → (K' = k9_ o x_kinds ∧ L' = l9_ o (imm.toInt64 &&& 4294967295) x_los ∧ H' = l9_ o (imm.toInt64 &&& 4294967295) x_his) → Q) : Q := by
  have hi : 80 + a < 120 := by omega
  subst ho
  have r : ¬ rg_ 20 := by unfold rg_; decide
  by_cases z : 0 ≤ off
  · obtain ⟨g, hg, eg⟩ := nI_of (x := off) (Int32.not_lt.mpr z)
    have no : ¬ ou_ (x_ops (80 + a)) (x_offsets (80 + a)) (x_immediates (80 + a)) := by
      rw [eo, ef]; unfold ou_; simp [z]
    have nu : ¬ un_ 20 (k9_ 20 x_kinds) d (q9_ 20 s) := by unfold un_; simp
    refine G g _ _ _ hg eg (fun post z => ?_) (yj_A hg eg) (sj_A hg eg hd hs) (WF_k9 (o := 20) (x := imm) W) ⟨rfl, rfl, rfl⟩
    refine xk_go hi (by omega) (by omega) es ed no (by rw [eo, em]; exact fun n => absurd n nu) ?_
    rw [eo, em]
    intro _ K L H eK eL eH
    subst eK eL eH
    have w := xv_jA (q := nI (q9_ 20 s)) hi hn (show a < 1000 by omega) hg hl (ef.trans eg) eo z
    exact br_f (by decide) (br_f (by decide) (br_f (by decide) (br_f (by decide) (br_t (by decide) w))))
  · refine F 1 _ _ _ (by decide) W.2.2.2.1 (fun post q => xk_out hi ?_ q) (yj_out (by decide) (by decide) z)
    rw [eo, ef]; exact Or.inl ⟨Or.inl (by decide), z⟩
theorem st_jump {f : Nat} {a b n d s : Nat} {o off imm : Int32} {Q : Prop} (ha : a < 40) (hn : n ≤ 40) (hl : x_lengths 2 = nI n) (hd : d < 8) (hs : s < 9) (eo : x_ops (80 + a) = o) (ed : x_targets (80 + a) = nI d) (es : x_sources (80 + a) = nI s) (ef : x_offsets (80 + a) = off) (em : x_immediates (80 + a) = imm) (W : WF_ x_kinds x_los x_his x_safe) (hb : b < 10) (ho : oj_ o f) (F : ∀ (e : Int32) (K' : Nat → Int32) (L' H' : Nat → Int64), ¬ e = 0 → (∀ j, 16 ≤ j → K' j = 0 ∧ L' j = 0 ∧ H' j = 0) → (∀ post : Int32 → SX → Prop, post e (x_safe, nI a, x_exitLeast, x_exitMost, nI b, x_faultPlace, x_provedLeast, x_provedMost, x_packetLength, x_executed, x_ops, x_targets, x_sources, x_offsets, x_immediates, x_lengths, K', L', H', x_reached, x_branchAt, x_branchSafe, x_branchKinds, x_branchLos, x_branchHis, x_packet, x_registers, x_cells, x_keyWords, x_keyTaken) → wpX_check post (x_safe, nI a, x_exitLeast, x_exitMost, nI b, x_faultPlace, x_provedLeast, x_provedMost, x_packetLength, x_executed, x_ops, x_targets, x_sources, x_offsets, x_immediates, x_lengths, x_kinds, x_los, x_his, x_reached, x_branchAt, x_branchSafe, x_branchKinds, x_branchLos, x_branchHis, x_packet, x_registers, x_cells, x_keyWords, x_keyTaken) (nI (80 + a))) → YP_ o d s off imm x_kinds x_los x_his x_safe e x_kinds x_los x_his → Q) (N : ∀ (K' : Nat → Int32) (L' H' : Nat → Int64), (∀ post : Int32 → SX → Prop, post 0 (x_safe, nI (a + 1), x_exitLeast, x_exitMost, nI b, x_faultPlace, x_provedLeast, x_provedMost, x_packetLength, x_executed, x_ops, x_targets, x_sources, x_offsets, x_immediates, x_lengths, K', L', H', x_reached, x_branchAt, x_branchSafe, x_branchKinds, x_branchLos, x_branchHis, x_packet, x_registers, x_cells, x_keyWords, x_keyTaken) → wpX_check post (x_safe, nI a, x_exitLeast, x_exitMost, nI b, x_faultPlace, x_provedLeast, x_provedMost, x_packetLength, x_executed, x_ops, x_targets, x_sources, x_offsets, x_immediates, x_lengths, x_kinds, x_los, x_his, x_reached, x_branchAt, x_branchSafe, x_branchKinds, x_branchLos, x_branchHis, x_packet, x_registers, x_cells, x_keyWords, x_keyTaken) (nI (80 + a))) → YP_ o d s off imm x_kinds x_los x_his x_safe 0 K' L' H' → SP_ o d s off imm x_kinds x_los x_his x_safe K' L' H' → WF_ K' L' H' x_safe → Q) (G : ∀ (g : Nat) (K' : Nat → Int32) (L' H' : Nat → Int64), g < 2 ^ 31 → off = nI g → (∀ post : Int32 → SX → Prop, post 0 (x_safe, nI (gl_ n a g), x_exitLeast, x_exitMost, nI b, x_faultPlace, x_provedLeast, x_provedMost, x_packetLength, x_executed, x_ops, x_targets, x_sources, x_offsets, x_immediates, x_lengths, K', L', H', x_reached, x_branchAt, x_branchSafe, x_branchKinds, x_branchLos, x_branchHis, x_packet, x_registers, x_cells, x_keyWords, x_keyTaken) → wpX_check post (x_safe, nI a, x_exitLeast, x_exitMost, nI b, x_faultPlace, x_provedLeast, x_provedMost, x_packetLength, x_executed, x_ops, x_targets, x_sources, x_offsets, x_immediates, x_lengths, x_kinds, x_los, x_his, x_reached, x_branchAt, x_branchSafe, x_branchKinds, x_branchLos, x_branchHis, x_packet, x_registers, x_cells, x_keyWords, x_keyTaken) (nI (80 + a))) → YG_ o d s off imm g K' L' H' x_safe → SG_ o d s off imm g K' L' H' x_safe → WF_ K' L' H' x_safe → (K' = k9_ o x_kinds ∧ L' = l9_ o (imm.toInt64 &&& 4294967295) x_los ∧ H' = l9_ o (imm.toInt64 &&& 4294967295) x_his) → Q) (B : ∀ (g f : Nat) (K' : Nat → Int32) (L' H' : Nat → Int64), g < 2 ^ 31 → off = nI g → oj_ o f → (∀ post : Int32 → SX → Prop, post 0 (ln_S (op_ f) d (q9_ o s) K' L' x_safe, nI (a + 1), x_exitLeast, x_exitMost, nI (b + 1), x_faultPlace, x_provedLeast, x_provedMost, x_packetLength, x_executed, x_ops, x_targets, x_sources, x_offsets, x_immediates, x_lengths, ln_K (op_ f) d K', ln_L (op_ f) d (q9_ o s) K' L' H', ln_H (op_ f) d (q9_ o s) K' L' H', x_reached, upd x_branchAt b (nI a), vp_updL x_branchSafe b x_safe, sv_ x_branchKinds b K' 16, sv_ x_branchLos b L' 16, sv_ x_branchHis b H' 16, x_packet, x_registers, x_cells, x_keyWords, x_keyTaken) → wpX_check post (x_safe, nI a, x_exitLeast, x_exitMost, nI b, x_faultPlace, x_provedLeast, x_provedMost, x_packetLength, x_executed, x_ops, x_targets, x_sources, x_offsets, x_immediates, x_lengths, x_kinds, x_los, x_his, x_reached, x_branchAt, x_branchSafe, x_branchKinds, x_branchLos, x_branchHis, x_packet, x_registers, x_cells, x_keyWords, x_keyTaken) (nI (80 + a))) → YB_ o d s off imm g K' L' H' x_safe (ln_K f d K') (ln_L f d (q9_ o s) K' L' H') (ln_H f d (q9_ o s) K' L' H') (ln_S f d (q9_ o s) K' L' x_safe) (ln_K (op_ f) d K') (ln_L (op_ f) d (q9_ o s) K' L' H') (ln_H (op_ f) d (q9_ o s) K' L' H') (ln_S (op_ f) d (q9_ o s) K' L' x_safe) → SB_ o d s off imm g K' L' H' x_safe (ln_K f d K') (ln_L f d (q9_ o s) K' L' H') (ln_H f d (q9_ o s) K' L' H') (ln_S f d (q9_ o s) K' L' x_safe) (ln_K (op_ f) d K') (ln_L (op_ f) d (q9_ o s) K' L' H') (ln_H (op_ f) d (q9_ o s) K' L' H') (ln_S (op_ f) d (q9_ o s) K' L' x_safe) → WF_ K' L' H' x_safe → WF_ (ln_K f d K') (ln_L f d (q9_ o s) K' L' H') (ln_H f d (q9_ o s) K' L' H') (ln_S f d (q9_ o s) K' L' x_safe) → WF_ (ln_K (op_ f) d K') (ln_L (op_ f) d (q9_ o s) K' L' H') (ln_H (op_ f) d (q9_ o s) K' L' H') (ln_S (op_ f) d (q9_ o s) K' L' x_safe) → (K' = k9_ o x_kinds ∧ L' = l9_ o (imm.toInt64 &&& 4294967295) x_los ∧ H' = l9_ o (imm.toInt64 &&& 4294967295) x_his) → Q) : Q := by
  have hi : 80 + a < 120 := by omega
  obtain ⟨f1, f2, f3, f4, f5⟩ := oj_f ho
  have t : o / 10 = 2 ∨ o / 10 = 3 := by rcases f5 with q | q; exact Or.inr q.2.2; exact Or.inl q.2.2
  by_cases z : 0 ≤ off
  · obtain ⟨g, hg, eg⟩ := nI_of (x := off) (Int32.not_lt.mpr z)
    have no : ¬ ou_ (x_ops (80 + a)) (x_offsets (80 + a)) (x_immediates (80 + a)) := by
      rw [eo, ef]; unfold ou_
      rcases t with t | t <;> rw [t] <;> simp [z]
    have W9 := WF_k9 (o := o) (x := imm) W
    have n9 := nine_k9 (o := o) (w := imm.toInt64 &&& 4294967295) (K := x_kinds) (L := x_los) (H := x_his)
    have hq : q9_ o s < 16 := q9_16 hs
    have un : un_ o (k9_ o x_kinds) d (q9_ o s) ↔ (k9_ o x_kinds d = 0 ∨ k9_ o x_kinds (q9_ o s) = 0) := by
      obtain ⟨h1, h4, h⟩ := ho
      have e : f = 1 ∨ f = 2 ∨ f = 3 ∨ f = 4 := by omega
      unfold un_
      rcases e with rfl | rfl | rfl | rfl <;> rcases h with rfl | rfl <;> simp [nI]
    have into : ∀ (post : Int32 → SX → Prop), (un_ o (k9_ o x_kinds) d (q9_ o s) → post 2 (x_safe, nI a, x_exitLeast, x_exitMost, nI b, x_faultPlace, x_provedLeast, x_provedMost, x_packetLength, x_executed, x_ops, x_targets, x_sources, x_offsets, x_immediates, x_lengths, k9_ o x_kinds, l9_ o (imm.toInt64 &&& 4294967295) x_los, l9_ o (imm.toInt64 &&& 4294967295) x_his, x_reached, x_branchAt, x_branchSafe, x_branchKinds, x_branchLos, x_branchHis, x_packet, x_registers, x_cells, x_keyWords, x_keyTaken)) → (¬ un_ o (k9_ o x_kinds) d (q9_ o s) → wpX_checkJump post (x_safe, nI a, x_exitLeast, x_exitMost, nI b, x_faultPlace, x_provedLeast, x_provedMost, x_packetLength, x_executed, x_ops, x_targets, x_sources, x_offsets, x_immediates, x_lengths, k9_ o x_kinds, l9_ o (imm.toInt64 &&& 4294967295) x_los, l9_ o (imm.toInt64 &&& 4294967295) x_his, x_reached, x_branchAt, x_branchSafe, x_branchKinds, x_branchLos, x_branchHis, x_packet, x_registers, x_cells, x_keyWords, x_keyTaken) (nI (80 + a)) (nI (q9_ o s))) → wpX_check post (x_safe, nI a, x_exitLeast, x_exitMost, nI b, x_faultPlace, x_provedLeast, x_provedMost, x_packetLength, x_executed, x_ops, x_targets, x_sources, x_offsets, x_immediates, x_lengths, x_kinds, x_los, x_his, x_reached, x_branchAt, x_branchSafe, x_branchKinds, x_branchLos, x_branchHis, x_packet, x_registers, x_cells, x_keyWords, x_keyTaken) (nI (80 + a)) := by
      intro post U C
      refine xk_go hi (by omega) (by omega) es ed no (by rw [eo, em]; exact U) ?_
      rw [eo, em]
      intro nu K L H eK eL eH
      subst eK eL eH
      have w := C nu
      rcases t with t | t
      · rw [t]; exact br_f (by decide) (br_f (by decide) (br_f (by decide) (br_f (by decide) (br_t rfl w))))
      · rw [t]; exact br_f (by decide) (br_f (by decide) (br_f (by decide) (br_f (by decide) (br_f (by decide) (br_t rfl w)))))
    have ef' : x_ops (80 + a) - x_ops (80 + a) / 10 * 10 = nI f := by rw [eo]; exact f4
    have o20 : ¬ x_ops (80 + a) = 20 := by rw [eo]; exact f3
    have hk := (W9.1 d (by omega)).1
    by_cases u : un_ o (k9_ o x_kinds) d (q9_ o s)
    · exact F 2 _ _ _ (by decide) W9.2.2.2.1 (fun post z => into post (fun _ => z) (fun n => absurd u n)) (YP_k9 (yj_U ho hg eg hd hs W9 n9 (un.mp u)))
    · have nud : ¬ k9_ o x_kinds d = 0 := fun z => u (un.mpr (Or.inl z))
      have nuq : ¬ k9_ o x_kinds (q9_ o s) = 0 := fun z => u (un.mpr (Or.inr z))
      by_cases c : cm_ f (k9_ o x_kinds d) (k9_ o x_kinds (q9_ o s)) (l9_ o (imm.toInt64 &&& 4294967295) x_his (q9_ o s))
      · by_cases m : my_ (op_ f) d (q9_ o s) (k9_ o x_kinds) (l9_ o (imm.toInt64 &&& 4294967295) x_los) (l9_ o (imm.toInt64 &&& 4294967295) x_his)
        · by_cases m2 : my_ f d (q9_ o s) (k9_ o x_kinds) (l9_ o (imm.toInt64 &&& 4294967295) x_los) (l9_ o (imm.toInt64 &&& 4294967295) x_his)
          · have XB : ∀ post : Int32 → SX → Prop, post 0 (ln_S (op_ f) d (q9_ o s) (k9_ o x_kinds) (l9_ o (imm.toInt64 &&& 4294967295) x_los) x_safe, nI (a + 1), x_exitLeast, x_exitMost, nI (b + 1), x_faultPlace, x_provedLeast, x_provedMost, x_packetLength, x_executed, x_ops, x_targets, x_sources, x_offsets, x_immediates, x_lengths, ln_K (op_ f) d (k9_ o x_kinds), ln_L (op_ f) d (q9_ o s) (k9_ o x_kinds) (l9_ o (imm.toInt64 &&& 4294967295) x_los) (l9_ o (imm.toInt64 &&& 4294967295) x_his), ln_H (op_ f) d (q9_ o s) (k9_ o x_kinds) (l9_ o (imm.toInt64 &&& 4294967295) x_los) (l9_ o (imm.toInt64 &&& 4294967295) x_his), x_reached, upd x_branchAt b (nI a), vp_updL x_branchSafe b x_safe, sv_ x_branchKinds b (k9_ o x_kinds) 16, sv_ x_branchLos b (l9_ o (imm.toInt64 &&& 4294967295) x_los) 16, sv_ x_branchHis b (l9_ o (imm.toInt64 &&& 4294967295) x_his) 16, x_packet, x_registers, x_cells, x_keyWords, x_keyTaken) → wpX_check post (x_safe, nI a, x_exitLeast, x_exitMost, nI b, x_faultPlace, x_provedLeast, x_provedMost, x_packetLength, x_executed, x_ops, x_targets, x_sources, x_offsets, x_immediates, x_lengths, x_kinds, x_los, x_his, x_reached, x_branchAt, x_branchSafe, x_branchKinds, x_branchLos, x_branchHis, x_packet, x_registers, x_cells, x_keyWords, x_keyTaken) (nI (80 + a)) := fun post z => into post (fun n => absurd n u) (fun _ => xv_jB hi ho.1 ho.2.1 (by omega) hq hb o20 ef' ed hk c m m2 z)
            obtain ⟨o1, o4⟩ := op_r ho.1 ho.2.1
            rcases c with ⟨k1, k2⟩ | ⟨k1, f2', k2, h0⟩ | ⟨k1, f3', k2⟩ | ⟨k1, f3', k2⟩
            · exact B g f _ _ _ hg eg ho XB (yj_SB ho hg eg hd hs W9 n9 k1 k2 m m2 rfl) (sj_SB ho eg hd hs W9 n9 k1 k2 rfl) W9 (wf_lnS W9 ho.1 ho.2.1 hd hq k1 k2 m2 m) (wf_lnS W9 o1 o4 hd hq k1 k2 m (by rw [op_op ho.1 ho.2.1]; exact m2)) ⟨rfl, rfl, rfl⟩
            · exact B g f _ _ _ hg eg ho XB (yj_MB ho hg eg hd hs W9 n9 k1 f2' k2 h0 rfl) (sj_MB ho eg hd hs W9 n9 k1 f2' k2 h0 rfl) W9 (wf_lnM W9 k1) (wf_lnM W9 k1) ⟨rfl, rfl, rfl⟩
            · exact B g f _ _ _ hg eg ho XB (yj_PB ho hg eg hd hs W9 n9 k1 f3' k2 rfl) (sj_PB ho eg hd hs W9 n9 k1 f3' k2 rfl) W9 (wf_lnP W9 hd k1) (wf_lnP W9 hd k1) ⟨rfl, rfl, rfl⟩
            · exact B g f _ _ _ hg eg ho XB (yj_EB ho hg eg hd hs W9 n9 k1 f3' k2 rfl) (sj_EB ho eg hd hs W9 n9 k1 f3' k2 rfl) W9 (wf_lnE W9 hq k1 k2) (wf_lnE W9 hq k1 k2) ⟨rfl, rfl, rfl⟩
          · have k1 : k9_ o x_kinds d = 1 := Classical.byContradiction fun n => m2 (fun y => absurd y n)
            have k2 : k9_ o x_kinds (q9_ o s) = 1 := by
              rcases c with c | c | c | c
              · exact c.2
              · exact absurd (k1.symm.trans c.1) (by decide)
              · exact absurd (k1.symm.trans c.1) (by decide)
              · exact absurd (k1.symm.trans c.1) (by decide)
            exact N _ _ _ (fun post z => into post (fun n => absurd n u) (fun _ => xv_jP hi ho.1 ho.2.1 (by omega) hq o20 ef' ed hk c m m2 z)) (YP_k9 (yj_SN ho hg eg hd hs W9 n9 k1 k2 m m2)) (SP_k9 (sj_SN ho eg hd hs W9 n9 k1 k2 m2)) W9
        · have k1 : k9_ o x_kinds d = 1 := Classical.byContradiction fun n => m (fun y => absurd y n)
          have k2 : k9_ o x_kinds (q9_ o s) = 1 := by
            rcases c with c | c | c | c
            · exact c.2
            · exact absurd (k1.symm.trans c.1) (by decide)
            · exact absurd (k1.symm.trans c.1) (by decide)
            · exact absurd (k1.symm.trans c.1) (by decide)
          exact G g _ _ _ hg eg (fun post z => into post (fun n => absurd n u) (fun _ => xv_jO hi ho.1 ho.2.1 (by omega) hq hn (by omega) hg hl (ef.trans eg) o20 ef' ed hk c m z)) (yj_SG ho hg eg hd hs W9 n9 k1 k2 m) (sj_SG ho eg hd hs W9 n9 k1 k2 m) W9 ⟨rfl, rfl, rfl⟩
      · exact F 3 _ _ _ (by decide) W9.2.2.2.1 (fun post z => into post (fun n => absurd n u) (fun _ => xv_jK hi ho.1 ho.2.1 (by omega) hq o20 ef' ed hk c z)) (YP_k9 (yj_K ho hg eg hd hs W9 n9 nud nuq c))
  · refine F 1 _ _ _ (by decide) W.2.2.2.1 (fun post q => xk_out hi ?_ q) (yj_out f1 f2 z)
    rw [eo, ef]; exact Or.inl ⟨t, z⟩
end
