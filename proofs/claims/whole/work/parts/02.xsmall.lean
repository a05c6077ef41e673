section
variable {x_safe : Int64} {x_at : Int32} {x_exitLeast : Int64} {x_exitMost : Int64} {x_branches : Int32} {x_faultPlace : Int32} {x_provedLeast : Int64} {x_provedMost : Int64} {x_packetLength : Int32} {x_executed : Int32} {x_ops : Nat → Int32} {x_targets : Nat → Int32} {x_sources : Nat → Int32} {x_offsets : Nat → Int32} {x_immediates : Nat → Int32} {x_lengths : Nat → Int32} {x_kinds : Nat → Int32} {x_los : Nat → Int64} {x_his : Nat → Int64} {x_reached : Nat → Int32} {x_branchAt : Nat → Int32} {x_branchSafe : Nat → Int64} {x_branchKinds : Nat → Int32} {x_branchLos : Nat → Int64} {x_branchHis : Nat → Int64} {x_packet : Nat → Int32} {x_registers : Nat → Int64} {x_cells : Nat → Int64} {x_keyWords : Nat → Int64} {x_keyTaken : Nat → Int32}
theorem xv_isJump {post : Int32 → Prop} {o : Int32} : wpX_isJump post o ↔ post (if o / 10 = 2 ∨ o / 10 = 3 then 1 else 0) := by
  by_cases h2 : o / 10 = 2
  · simp only [wpX_isJump, forall_eq, true_and, and_true, true_implies, not_true_eq_false, false_implies, not_false_eq_true, implies_true, and_self, nI_add, nI_1, nI_clamp, vp_in_nI, xb_10, xb_bt, xb_bf, h2, true_or, if_true]
  · by_cases h3 : o / 10 = 3
    · simp only [wpX_isJump, forall_eq, true_and, and_true, true_implies, not_true_eq_false, false_implies, not_false_eq_true, implies_true, and_self, nI_add, nI_1, nI_clamp, vp_in_nI, xb_10, xb_bt, xb_bf, h3, or_true, if_true]; simp
    · simp only [wpX_isJump, forall_eq, true_and, and_true, true_implies, not_true_eq_false, false_implies, not_false_eq_true, implies_true, and_self, nI_add, nI_1, nI_clamp, vp_in_nI, xb_10, xb_bt, xb_bf, h2, h3, or_self, if_false]
theorem xv_know {post : SX → Prop} {p : Nat} {k : Int32} {l h : Int64} (hp : p < 16) : wpX_know post (x_safe, x_at, x_exitLeast, x_exitMost, x_branches, x_faultPlace, x_provedLeast, x_provedMost, x_packetLength, x_executed, x_ops, x_targets, x_sources, x_offsets, x_immediates, x_lengths, x_kinds, x_los, x_his, x_reached, x_branchAt, x_branchSafe, x_branchKinds, x_branchLos, x_branchHis, x_packet, x_registers, x_cells, x_keyWords, x_keyTaken) (nI p) k l h ↔ post (x_safe, x_at, x_exitLeast, x_exitMost, x_branches, x_faultPlace, x_provedLeast, x_provedMost, x_packetLength, x_executed, x_ops, x_targets, x_sources, x_offsets, x_immediates, x_lengths, upd x_kinds p k, vp_updL x_los p l, vp_updL x_his p h, x_reached, x_branchAt, x_branchSafe, x_branchKinds, x_branchLos, x_branchHis, x_packet, x_registers, x_cells, x_keyWords, x_keyTaken) := by
  simp (disch := omega) only [wpX_know, forall_eq, true_and, and_true, true_implies, not_true_eq_false, false_implies, not_false_eq_true, implies_true, and_self, nI_add, nI_1, nI_clamp, vp_in_nI, xb_10, xb_bt, xb_bf]
theorem xv_know0 {post : SX → Prop} {k : Int32} {l h : Int64} : wpX_know post (x_safe, x_at, x_exitLeast, x_exitMost, x_branches, x_faultPlace, x_provedLeast, x_provedMost, x_packetLength, x_executed, x_ops, x_targets, x_sources, x_offsets, x_immediates, x_lengths, x_kinds, x_los, x_his, x_reached, x_branchAt, x_branchSafe, x_branchKinds, x_branchLos, x_branchHis, x_packet, x_registers, x_cells, x_keyWords, x_keyTaken) 0 k l h ↔ post (x_safe, x_at, x_exitLeast, x_exitMost, x_branches, x_faultPlace, x_provedLeast, x_provedMost, x_packetLength, x_executed, x_ops, x_targets, x_sources, x_offsets, x_immediates, x_lengths, upd x_kinds 0 k, vp_updL x_los 0 l, vp_updL x_his 0 h, x_reached, x_branchAt, x_branchSafe, x_branchKinds, x_branchLos, x_branchHis, x_packet, x_registers, x_cells, x_keyWords, x_keyTaken) := xv_know (p := 0) (by decide)
theorem xv_know1 {post : SX → Prop} {k : Int32} {l h : Int64} : wpX_know post (x_safe, x_at, x_exitLeast, x_exitMost, x_branches, x_faultPlace, x_provedLeast, x_provedMost, x_packetLength, x_executed, x_ops, x_targets, x_sources, x_offsets, x_immediates, x_lengths, x_kinds, x_los, x_his, x_reached, x_branchAt, x_branchSafe, x_branchKinds, x_branchLos, x_branchHis, x_packet, x_registers, x_cells, x_keyWords, x_keyTaken) 1 k l h ↔ post (x_safe, x_at, x_exitLeast, x_exitMost, x_branches, x_faultPlace, x_provedLeast, x_provedMost, x_packetLength, x_executed, x_ops, x_targets, x_sources, x_offsets, x_immediates, x_lengths, upd x_kinds 1 k, vp_updL x_los 1 l, vp_updL x_his 1 h, x_reached, x_branchAt, x_branchSafe, x_branchKinds, x_branchLos, x_branchHis, x_packet, x_registers, x_cells, x_keyWords, x_keyTaken) := xv_know (p := 1) (by decide)
theorem xv_know2 {post : SX → Prop} {k : Int32} {l h : Int64} : wpX_know post (x_safe, x_at, x_exitLeast, x_exitMost, x_branches, x_faultPlace, x_provedLeast, x_provedMost, x_packetLength, x_executed, x_ops, x_targets, x_sources, x_offsets, x_immediates, x_lengths, x_kinds, x_los, x_his, x_reached, x_branchAt, x_branchSafe, x_branchKinds, x_branchLos, x_branchHis, x_packet, x_registers, x_cells, x_keyWords, x_keyTaken) 2 k l h ↔ post (x_safe, x_at, x_exitLeast, x_exitMost, x_branches, x_faultPlace, x_provedLeast, x_provedMost, x_packetLength, x_executed, x_ops, x_targets, x_sources, x_offsets, x_immediates, x_lengths, upd x_kinds 2 k, vp_updL x_los 2 l, vp_updL x_his 2 h, x_reached, x_branchAt, x_branchSafe, x_branchKinds, x_branchLos, x_branchHis, x_packet, x_registers, x_cells, x_keyWords, x_keyTaken) := xv_know (p := 2) (by decide)
theorem xv_know8 {post : SX → Prop} {k : Int32} {l h : Int64} : wpX_know post (x_safe, x_at, x_exitLeast, x_exitMost, x_branches, x_faultPlace, x_provedLeast, x_provedMost, x_packetLength, x_executed, x_ops, x_targets, x_sources, x_offsets, x_immediates, x_lengths, x_kinds, x_los, x_his, x_reached, x_branchAt, x_branchSafe, x_branchKinds, x_branchLos, x_branchHis, x_packet, x_registers, x_cells, x_keyWords, x_keyTaken) 8 k l h ↔ post (x_safe, x_at, x_exitLeast, x_exitMost, x_branches, x_faultPlace, x_provedLeast, x_provedMost, x_packetLength, x_executed, x_ops, x_targets, x_sources, x_offsets, x_immediates, x_lengths, upd x_kinds 8 k, vp_updL x_los 8 l, vp_updL x_his 8 h, x_reached, x_branchAt, x_branchSafe, x_branchKinds, x_branchLos, x_branchHis, x_packet, x_registers, x_cells, x_keyWords, x_keyTaken) := xv_know (p := 8) (by decide)
theorem xv_know9 {post : SX → Prop} {k : Int32} {l h : Int64} : wpX_know post (x_safe, x_at, x_exitLeast, x_exitMost, x_branches, x_faultPlace, x_provedLeast, x_provedMost, x_packetLength, x_executed, x_ops, x_targets, x_sources, x_offsets, x_immediates, x_lengths, x_kinds, x_los, x_his, x_reached, x_branchAt, x_branchSafe, x_branchKinds, x_branchLos, x_branchHis, x_packet, x_registers, x_cells, x_keyWords, x_keyTaken) 9 k l h ↔ post (x_safe, x_at, x_exitLeast, x_exitMost, x_branches, x_faultPlace, x_provedLeast, x_provedMost, x_packetLength, x_executed, x_ops, x_targets, x_sources, x_offsets, x_immediates, x_lengths, upd x_kinds 9 k, vp_updL x_los 9 l, vp_updL x_his 9 h, x_reached, x_branchAt, x_branchSafe, x_branchKinds, x_branchLos, x_branchHis, x_packet, x_registers, x_cells, x_keyWords, x_keyTaken) := xv_know (p := 9) (by decide)
theorem xv_copy {post : SX → Prop} {a b : Nat} (ha : a < 16) (hb : b < 16) : wpX_copyKnown post (x_safe, x_at, x_exitLeast, x_exitMost, x_branches, x_faultPlace, x_provedLeast, x_provedMost, x_packetLength, x_executed, x_ops, x_targets, x_sources, x_offsets, x_immediates, x_lengths, x_kinds, x_los, x_his, x_reached, x_branchAt, x_branchSafe, x_branchKinds, x_branchLos, x_branchHis, x_packet, x_registers, x_cells, x_keyWords, x_keyTaken) (nI a) (nI b) ↔ post (x_safe, x_at, x_exitLeast, x_exitMost, x_branches, x_faultPlace, x_provedLeast, x_provedMost, x_packetLength, x_executed, x_ops, x_targets, x_sources, x_offsets, x_immediates, x_lengths, upd x_kinds a (x_kinds b), vp_updL x_los a (x_los b), vp_updL x_his a (x_his b), x_reached, x_branchAt, x_branchSafe, x_branchKinds, x_branchLos, x_branchHis, x_packet, x_registers, x_cells, x_keyWords, x_keyTaken) := by
  simp (disch := omega) only [wpX_copyKnown, forall_eq, true_and, and_true, true_implies, not_true_eq_false, false_implies, not_false_eq_true, implies_true, and_self, nI_add, nI_1, nI_clamp, vp_in_nI, xb_10, xb_bt, xb_bf]
end
/-- the two ends are words -/
def ab_ok (l h : Int64) : Prop := ¬ l < 0 ∧ ¬ 4294967295 < l ∧ ¬ h < 0 ∧ ¬ 4294967295 < h
noncomputable def ab_l (l h : Int64) : Int64 := @ite _ (ab_ok l h) (Classical.propDecidable _) l 0
noncomputable def ab_h (l h : Int64) : Int64 := @ite _ (ab_ok l h) (Classical.propDecidable _) h 4294967295
theorem ab_l_t {l h : Int64} (z : ab_ok l h) : ab_l l h = l := by unfold ab_l; exact if_pos z
theorem ab_h_t {l h : Int64} (z : ab_ok l h) : ab_h l h = h := by unfold ab_h; exact if_pos z
theorem ab_l_f {l h : Int64} (z : ¬ ab_ok l h) : ab_l l h = 0 := by unfold ab_l; exact if_neg z
theorem ab_h_f {l h : Int64} (z : ¬ ab_ok l h) : ab_h l h = 4294967295 := by unfold ab_h; exact if_neg z
def on_it (w : Int64) : Nat → Int64 → Int64
  | 0, x => x
  | n + 1, x => on_it w n (if w ≤ x then x else x * 2 + 1)
def sh_r (x y : Int64) : Int64 := x >>> (((y &&& 31).toInt32).toInt64 &&& 63)
noncomputable def cb_l (f : Int32) (l h l2 h2 : Int64) : Int64 := if f = 1 then l + l2 else if f = 2 then l - h2 else if f = 3 then l * l2 else if f = 4 then 0 else if f = 5 then (if l ≤ l2 then l2 else l) else (if l2 = h2 then sh_r l l2 else 0)
noncomputable def cb_h (f : Int32) (l h l2 h2 : Int64) : Int64 := if f = 1 then h + h2 else if f = 2 then h - l2 else if f = 3 then h * h2 else if f = 4 then (if h2 ≤ h then h2 else h) else if f = 5 then on_it (h ||| h2) 32 0 else (if l2 = h2 then sh_r h l2 else h)
section
variable {x_safe : Int64} {x_at : Int32} {x_exitLeast : Int64} {x_exitMost : Int64} {x_branches : Int32} {x_faultPlace : Int32} {x_provedLeast : Int64} {x_provedMost : Int64} {x_packetLength : Int32} {x_executed : Int32} {x_ops : Nat → Int32} {x_targets : Nat → Int32} {x_sources : Nat → Int32} {x_offsets : Nat → Int32} {x_immediates : Nat → Int32} {x_lengths : Nat → Int32} {x_kinds : Nat → Int32} {x_los : Nat → Int64} {x_his : Nat → Int64} {x_reached : Nat → Int32} {x_branchAt : Nat → Int32} {x_branchSafe : Nat → Int64} {x_branchKinds : Nat → Int32} {x_branchLos : Nat → Int64} {x_branchHis : Nat → Int64} {x_packet : Nat → Int32} {x_registers : Nat → Int64} {x_cells : Nat → Int64} {x_keyWords : Nat → Int64} {x_keyTaken : Nat → Int32}
theorem xv_words {post : SX → Prop} {p : Nat} {l h : Int64} (hp : p < 16) : wpX_knowWords post (x_safe, x_at, x_exitLeast, x_exitMost, x_branches, x_faultPlace, x_provedLeast, x_provedMost, x_packetLength, x_executed, x_ops, x_targets, x_sources, x_offsets, x_immediates, x_lengths, x_kinds, x_los, x_his, x_reached, x_branchAt, x_branchSafe, x_branchKinds, x_branchLos, x_branchHis, x_packet, x_registers, x_cells, x_keyWords, x_keyTaken) (nI p) l h ↔ post (x_safe, x_at, x_exitLeast, x_exitMost, x_branches, x_faultPlace, x_provedLeast, x_provedMost, x_packetLength, x_executed, x_ops, x_targets, x_sources, x_offsets, x_immediates, x_lengths, x_kinds, vp_updL x_los p (ab_l l h), vp_updL x_his p (ab_h l h), x_reached, x_branchAt, x_branchSafe, x_branchKinds, x_branchLos, x_branchHis, x_packet, x_registers, x_cells, x_keyWords, x_keyTaken) := by
  by_cases z : ab_ok l h
  · rw [ab_l_t z, ab_h_t z]
    obtain ⟨a, b, c, d⟩ := z
    simp (disch := omega) only [wpX_knowWords, wX_knowWords_35, wX_knowWords_52, forall_eq, true_and, and_true, true_implies, not_true_eq_false, false_implies, not_false_eq_true, implies_true, and_self, nI_add, nI_1, nI_clamp, vp_in_nI, xb_10, xb_bt, xb_bf, a, b, c, d]
    simp
  · rw [ab_l_f z, ab_h_f z]
    have w : wX_knowWords_34 post (nI p) l h x_safe x_at x_exitLeast x_exitMost x_branches x_faultPlace x_provedLeast x_provedMost x_packetLength x_executed x_ops x_targets x_sources x_offsets x_immediates x_lengths x_kinds x_los x_his x_reached x_branchAt x_branchSafe x_branchKinds x_branchLos x_branchHis x_packet x_registers x_cells x_keyWords x_keyTaken ↔ post (x_safe, x_at, x_exitLeast, x_exitMost, x_branches, x_faultPlace, x_provedLeast, x_provedMost, x_packetLength, x_executed, x_ops, x_targets, x_sources, x_offsets, x_immediates, x_lengths, x_kinds, vp_updL x_los p 0, vp_updL x_his p 4294967295, x_reached, x_branchAt, x_branchSafe, x_branchKinds, x_branchLos, x_branchHis, x_packet, x_registers, x_cells, x_keyWords, x_keyTaken) := by
      simp (disch := omega) only [wX_knowWords_34, wX_knowWords_35, wX_knowWords_52, forall_eq, true_and, and_true, true_implies, not_true_eq_false, false_implies, not_false_eq_true, implies_true, and_self, nI_add, nI_1, nI_clamp, vp_in_nI, xb_10, xb_bt, xb_bf]
    simp only [wpX_knowWords, w]
    by_cases a : l < 0
    · simp only [a, forall_eq, true_and, and_true, true_implies, not_true_eq_false, false_implies, not_false_eq_true, implies_true, and_self]
    · by_cases b : 4294967295 < l
      · simp only [a, b, forall_eq, true_and, and_true, true_implies, not_true_eq_false, false_implies, not_false_eq_true, implies_true, and_self]
      · by_cases c : h < 0
        · simp only [a, b, c, forall_eq, true_and, and_true, true_implies, not_true_eq_false, false_implies, not_false_eq_true, implies_true, and_self]
        · by_cases d : 4294967295 < h
          · simp only [a, b, c, d, forall_eq, true_and, and_true, true_implies, not_true_eq_false, false_implies, not_false_eq_true, implies_true, and_self]
          · exact absurd ⟨a, b, c, d⟩ z
theorem xv_onesL {post : Int64 → Prop} {w : Int64} : ∀ (d j : Nat) (x : Int64), j + d = 32 → post (on_it w d x) → wX_onesCovering_5 post w (d + 1) x (nI j) := by
  intro d
  induction d with
  | zero =>
    intro j x hj H
    exact br_t ((xb_le32 (by omega)).mpr (by omega)) H
  | succ d ih =>
    intro j x hj H
    refine br_f (by rw [xb_le32 (by omega)]; omega) ?_
    rw [on_it] at H
    by_cases z : w ≤ x
    · rw [if_pos z] at H
      exact br_t z (nm_r (nI_1 j) (ih (j + 1) x (by omega) H))
    · rw [if_neg z] at H
      exact br_f z (nm_e (nm_r (nI_1 j) (ih (j + 1) _ (by omega) H)))
theorem xv_ones {post : Int64 → Prop} {w : Int64} (H : post (on_it w 32 0)) : wpX_onesCovering post w := ⟨33, xv_onesL 32 0 0 rfl H⟩
theorem xv_combine {post : SX → Prop} {f d q : Nat} (h1 : 1 ≤ f) (h6 : f ≤ 6) (hd : d < 16) (hq : q < 16) (H : post (x_safe, x_at, x_exitLeast, x_exitMost, x_branches, x_faultPlace, x_provedLeast, x_provedMost, x_packetLength, x_executed, x_ops, x_targets, x_sources, x_offsets, x_immediates, x_lengths, x_kinds, vp_updL x_los d (ab_l (cb_l (nI f) (x_los d) (x_his d) (x_los q) (x_his q)) (cb_h (nI f) (x_los d) (x_his d) (x_los q) (x_his q))), vp_updL x_his d (ab_h (cb_l (nI f) (x_los d) (x_his d) (x_los q) (x_his q)) (cb_h (nI f) (x_los d) (x_his d) (x_los q) (x_his q))), x_reached, x_branchAt, x_branchSafe, x_branchKinds, x_branchLos, x_branchHis, x_packet, x_registers, x_cells, x_keyWords, x_keyTaken)) : wpX_combine post (x_safe, x_at, x_exitLeast, x_exitMost, x_branches, x_faultPlace, x_provedLeast, x_provedMost, x_packetLength, x_executed, x_ops, x_targets, x_sources, x_offsets, x_immediates, x_lengths, x_kinds, x_los, x_his, x_reached, x_branchAt, x_branchSafe, x_branchKinds, x_branchLos, x_branchHis, x_packet, x_registers, x_cells, x_keyWords, x_keyTaken) (nI f) (nI d) (nI q) := by
  have e : f = 1 ∨ f = 2 ∨ f = 3 ∨ f = 4 ∨ f = 5 ∨ f = 6 := by omega
  simp (disch := omega) only [wpX_combine, forall_eq, true_and, and_true, true_implies, not_true_eq_false, false_implies, not_false_eq_true, implies_true, and_self, nI_add, nI_1, nI_clamp, vp_in_nI, xb_10, xb_bt, xb_bf]
  rcases e with rfl | rfl | rfl | rfl | rfl | rfl
  · rw [← xb_L1] at H ⊢
    simp (disch := omega) [xv_words, cb_l, cb_h] at H ⊢
    exact H
  · rw [← xb_L2] at H ⊢
    simp (disch := omega) [xv_words, cb_l, cb_h] at H ⊢
    exact H
  · rw [← xb_L3] at H ⊢
    simp (disch := omega) [xv_words, cb_l, cb_h] at H ⊢
    exact H
  · rw [← xb_L4] at H ⊢
    simp (disch := omega) [xv_words, cb_l, cb_h, wX_combine_140] at H ⊢
    by_cases z : x_his q ≤ x_his d
    · simp (disch := omega) [z] at H
      exact ⟨fun _ => H, fun y => absurd z (Int64.not_le.mpr y)⟩
    · simp (disch := omega) [z] at H
      exact ⟨fun y => absurd y z, fun _ => H⟩
  · rw [← xb_L5] at H ⊢
    simp (disch := omega) [cb_l, cb_h] at H ⊢
    refine xv_ones ?_
    by_cases z : x_los d ≤ x_los q
    · refine ⟨fun _ => ?_, fun y => absurd z (Int64.not_le.mpr y)⟩
      simp (disch := omega) [z, wX_combine_173, xv_words] at H ⊢
      exact H
    · refine ⟨fun y => absurd y z, fun _ => ?_⟩
      simp (disch := omega) [z, wX_combine_173, xv_words] at H ⊢
      exact H
  · rw [← xb_L6] at H ⊢
    simp (disch := omega) [cb_l, cb_h] at H ⊢
    by_cases z : x_los q = x_his q
    · simp (disch := omega) [z, wX_combine_203, wX_combine_221, wX_combine_236, xv_words, sh_r] at H ⊢
      exact H
    · simp (disch := omega) [z, wX_combine_203, wX_combine_221, wX_combine_236, xv_words, sh_r] at H ⊢
      exact H
end
