def far_ (f : Int32) : Prop := f < -100 ∨ ¬ f ≤ 100
def bb_ (l h S : Int64) (f : Int32) : Prop := far_ f ∨ l + f.toInt64 < 0 ∨ ¬ h + f.toInt64 < S
def cc_ (k : Int32) (l : Int64) (f : Int32) : Prop := far_ f ∨ l + f.toInt64 < 0 ∨ ¬ l + f.toInt64 < (if k = 4 then lN 6 else lN 2)
def wi_ (K : Nat → Int32) (m j : Nat) : Prop := j < m ∧ ((1 ≤ j ∧ j ≤ 5) ∨ K j = 5 ∨ K j = 6)
noncomputable def mK_ (K : Nat → Int32) (m : Nat) : Nat → Int32 := fun j => @ite _ (wi_ K m j) (Classical.propDecidable _) 0 (K j)
noncomputable def mL_ (K : Nat → Int32) (L : Nat → Int64) (m : Nat) : Nat → Int64 := fun j => @ite _ (wi_ K m j) (Classical.propDecidable _) 0 (L j)
theorem mK_0 (K : Nat → Int32) : mK_ K 0 = K := by funext j; unfold mK_; exact if_neg (fun h => absurd h.1 (by omega))
theorem mL_0 (K : Nat → Int32) (L : Nat → Int64) : mL_ K L 0 = L := by funext j; unfold mL_; exact if_neg (fun h => absurd h.1 (by omega))
theorem mK_at (K : Nat → Int32) (m : Nat) : mK_ K m m = K m := by unfold mK_; exact if_neg (fun h => absurd h.1 (by omega))
theorem mK_t {K : Nat → Int32} {m : Nat} (h : wi_ K (m + 1) m) : upd (mK_ K m) m 0 = mK_ K (m + 1) := by
  funext j; unfold upd mK_
  by_cases e : j = m
  · subst e; rw [if_pos rfl]; exact (if_pos h).symm
  · rw [if_neg e]
    by_cases w : wi_ K m j
    · rw [if_pos w]; exact (if_pos ⟨by have := w.1; omega, w.2⟩).symm
    · rw [if_neg w]; exact (if_neg (fun z => w ⟨by have := z.1; omega, z.2⟩)).symm
theorem mL_t {K : Nat → Int32} {L : Nat → Int64} {m : Nat} (h : wi_ K (m + 1) m) : vp_updL (mL_ K L m) m 0 = mL_ K L (m + 1) := by
  funext j; unfold vp_updL mL_
  by_cases e : j = m
  · subst e; rw [if_pos rfl]; exact (if_pos h).symm
  · rw [if_neg e]
    by_cases w : wi_ K m j
    · rw [if_pos w]; exact (if_pos ⟨by have := w.1; omega, w.2⟩).symm
    · rw [if_neg w]; exact (if_neg (fun z => w ⟨by have := z.1; omega, z.2⟩)).symm
theorem mK_f {K : Nat → Int32} {m : Nat} (h : ¬ wi_ K (m + 1) m) : mK_ K m = mK_ K (m + 1) := by
  funext j; unfold mK_
  by_cases w : wi_ K m j
  · rw [if_pos w]; exact (if_pos ⟨by have := w.1; omega, w.2⟩).symm
  · rw [if_neg w]
    refine (if_neg (fun z => ?_)).symm
    by_cases e : j = m
    · subst e; exact h z
    · exact w ⟨by have := z.1; omega, z.2⟩
theorem mL_f {K : Nat → Int32} {L : Nat → Int64} {m : Nat} (h : ¬ wi_ K (m + 1) m) : mL_ K L m = mL_ K L (m + 1) := by
  funext j; unfold mL_
  by_cases w : wi_ K m j
  · rw [if_pos w]; exact (if_pos ⟨by have := w.1; omega, w.2⟩).symm
  · rw [if_neg w]
    refine (if_neg (fun z => ?_)).symm
    by_cases e : j = m
    · subst e; exact h z
    · exact w ⟨by have := z.1; omega, z.2⟩
section
variable {x_safe : Int64} {x_at : Int32} {x_exitLeast : Int64} {x_exitMost : Int64} {x_branches : Int32} {x_faultPlace : Int32} {x_provedLeast : Int64} {x_provedMost : Int64} {x_packetLength : Int32} {x_executed : Int32} {x_ops : Nat → Int32} {x_targets : Nat → Int32} {x_sources : Nat → Int32} {x_offsets : Nat → Int32} {x_immediates : Nat → Int32} {x_lengths : Nat → Int32} {x_kinds : Nat → Int32} {x_los : Nat → Int64} {x_his : Nat → Int64} {x_reached : Nat → Int32} {x_branchAt : Nat → Int32} {x_branchSafe : Nat → Int64} {x_branchKinds : Nat → Int32} {x_branchLos : Nat → Int64} {x_branchHis : Nat → Int64} {x_packet : Nat → Int32} {x_registers : Nat → Int64} {x_cells : Nat → Int64} {x_keyWords : Nat → Int64} {x_keyTaken : Nat → Int32}
theorem xv_byteK {post : Int32 → SX → Prop} {i s : Nat} (hi : i < 120) (hs : s < 16) (es : x_sources i = nI s) (k : ¬ x_kinds s = 2) (H : post 3 (x_safe, x_at, x_exitLeast, x_exitMost, x_branches, x_faultPlace, x_provedLeast, x_provedMost, x_packetLength, x_executed, x_ops, x_targets, x_sources, x_offsets, x_immediates, x_lengths, x_kinds, x_los, x_his, x_reached, x_branchAt, x_branchSafe, x_branchKinds, x_branchLos, x_branchHis, x_packet, x_registers, x_cells, x_keyWords, x_keyTaken)) : wpX_checkByte post (x_safe, x_at, x_exitLeast, x_exitMost, x_branches, x_faultPlace, x_provedLeast, x_provedMost, x_packetLength, x_executed, x_ops, x_targets, x_sources, x_offsets, x_immediates, x_lengths, x_kinds, x_los, x_his, x_reached, x_branchAt, x_branchSafe, x_branchKinds, x_branchLos, x_branchHis, x_packet, x_registers, x_cells, x_keyWords, x_keyTaken) (nI i) := by
  simp (disch := omega) only [wpX_checkByte, forall_eq, true_and, and_true, true_implies, not_true_eq_false, false_implies, not_false_eq_true, implies_true, and_self, nI_add, nI_1, nI_clamp, vp_in_nI, xb_10, xb_bt, xb_bf, es, k]
  exact H
theorem xv_byteB {post : Int32 → SX → Prop} {i s : Nat} (hi : i < 120) (hs : s < 16) (es : x_sources i = nI s) (k : x_kinds s = 2) (b : bb_ (x_los s) (x_his s) x_safe (x_offsets i)) (H : post 4 (x_safe, x_at, x_exitLeast, x_exitMost, x_branches, x_faultPlace, x_provedLeast, x_provedMost, x_packetLength, x_executed, x_ops, x_targets, x_sources, x_offsets, x_immediates, x_lengths, x_kinds, x_los, x_his, x_reached, x_branchAt, x_branchSafe, x_branchKinds, x_branchLos, x_branchHis, x_packet, x_registers, x_cells, x_keyWords, x_keyTaken)) : wpX_checkByte post (x_safe, x_at, x_exitLeast, x_exitMost, x_branches, x_faultPlace, x_provedLeast, x_provedMost, x_packetLength, x_executed, x_ops, x_targets, x_sources, x_offsets, x_immediates, x_lengths, x_kinds, x_los, x_his, x_reached, x_branchAt, x_branchSafe, x_branchKinds, x_branchLos, x_branchHis, x_packet, x_registers, x_cells, x_keyWords, x_keyTaken) (nI i) := by
  simp (disch := omega) only [wpX_checkByte, forall_eq, true_and, and_true, true_implies, not_true_eq_false, false_implies, not_false_eq_true, implies_true, and_self, nI_add, nI_1, nI_clamp, vp_in_nI, xb_10, xb_bt, xb_bf, es, k]
  refine xv_far (fun _ => br_f (by decide) H) (fun nf => br_t rfl ?_)
  rcases b with b | b | b
  · exact absurd b nf
  · simp (disch := omega) only [b, forall_eq, true_and, and_true, true_implies, not_true_eq_false, false_implies, not_false_eq_true, implies_true, and_self, nI_add, nI_1, nI_clamp, vp_in_nI, xb_10, xb_bt, xb_bf]; exact H
  · simp (disch := omega) only [b, forall_eq, true_and, and_true, true_implies, not_true_eq_false, false_implies, not_false_eq_true, implies_true, and_self, nI_add, nI_1, nI_clamp, vp_in_nI, xb_10, xb_bt, xb_bf]; exact ⟨fun _ => H, fun _ => H⟩
theorem xv_byteO {post : Int32 → SX → Prop} {i s d : Nat} (hi : i < 120) (hs : s < 16) (hd : d < 16) (es : x_sources i = nI s) (ed : x_targets i = nI d) (k : x_kinds s = 2) (b : ¬ bb_ (x_los s) (x_his s) x_safe (x_offsets i)) (H : post 0 (x_safe, x_at, x_exitLeast, x_exitMost, x_branches, x_faultPlace, x_provedLeast, x_provedMost, x_packetLength, x_executed, x_ops, x_targets, x_sources, x_offsets, x_immediates, x_lengths, upd x_kinds d 1, vp_updL x_los d 0, vp_updL x_his d 255, x_reached, x_branchAt, x_branchSafe, x_branchKinds, x_branchLos, x_branchHis, x_packet, x_registers, x_cells, x_keyWords, x_keyTaken)) : wpX_checkByte post (x_safe, x_at, x_exitLeast, x_exitMost, x_branches, x_faultPlace, x_provedLeast, x_provedMost, x_packetLength, x_executed, x_ops, x_targets, x_sources, x_offsets, x_immediates, x_lengths, x_kinds, x_los, x_his, x_reached, x_branchAt, x_branchSafe, x_branchKinds, x_branchLos, x_branchHis, x_packet, x_registers, x_cells, x_keyWords, x_keyTaken) (nI i) := by
  simp (disch := omega) only [wpX_checkByte, forall_eq, true_and, and_true, true_implies, not_true_eq_false, false_implies, not_false_eq_true, implies_true, and_self, nI_add, nI_1, nI_clamp, vp_in_nI, xb_10, xb_bt, xb_bf, es, ed, k]
  have b1 : ¬ x_los s + (x_offsets i).toInt64 < 0 := fun z => b (Or.inr (Or.inl z))
  have b2 : x_his s + (x_offsets i).toInt64 < x_safe := Classical.byContradiction fun z => b (Or.inr (Or.inr z))
  refine xv_far (fun z => absurd (Or.inl z) b) (fun nf => br_t rfl ?_)
  simp (disch := omega) only [b1, b2, forall_eq, true_and, and_true, true_implies, not_true_eq_false, false_implies, not_false_eq_true, implies_true, and_self, nI_add, nI_1, nI_clamp, vp_in_nI, xb_10, xb_bt, xb_bf, xv_know]
  exact H
theorem xv_cellK {post : Int32 → SX → Prop} {i p : Nat} (hi : i < 120) (hp : p < 16) (ep : (if x_ops i = 41 then x_targets i else x_sources i) = nI p) (k : ¬ x_kinds p = 4 ∧ ¬ x_kinds p = 5) (H : post 3 (x_safe, x_at, x_exitLeast, x_exitMost, x_branches, x_faultPlace, x_provedLeast, x_provedMost, x_packetLength, x_executed, x_ops, x_targets, x_sources, x_offsets, x_immediates, x_lengths, x_kinds, x_los, x_his, x_reached, x_branchAt, x_branchSafe, x_branchKinds, x_branchLos, x_branchHis, x_packet, x_registers, x_cells, x_keyWords, x_keyTaken)) : wpX_checkCell post (x_safe, x_at, x_exitLeast, x_exitMost, x_branches, x_faultPlace, x_provedLeast, x_provedMost, x_packetLength, x_executed, x_ops, x_targets, x_sources, x_offsets, x_immediates, x_lengths, x_kinds, x_los, x_his, x_reached, x_branchAt, x_branchSafe, x_branchKinds, x_branchLos, x_branchHis, x_packet, x_registers, x_cells, x_keyWords, x_keyTaken) (nI i) := by
  have w : wX_checkCell_26 post (nI i) (nI p) x_safe x_at x_exitLeast x_exitMost x_branches x_faultPlace x_provedLeast x_provedMost x_packetLength x_executed x_ops x_targets x_sources x_offsets x_immediates x_lengths x_kinds x_los x_his x_reached x_branchAt x_branchSafe x_branchKinds x_branchLos x_branchHis x_packet x_registers x_cells x_keyWords x_keyTaken := by
    simp (disch := omega) only [wX_checkCell_26, forall_eq, true_and, and_true, true_implies, not_true_eq_false, false_implies, not_false_eq_true, implies_true, and_self, nI_add, nI_1, nI_clamp, vp_in_nI, xb_10, xb_bt, xb_bf, k]
    exact H
  simp (disch := omega) only [wpX_checkCell, forall_eq, true_and, and_true, true_implies, not_true_eq_false, false_implies, not_false_eq_true, implies_true, and_self, nI_add, nI_1, nI_clamp, vp_in_nI, xb_10, xb_bt, xb_bf]
  by_cases z : x_ops i = 41
  · simp only [z, if_true, forall_eq, true_and, and_true, true_implies, not_true_eq_false, false_implies, not_false_eq_true, implies_true, and_self] at ep ⊢; rw [ep]; exact w
  · simp only [z, if_false, forall_eq, true_and, and_true, true_implies, not_true_eq_false, false_implies, not_false_eq_true, implies_true, and_self] at ep ⊢; rw [ep]; exact w
theorem xv_cellG {post : Int32 → SX → Prop} {i p : Nat} (hi : i < 120) (hp : p < 16) (ep : (if x_ops i = 41 then x_targets i else x_sources i) = nI p) (k : x_kinds p = 4 ∨ x_kinds p = 5) (H : wX_checkCell_64 post (nI i) (nI p) (if x_kinds p = 4 then 1 else 0) x_safe x_at x_exitLeast x_exitMost x_branches x_faultPlace x_provedLeast x_provedMost x_packetLength x_executed x_ops x_targets x_sources x_offsets x_immediates x_lengths x_kinds x_los x_his x_reached x_branchAt x_branchSafe x_branchKinds x_branchLos x_branchHis x_packet x_registers x_cells x_keyWords x_keyTaken) : wpX_checkCell post (x_safe, x_at, x_exitLeast, x_exitMost, x_branches, x_faultPlace, x_provedLeast, x_provedMost, x_packetLength, x_executed, x_ops, x_targets, x_sources, x_offsets, x_immediates, x_lengths, x_kinds, x_los, x_his, x_reached, x_branchAt, x_branchSafe, x_branchKinds, x_branchLos, x_branchHis, x_packet, x_registers, x_cells, x_keyWords, x_keyTaken) (nI i) := by
  have w : wX_checkCell_26 post (nI i) (nI p) x_safe x_at x_exitLeast x_exitMost x_branches x_faultPlace x_provedLeast x_provedMost x_packetLength x_executed x_ops x_targets x_sources x_offsets x_immediates x_lengths x_kinds x_los x_his x_reached x_branchAt x_branchSafe x_branchKinds x_branchLos x_branchHis x_packet x_registers x_cells x_keyWords x_keyTaken := by
    have y : ¬ (5 : Int32) = 4 := by decide
    simp (disch := omega) only [wX_checkCell_26, wX_checkCell_49, forall_eq, true_and, and_true, true_implies, not_true_eq_false, false_implies, not_false_eq_true, implies_true, and_self, nI_add, nI_1, nI_clamp, vp_in_nI, xb_10, xb_bt, xb_bf]
    rcases k with k | k
    · simp only [k, if_true, forall_eq, true_and, and_true, true_implies, not_true_eq_false, false_implies, not_false_eq_true, implies_true, and_self] at H ⊢; exact H
    · simp only [k, y, if_false, forall_eq, true_and, and_true, true_implies, not_true_eq_false, false_implies, not_false_eq_true, implies_true, and_self] at H ⊢; exact H
  simp (disch := omega) only [wpX_checkCell, forall_eq, true_and, and_true, true_implies, not_true_eq_false, false_implies, not_false_eq_true, implies_true, and_self, nI_add, nI_1, nI_clamp, vp_in_nI, xb_10, xb_bt, xb_bf]
  by_cases z : x_ops i = 41
  · simp only [z, if_true, forall_eq, true_and, and_true, true_implies, not_true_eq_false, false_implies, not_false_eq_true, implies_true, and_self] at ep ⊢; rw [ep]; exact w
  · simp only [z, if_false, forall_eq, true_and, and_true, true_implies, not_true_eq_false, false_implies, not_false_eq_true, implies_true, and_self] at ep ⊢; rw [ep]; exact w
theorem xv_cellB {post : Int32 → SX → Prop} {i p : Nat} (hi : i < 120) (hp : p < 16) (ep : (if x_ops i = 41 then x_targets i else x_sources i) = nI p) (k : x_kinds p = 4 ∨ x_kinds p = 5) (b : cc_ (x_kinds p) (x_los p) (x_offsets i)) (H : post 4 (x_safe, x_at, x_exitLeast, x_exitMost, x_branches, x_faultPlace, x_provedLeast, x_provedMost, x_packetLength, x_executed, x_ops, x_targets, x_sources, x_offsets, x_immediates, x_lengths, x_kinds, x_los, x_his, x_reached, x_branchAt, x_branchSafe, x_branchKinds, x_branchLos, x_branchHis, x_packet, x_registers, x_cells, x_keyWords, x_keyTaken)) : wpX_checkCell post (x_safe, x_at, x_exitLeast, x_exitMost, x_branches, x_faultPlace, x_provedLeast, x_provedMost, x_packetLength, x_executed, x_ops, x_targets, x_sources, x_offsets, x_immediates, x_lengths, x_kinds, x_los, x_his, x_reached, x_branchAt, x_branchSafe, x_branchKinds, x_branchLos, x_branchHis, x_packet, x_registers, x_cells, x_keyWords, x_keyTaken) (nI i) := by
  refine xv_cellG hi hp ep k ?_
  have e6 : (6 : Int32).toInt64 = lN 6 := by decide
  have e2 : (2 : Int32).toInt64 = lN 2 := by decide
  simp (disch := omega) only [wX_checkCell_64, forall_eq, true_and, and_true, true_implies, not_true_eq_false, false_implies, not_false_eq_true, implies_true, and_self, nI_add, nI_1, nI_clamp, vp_in_nI, xb_10, xb_bt, xb_bf]
  refine xv_far (fun _ => br_f (by decide) H) (fun nf => br_t rfl (br_c (fun _ => H) (fun n0 => ?_)))
  rcases b with b | b | b
  · exact absurd b nf
  · exact absurd b n0
  · by_cases z : x_kinds p = 4
    · simp only [z, if_true] at b ⊢
      refine br_f (by decide) (br_f (by rw [e6]; exact b) H)
    · simp only [z, if_false] at b ⊢
      refine br_t (by trivial) (br_f (by rw [e2]; exact b) H)
theorem xv_cell112 {post : Int32 → SX → Prop} {i p c : Nat} (hi : i < 120) (hp : p < 16) (ep : (if x_ops i = 41 then x_targets i else x_sources i) = nI p) (k : x_kinds p = 4 ∨ x_kinds p = 5) (b : ¬ far_ (x_offsets i)) (ec : x_los p + (x_offsets i).toInt64 = lN c) (hc : c < (if x_kinds p = 4 then 6 else 2)) (H : ∀ x6, x6 = nI (10 + c) → vp_in (nI i) 120 ∧ ((x_ops i = 41 → (((if x_kinds p = 4 then (1 : Int32) else 0) = 0 → (vp_in (nI i) 120 ∧ (wpX_checkValueStore (fun r_87 => (post r_87 (x_safe, x_at, x_exitLeast, x_exitMost, x_branches, x_faultPlace, x_provedLeast, x_provedMost, x_packetLength, x_executed, x_ops, x_targets, x_sources, x_offsets, x_immediates, x_lengths, x_kinds, x_los, x_his, x_reached, x_branchAt, x_branchSafe, x_branchKinds, x_branchLos, x_branchHis, x_packet, x_registers, x_cells, x_keyWords, x_keyTaken))) (x_safe, x_at, x_exitLeast, x_exitMost, x_branches, x_faultPlace, x_provedLeast, x_provedMost, x_packetLength, x_executed, x_ops, x_targets, x_sources, x_offsets, x_immediates, x_lengths, x_kinds, x_los, x_his, x_reached, x_branchAt, x_branchSafe, x_branchKinds, x_branchLos, x_branchHis, x_packet, x_registers, x_cells, x_keyWords, x_keyTaken) (x_sources i)))) ∧ (¬ (if x_kinds p = 4 then (1 : Int32) else 0) = 0 → (vp_in (nI i) 120 ∧ (wpX_checkStackStore post (x_safe, x_at, x_exitLeast, x_exitMost, x_branches, x_faultPlace, x_provedLeast, x_provedMost, x_packetLength, x_executed, x_ops, x_targets, x_sources, x_offsets, x_immediates, x_lengths, x_kinds, x_los, x_his, x_reached, x_branchAt, x_branchSafe, x_branchKinds, x_branchLos, x_branchHis, x_packet, x_registers, x_cells, x_keyWords, x_keyTaken) x6 (x_sources i)))))) ∧ (¬ x_ops i = 41 → (((if x_kinds p = 4 then (1 : Int32) else 0) = 0 → (vp_in (nI i) 120 ∧ (wpX_checkValueLoad post (x_safe, x_at, x_exitLeast, x_exitMost, x_branches, x_faultPlace, x_provedLeast, x_provedMost, x_packetLength, x_executed, x_ops, x_targets, x_sources, x_offsets, x_immediates, x_lengths, x_kinds, x_los, x_his, x_reached, x_branchAt, x_branchSafe, x_branchKinds, x_branchLos, x_branchHis, x_packet, x_registers, x_cells, x_keyWords, x_keyTaken) (x_targets i)))) ∧ (¬ (if x_kinds p = 4 then (1 : Int32) else 0) = 0 → (vp_in (nI i) 120 ∧ (wpX_checkStackLoad post (x_safe, x_at, x_exitLeast, x_exitMost, x_branches, x_faultPlace, x_provedLeast, x_provedMost, x_packetLength, x_executed, x_ops, x_targets, x_sources, x_offsets, x_immediates, x_lengths, x_kinds, x_los, x_his, x_reached, x_branchAt, x_branchSafe, x_branchKinds, x_branchLos, x_branchHis, x_packet, x_registers, x_cells, x_keyWords, x_keyTaken) (x_targets i) x6))))))) : wpX_checkCell post (x_safe, x_at, x_exitLeast, x_exitMost, x_branches, x_faultPlace, x_provedLeast, x_provedMost, x_packetLength, x_executed, x_ops, x_targets, x_sources, x_offsets, x_immediates, x_lengths, x_kinds, x_los, x_his, x_reached, x_branchAt, x_branchSafe, x_branchKinds, x_branchLos, x_branchHis, x_packet, x_registers, x_cells, x_keyWords, x_keyTaken) (nI i) := by
  refine xv_cellG hi hp ep k ?_
  have e6 : (6 : Int32).toInt64 = lN 6 := by decide
  have e2 : (2 : Int32).toInt64 = lN 2 := by decide
  simp (disch := omega) only [wX_checkCell_64, forall_eq, true_and, and_true, true_implies, not_true_eq_false, false_implies, not_false_eq_true, implies_true, and_self, nI_add, nI_1, nI_clamp, vp_in_nI, xb_10, xb_bt, xb_bf]
  have c6 : c < 6 := by split at hc <;> omega
  have n0 : ¬ lN c < 0 := by
    have : ¬ lN c < lN 0 := by rw [pk_lLT (by omega) (by omega)]; omega
    exact this
  refine xv_far (fun z => absurd z b) (fun nf => br_t rfl ?_)
  rw [ec]
  refine br_f n0 ?_
  have G := H (nI (10 + c)) rfl
  by_cases z : x_kinds p = 4
  · simp only [z, if_true] at hc G ⊢
    refine br_f (by decide) (br_t (by rw [e6, pk_lLT (by omega) (by omega)]; exact hc) ?_)
    refine nm_r (e' := nI (10 + c)) (by rw [lN_i, xb_add10]) ?_
    simp (disch := omega) only [forall_eq, true_and, and_true, true_implies, not_true_eq_false, false_implies, not_false_eq_true, implies_true, and_self, nI_add, nI_1, nI_clamp, vp_in_nI, xb_10, xb_bt, xb_bf] at G ⊢
    exact G
  · simp only [z, if_false] at hc G ⊢
    refine br_t (by trivial) (br_t (by rw [e2, pk_lLT (by omega) (by omega)]; exact hc) ?_)
    refine nm_r (e' := nI (10 + c)) (by rw [lN_i, xb_add10]) ?_
    simp (disch := omega) only [forall_eq, true_and, and_true, true_implies, not_true_eq_false, false_implies, not_false_eq_true, implies_true, and_self, nI_add, nI_1, nI_clamp, vp_in_nI, xb_10, xb_bt, xb_bf] at G ⊢
    exact G
theorem xv_cellSS {post : Int32 → SX → Prop} {i p c s : Nat} (hi : i < 120) (hp : p < 16) (hs : s < 16) (o : x_ops i = 41) (ep : x_targets i = nI p) (es : x_sources i = nI s) (k : x_kinds p = 4) (b : ¬ far_ (x_offsets i)) (ec : x_los p + (x_offsets i).toInt64 = lN c) (hc : c < 6) (H : post 0 (x_safe, x_at, x_exitLeast, x_exitMost, x_branches, x_faultPlace, x_provedLeast, x_provedMost, x_packetLength, x_executed, x_ops, x_targets, x_sources, x_offsets, x_immediates, x_lengths, upd x_kinds (10 + c) (x_kinds s), vp_updL x_los (10 + c) (x_los s), vp_updL x_his (10 + c) (x_his s), x_reached, x_branchAt, x_branchSafe, x_branchKinds, x_branchLos, x_branchHis, x_packet, x_registers, x_cells, x_keyWords, x_keyTaken)) : wpX_checkCell post (x_safe, x_at, x_exitLeast, x_exitMost, x_branches, x_faultPlace, x_provedLeast, x_provedMost, x_packetLength, x_executed, x_ops, x_targets, x_sources, x_offsets, x_immediates, x_lengths, x_kinds, x_los, x_his, x_reached, x_branchAt, x_branchSafe, x_branchKinds, x_branchLos, x_branchHis, x_packet, x_registers, x_cells, x_keyWords, x_keyTaken) (nI i) := by
  refine xv_cell112 hi hp (by rw [if_pos o]; exact ep) (Or.inl k) b ec (by rw [if_pos k]; exact hc) (nm_e ?_)
  have z : ¬ (1 : Int32) = 0 := by decide
  simp (disch := omega) only [forall_eq, true_and, and_true, true_implies, not_true_eq_false, false_implies, not_false_eq_true, implies_true, and_self, nI_add, nI_1, nI_clamp, vp_in_nI, xb_10, xb_bt, xb_bf, o, k, z, if_true, es, wpX_checkStackStore, xv_copy]
  exact H
theorem xv_cellVS {post : Int32 → SX → Prop} {i p c s : Nat} (hi : i < 120) (hp : p < 16) (hs : s < 16) (o : x_ops i = 41) (ep : x_targets i = nI p) (es : x_sources i = nI s) (k : x_kinds p = 5) (b : ¬ far_ (x_offsets i)) (ec : x_los p + (x_offsets i).toInt64 = lN c) (hc : c < 2) (A : x_kinds s = 1 → post 0 (x_safe, x_at, x_exitLeast, x_exitMost, x_branches, x_faultPlace, x_provedLeast, x_provedMost, x_packetLength, x_executed, x_ops, x_targets, x_sources, x_offsets, x_immediates, x_lengths, x_kinds, x_los, x_his, x_reached, x_branchAt, x_branchSafe, x_branchKinds, x_branchLos, x_branchHis, x_packet, x_registers, x_cells, x_keyWords, x_keyTaken)) (B : ¬ x_kinds s = 1 → post 3 (x_safe, x_at, x_exitLeast, x_exitMost, x_branches, x_faultPlace, x_provedLeast, x_provedMost, x_packetLength, x_executed, x_ops, x_targets, x_sources, x_offsets, x_immediates, x_lengths, x_kinds, x_los, x_his, x_reached, x_branchAt, x_branchSafe, x_branchKinds, x_branchLos, x_branchHis, x_packet, x_registers, x_cells, x_keyWords, x_keyTaken)) : wpX_checkCell post (x_safe, x_at, x_exitLeast, x_exitMost, x_branches, x_faultPlace, x_provedLeast, x_provedMost, x_packetLength, x_executed, x_ops, x_targets, x_sources, x_offsets, x_immediates, x_lengths, x_kinds, x_los, x_his, x_reached, x_branchAt, x_branchSafe, x_branchKinds, x_branchLos, x_branchHis, x_packet, x_registers, x_cells, x_keyWords, x_keyTaken) (nI i) := by
  have y : ¬ (5 : Int32) = 4 := by decide
  refine xv_cell112 hi hp (by rw [if_pos o]; exact ep) (Or.inr k) b ec (by rw [k, if_neg y]; exact hc) (nm_e ?_)
  simp (disch := omega) only [forall_eq, true_and, and_true, true_implies, not_true_eq_false, false_implies, not_false_eq_true, implies_true, and_self, nI_add, nI_1, nI_clamp, vp_in_nI, xb_10, xb_bt, xb_bf, o, k, y, if_false, es, wpX_checkValueStore]
  exact ⟨A, B⟩
theorem xv_cellSL {post : Int32 → SX → Prop} {i p c d : Nat} (hi : i < 120) (hp : p < 16) (hd : d < 16) (o : ¬ x_ops i = 41) (ep : x_sources i = nI p) (ed : x_targets i = nI d) (k : x_kinds p = 4) (b : ¬ far_ (x_offsets i)) (ec : x_los p + (x_offsets i).toInt64 = lN c) (hc : c < 6) (A : x_kinds (10 + c) = 0 → post 2 (x_safe, x_at, x_exitLeast, x_exitMost, x_branches, x_faultPlace, x_provedLeast, x_provedMost, x_packetLength, x_executed, x_ops, x_targets, x_sources, x_offsets, x_immediates, x_lengths, x_kinds, x_los, x_his, x_reached, x_branchAt, x_branchSafe, x_branchKinds, x_branchLos, x_branchHis, x_packet, x_registers, x_cells, x_keyWords, x_keyTaken)) (B : ¬ x_kinds (10 + c) = 0 → post 0 (x_safe, x_at, x_exitLeast, x_exitMost, x_branches, x_faultPlace, x_provedLeast, x_provedMost, x_packetLength, x_executed, x_ops, x_targets, x_sources, x_offsets, x_immediates, x_lengths, upd x_kinds d (x_kinds (10 + c)), vp_updL x_los d (x_los (10 + c)), vp_updL x_his d (x_his (10 + c)), x_reached, x_branchAt, x_branchSafe, x_branchKinds, x_branchLos, x_branchHis, x_packet, x_registers, x_cells, x_keyWords, x_keyTaken)) : wpX_checkCell post (x_safe, x_at, x_exitLeast, x_exitMost, x_branches, x_faultPlace, x_provedLeast, x_provedMost, x_packetLength, x_executed, x_ops, x_targets, x_sources, x_offsets, x_immediates, x_lengths, x_kinds, x_los, x_his, x_reached, x_branchAt, x_branchSafe, x_branchKinds, x_branchLos, x_branchHis, x_packet, x_registers, x_cells, x_keyWords, x_keyTaken) (nI i) := by
  refine xv_cell112 hi hp (by rw [if_neg o]; exact ep) (Or.inl k) b ec (by rw [if_pos k]; exact hc) (nm_e ?_)
  have z : ¬ (1 : Int32) = 0 := by decide
  simp (disch := omega) only [forall_eq, true_and, and_true, true_implies, not_true_eq_false, false_implies, not_false_eq_true, implies_true, and_self, nI_add, nI_1, nI_clamp, vp_in_nI, xb_10, xb_bt, xb_bf, o, k, z, if_true, ed, wpX_checkStackLoad, xv_copy]
  exact ⟨A, B⟩
theorem xv_cellVL {post : Int32 → SX → Prop} {i p c d : Nat} (hi : i < 120) (hp : p < 16) (hd : d < 16) (o : ¬ x_ops i = 41) (ep : x_sources i = nI p) (ed : x_targets i = nI d) (k : x_kinds p = 5) (b : ¬ far_ (x_offsets i)) (ec : x_los p + (x_offsets i).toInt64 = lN c) (hc : c < 2) (H : post 0 (x_safe, x_at, x_exitLeast, x_exitMost, x_branches, x_faultPlace, x_provedLeast, x_provedMost, x_packetLength, x_executed, x_ops, x_targets, x_sources, x_offsets, x_immediates, x_lengths, upd x_kinds d 1, vp_updL x_los d 0, vp_updL x_his d 4294967295, x_reached, x_branchAt, x_branchSafe, x_branchKinds, x_branchLos, x_branchHis, x_packet, x_registers, x_cells, x_keyWords, x_keyTaken)) : wpX_checkCell post (x_safe, x_at, x_exitLeast, x_exitMost, x_branches, x_faultPlace, x_provedLeast, x_provedMost, x_packetLength, x_executed, x_ops, x_targets, x_sources, x_offsets, x_immediates, x_lengths, x_kinds, x_los, x_his, x_reached, x_branchAt, x_branchSafe, x_branchKinds, x_branchLos, x_branchHis, x_packet, x_registers, x_cells, x_keyWords, x_keyTaken) (nI i) := by
  have y : ¬ (5 : Int32) = 4 := by decide
  refine xv_cell112 hi hp (by rw [if_neg o]; exact ep) (Or.inr k) b ec (by rw [k, if_neg y]; exact hc) (nm_e ?_)
  simp (disch := omega) only [forall_eq, true_and, and_true, true_implies, not_true_eq_false, false_implies, not_false_eq_true, implies_true, and_self, nI_add, nI_1, nI_clamp, vp_in_nI, xb_10, xb_bt, xb_bf, o, k, y, if_false, ed, wpX_checkValueLoad, xv_know]
  exact H
theorem xv_mapL {post : Int32 → SX → Prop} {o : Int32} (H : post 0 (x_safe, x_at, x_exitLeast, x_exitMost, x_branches, x_faultPlace, x_provedLeast, x_provedMost, x_packetLength, x_executed, x_ops, x_targets, x_sources, x_offsets, x_immediates, x_lengths, upd (mK_ x_kinds 16) 0 (if o = 50 then 6 else 1), vp_updL (mL_ x_kinds x_los 16) 0 0, vp_updL (mL_ x_kinds x_his 16) 0 (if o = 50 then 0 else 1), x_reached, x_branchAt, x_branchSafe, x_branchKinds, x_branchLos, x_branchHis, x_packet, x_registers, x_cells, x_keyWords, x_keyTaken)) : ∀ d m : Nat, m + d = 16 → wX_checkMapCall_42 post o (d + 1) (nI m) x_safe x_at x_exitLeast x_exitMost x_branches x_faultPlace x_provedLeast x_provedMost x_packetLength x_executed x_ops x_targets x_sources x_offsets x_immediates x_lengths (mK_ x_kinds m) (mL_ x_kinds x_los m) (mL_ x_kinds x_his m) x_reached x_branchAt x_branchSafe x_branchKinds x_branchLos x_branchHis x_packet x_registers x_cells x_keyWords x_keyTaken := by
  intro d
  induction d with
  | zero =>
    intro m hm
    have e : m = 16 := by omega
    subst e
    refine br_t (by decide) ?_
    by_cases z : o = 50
    · simp only [z, if_true] at H
      exact br_t z (xv_know0.mpr H)
    · simp only [z, if_false] at H
      exact br_f z (xv_know0.mpr H)
  | succ d ih =>
    intro m hm
    have h1 : vp_in (nI m) 16 := vp_in_nI (by omega) (by decide)
    have c1 : (nI m).toNatClampNeg = m := nI_clamp (by omega)
    refine br_f (by rw [xb_le16 (by omega)]; omega) ?_
    have go : wi_ x_kinds (m + 1) m → wX_checkMapCall_89 post (wX_checkMapCall_42 post o (d + 1)) o (nI m) x_safe x_at x_exitLeast x_exitMost x_branches x_faultPlace x_provedLeast x_provedMost x_packetLength x_executed x_ops x_targets x_sources x_offsets x_immediates x_lengths (mK_ x_kinds m) (mL_ x_kinds x_los m) (mL_ x_kinds x_his m) x_reached x_branchAt x_branchSafe x_branchKinds x_branchLos x_branchHis x_packet x_registers x_cells x_keyWords x_keyTaken := by
      intro w
      unfold wX_checkMapCall_89
      refine (xv_know (by omega)).mpr ?_
      rw [mK_t w, mL_t w, mL_t w]
      exact nm_r (nI_1 m) (ih (m + 1) (by omega))
    have no : ¬ wi_ x_kinds (m + 1) m → wX_checkMapCall_42 post o (d + 1) (nI (m + 1)) x_safe x_at x_exitLeast x_exitMost x_branches x_faultPlace x_provedLeast x_provedMost x_packetLength x_executed x_ops x_targets x_sources x_offsets x_immediates x_lengths (mK_ x_kinds m) (mL_ x_kinds x_los m) (mL_ x_kinds x_his m) x_reached x_branchAt x_branchSafe x_branchKinds x_branchLos x_branchHis x_packet x_registers x_cells x_keyWords x_keyTaken := by
      intro w
      rw [mK_f w, mL_f w, mL_f w]
      exact ih (m + 1) (by omega)
    have w62 : ¬ (1 ≤ m ∧ m ≤ 5) → wX_checkMapCall_62 post (wX_checkMapCall_42 post o (d + 1)) o (nI m) x_safe x_at x_exitLeast x_exitMost x_branches x_faultPlace x_provedLeast x_provedMost x_packetLength x_executed x_ops x_targets x_sources x_offsets x_immediates x_lengths (mK_ x_kinds m) (mL_ x_kinds x_los m) (mL_ x_kinds x_his m) x_reached x_branchAt x_branchSafe x_branchKinds x_branchLos x_branchHis x_packet x_registers x_cells x_keyWords x_keyTaken := by
      intro z
      unfold wX_checkMapCall_62 wX_checkMapCall_63
      refine br_t rfl ⟨h1, br_c (fun a => ?_) (fun a => ⟨h1, br_c (fun b => ?_) (fun b => ?_)⟩)⟩
      · rw [c1, mK_at] at a
        exact go ⟨by omega, Or.inr (Or.inl a)⟩
      · rw [c1, mK_at] at b
        exact go ⟨by omega, Or.inr (Or.inr b)⟩
      · rw [c1, mK_at] at a b
        refine nm_r (nI_1 m) (no ?_)
        rintro ⟨-, y | y | y⟩
        · exact z y
        · exact a y
        · exact b y
    refine br_c (fun a => w62 ?_) (fun a => br_c (fun b => w62 ?_) (fun b => ?_))
    · rw [xb_lt1 (by omega)] at a; omega
    · rw [xb_gt5 (by omega)] at b; omega
    · rw [xb_lt1 (by omega)] at a
      rw [xb_gt5 (by omega)] at b
      unfold wX_checkMapCall_63
      exact br_f (by decide) (go ⟨by omega, Or.inl (by omega)⟩)
theorem xv_map {post : Int32 → SX → Prop} {o : Int32} (k1 : x_kinds 1 = 1) (k2 : o = 51 → x_kinds 2 = 1 ∧ x_kinds 3 = 1) (H : post 0 (x_safe, x_at, x_exitLeast, x_exitMost, x_branches, x_faultPlace, x_provedLeast, x_provedMost, x_packetLength, x_executed, x_ops, x_targets, x_sources, x_offsets, x_immediates, x_lengths, upd (mK_ x_kinds 16) 0 (if o = 50 then 6 else 1), vp_updL (mL_ x_kinds x_los 16) 0 0, vp_updL (mL_ x_kinds x_his 16) 0 (if o = 50 then 0 else 1), x_reached, x_branchAt, x_branchSafe, x_branchKinds, x_branchLos, x_branchHis, x_packet, x_registers, x_cells, x_keyWords, x_keyTaken)) : wpX_checkMapCall post (x_safe, x_at, x_exitLeast, x_exitMost, x_branches, x_faultPlace, x_provedLeast, x_provedMost, x_packetLength, x_executed, x_ops, x_targets, x_sources, x_offsets, x_immediates, x_lengths, x_kinds, x_los, x_his, x_reached, x_branchAt, x_branchSafe, x_branchKinds, x_branchLos, x_branchHis, x_packet, x_registers, x_cells, x_keyWords, x_keyTaken) o := by
  have w : ∃ n42 : Nat, wX_checkMapCall_42 post o n42 0 x_safe x_at x_exitLeast x_exitMost x_branches x_faultPlace x_provedLeast x_provedMost x_packetLength x_executed x_ops x_targets x_sources x_offsets x_immediates x_lengths x_kinds x_los x_his x_reached x_branchAt x_branchSafe x_branchKinds x_branchLos x_branchHis x_packet x_registers x_cells x_keyWords x_keyTaken := by
    refine ⟨17, ?_⟩
    have := xv_mapL H 16 0 rfl
    rw [mK_0, mL_0, mL_0] at this
    exact this
  refine br_t k1 (br_c (fun z => br_t (k2 z).1 (br_t (k2 z).2 w)) (fun z => w))
theorem xv_mapK {post : Int32 → SX → Prop} {o : Int32} (k : ¬ (x_kinds 1 = 1 ∧ (o = 51 → x_kinds 2 = 1 ∧ x_kinds 3 = 1))) (H : post 3 (x_safe, x_at, x_exitLeast, x_exitMost, x_branches, x_faultPlace, x_provedLeast, x_provedMost, x_packetLength, x_executed, x_ops, x_targets, x_sources, x_offsets, x_immediates, x_lengths, x_kinds, x_los, x_his, x_reached, x_branchAt, x_branchSafe, x_branchKinds, x_branchLos, x_branchHis, x_packet, x_registers, x_cells, x_keyWords, x_keyTaken)) : wpX_checkMapCall post (x_safe, x_at, x_exitLeast, x_exitMost, x_branches, x_faultPlace, x_provedLeast, x_provedMost, x_packetLength, x_executed, x_ops, x_targets, x_sources, x_offsets, x_immediates, x_lengths, x_kinds, x_los, x_his, x_reached, x_branchAt, x_branchSafe, x_branchKinds, x_branchLos, x_branchHis, x_packet, x_registers, x_cells, x_keyWords, x_keyTaken) o := by
  by_cases a : x_kinds 1 = 1
  · by_cases b : o = 51
    · by_cases c : x_kinds 2 = 1
      · by_cases d : x_kinds 3 = 1
        · exact absurd ⟨a, fun _ => ⟨c, d⟩⟩ k
        · exact br_t a (br_t b (br_t c (br_f d H)))
      · exact br_t a (br_t b (br_f c H))
    · exact absurd ⟨a, fun z => absurd z b⟩ k
  · exact br_f a H
theorem xv_exit {post : Int32 → SX → Prop} (k : x_kinds 0 = 1) (H : post 0 (x_safe, x_at, if x_exitLeast ≤ x_los 0 then x_exitLeast else x_los 0, if x_his 0 ≤ x_exitMost then x_exitMost else x_his 0, x_branches, x_faultPlace, x_provedLeast, x_provedMost, x_packetLength, x_executed, x_ops, x_targets, x_sources, x_offsets, x_immediates, x_lengths, x_kinds, x_los, x_his, x_reached, x_branchAt, x_branchSafe, x_branchKinds, x_branchLos, x_branchHis, x_packet, x_registers, x_cells, x_keyWords, x_keyTaken)) : wpX_checkExit post (x_safe, x_at, x_exitLeast, x_exitMost, x_branches, x_faultPlace, x_provedLeast, x_provedMost, x_packetLength, x_executed, x_ops, x_targets, x_sources, x_offsets, x_immediates, x_lengths, x_kinds, x_los, x_his, x_reached, x_branchAt, x_branchSafe, x_branchKinds, x_branchLos, x_branchHis, x_packet, x_registers, x_cells, x_keyWords, x_keyTaken) := by
  refine br_t k ?_
  by_cases z : x_exitLeast ≤ x_los 0
  · by_cases y : x_his 0 ≤ x_exitMost
    · simp only [z, y, if_true] at H
      exact br_t z (br_t y H)
    · simp only [z, y, if_true, if_false] at H
      exact br_t z (br_f y (nm_e H))
  · by_cases y : x_his 0 ≤ x_exitMost
    · simp only [z, y, if_true, if_false] at H
      exact br_f z (br_t y H)
    · simp only [z, y, if_false] at H
      exact br_f z (br_f y (nm_e H))
theorem xv_exitK {post : Int32 → SX → Prop} (k : ¬ x_kinds 0 = 1) (H : post 3 (x_safe, x_at, x_exitLeast, x_exitMost, x_branches, x_faultPlace, x_provedLeast, x_provedMost, x_packetLength, x_executed, x_ops, x_targets, x_sources, x_offsets, x_immediates, x_lengths, x_kinds, x_los, x_his, x_reached, x_branchAt, x_branchSafe, x_branchKinds, x_branchLos, x_branchHis, x_packet, x_registers, x_cells, x_keyWords, x_keyTaken)) : wpX_checkExit post (x_safe, x_at, x_exitLeast, x_exitMost, x_branches, x_faultPlace, x_provedLeast, x_provedMost, x_packetLength, x_executed, x_ops, x_targets, x_sources, x_offsets, x_immediates, x_lengths, x_kinds, x_los, x_his, x_reached, x_branchAt, x_branchSafe, x_branchKinds, x_branchLos, x_branchHis, x_packet, x_registers, x_cells, x_keyWords, x_keyTaken) := br_f k H
end
