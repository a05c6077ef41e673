/-- the second operand's slot, and what is known once a constant has been laid into slot 9 -/
def rg_ (o : Int32) : Prop := o / 10 = 1 ∨ o / 10 = 3 ∨ o / 10 = 4
noncomputable def q9_ (o : Int32) (s : Nat) : Nat := @ite _ (rg_ o) (Classical.propDecidable _) s 9
noncomputable def k9_ (o : Int32) (K : Nat → Int32) : Nat → Int32 := @ite _ (rg_ o) (Classical.propDecidable _) K (upd K 9 1)
noncomputable def l9_ (o : Int32) (w : Int64) (L : Nat → Int64) : Nat → Int64 := @ite _ (rg_ o) (Classical.propDecidable _) L (vp_updL L 9 w)
theorem q9_t {o : Int32} {s : Nat} (h : rg_ o) : q9_ o s = s := by unfold q9_; exact if_pos h
theorem q9_f {o : Int32} {s : Nat} (h : ¬ rg_ o) : q9_ o s = 9 := by unfold q9_; exact if_neg h
theorem k9_t {o : Int32} {K : Nat → Int32} (h : rg_ o) : k9_ o K = K := by unfold k9_; exact if_pos h
theorem k9_f {o : Int32} {K : Nat → Int32} (h : ¬ rg_ o) : k9_ o K = upd K 9 1 := by unfold k9_; exact if_neg h
theorem l9_t {o : Int32} {w : Int64} {L : Nat → Int64} (h : rg_ o) : l9_ o w L = L := by unfold l9_; exact if_pos h
theorem l9_f {o : Int32} {w : Int64} {L : Nat → Int64} (h : ¬ rg_ o) : l9_ o w L = vp_updL L 9 w := by unfold l9_; exact if_neg h
def ou_ (o off imm : Int32) : Prop := ((o / 10 = 2 ∨ o / 10 = 3) ∧ ¬ 0 ≤ off) ∨ (o / 10 = 5 ∧ (imm < 0 ∨ ¬ imm < 2))
def un_ (o : Int32) (K : Nat → Int32) (d q : Nat) : Prop := if o = 20 then False else if o = 0 ∨ o = 10 ∨ o = 40 ∨ o = 42 then K q = 0 else if o = 50 ∨ o = 52 then K 1 = 0 else if o = 51 then K 1 = 0 ∨ K 2 = 0 ∨ K 3 = 0 else if o = 60 then K 0 = 0 else K d = 0 ∨ K q = 0
section
variable {x_safe : Int64} {x_at : Int32} {x_exitLeast : Int64} {x_exitMost : Int64} {x_branches : Int32} {x_faultPlace : Int32} {x_provedLeast : Int64} {x_provedMost : Int64} {x_packetLength : Int32} {x_executed : Int32} {x_ops : Nat → Int32} {x_targets : Nat → Int32} {x_sources : Nat → Int32} {x_offsets : Nat → Int32} {x_immediates : Nat → Int32} {x_lengths : Nat → Int32} {x_kinds : Nat → Int32} {x_los : Nat → Int64} {x_his : Nat → Int64} {x_reached : Nat → Int32} {x_branchAt : Nat → Int32} {x_branchSafe : Nat → Int64} {x_branchKinds : Nat → Int32} {x_branchLos : Nat → Int64} {x_branchHis : Nat → Int64} {x_packet : Nat → Int32} {x_registers : Nat → Int64} {x_cells : Nat → Int64} {x_keyWords : Nat → Int64} {x_keyTaken : Nat → Int32}
theorem xv_names {post : Int32 → Prop} {i : Nat} (hi : i < 120) (A : ou_ (x_ops i) (x_offsets i) (x_immediates i) → post 1) (B : ¬ ou_ (x_ops i) (x_offsets i) (x_immediates i) → post 0) : wpX_namesWhatIsNotThere post (x_safe, x_at, x_exitLeast, x_exitMost, x_branches, x_faultPlace, x_provedLeast, x_provedMost, x_packetLength, x_executed, x_ops, x_targets, x_sources, x_offsets, x_immediates, x_lengths, x_kinds, x_los, x_his, x_reached, x_branchAt, x_branchSafe, x_branchKinds, x_branchLos, x_branchHis, x_packet, x_registers, x_cells, x_keyWords, x_keyTaken) (nI i) := by
  simp (disch := omega) only [wpX_namesWhatIsNotThere, forall_eq, true_and, and_true, true_implies, not_true_eq_false, false_implies, not_false_eq_true, implies_true, and_self, nI_add, nI_1, nI_clamp, vp_in_nI, xb_10, xb_bt, xb_bf, xv_isJump]
  unfold ou_ at A B
  by_cases j : x_ops i / 10 = 2 ∨ x_ops i / 10 = 3
  · have n5 : ¬ x_ops i / 10 = 5 := by rcases j with j | j <;> rw [j] <;> decide
    have z10 : ¬ (1 : Int32) = 0 := by decide
    simp only [j, n5, if_true, z10, forall_eq, true_and, and_true, true_implies, not_true_eq_false, false_implies, not_false_eq_true, implies_true, and_self, false_and, or_false] at A B ⊢
    by_cases z : 0 ≤ x_offsets i
    · simp only [z, forall_eq, true_and, and_true, true_implies, not_true_eq_false, false_implies, not_false_eq_true, implies_true, and_self] at A B ⊢; exact B
    · simp only [z, forall_eq, true_and, and_true, true_implies, not_true_eq_false, false_implies, not_false_eq_true, implies_true, and_self] at A B ⊢; exact A
  · simp only [j, if_false, forall_eq, true_and, and_true, true_implies, not_true_eq_false, false_implies, not_false_eq_true, implies_true, and_self, false_and, false_or] at A B ⊢
    by_cases n5 : x_ops i / 10 = 5
    · simp only [n5, forall_eq, true_and, and_true, true_implies, not_true_eq_false, false_implies, not_false_eq_true, implies_true, and_self] at A B ⊢
      by_cases z : x_immediates i < 0
      · simp only [z, forall_eq, true_and, and_true, true_implies, not_true_eq_false, false_implies, not_false_eq_true, implies_true, and_self, true_or] at A B ⊢; exact A
      · by_cases y : x_immediates i < 2
        · simp only [z, y, forall_eq, true_and, and_true, true_implies, not_true_eq_false, false_implies, not_false_eq_true, implies_true, and_self, false_or] at A B ⊢; exact B
        · simp only [z, y, forall_eq, true_and, and_true, true_implies, not_true_eq_false, false_implies, not_false_eq_true, implies_true, and_self, false_or] at A B ⊢; exact A
    · simp only [n5, forall_eq, true_and, and_true, true_implies, not_true_eq_false, false_implies, not_false_eq_true, implies_true, and_self, false_and] at A B ⊢; exact B
theorem xv_second {post : Int32 → SX → Prop} {i s : Nat} (hi : i < 120) (hs : x_sources i = nI s) (H : post (nI (q9_ (x_ops i) s)) (x_safe, x_at, x_exitLeast, x_exitMost, x_branches, x_faultPlace, x_provedLeast, x_provedMost, x_packetLength, x_executed, x_ops, x_targets, x_sources, x_offsets, x_immediates, x_lengths, k9_ (x_ops i) x_kinds, l9_ (x_ops i) ((x_immediates i).toInt64 &&& 4294967295) x_los, l9_ (x_ops i) ((x_immediates i).toInt64 &&& 4294967295) x_his, x_reached, x_branchAt, x_branchSafe, x_branchKinds, x_branchLos, x_branchHis, x_packet, x_registers, x_cells, x_keyWords, x_keyTaken)) : wpX_secondSlot post (x_safe, x_at, x_exitLeast, x_exitMost, x_branches, x_faultPlace, x_provedLeast, x_provedMost, x_packetLength, x_executed, x_ops, x_targets, x_sources, x_offsets, x_immediates, x_lengths, x_kinds, x_los, x_his, x_reached, x_branchAt, x_branchSafe, x_branchKinds, x_branchLos, x_branchHis, x_packet, x_registers, x_cells, x_keyWords, x_keyTaken) (nI i) := by
  simp (disch := omega) only [wpX_secondSlot, forall_eq, true_and, and_true, true_implies, not_true_eq_false, false_implies, not_false_eq_true, implies_true, and_self, nI_add, nI_1, nI_clamp, vp_in_nI, xb_10, xb_bt, xb_bf, hs]
  by_cases r : rg_ (x_ops i)
  · rw [q9_t r, k9_t r, l9_t r, l9_t r] at H
    unfold rg_ at r
    by_cases a : x_ops i / 10 = 1
    · simp only [a, forall_eq, true_and, and_true, true_implies, not_true_eq_false, false_implies, not_false_eq_true, implies_true, and_self]; exact H
    · by_cases b : x_ops i / 10 = 3
      · have z : ¬ (3 : Int32) = 1 := by decide
        simp only [b, z, forall_eq, true_and, and_true, true_implies, not_true_eq_false, false_implies, not_false_eq_true, implies_true, and_self]; exact H
      · have c : x_ops i / 10 = 4 := by rcases r with r | r | r <;> first | exact absurd r a | exact absurd r b | exact r
        have z : ¬ (4 : Int32) = 1 ∧ ¬ (4 : Int32) = 3 := by decide
        simp only [c, z, forall_eq, true_and, and_true, true_implies, not_true_eq_false, false_implies, not_false_eq_true, implies_true, and_self]; exact H
  · rw [q9_f r, k9_f r, l9_f r, l9_f r] at H
    unfold rg_ at r
    have a : ¬ x_ops i / 10 = 1 := fun z => r (Or.inl z)
    have b : ¬ x_ops i / 10 = 3 := fun z => r (Or.inr (Or.inl z))
    have c : ¬ x_ops i / 10 = 4 := fun z => r (Or.inr (Or.inr z))
    simp only [a, b, c, forall_eq, true_and, and_true, true_implies, not_true_eq_false, false_implies, not_false_eq_true, implies_true, and_self, xv_know9]
    exact H
theorem xv_unset {post : Int32 → Prop} {i d q : Nat} (hi : i < 120) (hd : d < 16) (hq : q < 16) (ht : x_targets i = nI d) (A : un_ (x_ops i) x_kinds d q → post 1) (B : ¬ un_ (x_ops i) x_kinds d q → post 0) : wpX_usesUnset post (x_safe, x_at, x_exitLeast, x_exitMost, x_branches, x_faultPlace, x_provedLeast, x_provedMost, x_packetLength, x_executed, x_ops, x_targets, x_sources, x_offsets, x_immediates, x_lengths, x_kinds, x_los, x_his, x_reached, x_branchAt, x_branchSafe, x_branchKinds, x_branchLos, x_branchHis, x_packet, x_registers, x_cells, x_keyWords, x_keyTaken) (nI i) (nI q) := by
  have w90 : ((x_kinds q = 0 → post 1) ∧ (¬ x_kinds q = 0 → post 0)) → wX_usesUnset_90 post (nI q) x_safe x_at x_exitLeast x_exitMost x_branches x_faultPlace x_provedLeast x_provedMost x_packetLength x_executed x_ops x_targets x_sources x_offsets x_immediates x_lengths x_kinds x_los x_his x_reached x_branchAt x_branchSafe x_branchKinds x_branchLos x_branchHis x_packet x_registers x_cells x_keyWords x_keyTaken := by
    intro h
    simp (disch := omega) only [wX_usesUnset_90, forall_eq, true_and, and_true, true_implies, not_true_eq_false, false_implies, not_false_eq_true, implies_true, and_self, nI_add, nI_1, nI_clamp, vp_in_nI, xb_10, xb_bt, xb_bf]
    exact h
  have w1 : ((x_kinds 1 = 0 → post 1) ∧ (¬ x_kinds 1 = 0 → post 0)) → wX_usesUnset_105 post x_safe x_at x_exitLeast x_exitMost x_branches x_faultPlace x_provedLeast x_provedMost x_packetLength x_executed x_ops x_targets x_sources x_offsets x_immediates x_lengths x_kinds x_los x_his x_reached x_branchAt x_branchSafe x_branchKinds x_branchLos x_branchHis x_packet x_registers x_cells x_keyWords x_keyTaken := fun h => h
  simp (disch := omega) only [wpX_usesUnset, forall_eq, true_and, and_true, true_implies, not_true_eq_false, false_implies, not_false_eq_true, implies_true, and_self, nI_add, nI_1, nI_clamp, vp_in_nI, xb_10, xb_bt, xb_bf, ht]
  unfold un_ at A B
  by_cases a : x_ops i = 0
  · simp [a] at A B ⊢; exact w90 ⟨A, B⟩
  · by_cases b : x_ops i = 10
    · simp [b] at A B ⊢; exact w90 ⟨A, B⟩
    · by_cases c : x_ops i = 20
      · simp [c] at A B ⊢; exact B
      · by_cases e : x_ops i = 40
        · simp [e] at A B ⊢; exact w90 ⟨A, B⟩
        · by_cases f : x_ops i = 42
          · simp [f] at A B ⊢; exact w90 ⟨A, B⟩
          · by_cases g : x_ops i = 50
            · simp [g] at A B ⊢; exact w1 ⟨A, B⟩
            · by_cases h : x_ops i = 51
              · simp [h] at A B ⊢
                refine ⟨fun z => A (Or.inl z), fun z => ⟨fun y => A (Or.inr (Or.inl y)), fun y => ⟨fun x => A (Or.inr (Or.inr x)), fun x => B z y x⟩⟩⟩
              · by_cases j : x_ops i = 52
                · simp [j] at A B ⊢; exact w1 ⟨A, B⟩
                · by_cases k : x_ops i = 60
                  · simp [k] at A B ⊢; exact ⟨A, B⟩
                  · simp [a, b, c, e, f, g, h, j, k] at A B ⊢
                    exact ⟨fun z => A (Or.inl z), fun z => ⟨fun y => A (Or.inr y), fun y => B z y⟩⟩
theorem xv_far {post : Int32 → Prop} {f : Int32} (A : f < -100 ∨ ¬ f ≤ 100 → post 1) (B : ¬ (f < -100 ∨ ¬ f ≤ 100) → post 0) : wpX_isFarOffset post f := by
  refine br_c (fun z => A (Or.inl z)) (fun z => br_c (fun y => B ?_) (fun y => A (Or.inr y)))
  rintro (w | w)
  · exact z w
  · exact w y
end
