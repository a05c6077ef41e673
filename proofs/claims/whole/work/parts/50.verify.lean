theorem pk_least (P : Nat → Prop) (h : ∃ k, P k) : ∃ k, P k ∧ ∀ j, j < k → ¬ P j := by
  obtain ⟨k, hk⟩ := h
  induction k using Nat.strongRecOn with
  | ind k ih =>
    by_cases e : ∃ j, j < k ∧ P j
    · obtain ⟨j, hj, pj⟩ := e
      exact ih j hj pj
    · exact ⟨k, hk, fun j hj pj => e ⟨j, hj, pj⟩⟩
theorem cd_X {o : Int32} (h : ok_ o) : cd_ o ↔ ((o / 10 = 2 ∨ o / 10 = 3) ∧ ¬ o = 20) := by
  rcases h with ⟨f, h⟩ | h | ⟨f, h⟩ | h | h | h
  · constructor
    · intro z; exact absurd z (cd_oa h)
    · rintro ⟨z, -⟩; exact absurd z (nj_no (Or.inl ⟨f, h⟩)).2
  · rw [h]; unfold cd_; decide
  · constructor
    · intro _; exact ⟨(nj_oj h).2, (oj_f h).2.2.1⟩
    · intro _; exact cd_oj h
  · rcases h with rfl | rfl | rfl <;> unfold cd_ <;> decide
  · rcases h with rfl | rfl | rfl <;> unfold cd_ <;> decide
  · rw [h]; unfold cd_; decide
section
variable {x_safe : Int64} {x_at : Int32} {x_exitLeast : Int64} {x_exitMost : Int64} {x_branches : Int32} {x_faultPlace : Int32} {x_provedLeast : Int64} {x_provedMost : Int64} {x_packetLength : Int32} {x_executed : Int32} {x_ops : Nat → Int32} {x_targets : Nat → Int32} {x_sources : Nat → Int32} {x_offsets : Nat → Int32} {x_immediates : Nat → Int32} {x_lengths : Nat → Int32} {x_kinds : Nat → Int32} {x_los : Nat → Int64} {x_his : Nat → Int64} {x_reached : Nat → Int32} {x_branchAt : Nat → Int32} {x_branchSafe : Nat → Int64} {x_branchKinds : Nat → Int32} {x_branchLos : Nat → Int64} {x_branchHis : Nat → Int64} {x_packet : Nat → Int32} {x_registers : Nat → Int64} {x_cells : Nat → Int64} {x_keyWords : Nat → Int64} {x_keyTaken : Nat → Int32}
theorem xs_surL {post : Int32 → Prop} {n : Nat} (hn : n ≤ 40) (hl : x_lengths 2 = nI n) (hok : ∀ j, ok_ (x_ops j)) (A : ∀ m, m < n → cd_ (x_ops (80 + m)) → cj_ x_ops n m = 10 → post (nI m)) (B : cj_ x_ops n n ≤ 10 → post (-1)) : ∀ d j c : Nat, j + d = n → c = cj_ x_ops n j → c ≤ 10 → wX_placeOfSurplusJump_4 post x_safe x_at x_exitLeast x_exitMost x_branches x_faultPlace x_provedLeast x_provedMost x_packetLength x_executed x_ops x_targets x_sources x_offsets x_immediates x_lengths x_kinds x_los x_his x_reached x_branchAt x_branchSafe x_branchKinds x_branchLos x_branchHis x_packet x_registers x_cells x_keyWords x_keyTaken (d + 1) (nI c) (nI j) := by
  intro d
  induction d with
  | zero =>
    intro j c hj hc h10
    have : j = n := by omega
    subst this
    exact br_t (by rw [hl, nI_leI (by omega) (by omega)]; omega) (B (by omega))
  | succ d ih =>
    intro j c hj hc h10
    have v : vp_in (80 + nI j) 120 := by rw [xb_add80]; exact vp_in_nI (by omega) (by decide)
    have cl : (80 + nI j).toNatClampNeg = 80 + j := by rw [xb_add80]; exact nI_clamp (by omega)
    have X := cd_X (hok (80 + j))
    have nx : ¬ cd_ (x_ops (80 + j)) → wX_placeOfSurplusJump_41 post (wX_placeOfSurplusJump_4 post x_safe x_at x_exitLeast x_exitMost x_branches x_faultPlace x_provedLeast x_provedMost x_packetLength x_executed x_ops x_targets x_sources x_offsets x_immediates x_lengths x_kinds x_los x_his x_reached x_branchAt x_branchSafe x_branchKinds x_branchLos x_branchHis x_packet x_registers x_cells x_keyWords x_keyTaken (d + 1)) (nI c) (nI j) x_safe x_at x_exitLeast x_exitMost x_branches x_faultPlace x_provedLeast x_provedMost x_packetLength x_executed x_ops x_targets x_sources x_offsets x_immediates x_lengths x_kinds x_los x_his x_reached x_branchAt x_branchSafe x_branchKinds x_branchLos x_branchHis x_packet x_registers x_cells x_keyWords x_keyTaken := by
      intro z
      refine br_t rfl (br_t rfl (nm_r (nI_1 j) (ih (j + 1) c (by omega) ?_ h10)))
      rw [cj_f z]; exact hc
    refine br_f (by rw [hl, nI_leI (by omega) (by omega)]; omega) ⟨v, nm_r (e' := x_ops (80 + j)) (by rw [cl]) (xv_isJump.mpr ?_)⟩
    by_cases q : x_ops (80 + j) / 10 = 2 ∨ x_ops (80 + j) / 10 = 3
    · rw [if_pos q]
      refine br_f (by decide) (br_c (fun z => nx (fun w => (X.mp w).2 z)) (fun z => ?_))
      have cd := X.mpr ⟨q, z⟩
      refine br_f (by decide) (br_c (fun y => A j (by omega) cd ?_) (fun y => br_f (by decide) (nm_r (nI_1 c) (nm_r (nI_1 j) (ih (j + 1) (c + 1) (by omega) ?_ ?_)))))
      · rw [xb_eq10 (by omega)] at y; omega
      · rw [cj_t (by omega) cd]; omega
      · rw [xb_eq10 (by omega)] at y; omega
    · rw [if_neg q]
      exact br_t rfl (nx (fun w => q (X.mp w).1))
theorem xs_sur {post : Int32 → Prop} {n : Nat} (hn : n ≤ 40) (hl : x_lengths 2 = nI n) (hok : ∀ j, ok_ (x_ops j)) (A : ∀ m, m < n → cd_ (x_ops (80 + m)) → cj_ x_ops n m = 10 → post (nI m)) (B : cj_ x_ops n n ≤ 10 → post (-1)) : wpX_placeOfSurplusJump post (x_safe, x_at, x_exitLeast, x_exitMost, x_branches, x_faultPlace, x_provedLeast, x_provedMost, x_packetLength, x_executed, x_ops, x_targets, x_sources, x_offsets, x_immediates, x_lengths, x_kinds, x_los, x_his, x_reached, x_branchAt, x_branchSafe, x_branchKinds, x_branchLos, x_branchHis, x_packet, x_registers, x_cells, x_keyWords, x_keyTaken) := ⟨n + 1, xs_surL hn hl hok A B n 0 0 (by omega) rfl (by omega)⟩
theorem xs_unrL {post : Int32 → Prop} {n : Nat} (hn : n ≤ 40) (hl : x_lengths 2 = nI n) (A : ∀ m, m < n → x_reached m = 0 → (∀ j, j < m → ¬ x_reached j = 0) → post (nI m)) (B : (∀ j, j < n → ¬ x_reached j = 0) → post (-1)) : ∀ d j : Nat, j + d = n → (∀ i, i < j → ¬ x_reached i = 0) → wX_placeOfUnreached_2 post x_safe x_at x_exitLeast x_exitMost x_branches x_faultPlace x_provedLeast x_provedMost x_packetLength x_executed x_ops x_targets x_sources x_offsets x_immediates x_lengths x_kinds x_los x_his x_reached x_branchAt x_branchSafe x_branchKinds x_branchLos x_branchHis x_packet x_registers x_cells x_keyWords x_keyTaken (d + 1) (nI j) := by
  intro d
  induction d with
  | zero =>
    intro j hj h
    exact br_t (by rw [hl, nI_leI (by omega) (by omega)]; omega) (B (fun i hi => h i (by omega)))
  | succ d ih =>
    intro j hj h
    refine br_f (by rw [hl, nI_leI (by omega) (by omega)]; omega) ⟨vp_in_nI (by omega) (by decide), ?_⟩
    rw [nI_clamp (n := j) (by omega)]
    refine br_c (fun z => A j (by omega) z h) (fun z => nm_r (nI_1 j) (ih (j + 1) (by omega) (fun i hi => ?_)))
    by_cases y : i = j
    · rw [y]; exact z
    · exact h i (by omega)
theorem xs_unr {post : Int32 → Prop} {n : Nat} (hn : n ≤ 40) (hl : x_lengths 2 = nI n) (A : ∀ m, m < n → x_reached m = 0 → (∀ j, j < m → ¬ x_reached j = 0) → post (nI m)) (B : (∀ j, j < n → ¬ x_reached j = 0) → post (-1)) : wpX_placeOfUnreached post (x_safe, x_at, x_exitLeast, x_exitMost, x_branches, x_faultPlace, x_provedLeast, x_provedMost, x_packetLength, x_executed, x_ops, x_targets, x_sources, x_offsets, x_immediates, x_lengths, x_kinds, x_los, x_his, x_reached, x_branchAt, x_branchSafe, x_branchKinds, x_branchLos, x_branchHis, x_packet, x_registers, x_cells, x_keyWords, x_keyTaken) := ⟨n + 1, xs_unrL hn hl A B n 0 (by omega) (fun i hi => absurd hi (by omega))⟩
end
section
variable {y_place : Int32} {y_least : Int64} {y_most : Int64} {y_smallest : Int64} {y_greatest : Int64} {y_ways : Int32} {y_fault : Int32} {y_base : Int32} {y_otherKind : Int32} {y_otherLo : Int64} {y_otherHi : Int64} {y_low : Int64} {y_high : Int64} {y_bytes : Int32} {y_steps : Int32} {y_op : Nat → Int32} {y_first : Nat → Int32} {y_second : Nat → Int32} {y_offset : Nat → Int32} {y_given : Nat → Int32} {y_length : Nat → Int32} {y_there : Nat → Int32} {y_known : Nat → Int32} {y_lo : Nat → Int64} {y_hi : Nat → Int64} {y_at : Nat → Int32} {y_lookups : Nat → Int32} {y_safe : Nat → Int32} {y_met : Nat → Int32} {y_tag : Nat → Int32} {y_word : Nat → Int64} {y_packet : Nat → Int32} {y_keys : Nat → Int64} {y_values : Nat → Int64} {y_many : Nat → Int32}
theorem ys_surL {post : Int32 → SY → Prop} {n : Nat} {p : Int32} (hn : n ≤ 40) (f0 : y_fault = 0) (A : ∀ m met', m < n → cd_ (y_op (80 + m)) → cj_ y_op n m = 10 → wY_verify_97 post p (nI n) (nI m) y_least y_most y_smallest y_greatest y_ways 5 y_base y_otherKind y_otherLo y_otherHi y_low y_high y_bytes y_steps y_op y_first y_second y_offset y_given y_length y_there y_known y_lo y_hi y_at y_lookups y_safe met' y_tag y_word y_packet y_keys y_values y_many) (B : cj_ y_op n n ≤ 10 → ∀ met', (∀ j, j < n → met' j = 0) → wY_verify_97 post p (nI n) y_place y_least y_most y_smallest y_greatest y_ways y_fault y_base y_otherKind y_otherLo y_otherHi y_low y_high y_bytes y_steps y_op y_first y_second y_offset y_given y_length y_there y_known y_lo y_hi y_at y_lookups y_safe met' y_tag y_word y_packet y_keys y_values y_many) : ∀ (d j c : Nat) (met : Nat → Int32), j + d = n → c = cj_ y_op n j → c ≤ 10 → (∀ i, i < j → met i = 0) → wY_verify_42 post p (nI n) (d + 2) (nI c) (nI j) y_place y_least y_most y_smallest y_greatest y_ways y_fault y_base y_otherKind y_otherLo y_otherHi y_low y_high y_bytes y_steps y_op y_first y_second y_offset y_given y_length y_there y_known y_lo y_hi y_at y_lookups y_safe met y_tag y_word y_packet y_keys y_values y_many := by
  intro d
  induction d with
  | zero =>
    intro j c met hj hc h10 hm
    have : j = n := by omega
    subst this
    exact br_t (nI_le (Nat.le_refl _) (by omega)) (B (by omega) met hm)
  | succ d ih =>
    intro j c met hj hc h10 hm
    have v : vp_in (80 + nI j) 120 := by rw [xb_add80]; exact vp_in_nI (by omega) (by decide)
    have cl : (80 + nI j).toNatClampNeg = 80 + j := by rw [xb_add80]; exact nI_clamp (by omega)
    have hm' : ∀ i, i < j + 1 → upd met j 0 i = 0 := by
      intro i hi
      by_cases z : i = j
      · rw [z, pk_us]
      · rw [pk_un z]; exact hm i (by omega)
    have nx : ¬ cd_ (y_op (80 + j)) → wY_verify_42 post p (nI n) (d + 2) (nI c) (nI (j + 1)) y_place y_least y_most y_smallest y_greatest y_ways y_fault y_base y_otherKind y_otherLo y_otherHi y_low y_high y_bytes y_steps y_op y_first y_second y_offset y_given y_length y_there y_known y_lo y_hi y_at y_lookups y_safe (upd met j 0) y_tag y_word y_packet y_keys y_values y_many := by
      intro z
      exact ih (j + 1) c _ (by omega) (by rw [cj_f z]; exact hc) h10 hm'
    refine br_f (by rw [nI_leI (by omega) (by omega)]; omega) (br_t f0 ⟨vp_in_nI (by omega) (by decide), nm_r (e' := upd met j 0) (by rw [nI_clamp (by omega), xb_bf]) ⟨v, ?_⟩⟩)
    rw [cl]
    refine br_c (fun z => br_t rfl (nm_r (nI_1 j) (nx (fun w => w.1 z)))) (fun z => ⟨v, br_c (fun y => br_t rfl (nm_r (nI_1 j) (nx (fun w => w.2 y)))) (fun y => br_f (by decide) (nm_r (nI_1 c) ?_))⟩)
    have cd : cd_ (y_op (80 + j)) := ⟨z, y⟩
    refine br_c (fun x => ?_) (fun x => nm_r (nI_1 j) (ih (j + 1) (c + 1) _ (by omega) ?_ ?_ hm'))
    · have c10 : c = 10 := by
        have : nI (c + 1) = nI 11 := x
        rw [nI_eq (by omega) (by omega)] at this; omega
      have G := A j (upd met j 0) (by omega) cd (by omega)
      refine nm_r (nI_1 j) ?_
      exact br_c (fun _ => G) (fun _ => br_f (by show ¬ (5 : Int32) = 0; decide) G)
    · rw [cj_t (by omega) cd]; omega
    · have : ¬ nI (c + 1) = nI 11 := x
      rw [nI_eq (by omega) (by omega)] at this; omega
theorem ys_148F {post : Int32 → SY → Prop} {n : Nat} {p : Int32} (f0 : ¬ y_fault = 0) (H : post y_fault (y_place, y_least, y_most, y_smallest, y_greatest, y_ways, y_fault, y_base, y_otherKind, y_otherLo, y_otherHi, y_low, y_high, y_bytes, y_steps, y_op, y_first, y_second, y_offset, y_given, y_length, y_there, y_known, y_lo, y_hi, y_at, y_lookups, y_safe, y_met, y_tag, y_word, y_packet, y_keys, y_values, y_many)) : wY_verify_148 post p (nI n) y_place y_least y_most y_smallest y_greatest y_ways y_fault y_base y_otherKind y_otherLo y_otherHi y_low y_high y_bytes y_steps y_op y_first y_second y_offset y_given y_length y_there y_known y_lo y_hi y_at y_lookups y_safe y_met y_tag y_word y_packet y_keys y_values y_many := br_f f0 H
theorem ys_97F {post : Int32 → SY → Prop} {n : Nat} {p : Int32} (f0 : ¬ y_fault = 0) (H : post y_fault (y_place, y_least, y_most, y_smallest, y_greatest, y_ways, y_fault, y_base, y_otherKind, y_otherLo, y_otherHi, y_low, y_high, y_bytes, y_steps, y_op, y_first, y_second, y_offset, y_given, y_length, y_there, y_known, y_lo, y_hi, y_at, y_lookups, y_safe, y_met, y_tag, y_word, y_packet, y_keys, y_values, y_many)) : wY_verify_97 post p (nI n) y_place y_least y_most y_smallest y_greatest y_ways y_fault y_base y_otherKind y_otherLo y_otherHi y_low y_high y_bytes y_steps y_op y_first y_second y_offset y_given y_length y_there y_known y_lo y_hi y_at y_lookups y_safe y_met y_tag y_word y_packet y_keys y_values y_many :=
  br_f f0 ⟨1, br_c (fun _ => ys_148F f0 H) (fun _ => br_f f0 (ys_148F f0 H))⟩
theorem ys_unrL {post : Int32 → SY → Prop} {n : Nat} {p : Int32} (hn : n ≤ 40) (f0 : y_fault = 0) (A : ∀ m, m < n → y_met m = 0 → (∀ j, j < m → ¬ y_met j = 0) → post 6 (nI m, y_least, y_most, y_smallest, y_greatest, y_ways, 6, y_base, y_otherKind, y_otherLo, y_otherHi, y_low, y_high, y_bytes, y_steps, y_op, y_first, y_second, y_offset, y_given, y_length, y_there, y_known, y_lo, y_hi, y_at, y_lookups, y_safe, y_met, y_tag, y_word, y_packet, y_keys, y_values, y_many)) (B : (∀ j, j < n → ¬ y_met j = 0) → wY_verify_148 post p (nI n) y_place y_least y_most y_smallest y_greatest y_ways y_fault y_base y_otherKind y_otherLo y_otherHi y_low y_high y_bytes y_steps y_op y_first y_second y_offset y_given y_length y_there y_known y_lo y_hi y_at y_lookups y_safe y_met y_tag y_word y_packet y_keys y_values y_many) : ∀ d j : Nat, j + d = n → (∀ i, i < j → ¬ y_met i = 0) → wY_verify_111 post p (nI n) (d + 2) (nI j) y_place y_least y_most y_smallest y_greatest y_ways y_fault y_base y_otherKind y_otherLo y_otherHi y_low y_high y_bytes y_steps y_op y_first y_second y_offset y_given y_length y_there y_known y_lo y_hi y_at y_lookups y_safe y_met y_tag y_word y_packet y_keys y_values y_many := by
  intro d
  induction d with
  | zero =>
    intro j hj h
    exact br_t (by rw [nI_leI (by omega) (by omega)]; omega) (B (fun i hi => h i (by omega)))
  | succ d ih =>
    intro j hj h
    refine br_f (by rw [nI_leI (by omega) (by omega)]; omega) (br_t f0 ⟨vp_in_nI (by omega) (by decide), ?_⟩)
    rw [nI_clamp (n := j) (by omega)]
    refine br_c (fun z => nm_r (nI_1 j) ?_) (fun z => nm_r (nI_1 j) (ih (j + 1) (by omega) (fun i hi => ?_)))
    · have G := A j (by omega) z h
      have n6 : ¬ (6 : Int32) = 0 := by decide
      exact br_c (fun _ => ys_148F (y_fault := 6) n6 G) (fun _ => br_f n6 (ys_148F (y_fault := 6) n6 G))
    · by_cases y : i = j
      · rw [y]; exact z
      · exact h i (by omega)
/-- a byte of a program's rows -/
def by_ (A : Nat → Int32) : Prop := ∀ j, vp_nar .byte (A j) = A j
theorem by_cp {A : Nat → Int32} {p m : Nat} (h : by_ A) : by_ (cp_ A p m) := by
  intro j; unfold cp_; split <;> exact h _
theorem ys_keepL {post : Int32 → SY → Prop} {p n : Nat} (hp : p < 2) (hn : n ≤ 40) (b1 : by_ y_op) (b2 : by_ y_first) (b3 : by_ y_second) (H : post 0 (y_place, y_least, y_most, y_smallest, y_greatest, y_ways, y_fault, y_base, y_otherKind, y_otherLo, y_otherHi, y_low, y_high, y_bytes, y_steps, cp_ y_op p n, cp_ y_first p n, cp_ y_second p n, cp_ y_offset p n, cp_ y_given p n, y_length, y_there, y_known, y_lo, y_hi, y_at, y_lookups, y_safe, y_met, y_tag, y_word, y_packet, y_keys, y_values, y_many)) : ∀ d m : Nat, m + d = n → wY_verify_199 post (nI p) (nI n) y_place y_least y_most y_smallest y_greatest y_ways y_fault y_base y_otherKind y_otherLo y_otherHi y_low y_high y_bytes y_steps (d + 1) (nI m) (cp_ y_op p m) (cp_ y_first p m) (cp_ y_second p m) (cp_ y_offset p m) (cp_ y_given p m) y_length y_there y_known y_lo y_hi y_at y_lookups y_safe y_met y_tag y_word y_packet y_keys y_values y_many := by
  intro d
  induction d with
  | zero =>
    intro m hm
    have e : m = n := by omega
    subst e
    exact br_t (nI_le (Nat.le_refl _) (by omega)) H
  | succ d ih =>
    intro m hm
    have e1 : 80 + nI m = nI (80 + m) := xb_add80 m
    have e2 : 40 * nI p + nI m = nI (40 * p + m) := by rw [xb_mul40, nI_add]
    have v1 : vp_in (80 + nI m) 120 := by rw [e1]; exact vp_in_nI (by omega) (by decide)
    have v2 : vp_in (40 * nI p + nI m) 120 := by rw [e2]; exact vp_in_nI (by omega) (by decide)
    have c1 : (80 + nI m).toNatClampNeg = 80 + m := by rw [e1]; exact nI_clamp (by omega)
    have c2 : (40 * nI p + nI m).toNatClampNeg = 40 * p + m := by rw [e2]; exact nI_clamp (by omega)
    refine br_f (by rw [nI_leI (by omega) (by omega)]; omega) ⟨v1, v2, nm_r (by rw [c1, c2, by_cp b1 _, cp_s _ hp (by omega)]) ⟨v1, v2, nm_r (by rw [c1, c2, by_cp b2 _, cp_s _ hp (by omega)]) ⟨v1, v2, nm_r (by rw [c1, c2, by_cp b3 _, cp_s _ hp (by omega)]) ⟨v1, v2, nm_r (by rw [c1, c2, cp_s _ hp (by omega)]) ⟨v1, v2, nm_r (by rw [c1, c2, cp_s _ hp (by omega)]) (nm_r (nI_1 m) (ih (m + 1) (by omega)))⟩⟩⟩⟩⟩
theorem ys_keep {post : Int32 → SY → Prop} {p n : Nat} (hp : p < 2) (hn : n ≤ 40) (f0 : y_fault = 0) (b1 : by_ y_op) (b2 : by_ y_first) (b3 : by_ y_second) (H : post 0 (-1, y_smallest, y_greatest, y_smallest, y_greatest, y_ways, y_fault, y_base, y_otherKind, y_otherLo, y_otherHi, y_low, y_high, y_bytes, y_steps, cp_ y_op p n, cp_ y_first p n, cp_ y_second p n, cp_ y_offset p n, cp_ y_given p n, upd y_length p (nI n), upd y_there p 1, y_known, y_lo, y_hi, y_at, y_lookups, y_safe, y_met, y_tag, y_word, y_packet, y_keys, y_values, y_many)) : wY_verify_148 post (nI p) (nI n) y_place y_least y_most y_smallest y_greatest y_ways y_fault y_base y_otherKind y_otherLo y_otherHi y_low y_high y_bytes y_steps y_op y_first y_second y_offset y_given y_length y_there y_known y_lo y_hi y_at y_lookups y_safe y_met y_tag y_word y_packet y_keys y_values y_many := by
  have cp : (nI p).toNatClampNeg = p := nI_clamp (by omega)
  refine br_t f0 ⟨vp_in_nI hp (by decide), nm_r (e' := upd y_there p 1) (by rw [cp, xb_bt]) ⟨vp_in_nI (by omega) (by decide), nm_r (e' := upd y_length p (nI n)) (by rw [cp, xb_nb (by omega), xb_vb (by omega)]) ⟨n + 1, ?_⟩⟩⟩
  have := ys_keepL (y_place := -1) (y_least := y_smallest) (y_most := y_greatest) (y_there := upd y_there p 1) (y_length := upd y_length p (nI n)) hp hn b1 b2 b3 H n 0 (by omega)
  rw [cp_0, cp_0, cp_0, cp_0, cp_0] at this
  exact this
/-- the start of Y's paths -/
theorem ys_fol7 {post : SY → Prop} (H : ∀ (kn : Nat → Int32) (lo hi : Nat → Int64), Fr_ K0_ (fun _ => 0) (fun _ => 0) kn lo hi 0 0 → ∃ n69, wY_follow_69 post n69 y_place y_least y_most y_smallest y_greatest 1 y_fault (nI 0) y_otherKind y_otherLo y_otherHi y_low y_high y_bytes y_steps y_op y_first y_second y_offset y_given y_length y_there kn lo hi (upd y_at 0 0) (upd y_lookups 0 0) (upd y_safe 0 0) y_met y_tag y_word y_packet y_keys y_values y_many) : ∀ (d m : Nat) (kn : Nat → Int32) (lo hi : Nat → Int64), m + d = 14 → (∀ r, r < m → kn r = 0) → wY_follow_7 post (d + 1) (nI m) y_place y_least y_most y_smallest y_greatest y_ways y_fault (nI 0) y_otherKind y_otherLo y_otherHi y_low y_high y_bytes y_steps y_op y_first y_second y_offset y_given y_length y_there kn lo hi y_at y_lookups y_safe y_met y_tag y_word y_packet y_keys y_values y_many := by
  intro d
  induction d with
  | zero =>
    intro m kn lo hi hm hk
    have e : m = 14 := by omega
    subst e
    refine br_t (by decide) ((yv_set (B := 0) (r := 1) (by decide) (by unfold k7_; simp)).mpr ((yv_set (B := 0) (r := 2) (by decide) (by unfold k7_; simp)).mpr (nm_r (e' := upd y_at 0 0) (by rw [xb_b0]) (nm_r (e' := upd y_safe 0 0) (by rw [xb_s0]) (nm_r (e' := upd y_lookups 0 0) (by rw [xb_b0]) (H _ _ _ ?_))))))
    intro r hr
    by_cases r1 : r = 1
    · subst r1; exact T_2
    · by_cases r2 : r = 2
      · subst r2; exact ⟨rfl, fun z => absurd z (by decide), fun z => absurd z (by decide), fun z => absurd z (by decide)⟩
      · have eK : K0_ (g_ r) = 0 := by
          unfold K0_
          rw [if_neg, if_neg, if_neg (g_8 r)]
          · unfold g_; split <;> omega
          · unfold g_; split <;> omega
        rw [eK, pk_un (by omega), pk_un (by omega), show 0 + r = r from by omega, hk r hr]
        exact T_0
  | succ d ih =>
    intro m kn lo hi hm hk
    refine br_f (by rw [xb_le14 (by omega)]; omega) ((yv_set (B := 0) (by omega) (Or.inl rfl)).mpr (nm_r (nI_1 m) (ih (m + 1) _ _ _ (by omega) (fun r hr => ?_))))
    by_cases z : r = 0 + m
    · rw [z, pk_us]
    · rw [pk_un z]; exact hk r (by omega)
theorem ys_follow {post : SY → Prop} (H : ∀ (kn : Nat → Int32) (lo hi : Nat → Int64), Fr_ K0_ (fun _ => 0) (fun _ => 0) kn lo hi 0 0 → ∃ n69, wY_follow_69 post n69 y_place y_least y_most y_smallest y_greatest 1 y_fault (nI 0) y_otherKind y_otherLo y_otherHi y_low y_high y_bytes y_steps y_op y_first y_second y_offset y_given y_length y_there kn lo hi (upd y_at 0 0) (upd y_lookups 0 0) (upd y_safe 0 0) y_met y_tag y_word y_packet y_keys y_values y_many) : wpY_follow post (y_place, y_least, y_most, y_smallest, y_greatest, y_ways, y_fault, y_base, y_otherKind, y_otherLo, y_otherHi, y_low, y_high, y_bytes, y_steps, y_op, y_first, y_second, y_offset, y_given, y_length, y_there, y_known, y_lo, y_hi, y_at, y_lookups, y_safe, y_met, y_tag, y_word, y_packet, y_keys, y_values, y_many) := ⟨15, ys_fol7 H 14 0 y_known y_lo y_hi rfl (fun r hr => absurd hr (by omega))⟩
end
theorem WF_0 : WF_ K0_ (fun _ => 0) (fun _ => 0) 0 := by
  refine ⟨fun j hj => ?_, rfl, rfl, fun j hj => ⟨?_, rfl, rfl⟩, 0, by omega, rfl⟩
  · unfold K0_
    split
    · exact wf_2 ⟨0, 0, by omega, by omega, rfl, rfl⟩
    · split
      · exact ⟨by unfold k7_; simp, fun z => absurd z (by decide), fun z => absurd z (by decide), fun z => absurd z (by decide)⟩
      · split
        · exact wf_45 (Or.inl rfl)
        · exact wf_0
  · unfold K0_
    rw [if_neg (by omega), if_neg (by omega), if_neg (by omega)]
