theorem sx_100 (n : Nat) : (100 : Int32) * nI n = nI (100 * n) := pk_mul 100 n
theorem sx_m1 : ¬ (0 : Int32) ≤ -1 := by decide
theorem sx_uu {f : Nat → Int64} {k : Nat} {x y : Int64} : vp_updL (vp_updL f k x) k y = vp_updL f k y := by
  funext j; unfold vp_updL; split <;> rfl
section
variable {x_safe : Int64} {x_at : Int32} {x_exitLeast : Int64} {x_exitMost : Int64} {x_branches : Int32} {x_faultPlace : Int32} {x_provedLeast : Int64} {x_provedMost : Int64} {x_packetLength : Int32} {x_executed : Int32} {x_ops : Nat → Int32} {x_targets : Nat → Int32} {x_sources : Nat → Int32} {x_offsets : Nat → Int32} {x_immediates : Nat → Int32} {x_lengths : Nat → Int32} {x_kinds : Nat → Int32} {x_los : Nat → Int64} {x_his : Nat → Int64} {x_reached : Nat → Int32} {x_branchAt : Nat → Int32} {x_branchSafe : Nat → Int64} {x_branchKinds : Nat → Int32} {x_branchLos : Nat → Int64} {x_branchHis : Nat → Int64} {x_packet : Nat → Int32} {x_registers : Nat → Int64} {x_cells : Nat → Int64} {x_keyWords : Nat → Int64} {x_keyTaken : Nat → Int32}
theorem xr_mc50 {post : SX → Prop} {m : Nat} (hm : m < 2) (A : ∀ s, 4 * m ≤ s → s < 4 * m + 4 → ¬ x_keyTaken s = 0 → x_keyWords s = x_registers 1 → post (x_safe, x_at, x_exitLeast, x_exitMost, x_branches, x_faultPlace, x_provedLeast, x_provedMost, x_packetLength, x_executed, x_ops, x_targets, x_sources, x_offsets, x_immediates, x_lengths, x_kinds, x_los, x_his, x_reached, x_branchAt, x_branchSafe, x_branchKinds, x_branchLos, x_branchHis, x_packet, vp_updL x_registers 0 (lN (6 + 2 * s)), x_cells, x_keyWords, x_keyTaken)) (B : (∀ s, 4 * m ≤ s → s < 4 * m + 4 → ¬ x_keyTaken s = 0 → ¬ x_keyWords s = x_registers 1) → post (x_safe, x_at, x_exitLeast, x_exitMost, x_branches, x_faultPlace, x_provedLeast, x_provedMost, x_packetLength, x_executed, x_ops, x_targets, x_sources, x_offsets, x_immediates, x_lengths, x_kinds, x_los, x_his, x_reached, x_branchAt, x_branchSafe, x_branchKinds, x_branchLos, x_branchHis, x_packet, vp_updL x_registers 0 0, x_cells, x_keyWords, x_keyTaken)) : wpX_performMapCall post (x_safe, x_at, x_exitLeast, x_exitMost, x_branches, x_faultPlace, x_provedLeast, x_provedMost, x_packetLength, x_executed, x_ops, x_targets, x_sources, x_offsets, x_immediates, x_lengths, x_kinds, x_los, x_his, x_reached, x_branchAt, x_branchSafe, x_branchKinds, x_branchLos, x_branchHis, x_packet, x_registers, x_cells, x_keyWords, x_keyTaken) 50 (nI m) := by
  unfold wpX_performMapCall
  refine xr_slot hm (fun s h1 h2 h3 h4 => ?_) (fun h => ?_)
  · refine br_t rfl (br_t (nI_pos' (by omega)) (nm_r (e' := vp_updL x_registers 0 (lN (6 + 2 * s))) ?_ (A s h1 h2 h3 h4)))
    rw [xb_mur2, xb_add6, nI_l (by omega), Nat.mul_comm]
  · exact br_t rfl (br_f sx_m1 (nm_e (B h)))
theorem xr_mc52 {post : SX → Prop} {m : Nat} (hm : m < 2) (A : ∀ s, 4 * m ≤ s → s < 4 * m + 4 → ¬ x_keyTaken s = 0 → x_keyWords s = x_registers 1 → post (x_safe, x_at, x_exitLeast, x_exitMost, x_branches, x_faultPlace, x_provedLeast, x_provedMost, x_packetLength, x_executed, x_ops, x_targets, x_sources, x_offsets, x_immediates, x_lengths, x_kinds, x_los, x_his, x_reached, x_branchAt, x_branchSafe, x_branchKinds, x_branchLos, x_branchHis, x_packet, vp_updL x_registers 0 1, x_cells, x_keyWords, upd x_keyTaken s 0)) (B : (∀ s, 4 * m ≤ s → s < 4 * m + 4 → ¬ x_keyTaken s = 0 → ¬ x_keyWords s = x_registers 1) → post (x_safe, x_at, x_exitLeast, x_exitMost, x_branches, x_faultPlace, x_provedLeast, x_provedMost, x_packetLength, x_executed, x_ops, x_targets, x_sources, x_offsets, x_immediates, x_lengths, x_kinds, x_los, x_his, x_reached, x_branchAt, x_branchSafe, x_branchKinds, x_branchLos, x_branchHis, x_packet, vp_updL x_registers 0 0, x_cells, x_keyWords, x_keyTaken)) : wpX_performMapCall post (x_safe, x_at, x_exitLeast, x_exitMost, x_branches, x_faultPlace, x_provedLeast, x_provedMost, x_packetLength, x_executed, x_ops, x_targets, x_sources, x_offsets, x_immediates, x_lengths, x_kinds, x_los, x_his, x_reached, x_branchAt, x_branchSafe, x_branchKinds, x_branchLos, x_branchHis, x_packet, x_registers, x_cells, x_keyWords, x_keyTaken) 52 (nI m) := by
  have v0 : vp_in 0 9 := vp_in_nI (n := 0) (by decide) (by decide)
  have c0 : (0 : Int32).toNatClampNeg = 0 := by rfl
  unfold wpX_performMapCall
  refine xr_slot hm (fun s h1 h2 h3 h4 => ?_) (fun h => ?_)
  · exact br_f (by decide) (br_t rfl (br_t (nI_pos' (by omega)) ⟨v0, nm_r (e' := vp_updL x_registers 0 1) (by rw [c0]) (br_f (xb_lt0 (by omega)) ⟨vp_in_nI (by omega) (by decide), nm_r (e' := upd x_keyTaken s 0) (by rw [nI_clamp (by omega), xb_bf]) (A s h1 h2 h3 h4)⟩)⟩))
  · exact br_f (by decide) (br_t rfl (br_f sx_m1 ⟨v0, nm_r (e' := vp_updL x_registers 0 0) (by rw [c0]) (br_t (by decide) (B h))⟩))
theorem xr_mc86 {post : SX → Prop} {s : Nat} (hs : s < 8) (P : post (x_safe, x_at, x_exitLeast, x_exitMost, x_branches, x_faultPlace, x_provedLeast, x_provedMost, x_packetLength, x_executed, x_ops, x_targets, x_sources, x_offsets, x_immediates, x_lengths, x_kinds, x_los, x_his, x_reached, x_branchAt, x_branchSafe, x_branchKinds, x_branchLos, x_branchHis, x_packet, vp_updL x_registers 0 0, vp_updL (vp_updL x_cells (6 + 2 * s) (x_registers 2)) (6 + 2 * s + 1) (x_registers 3), vp_updL x_keyWords s (x_registers 1), upd x_keyTaken s 1)) : wX_performMapCall_86 post (nI s) x_safe x_at x_exitLeast x_exitMost x_branches x_faultPlace x_provedLeast x_provedMost x_packetLength x_executed x_ops x_targets x_sources x_offsets x_immediates x_lengths x_kinds x_los x_his x_reached x_branchAt x_branchSafe x_branchKinds x_branchLos x_branchHis x_packet x_registers x_cells x_keyWords x_keyTaken := by
  have v0 : vp_in 0 9 := vp_in_nI (n := 0) (by decide) (by decide)
  have c0 : (0 : Int32).toNatClampNeg = 0 := by rfl
  refine br_t (nI_pos' (by omega)) ⟨v0, nm_r (e' := vp_updL x_registers 0 0) (by rw [c0]) (br_f (xb_lt0 (by omega)) ?_)⟩
  rw [pk_uLn (by decide), pk_uLn (by decide), pk_uLn (by decide)]
  exact xr_put hs P
theorem xr_mc51 {post : SX → Prop} {m : Nat} (hm : m < 2) (A : ∀ s, 4 * m ≤ s → s < 4 * m + 4 → ¬ x_keyTaken s = 0 → x_keyWords s = x_registers 1 → post (x_safe, x_at, x_exitLeast, x_exitMost, x_branches, x_faultPlace, x_provedLeast, x_provedMost, x_packetLength, x_executed, x_ops, x_targets, x_sources, x_offsets, x_immediates, x_lengths, x_kinds, x_los, x_his, x_reached, x_branchAt, x_branchSafe, x_branchKinds, x_branchLos, x_branchHis, x_packet, vp_updL x_registers 0 0, vp_updL (vp_updL x_cells (6 + 2 * s) (x_registers 2)) (6 + 2 * s + 1) (x_registers 3), vp_updL x_keyWords s (x_registers 1), upd x_keyTaken s 1)) (B : (∀ s, 4 * m ≤ s → s < 4 * m + 4 → ¬ x_keyTaken s = 0 → ¬ x_keyWords s = x_registers 1) → ∀ s, 4 * m ≤ s → s < 4 * m + 4 → x_keyTaken s = 0 → (∀ t, 4 * m ≤ t → t < s → ¬ x_keyTaken t = 0) → post (x_safe, x_at, x_exitLeast, x_exitMost, x_branches, x_faultPlace, x_provedLeast, x_provedMost, x_packetLength, x_executed, x_ops, x_targets, x_sources, x_offsets, x_immediates, x_lengths, x_kinds, x_los, x_his, x_reached, x_branchAt, x_branchSafe, x_branchKinds, x_branchLos, x_branchHis, x_packet, vp_updL x_registers 0 0, vp_updL (vp_updL x_cells (6 + 2 * s) (x_registers 2)) (6 + 2 * s + 1) (x_registers 3), vp_updL x_keyWords s (x_registers 1), upd x_keyTaken s 1)) (C : (∀ s, 4 * m ≤ s → s < 4 * m + 4 → ¬ x_keyTaken s = 0 → ¬ x_keyWords s = x_registers 1) → (∀ s, 4 * m ≤ s → s < 4 * m + 4 → ¬ x_keyTaken s = 0) → post (x_safe, x_at, x_exitLeast, x_exitMost, x_branches, x_faultPlace, x_provedLeast, x_provedMost, x_packetLength, x_executed, x_ops, x_targets, x_sources, x_offsets, x_immediates, x_lengths, x_kinds, x_los, x_his, x_reached, x_branchAt, x_branchSafe, x_branchKinds, x_branchLos, x_branchHis, x_packet, vp_updL x_registers 0 1, x_cells, x_keyWords, x_keyTaken)) : wpX_performMapCall post (x_safe, x_at, x_exitLeast, x_exitMost, x_branches, x_faultPlace, x_provedLeast, x_provedMost, x_packetLength, x_executed, x_ops, x_targets, x_sources, x_offsets, x_immediates, x_lengths, x_kinds, x_los, x_his, x_reached, x_branchAt, x_branchSafe, x_branchKinds, x_branchLos, x_branchHis, x_packet, x_registers, x_cells, x_keyWords, x_keyTaken) 51 (nI m) := by
  have v0 : vp_in 0 9 := vp_in_nI (n := 0) (by decide) (by decide)
  have c0 : (0 : Int32).toNatClampNeg = 0 := by rfl
  unfold wpX_performMapCall
  refine xr_slot hm (fun s h1 h2 h3 h4 => ?_) (fun h => ?_)
  · exact br_f (by decide) (br_f (by decide) (br_t (nI_pos' (by omega)) (xr_mc86 (by omega) (A s h1 h2 h3 h4))))
  · refine br_f (by decide) (br_f (by decide) (br_f sx_m1 ?_))
    refine xr_free hm (fun s h1 h2 h3 h4 => ?_) (fun g => ?_)
    · exact xr_mc86 (by omega) (B h s h1 h2 h3 h4)
    · exact br_f sx_m1 ⟨v0, nm_r (e' := vp_updL x_registers 0 1) (by rw [c0]) (br_t (by decide) (C h g))⟩
end
section
variable {y_place : Int32} {y_least : Int64} {y_most : Int64} {y_smallest : Int64} {y_greatest : Int64} {y_ways : Int32} {y_fault : Int32} {y_base : Int32} {y_otherKind : Int32} {y_otherLo : Int64} {y_otherHi : Int64} {y_low : Int64} {y_high : Int64} {y_bytes : Int32} {y_steps : Int32} {y_op : Nat → Int32} {y_first : Nat → Int32} {y_second : Nat → Int32} {y_offset : Nat → Int32} {y_given : Nat → Int32} {y_length : Nat → Int32} {y_there : Nat → Int32} {y_known : Nat → Int32} {y_lo : Nat → Int64} {y_hi : Nat → Int64} {y_at : Nat → Int32} {y_lookups : Nat → Int32} {y_safe : Nat → Int32} {y_met : Nat → Int32} {y_tag : Nat → Int32} {y_word : Nat → Int64} {y_packet : Nat → Int32} {y_keys : Nat → Int64} {y_values : Nat → Int64} {y_many : Nat → Int32}
theorem yr_mp50 {post : SY → Prop} {m n : Nat} (hm : m < 2) (hn : n ≤ 4) (en : y_many m = nI n) (A : ∀ k, 4 * m ≤ k → k < 4 * m + n → y_keys k = y_word 1 → post (y_place, y_least, y_most, y_smallest, y_greatest, y_ways, y_fault, y_base, y_otherKind, y_otherLo, y_otherHi, y_low, y_high, y_bytes, y_steps, y_op, y_first, y_second, y_offset, y_given, y_length, y_there, y_known, y_lo, y_hi, y_at, y_lookups, y_safe, y_met, upd y_tag 0 5, vp_updL y_word 0 (lN (100 * (8 + k))), y_packet, y_keys, y_values, y_many)) (B : (∀ k, 4 * m ≤ k → k < 4 * m + n → ¬ y_keys k = y_word 1) → post (y_place, y_least, y_most, y_smallest, y_greatest, y_ways, y_fault, y_base, y_otherKind, y_otherLo, y_otherHi, y_low, y_high, y_bytes, y_steps, y_op, y_first, y_second, y_offset, y_given, y_length, y_there, y_known, y_lo, y_hi, y_at, y_lookups, y_safe, y_met, upd y_tag 0 1, vp_updL y_word 0 0, y_packet, y_keys, y_values, y_many)) : wpY_maps post (y_place, y_least, y_most, y_smallest, y_greatest, y_ways, y_fault, y_base, y_otherKind, y_otherLo, y_otherHi, y_low, y_high, y_bytes, y_steps, y_op, y_first, y_second, y_offset, y_given, y_length, y_there, y_known, y_lo, y_hi, y_at, y_lookups, y_safe, y_met, y_tag, y_word, y_packet, y_keys, y_values, y_many) 50 (nI m) := by
  unfold wpY_maps
  refine yr_find hm hn en (fun k h1 h2 h3 => ?_) (fun h => ?_)
  · refine br_t rfl (br_t (nI_pos' (by omega)) ?_)
    rw [xb_add8, sx_100, nI_l (by omega)]
    exact (yr_hold0 (by unfold k7_; simp)).mpr (A k h1 h2 h3)
  · exact br_t rfl (br_f sx_m1 ((yr_hold0 (by unfold k7_; simp)).mpr (B h)))
theorem yr_u46 {post : SY → Prop} {k : Nat} (hk : k < 8) (H : post (y_place, y_least, y_most, y_smallest, y_greatest, y_ways, y_fault, y_base, y_otherKind, y_otherLo, y_otherHi, y_low, y_high, y_bytes, y_steps, y_op, y_first, y_second, y_offset, y_given, y_length, y_there, y_known, y_lo, y_hi, y_at, y_lookups, y_safe, y_met, y_tag, y_word, y_packet, vp_updL y_keys k (y_word 1), vp_updL (vp_updL y_values (2 * k) (y_word 2)) (2 * k + 1) (y_word 3), y_many)) : wY_update_46 post (nI k) y_place y_least y_most y_smallest y_greatest y_ways y_fault y_base y_otherKind y_otherLo y_otherHi y_low y_high y_bytes y_steps y_op y_first y_second y_offset y_given y_length y_there y_known y_lo y_hi y_at y_lookups y_safe y_met y_tag y_word y_packet y_keys y_values y_many := by
  refine ⟨vp_in_nI hk (by decide), nm_r (e' := vp_updL y_keys k (y_word 1)) (by rw [nI_clamp (by omega)]) ⟨by rw [xb_mul2]; exact vp_in_nI (by omega) (by decide), nm_r (e' := vp_updL y_values (2 * k) (y_word 2)) (by rw [xb_mul2, nI_clamp (by omega)]) ⟨by rw [xb_mul2, nI_1]; exact vp_in_nI (by omega) (by decide), nm_r ?_ H⟩⟩⟩
  rw [xb_mul2, nI_1, nI_clamp (by omega)]
theorem yr_mp51 {post : SY → Prop} {m n : Nat} (hm : m < 2) (hn : n ≤ 4) (en : y_many m = nI n) (A : ∀ k, 4 * m ≤ k → k < 4 * m + n → y_keys k = y_word 1 → post (y_place, y_least, y_most, y_smallest, y_greatest, y_ways, y_fault, y_base, y_otherKind, y_otherLo, y_otherHi, y_low, y_high, y_bytes, y_steps, y_op, y_first, y_second, y_offset, y_given, y_length, y_there, y_known, y_lo, y_hi, y_at, y_lookups, y_safe, y_met, upd y_tag 0 1, vp_updL y_word 0 0, y_packet, vp_updL y_keys k (y_word 1), vp_updL (vp_updL y_values (2 * k) (y_word 2)) (2 * k + 1) (y_word 3), y_many)) (B : (∀ k, 4 * m ≤ k → k < 4 * m + n → ¬ y_keys k = y_word 1) → n < 4 → post (y_place, y_least, y_most, y_smallest, y_greatest, y_ways, y_fault, y_base, y_otherKind, y_otherLo, y_otherHi, y_low, y_high, y_bytes, y_steps, y_op, y_first, y_second, y_offset, y_given, y_length, y_there, y_known, y_lo, y_hi, y_at, y_lookups, y_safe, y_met, upd y_tag 0 1, vp_updL y_word 0 0, y_packet, vp_updL y_keys (4 * m + n) (y_word 1), vp_updL (vp_updL y_values (2 * (4 * m + n)) (y_word 2)) (2 * (4 * m + n) + 1) (y_word 3), upd y_many m (nI (n + 1)))) (C : (∀ k, 4 * m ≤ k → k < 4 * m + n → ¬ y_keys k = y_word 1) → n = 4 → post (y_place, y_least, y_most, y_smallest, y_greatest, y_ways, y_fault, y_base, y_otherKind, y_otherLo, y_otherHi, y_low, y_high, y_bytes, y_steps, y_op, y_first, y_second, y_offset, y_given, y_length, y_there, y_known, y_lo, y_hi, y_at, y_lookups, y_safe, y_met, upd y_tag 0 1, vp_updL y_word 0 1, y_packet, y_keys, y_values, y_many)) : wpY_maps post (y_place, y_least, y_most, y_smallest, y_greatest, y_ways, y_fault, y_base, y_otherKind, y_otherLo, y_otherHi, y_low, y_high, y_bytes, y_steps, y_op, y_first, y_second, y_offset, y_given, y_length, y_there, y_known, y_lo, y_hi, y_at, y_lookups, y_safe, y_met, y_tag, y_word, y_packet, y_keys, y_values, y_many) 51 (nI m) := by
  have w1 : vp_updL y_word 0 0 1 = y_word 1 := pk_uLn (by decide)
  have w2 : vp_updL y_word 0 0 2 = y_word 2 := pk_uLn (by decide)
  have w3 : vp_updL y_word 0 0 3 = y_word 3 := pk_uLn (by decide)
  have v : vp_in (nI m) 2 := vp_in_nI hm (by decide)
  have c : (nI m).toNatClampNeg = m := nI_clamp (by omega)
  unfold wpY_maps
  refine yr_find hm hn en (fun k h1 h2 h3 => ?_) (fun h => ?_)
  · have G := A k h1 h2 h3
    rw [← w1, ← w2, ← w3] at G
    refine br_f (by decide) ((yr_hold0 (by unfold k7_; simp)).mpr ?_)
    refine br_t rfl ?_
    exact br_t (nI_pos' (by omega)) (br_t (nI_pos' (by omega)) (yr_u46 (by omega) G))
  · refine br_f (by decide) ((yr_hold0 (by unfold k7_; simp)).mpr ?_)
    refine br_t rfl ?_
    refine br_f sx_m1 ⟨v, ?_⟩
    rw [c, en]
    refine br_c (fun z => ?_) (fun z => br_f sx_m1 ⟨v, v, ?_⟩)
    · rw [xb_eq4 (by omega)] at z
      refine nm_r (e' := vp_updL y_word 0 1) sx_uu (C h z)
    · rw [xb_eq4 (by omega)] at z
      have G := B h (by omega)
      rw [← w1, ← w2, ← w3] at G
      refine nm_r (e' := upd y_many m (nI (n + 1))) (by rw [c, en, nI_1, xb_nb (by omega), xb_vb (by omega)]) ?_
      rw [c, en, xb_mul4, nI_add]
      exact yr_u46 (by omega) G
theorem yr_mp52 {post : SY → Prop} {m n : Nat} (hm : m < 2) (hn : n ≤ 4) (en : y_many m = nI n) (A : ∀ k l, 4 * m ≤ k → k < 4 * m + n → y_keys k = y_word 1 → l + 1 = 4 * m + n → post (y_place, y_least, y_most, y_smallest, y_greatest, y_ways, y_fault, y_base, y_otherKind, y_otherLo, y_otherHi, y_low, y_high, y_bytes, y_steps, y_op, y_first, y_second, y_offset, y_given, y_length, y_there, y_known, y_lo, y_hi, y_at, y_lookups, y_safe, y_met, upd y_tag 0 1, vp_updL y_word 0 1, y_packet, vp_updL y_keys k (y_keys l), vp_updL (vp_updL y_values (2 * k) (y_values (2 * l))) (2 * k + 1) (y_values (2 * l + 1)), upd y_many m (nI (n - 1)))) (B : (∀ k, 4 * m ≤ k → k < 4 * m + n → ¬ y_keys k = y_word 1) → post (y_place, y_least, y_most, y_smallest, y_greatest, y_ways, y_fault, y_base, y_otherKind, y_otherLo, y_otherHi, y_low, y_high, y_bytes, y_steps, y_op, y_first, y_second, y_offset, y_given, y_length, y_there, y_known, y_lo, y_hi, y_at, y_lookups, y_safe, y_met, upd y_tag 0 1, vp_updL y_word 0 0, y_packet, y_keys, y_values, y_many)) : wpY_maps post (y_place, y_least, y_most, y_smallest, y_greatest, y_ways, y_fault, y_base, y_otherKind, y_otherLo, y_otherHi, y_low, y_high, y_bytes, y_steps, y_op, y_first, y_second, y_offset, y_given, y_length, y_there, y_known, y_lo, y_hi, y_at, y_lookups, y_safe, y_met, y_tag, y_word, y_packet, y_keys, y_values, y_many) 52 (nI m) := by
  have v : vp_in (nI m) 2 := vp_in_nI hm (by decide)
  have c : (nI m).toNatClampNeg = m := nI_clamp (by omega)
  unfold wpY_maps
  refine yr_find hm hn en (fun k h1 h2 h3 => ?_) (fun h => ?_)
  rotate_left
  · refine br_f (by decide) ((yr_hold0 (by unfold k7_; simp)).mpr ?_)
    exact br_f (by decide) (br_f sx_m1 (B h))
  refine br_f (by decide) ((yr_hold0 (by unfold k7_; simp)).mpr ?_)
  refine br_f (by decide) (br_t (nI_pos' (by omega)) ?_)
  obtain ⟨l, el⟩ : ∃ l, l + 1 = 4 * m + n := ⟨4 * m + n - 1, by omega⟩
  have G := A k l h1 h2 h3 el
  have e1 : (nI n - 1).toInt8.toInt32 = nI (n - 1) := by rw [xb_s1 (by omega), xb_nb (by omega)]
  have vk : vp_in (nI k) 8 := vp_in_nI (by omega) (by decide)
  have ck : (nI k).toNatClampNeg = k := nI_clamp (by omega)
  have vl : vp_in (nI l) 8 := vp_in_nI (by omega) (by decide)
  have cl : (nI l).toNatClampNeg = l := nI_clamp (by omega)
  have v2 : ∀ j, j < 8 → vp_in (2 * nI j) 16 ∧ (2 * nI j).toNatClampNeg = 2 * j ∧ vp_in (2 * nI j + 1) 16 ∧ (2 * nI j + 1).toNatClampNeg = 2 * j + 1 := by
    intro j hj
    rw [xb_mul2, nI_1]
    exact ⟨vp_in_nI (by omega) (by decide), nI_clamp (by omega), vp_in_nI (by omega) (by decide), nI_clamp (by omega)⟩
  obtain ⟨k1, k2, k3, k4⟩ := v2 k (by omega)
  obtain ⟨l1, l2, l3, l4⟩ := v2 l (by omega)
  refine nm_r (e' := vp_updL y_word 0 1) sx_uu ⟨v, v, nm_r (e' := upd y_many m (nI (n - 1))) (by rw [c, en, e1, xb_vb (by omega)]) (nm_r (e' := nI l) (by rw [c, en, e1, xb_mul4, nI_add]; congr 1; omega) ⟨vl, vk, nm_r (by rw [ck, cl]) ⟨l1, k1, nm_r (e' := vp_updL y_values (2 * k) (y_values (2 * l))) (by rw [k2, l2]) ⟨l3, k3, nm_r ?_ G⟩⟩⟩)⟩
  rw [k4, l4]
  congr 1
  by_cases z : k = l
  · subst z
    rw [pk_uLn (by omega)]
  · rw [pk_uLn (by omega)]
end
section
variable {o off imm : Int32} {d s : Nat} {K : Nat → Int32} {L H : Nat → Int64} {S : Int64}
theorem Con_wipe {π π' : Nat → Nat} {rg ce ce' : Nat → Int64} {kt kt' : Nat → Int32} {kw kw' : Nat → Int64} {tg : Nat → Int32} {wd ks ks' vs vs' : Nat → Int64} {mn mn' : Nat → Int32} {b : Nat} (C : Con_ K L H S π rg ce kt kw tg wd ks vs mn b) (hc : ∀ c, c < 6 → ce' c = ce c) (M : Mp_ π' kt' kw' ce' ks' vs' mn') : Con_ (mK_ K 16) (mL_ K L 16) (mL_ K H 16) S π' rg ce' kt' kw' tg wd ks' vs' mn' b := by
  refine ⟨fun r hr => ?_, C.2.1, ⟨C.2.2.1.1, fun r t hr _ k6 _ => ?_⟩, M⟩
  rotate_left
  · exfalso
    by_cases z : wi_ K 16 (g_ r)
    · have e1 : mK_ K 16 (g_ r) = 0 := by unfold mK_; exact if_pos z
      rw [e1] at k6; exact absurd k6 (by decide)
    · have e1 : mK_ K 16 (g_ r) = K (g_ r) := by unfold mK_; exact if_neg z
      rw [e1] at k6
      exact z ⟨g_16 hr, Or.inr (Or.inr k6)⟩
  have v := C.1 r hr
  have g16 := g_16 hr
  have ex : cx_ rg ce' r = cx_ rg ce r := by
    unfold cx_; split
    · rfl
    · exact hc _ (by omega)
  by_cases z : wi_ K 16 (g_ r)
  · have e1 : mK_ K 16 (g_ r) = 0 := by unfold mK_; exact if_pos z
    rw [e1]; exact V_0
  · have e1 : mK_ K 16 (g_ r) = K (g_ r) := by unfold mK_; exact if_neg z
    have e3 : mL_ K L 16 (g_ r) = L (g_ r) := by unfold mL_; exact if_neg z
    have e4 : mL_ K H 16 (g_ r) = H (g_ r) := by unfold mL_; exact if_neg z
    rw [e1, e3, e4, ex]
    exact V_ind v (fun n => z ⟨g16, Or.inr (Or.inl n)⟩) (fun n => z ⟨g16, Or.inr (Or.inr n)⟩)
theorem mK_n6 {P : Nat → Prop} : ∀ r, r < 14 → mK_ K 16 (g_ r) = 6 → P r := by
  intro r hr k6
  exfalso
  by_cases z : wi_ K 16 (g_ r)
  · have e1 : mK_ K 16 (g_ r) = 0 := by unfold mK_; exact if_pos z
    rw [e1] at k6; exact absurd k6 (by decide)
  · have e1 : mK_ K 16 (g_ r) = K (g_ r) := by unfold mK_; exact if_neg z
    rw [e1] at k6
    exact z ⟨g_16 hr, Or.inr (Or.inr k6)⟩
theorem V_01 {x : Nat} (h : x ≤ 1) {b : Nat} {π : Nat → Nat} {kt : Nat → Int32} : V_ 1 0 1 (lN x) 1 (lN x) b π kt := V_1 rfl ⟨0, x, 1, by omega, h, by omega, rfl, rfl, rfl⟩
theorem sp_50 (hd : d < 8) (hs : s < 9) (W : WF_ K L H S) (g : ¬ (imm < 0 ∨ ¬ imm < 2)) (k : sk_ 50 K) : SP_ 50 d s off imm K L H S (upd (mK_ K 16) 0 6) (vp_updL (mL_ K L 16) 0 0) (vp_updL (mL_ K H 16) 0 0) := by
  intro π rg ce kt kw tg wd ks vs mn b pX pY C hb hp
  obtain ⟨m, hm31, em⟩ := nI_of (x := imm) (fun z => g (Or.inl z))
  subst em
  have hm : m < 2 := by
    have : nI m < 2 := Classical.byContradiction fun z => g (Or.inr z)
    rw [xb_lt2 hm31] at this; exact this
  have v1 := Con_s W C (s := 1) (by omega)
  rw [if_neg (by omega), if_neg (by omega)] at v1
  obtain ⟨t1, t2, -⟩ := v1.1 k.1
  obtain ⟨n, en, M⟩ := C.2.2.2 m hm
  have C0 := Con_wipe C (fun c _ => rfl) C.2.2.2
  rcases mp_find M (rg 1) with ⟨j, j1, j2, j3, j4, jx, jy, j5, j6, j7⟩ | ⟨nx, ny⟩
  · refine ⟨π, vp_updL rg 0 (lN (6 + 2 * j)), ce, kt, kw, upd tg 0 5, vp_updL wd 0 (lN (100 * (8 + π j))), ks, vs, mn, Con_reg C0 (by decide) (V_6 (Or.inr ⟨rfl, j, by omega, j3, rfl, rfl⟩)) (fun _ => mK_n6), ?_, ?_⟩
    · intro x_safe x_at x_exitLeast x_exitMost x_branches x_faultPlace x_provedLeast x_provedMost x_packetLength x_executed x_ops x_targets x_sources x_offsets x_immediates x_lengths x_kinds x_los x_his x_reached x_branchAt x_branchSafe x_branchKinds x_branchLos x_branchHis x_packet x_registers x_cells x_keyWords x_keyTaken i post hi eo e1 e2 e3 e4 P
      refine xr_69 hi hs eo e1 e2 (xs_sv (by simp)) (xr_map (by simp) hi ?_)
      rw [e4]
      refine xr_mc50 hm (fun t h1 h2 h3 h4 => ?_) (fun h => absurd j4 (h j j1 j2 j3))
      rw [jx t h1 h2 h3 h4]; exact P
    · intro y_place y_least y_most y_smallest y_greatest y_ways y_fault y_base y_otherKind y_otherLo y_otherHi y_low y_high y_bytes y_steps y_op y_first y_second y_offset y_given y_length y_there y_known y_lo y_hi y_at y_lookups y_safe y_met y_tag y_word y_packet y_keys y_values y_many i a2 post hi eo e1 e2 e3 e4 P
      refine yr_114 hi hs eo e1 e2 (rg := True) (om_rg (f := True) (by simp)) ys_om (yr_m (by simp) hi (by omega) (fun z => absurd z (by decide)) (fun z => absurd z (by decide)) (fun z => absurd z (by decide)) (fun _ => ?_))
      rw [e4]
      refine yr_mp50 hm M.1 en (fun k h1 h2 h3 => ?_) (fun h => absurd (j7.trans t2.symm) (h _ j5 j6))
      rw [jy k h1 h2 (h3.trans t2)]; exact P
  · refine ⟨π, vp_updL rg 0 0, ce, kt, kw, upd tg 0 1, vp_updL wd 0 0, ks, vs, mn, Con_reg C0 (by decide) (V_6 (Or.inl ⟨rfl, rfl, rfl⟩)) (fun _ => mK_n6), ?_, ?_⟩
    · intro x_safe x_at x_exitLeast x_exitMost x_branches x_faultPlace x_provedLeast x_provedMost x_packetLength x_executed x_ops x_targets x_sources x_offsets x_immediates x_lengths x_kinds x_los x_his x_reached x_branchAt x_branchSafe x_branchKinds x_branchLos x_branchHis x_packet x_registers x_cells x_keyWords x_keyTaken i post hi eo e1 e2 e3 e4 P
      refine xr_69 hi hs eo e1 e2 (xs_sv (by simp)) (xr_map (by simp) hi ?_)
      rw [e4]
      exact xr_mc50 hm (fun t h1 h2 h3 h4 => absurd h4 (nx t h1 h2 h3)) (fun _ => P)
    · intro y_place y_least y_most y_smallest y_greatest y_ways y_fault y_base y_otherKind y_otherLo y_otherHi y_low y_high y_bytes y_steps y_op y_first y_second y_offset y_given y_length y_there y_known y_lo y_hi y_at y_lookups y_safe y_met y_tag y_word y_packet y_keys y_values y_many i a2 post hi eo e1 e2 e3 e4 P
      refine yr_114 hi hs eo e1 e2 (rg := True) (om_rg (f := True) (by simp)) ys_om (yr_m (by simp) hi (by omega) (fun z => absurd z (by decide)) (fun z => absurd z (by decide)) (fun z => absurd z (by decide)) (fun _ => ?_))
      rw [e4]
      exact yr_mp50 hm M.1 en (fun k h1 h2 h3 => absurd (h3.trans t2) (ny k h1 h2)) (fun _ => P)
theorem sp_52 (hd : d < 8) (hs : s < 9) (W : WF_ K L H S) (g : ¬ (imm < 0 ∨ ¬ imm < 2)) (k : sk_ 52 K) : SP_ 52 d s off imm K L H S (upd (mK_ K 16) 0 1) (vp_updL (mL_ K L 16) 0 0) (vp_updL (mL_ K H 16) 0 1) := by
  intro π rg ce kt kw tg wd ks vs mn b pX pY C hb hp
  obtain ⟨m, hm31, em⟩ := nI_of (x := imm) (fun z => g (Or.inl z))
  subst em
  have hm : m < 2 := by
    have : nI m < 2 := Classical.byContradiction fun z => g (Or.inr z)
    rw [xb_lt2 hm31] at this; exact this
  have v1 := Con_s W C (s := 1) (by omega)
  rw [if_neg (by omega), if_neg (by omega)] at v1
  obtain ⟨t1, t2, -⟩ := v1.1 k.1
  obtain ⟨n, en, M⟩ := C.2.2.2 m hm
  rcases mp_find M (rg 1) with ⟨j, j1, j2, j3, j4, jx, jy, j5, j6, j7⟩ | ⟨nx, ny⟩
  · obtain ⟨l, el⟩ : ∃ l, l + 1 = 4 * m + n := ⟨4 * m + n - 1, by omega⟩
    have C0 := Con_wipe C (fun c _ => rfl) (mp_del C.2.2.2 hm en M j1 j2 j3 el)
    refine ⟨_, vp_updL rg 0 1, ce, _, kw, upd tg 0 1, vp_updL wd 0 1, _, _, _, Con_reg C0 (by decide) (V_01 (x := 1) (by omega)) (fun z => absurd z (by decide)), ?_, ?_⟩
    · intro x_safe x_at x_exitLeast x_exitMost x_branches x_faultPlace x_provedLeast x_provedMost x_packetLength x_executed x_ops x_targets x_sources x_offsets x_immediates x_lengths x_kinds x_los x_his x_reached x_branchAt x_branchSafe x_branchKinds x_branchLos x_branchHis x_packet x_registers x_cells x_keyWords x_keyTaken i post hi eo e1 e2 e3 e4 P
      refine xr_69 hi hs eo e1 e2 (xs_sv (by simp)) (xr_map (by simp) hi ?_)
      rw [e4]
      refine xr_mc52 hm (fun t h1 h2 h3 h4 => ?_) (fun h => absurd j4 (h j j1 j2 j3))
      rw [jx t h1 h2 h3 h4]; exact P
    · intro y_place y_least y_most y_smallest y_greatest y_ways y_fault y_base y_otherKind y_otherLo y_otherHi y_low y_high y_bytes y_steps y_op y_first y_second y_offset y_given y_length y_there y_known y_lo y_hi y_at y_lookups y_safe y_met y_tag y_word y_packet y_keys y_values y_many i a2 post hi eo e1 e2 e3 e4 P
      refine yr_114 hi hs eo e1 e2 (rg := True) (om_rg (f := True) (by simp)) ys_om (yr_m (by simp) hi (by omega) (fun z => absurd z (by decide)) (fun z => absurd z (by decide)) (fun z => absurd z (by decide)) (fun _ => ?_))
      rw [e4]
      refine yr_mp52 hm M.1 en (fun k l2 h1 h2 h3 h4 => ?_) (fun h => absurd (j7.trans t2.symm) (h _ j5 j6))
      have : l2 = l := by omega
      subst this
      rw [jy k h1 h2 (h3.trans t2)]; exact P
  · have C0 := Con_wipe C (fun c _ => rfl) C.2.2.2
    refine ⟨π, vp_updL rg 0 0, ce, kt, kw, upd tg 0 1, vp_updL wd 0 0, ks, vs, mn, Con_reg C0 (by decide) (V_01 (x := 0) (by omega)) (fun z => absurd z (by decide)), ?_, ?_⟩
    · intro x_safe x_at x_exitLeast x_exitMost x_branches x_faultPlace x_provedLeast x_provedMost x_packetLength x_executed x_ops x_targets x_sources x_offsets x_immediates x_lengths x_kinds x_los x_his x_reached x_branchAt x_branchSafe x_branchKinds x_branchLos x_branchHis x_packet x_registers x_cells x_keyWords x_keyTaken i post hi eo e1 e2 e3 e4 P
      refine xr_69 hi hs eo e1 e2 (xs_sv (by simp)) (xr_map (by simp) hi ?_)
      rw [e4]
      exact xr_mc52 hm (fun t h1 h2 h3 h4 => absurd h4 (nx t h1 h2 h3)) (fun _ => P)
    · intro y_place y_least y_most y_smallest y_greatest y_ways y_fault y_base y_otherKind y_otherLo y_otherHi y_low y_high y_bytes y_steps y_op y_first y_second y_offset y_given y_length y_there y_known y_lo y_hi y_at y_lookups y_safe y_met y_tag y_word y_packet y_keys y_values y_many i a2 post hi eo e1 e2 e3 e4 P
      refine yr_114 hi hs eo e1 e2 (rg := True) (om_rg (f := True) (by simp)) ys_om (yr_m (by simp) hi (by omega) (fun z => absurd z (by decide)) (fun z => absurd z (by decide)) (fun z => absurd z (by decide)) (fun _ => ?_))
      rw [e4]
      exact yr_mp52 hm M.1 en (fun k l2 h1 h2 h3 _ => absurd (h3.trans t2) (ny k h1 h2)) (fun _ => P)
theorem sp_51 (hd : d < 8) (hs : s < 9) (W : WF_ K L H S) (g : ¬ (imm < 0 ∨ ¬ imm < 2)) (k : sk_ 51 K) : SP_ 51 d s off imm K L H S (upd (mK_ K 16) 0 1) (vp_updL (mL_ K L 16) 0 0) (vp_updL (mL_ K H 16) 0 1) := by
  intro π rg ce kt kw tg wd ks vs mn b pX pY C hb hp
  obtain ⟨m, hm31, em⟩ := nI_of (x := imm) (fun z => g (Or.inl z))
  subst em
  have hm : m < 2 := by
    have : nI m < 2 := Classical.byContradiction fun z => g (Or.inr z)
    rw [xb_lt2 hm31] at this; exact this
  have rd : ∀ r, r < 8 → K r = 1 → wd r = rg r ∧ wd_ (rg r) := by
    intro r hr kr
    have v1 := Con_s W C (s := r) (by omega)
    rw [if_neg (by omega), if_neg (by omega)] at v1
    obtain ⟨-, t2, a, n, c, -, h1, h2, -, h3, -⟩ := v1.1 kr
    exact ⟨t2, n, by omega, h3⟩
  obtain ⟨t1, -⟩ := rd 1 (by omega) k.1
  obtain ⟨t2, w2⟩ := rd 2 (by omega) (k.2 rfl).1
  obtain ⟨t3, w3⟩ := rd 3 (by omega) (k.2 rfl).2
  obtain ⟨n, en, M⟩ := C.2.2.2 m hm
  have keep : ∀ (t : Nat) (p q : Int64), ∀ c, c < 6 → vp_updL (vp_updL ce (6 + 2 * t) p) (6 + 2 * t + 1) q c = ce c := by
    intro t p q c hc
    rw [pk_uLn (by omega), pk_uLn (by omega)]
  rcases mp_find M (rg 1) with ⟨j, j1, j2, j3, j4, jx, jy, j5, j6, j7⟩ | ⟨nx, ny⟩
  · have C0 := Con_wipe C (keep j (rg 2) (rg 3)) (mp_upd C.2.2.2 hm j1 j2 j3 j4 w2 w3)
    refine ⟨_, vp_updL rg 0 0, _, _, _, upd tg 0 1, vp_updL wd 0 0, _, _, _, Con_reg C0 (by decide) (V_01 (x := 0) (by omega)) (fun z => absurd z (by decide)), ?_, ?_⟩
    · intro x_safe x_at x_exitLeast x_exitMost x_branches x_faultPlace x_provedLeast x_provedMost x_packetLength x_executed x_ops x_targets x_sources x_offsets x_immediates x_lengths x_kinds x_los x_his x_reached x_branchAt x_branchSafe x_branchKinds x_branchLos x_branchHis x_packet x_registers x_cells x_keyWords x_keyTaken i post hi eo e1 e2 e3 e4 P
      refine xr_69 hi hs eo e1 e2 (xs_sv (by simp)) (xr_map (by simp) hi ?_)
      rw [e4]
      refine xr_mc51 hm (fun t h1 h2 h3 h4 => ?_) (fun h => absurd j4 (h j j1 j2 j3)) (fun h => absurd j4 (h j j1 j2 j3))
      rw [jx t h1 h2 h3 h4]; exact P
    · intro y_place y_least y_most y_smallest y_greatest y_ways y_fault y_base y_otherKind y_otherLo y_otherHi y_low y_high y_bytes y_steps y_op y_first y_second y_offset y_given y_length y_there y_known y_lo y_hi y_at y_lookups y_safe y_met y_tag y_word y_packet y_keys y_values y_many i a2 post hi eo e1 e2 e3 e4 P
      refine yr_114 hi hs eo e1 e2 (rg := True) (om_rg (f := True) (by simp)) ys_om (yr_m (by simp) hi (by omega) (fun z => absurd z (by decide)) (fun z => absurd z (by decide)) (fun z => absurd z (by decide)) (fun _ => ?_))
      rw [e4]
      refine yr_mp51 hm M.1 en (fun k h1 h2 h3 => ?_) (fun h => absurd (j7.trans t1.symm) (h _ j5 j6)) (fun h => absurd (j7.trans t1.symm) (h _ j5 j6))
      rw [jy k h1 h2 (h3.trans t1), t1, t2, t3]; exact P
  · by_cases n4 : n < 4
    · obtain ⟨j, j1, j2, j3, j4⟩ := cn_free (kt := kt) (m := m) (by rw [M.2.1]; exact n4)
      have C0 := Con_wipe C (keep j (rg 2) (rg 3)) (mp_new (s := j) (key := rg 1) C.2.2.2 hm en n4 M j1 j2 j3 nx w2 w3)
      refine ⟨_, vp_updL rg 0 0, _, _, _, upd tg 0 1, vp_updL wd 0 0, _, _, _, Con_reg C0 (by decide) (V_01 (x := 0) (by omega)) (fun z => absurd z (by decide)), ?_, ?_⟩
      · intro x_safe x_at x_exitLeast x_exitMost x_branches x_faultPlace x_provedLeast x_provedMost x_packetLength x_executed x_ops x_targets x_sources x_offsets x_immediates x_lengths x_kinds x_los x_his x_reached x_branchAt x_branchSafe x_branchKinds x_branchLos x_branchHis x_packet x_registers x_cells x_keyWords x_keyTaken i post hi eo e1 e2 e3 e4 P
        refine xr_69 hi hs eo e1 e2 (xs_sv (by simp)) (xr_map (by simp) hi ?_)
        rw [e4]
        refine xr_mc51 hm (fun t h1 h2 h3 h4 => absurd h4 (nx t h1 h2 h3)) (fun _ t h1 h2 h3 h4 => ?_) (fun _ h => absurd j3 (h j j1 j2))
        have : t = j := by
          by_cases z : t < j
          · exact absurd h3 (j4 t h1 z)
          · by_cases y : j < t
            · exact absurd j3 (h4 j j1 y)
            · omega
        rw [this]; exact P
      · intro y_place y_least y_most y_smallest y_greatest y_ways y_fault y_base y_otherKind y_otherLo y_otherHi y_low y_high y_bytes y_steps y_op y_first y_second y_offset y_given y_length y_there y_known y_lo y_hi y_at y_lookups y_safe y_met y_tag y_word y_packet y_keys y_values y_many i a2 post hi eo e1 e2 e3 e4 P
        refine yr_114 hi hs eo e1 e2 (rg := True) (om_rg (f := True) (by simp)) ys_om (yr_m (by simp) hi (by omega) (fun z => absurd z (by decide)) (fun z => absurd z (by decide)) (fun z => absurd z (by decide)) (fun _ => ?_))
        rw [e4]
        refine yr_mp51 hm M.1 en (fun k h1 h2 h3 => absurd (h3.trans t1) (ny k h1 h2)) (fun _ _ => ?_) (fun _ z => absurd n4 (by omega))
        rw [t1, t2, t3]; exact P
    · have C0 := Con_wipe C (fun c _ => rfl) C.2.2.2
      have n4' : n = 4 := by have := M.1; omega
      have fl := cn_full (kt := kt) (m := m) (by rw [M.2.1]; exact n4')
      refine ⟨π, vp_updL rg 0 1, ce, kt, kw, upd tg 0 1, vp_updL wd 0 1, ks, vs, mn, Con_reg C0 (by decide) (V_01 (x := 1) (by omega)) (fun z => absurd z (by decide)), ?_, ?_⟩
      · intro x_safe x_at x_exitLeast x_exitMost x_branches x_faultPlace x_provedLeast x_provedMost x_packetLength x_executed x_ops x_targets x_sources x_offsets x_immediates x_lengths x_kinds x_los x_his x_reached x_branchAt x_branchSafe x_branchKinds x_branchLos x_branchHis x_packet x_registers x_cells x_keyWords x_keyTaken i post hi eo e1 e2 e3 e4 P
        refine xr_69 hi hs eo e1 e2 (xs_sv (by simp)) (xr_map (by simp) hi ?_)
        rw [e4]
        exact xr_mc51 hm (fun t h1 h2 h3 h4 => absurd h4 (nx t h1 h2 h3)) (fun _ t h1 h2 h3 _ => absurd h3 (fl t h1 h2)) (fun _ _ => P)
      · intro y_place y_least y_most y_smallest y_greatest y_ways y_fault y_base y_otherKind y_otherLo y_otherHi y_low y_high y_bytes y_steps y_op y_first y_second y_offset y_given y_length y_there y_known y_lo y_hi y_at y_lookups y_safe y_met y_tag y_word y_packet y_keys y_values y_many i a2 post hi eo e1 e2 e3 e4 P
        refine yr_114 hi hs eo e1 e2 (rg := True) (om_rg (f := True) (by simp)) ys_om (yr_m (by simp) hi (by omega) (fun z => absurd z (by decide)) (fun z => absurd z (by decide)) (fun z => absurd z (by decide)) (fun _ => ?_))
        rw [e4]
        exact yr_mp51 hm M.1 en (fun k h1 h2 h3 => absurd (h3.trans t1) (ny k h1 h2)) (fun _ z => absurd z n4) (fun _ _ => P)
end
