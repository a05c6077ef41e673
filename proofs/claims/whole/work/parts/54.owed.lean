theorem i_vc0 : wpX_init (fun u => wpY_init (fun v => i_Rel 0 u v)) := by
  refine ⟨⟨rfl, rfl, rfl, rfl, rfl, rfl⟩, fun j => ⟨Or.inl ⟨0, by omega, Or.inl rfl⟩, ⟨0, by omega, rfl⟩, ⟨0, by omega, rfl⟩⟩, ⟨0, by omega, rfl⟩, ⟨rfl, rfl, rfl⟩, ⟨0, by omega, rfl, rfl, fun j => by show (0 : Int32) = 0 &&& 255; decide⟩, rfl, ⟨fun j => j, fun m hm => ⟨0, rfl, by omega, rfl, fun s a b c => absurd rfl c, fun s t a b c d e => absurd rfl e, fun k a b => absurd b (by omega)⟩⟩, fun p hp => Or.inl ⟨rfl, rfl⟩, fun j hj => ⟨rfl, rfl, rfl⟩⟩
theorem i_vc_code {k : Nat} {u : SX} {v : SY} (I : i_Rel k u v) (hk : k + 6 ≤ 3072) (v1 : Int32) (v2 : Int32) (v3 : Int32) (v4 : Int32) (v5 : Int32) : wpX_code (fun r u' => wpY_code (fun r' v' => r' = r ∧ i_Rel (k + 6) u' v') v v1 v2 v3 v4 v5) u v1 v2 v3 v4 v5 := by
  obtain ⟨x_safe, x_at, x_exitLeast, x_exitMost, x_branches, x_faultPlace, x_provedLeast, x_provedMost, x_packetLength, x_executed, x_ops, x_targets, x_sources, x_offsets, x_immediates, x_lengths, x_kinds, x_los, x_his, x_reached, x_branchAt, x_branchSafe, x_branchKinds, x_branchLos, x_branchHis, x_packet, x_registers, x_cells, x_keyWords, x_keyTaken⟩ := u
  obtain ⟨y_place, y_least, y_most, y_smallest, y_greatest, y_ways, y_fault, y_base, y_otherKind, y_otherLo, y_otherHi, y_low, y_high, y_bytes, y_steps, y_op, y_first, y_second, y_offset, y_given, y_length, y_there, y_known, y_lo, y_hi, y_at, y_lookups, y_safe, y_met, y_tag, y_word, y_packet, y_keys, y_values, y_many⟩ := v
  unfold wpX_code
  refine xc_named (fun h => ?_) (fun h => ?_)
  rotate_left
  · refine br_t rfl ?_
    refine yc_named (fun z => absurd z h) (fun _ => ?_)
    exact br_t rfl ⟨rfl, I⟩
  refine br_f (by decide) ?_
  have Y81 : ∀ post : Int32 → SY → Prop, wY_code_81 post v1 v2 v3 v4 v5 1 y_place y_least y_most y_smallest y_greatest y_ways y_fault y_base y_otherKind y_otherLo y_otherHi y_low y_high y_bytes y_steps y_op y_first y_second y_offset y_given y_length y_there y_known y_lo y_hi y_at y_lookups y_safe y_met y_tag y_word y_packet y_keys y_values y_many → wpY_code post (y_place, y_least, y_most, y_smallest, y_greatest, y_ways, y_fault, y_base, y_otherKind, y_otherLo, y_otherHi, y_low, y_high, y_bytes, y_steps, y_op, y_first, y_second, y_offset, y_given, y_length, y_there, y_known, y_lo, y_hi, y_at, y_lookups, y_safe, y_met, y_tag, y_word, y_packet, y_keys, y_values, y_many) v1 v2 v3 v4 v5 := fun post G => yc_named (fun _ => G) (fun n => absurd h n)
  by_cases d0 : v2 < 0
  · exact br_t d0 (Y81 _ (br_f (by decide) (br_t d0 ⟨rfl, I⟩)))
  · obtain ⟨d, hd, rfl⟩ := nI_of d0
    by_cases d8 : d < 8
    · by_cases s0 : v3 < 0
      · exact br_f d0 (br_f (by rw [xb_le8 hd]; omega) (br_t s0 (Y81 _ (br_f (by decide) (br_f d0 (br_f (by rw [xb_gt7 hd]; omega) (br_t s0 ⟨rfl, I⟩)))))))
      · obtain ⟨s, hs, rfl⟩ := nI_of s0
        by_cases s9 : s < 9
        · -- both sides are at the test of the constant
          have Y5 : ∀ post : Int32 → SY → Prop, ((v1 = 6 → (((v5 < 0 → (post 0 (y_place, y_least, y_most, y_smallest, y_greatest, y_ways, y_fault, y_base, y_otherKind, y_otherLo, y_otherHi, y_low, y_high, y_bytes, y_steps, y_op, y_first, y_second, y_offset, y_given, y_length, y_there, y_known, y_lo, y_hi, y_at, y_lookups, y_safe, y_met, y_tag, y_word, y_packet, y_keys, y_values, y_many))) ∧ (¬ v5 < 0 → (((31 < v5 → (post 0 (y_place, y_least, y_most, y_smallest, y_greatest, y_ways, y_fault, y_base, y_otherKind, y_otherLo, y_otherHi, y_low, y_high, y_bytes, y_steps, y_op, y_first, y_second, y_offset, y_given, y_length, y_there, y_known, y_lo, y_hi, y_at, y_lookups, y_safe, y_met, y_tag, y_word, y_packet, y_keys, y_values, y_many))) ∧ (¬ 31 < v5 → (wY_code_126 post v1 (nI d) (nI s) v4 v5 y_place y_least y_most y_smallest y_greatest y_ways y_fault y_base y_otherKind y_otherLo y_otherHi y_low y_high y_bytes y_steps y_op y_first y_second y_offset y_given y_length y_there y_known y_lo y_hi y_at y_lookups y_safe y_met y_tag y_word y_packet y_keys y_values y_many)))))))) ∧ (¬ v1 = 6 → (wY_code_126 post v1 (nI d) (nI s) v4 v5 y_place y_least y_most y_smallest y_greatest y_ways y_fault y_base y_otherKind y_otherLo y_otherHi y_low y_high y_bytes y_steps y_op y_first y_second y_offset y_given y_length y_there y_known y_lo y_hi y_at y_lookups y_safe y_met y_tag y_word y_packet y_keys y_values y_many))) → wpY_code post (y_place, y_least, y_most, y_smallest, y_greatest, y_ways, y_fault, y_base, y_otherKind, y_otherLo, y_otherHi, y_low, y_high, y_bytes, y_steps, y_op, y_first, y_second, y_offset, y_given, y_length, y_there, y_known, y_lo, y_hi, y_at, y_lookups, y_safe, y_met, y_tag, y_word, y_packet, y_keys, y_values, y_many) v1 (nI d) (nI s) v4 v5 := fun post G => Y81 _ (br_f (by decide) (br_f d0 (br_f (by rw [xb_gt7 hd]; omega) (br_f s0 (br_f (by rw [xb_gt8 hs]; omega) G)))))
          refine br_f d0 (br_f (by rw [xb_le8 hd]; omega) (br_f s0 (br_t (by rw [xb_ge8 hs]; omega) ?_)))
          have fin : ((v1 = 6 → ¬ v5 < 0 ∧ v5 ≤ 31)) → wX_code_49 (fun r u' => wpY_code (fun r' v' => r' = r ∧ i_Rel (k + 6) u' v') (y_place, y_least, y_most, y_smallest, y_greatest, y_ways, y_fault, y_base, y_otherKind, y_otherLo, y_otherHi, y_low, y_high, y_bytes, y_steps, y_op, y_first, y_second, y_offset, y_given, y_length, y_there, y_known, y_lo, y_hi, y_at, y_lookups, y_safe, y_met, y_tag, y_word, y_packet, y_keys, y_values, y_many) v1 (nI d) (nI s) v4 v5) v1 (nI d) (nI s) v4 v5 x_safe x_at x_exitLeast x_exitMost x_branches x_faultPlace x_provedLeast x_provedMost x_packetLength x_executed x_ops x_targets x_sources x_offsets x_immediates x_lengths x_kinds x_los x_his x_reached x_branchAt x_branchSafe x_branchKinds x_branchLos x_branchHis x_packet x_registers x_cells x_keyWords x_keyTaken := by
            intro c
            obtain ⟨⟨rfl, rfl, rfl, rfl, rfl, rfl⟩, ho, ⟨n, hn, hl⟩, ⟨rfl, rfl, rfl⟩, pk, rfl, mm, th, z16⟩ := I
            have Y6 : ∀ post : Int32 → SY → Prop, wY_code_126 post v1 (nI d) (nI s) v4 v5 x_faultPlace x_provedLeast x_provedMost y_smallest y_greatest y_ways y_fault y_base y_otherKind y_otherLo y_otherHi y_low y_high y_bytes x_executed x_ops x_targets x_sources x_offsets x_immediates x_lengths y_there y_known y_lo y_hi y_at y_lookups y_safe y_met y_tag y_word y_packet y_keys y_values y_many → wpY_code post (x_faultPlace, x_provedLeast, x_provedMost, y_smallest, y_greatest, y_ways, y_fault, y_base, y_otherKind, y_otherLo, y_otherHi, y_low, y_high, y_bytes, x_executed, x_ops, x_targets, x_sources, x_offsets, x_immediates, x_lengths, y_there, y_known, y_lo, y_hi, y_at, y_lookups, y_safe, y_met, y_tag, y_word, y_packet, y_keys, y_values, y_many) v1 (nI d) (nI s) v4 v5 := fun post G => Y5 post (br_c (fun z => br_f (c z).1 (br_f (Int32.not_lt.mpr (c z).2) G)) (fun _ => G))
            by_cases n40 : n = 40
            · refine br_f (by rw [hl, xb_lt40 (by omega)]; omega) (Y6 _ (br_t (by rw [hl, n40]; rfl) ⟨rfl, ⟨rfl, rfl, rfl, rfl, rfl, rfl⟩, ho, ⟨n, hn, hl⟩, ⟨rfl, rfl, rfl⟩, pk, rfl, mm, th, z16⟩))
            · have e80 : 80 + x_lengths 2 = nI (80 + n) := by rw [hl, xb_add80]
              have v : vp_in (nI (80 + n)) 120 := vp_in_nI (by omega) (by decide)
              have cl : (nI (80 + n)).toNatClampNeg = 80 + n := nI_clamp (by omega)
              obtain ⟨c1, hc1, ec1⟩ := ok_n h
              have eo : vp_nar .byte v1.toInt8.toInt32 = v1 := by rw [ec1, xb_nb hc1, xb_vb hc1]
              have ed : vp_nar .byte (nI d).toInt8.toInt32 = nI d := by rw [xb_nb (by omega), xb_vb (by omega)]
              have es : vp_nar .byte (nI s).toInt8.toInt32 = nI s := by rw [xb_nb (by omega), xb_vb (by omega)]
              refine br_t (by rw [hl, xb_lt40 (by omega)]; omega) (nm_r e80 ⟨v, nm_r (e' := upd x_ops (80 + n) v1) (by rw [cl]) ⟨v, nm_r (e' := upd x_targets (80 + n) (nI d)) (by rw [cl]) ⟨v, nm_r (e' := upd x_sources (80 + n) (nI s)) (by rw [cl]) ⟨v, nm_r (e' := upd x_offsets (80 + n) v4) (by rw [cl]) ⟨v, nm_r (e' := upd x_immediates (80 + n) v5) (by rw [cl]) (nm_r (e' := upd x_lengths 2 (nI (n + 1))) (by rw [hl, nI_1]) ?_)⟩⟩⟩⟩⟩)
              refine Y6 _ (br_f (fun z => n40 ((nI_eq (b := 40) (by omega) (by omega)).mp (hl.symm.trans z))) (nm_r (e' := upd x_lengths 2 (nI (n + 1))) (by rw [hl, nI_1, xb_nb (by omega), xb_vb (by omega)]) (nm_r e80 ⟨v, nm_r (e' := upd x_ops (80 + n) v1) (by rw [cl, eo]) ⟨v, nm_r (e' := upd x_targets (80 + n) (nI d)) (by rw [cl, ed]) ⟨v, nm_r (e' := upd x_sources (80 + n) (nI s)) (by rw [cl, es]) ⟨v, nm_r (e' := upd x_offsets (80 + n) v4) (by rw [cl]) ⟨v, nm_r (e' := upd x_immediates (80 + n) v5) (by rw [cl]) ?_⟩⟩⟩⟩⟩)))
              exact ⟨rfl, ⟨rfl, rfl, rfl, rfl, rfl, rfl⟩, po_code ho h d8 s9, ⟨n + 1, by omega, pk_us⟩, ⟨rfl, rfl, rfl⟩, pk, rfl, mm, th_code th, z16⟩
          refine br_c (fun z6 => br_c (fun z => Y5 _ (br_t z6 (br_t z ⟨rfl, I⟩))) (fun z => br_c (fun y => fin (fun _ => ⟨z, y⟩)) (fun y => Y5 _ (br_t z6 (br_f z (br_t (Int32.not_le.mp y) ⟨rfl, I⟩)))))) (fun z6 => fin (fun z => absurd z z6))
        · exact br_f d0 (br_f (by rw [xb_le8 hd]; omega) (br_f s0 (br_f (by rw [xb_ge8 hs]; omega) (Y81 _ (br_f (by decide) (br_f d0 (br_f (by rw [xb_gt7 hd]; omega) (br_f s0 (br_t (by rw [xb_gt8 hs]; omega) ⟨rfl, I⟩)))))))))
    · exact br_f d0 (br_t (by rw [xb_le8 hd]; omega) (Y81 _ (br_f (by decide) (br_f d0 (br_t (by rw [xb_gt7 hd]; omega) ⟨rfl, I⟩)))))
theorem i_vc_wipe {k : Nat} {u : SX} {v : SY} (I : i_Rel k u v) (hk : k + 6 ≤ 3072) : wpX_wipe (fun r u' => wpY_wipe (fun r' v' => r' = r ∧ i_Rel (k + 6) u' v') v) u := by
  obtain ⟨x_safe, x_at, x_exitLeast, x_exitMost, x_branches, x_faultPlace, x_provedLeast, x_provedMost, x_packetLength, x_executed, x_ops, x_targets, x_sources, x_offsets, x_immediates, x_lengths, x_kinds, x_los, x_his, x_reached, x_branchAt, x_branchSafe, x_branchKinds, x_branchLos, x_branchHis, x_packet, x_registers, x_cells, x_keyWords, x_keyTaken⟩ := u
  obtain ⟨y_place, y_least, y_most, y_smallest, y_greatest, y_ways, y_fault, y_base, y_otherKind, y_otherLo, y_otherHi, y_low, y_high, y_bytes, y_steps, y_op, y_first, y_second, y_offset, y_given, y_length, y_there, y_known, y_lo, y_hi, y_at, y_lookups, y_safe, y_met, y_tag, y_word, y_packet, y_keys, y_values, y_many⟩ := v
  obtain ⟨⟨rfl, rfl, rfl, rfl, rfl, rfl⟩, ho, ⟨n, hn, hl⟩, ⟨rfl, rfl, rfl⟩, pk, rfl, mm, th, z16⟩ := I
  refine nm_e (nm_e (nm_e (nm_r (e' := upd x_lengths 2 0) (by rw [xb_b0]) ?_)))
  refine ⟨rfl, ⟨rfl, rfl, rfl, rfl, rfl, rfl⟩, ho, ⟨0, by omega, pk_us⟩, ⟨rfl, rfl, rfl⟩, pk, rfl, mm, fun p hp => ?_, z16⟩
  rw [pk_un (by omega)]
  exact th p hp
theorem i_vc_place {k : Nat} {u : SX} {v : SY} (I : i_Rel k u v) (hk : k + 6 ≤ 3072) : wpX_place (fun r => wpY_place (fun r' => r' = r ∧ i_Rel (k + 6) u v) v) u := by
  obtain ⟨x_safe, x_at, x_exitLeast, x_exitMost, x_branches, x_faultPlace, x_provedLeast, x_provedMost, x_packetLength, x_executed, x_ops, x_targets, x_sources, x_offsets, x_immediates, x_lengths, x_kinds, x_los, x_his, x_reached, x_branchAt, x_branchSafe, x_branchKinds, x_branchLos, x_branchHis, x_packet, x_registers, x_cells, x_keyWords, x_keyTaken⟩ := u
  obtain ⟨y_place, y_least, y_most, y_smallest, y_greatest, y_ways, y_fault, y_base, y_otherKind, y_otherLo, y_otherHi, y_low, y_high, y_bytes, y_steps, y_op, y_first, y_second, y_offset, y_given, y_length, y_there, y_known, y_lo, y_hi, y_at, y_lookups, y_safe, y_met, y_tag, y_word, y_packet, y_keys, y_values, y_many⟩ := v
  exact ⟨I.2.2.2.1.1.symm, I⟩
theorem i_vc_least {k : Nat} {u : SX} {v : SY} (I : i_Rel k u v) (hk : k + 6 ≤ 3072) : wpX_least (fun r => wpY_least (fun r' => r' = r ∧ i_Rel (k + 6) u v) v) u := by
  obtain ⟨x_safe, x_at, x_exitLeast, x_exitMost, x_branches, x_faultPlace, x_provedLeast, x_provedMost, x_packetLength, x_executed, x_ops, x_targets, x_sources, x_offsets, x_immediates, x_lengths, x_kinds, x_los, x_his, x_reached, x_branchAt, x_branchSafe, x_branchKinds, x_branchLos, x_branchHis, x_packet, x_registers, x_cells, x_keyWords, x_keyTaken⟩ := u
  obtain ⟨y_place, y_least, y_most, y_smallest, y_greatest, y_ways, y_fault, y_base, y_otherKind, y_otherLo, y_otherHi, y_low, y_high, y_bytes, y_steps, y_op, y_first, y_second, y_offset, y_given, y_length, y_there, y_known, y_lo, y_hi, y_at, y_lookups, y_safe, y_met, y_tag, y_word, y_packet, y_keys, y_values, y_many⟩ := v
  exact ⟨I.2.2.2.1.2.1.symm, I⟩
theorem i_vc_most {k : Nat} {u : SX} {v : SY} (I : i_Rel k u v) (hk : k + 6 ≤ 3072) : wpX_most (fun r => wpY_most (fun r' => r' = r ∧ i_Rel (k + 6) u v) v) u := by
  obtain ⟨x_safe, x_at, x_exitLeast, x_exitMost, x_branches, x_faultPlace, x_provedLeast, x_provedMost, x_packetLength, x_executed, x_ops, x_targets, x_sources, x_offsets, x_immediates, x_lengths, x_kinds, x_los, x_his, x_reached, x_branchAt, x_branchSafe, x_branchKinds, x_branchLos, x_branchHis, x_packet, x_registers, x_cells, x_keyWords, x_keyTaken⟩ := u
  obtain ⟨y_place, y_least, y_most, y_smallest, y_greatest, y_ways, y_fault, y_base, y_otherKind, y_otherLo, y_otherHi, y_low, y_high, y_bytes, y_steps, y_op, y_first, y_second, y_offset, y_given, y_length, y_there, y_known, y_lo, y_hi, y_at, y_lookups, y_safe, y_met, y_tag, y_word, y_packet, y_keys, y_values, y_many⟩ := v
  exact ⟨I.2.2.2.1.2.2.symm, I⟩
theorem i_vc_feed {k : Nat} {u : SX} {v : SY} (I : i_Rel k u v) (hk : k + 6 ≤ 3072) (v1 : Int32) : wpX_feed (fun r u' => wpY_feed (fun r' v' => r' = r ∧ i_Rel (k + 6) u' v') v v1) u v1 := by
  obtain ⟨x_safe, x_at, x_exitLeast, x_exitMost, x_branches, x_faultPlace, x_provedLeast, x_provedMost, x_packetLength, x_executed, x_ops, x_targets, x_sources, x_offsets, x_immediates, x_lengths, x_kinds, x_los, x_his, x_reached, x_branchAt, x_branchSafe, x_branchKinds, x_branchLos, x_branchHis, x_packet, x_registers, x_cells, x_keyWords, x_keyTaken⟩ := u
  obtain ⟨y_place, y_least, y_most, y_smallest, y_greatest, y_ways, y_fault, y_base, y_otherKind, y_otherLo, y_otherHi, y_low, y_high, y_bytes, y_steps, y_op, y_first, y_second, y_offset, y_given, y_length, y_there, y_known, y_lo, y_hi, y_at, y_lookups, y_safe, y_met, y_tag, y_word, y_packet, y_keys, y_values, y_many⟩ := v
  obtain ⟨ar, ho, hl, pr, ⟨b, hb, rfl, rfl, hpk⟩, st, mm, th, z16⟩ := I
  by_cases z : b = 24
  · exact br_f (by rw [xb_lt24 (by omega)]; omega) (br_t (by rw [z]; rfl) ⟨rfl, ar, ho, hl, pr, ⟨b, hb, rfl, rfl, hpk⟩, st, mm, th, z16⟩)
  · have v : vp_in (nI b) 24 := vp_in_nI (by omega) (by decide)
    have c : (nI b).toNatClampNeg = b := nI_clamp (by omega)
    refine br_t (by rw [xb_lt24 (by omega)]; omega) ⟨v, nm_r (e' := upd x_packet b (v1 &&& 255)) (by rw [c]) (nm_r (nI_1 b) (br_f (fun q => z ((nI_eq (b := 24) (by omega) (by omega)).mp q)) (nm_r (nI_1 b) ⟨v, nm_r (e' := upd y_packet b v1.toInt8.toInt32) (by rw [c, ys_bb]) ?_⟩)))⟩
    refine ⟨rfl, ar, ho, hl, pr, ⟨b + 1, by omega, rfl, rfl, fun j => ?_⟩, st, mm, th, z16⟩
    by_cases y : j = b
    · rw [y, pk_us, pk_us, bp_b]
    · rw [pk_un y, pk_un y]; exact hpk j
theorem i_vc_next {k : Nat} {u : SX} {v : SY} (I : i_Rel k u v) (hk : k + 6 ≤ 3072) : wpX_next (fun r u' => wpY_next (fun r' v' => r' = r ∧ i_Rel (k + 6) u' v') v) u := by
  obtain ⟨x_safe, x_at, x_exitLeast, x_exitMost, x_branches, x_faultPlace, x_provedLeast, x_provedMost, x_packetLength, x_executed, x_ops, x_targets, x_sources, x_offsets, x_immediates, x_lengths, x_kinds, x_los, x_his, x_reached, x_branchAt, x_branchSafe, x_branchKinds, x_branchLos, x_branchHis, x_packet, x_registers, x_cells, x_keyWords, x_keyTaken⟩ := u
  obtain ⟨y_place, y_least, y_most, y_smallest, y_greatest, y_ways, y_fault, y_base, y_otherKind, y_otherLo, y_otherHi, y_low, y_high, y_bytes, y_steps, y_op, y_first, y_second, y_offset, y_given, y_length, y_there, y_known, y_lo, y_hi, y_at, y_lookups, y_safe, y_met, y_tag, y_word, y_packet, y_keys, y_values, y_many⟩ := v
  obtain ⟨ar, ho, hl, pr, ⟨b, hb, e1, e2, hpk⟩, st, mm, th, z16⟩ := I
  exact ⟨e2.trans e1.symm, ar, ho, hl, pr, ⟨0, by omega, rfl, rfl, hpk⟩, st, mm, th, z16⟩
theorem i_vc_run {k : Nat} {u : SX} {v : SY} (I : i_Rel k u v) (hk : k + 6 ≤ 3072) (v1 : Int32) : wpX_run (fun r u' => wpY_run (fun r' v' => r' = r ∧ i_Rel (k + 6) u' v') v v1) u v1 := by
  obtain ⟨x_safe, x_at, x_exitLeast, x_exitMost, x_branches, x_faultPlace, x_provedLeast, x_provedMost, x_packetLength, x_executed, x_ops, x_targets, x_sources, x_offsets, x_immediates, x_lengths, x_kinds, x_los, x_his, x_reached, x_branchAt, x_branchSafe, x_branchKinds, x_branchLos, x_branchHis, x_packet, x_registers, x_cells, x_keyWords, x_keyTaken⟩ := u
  obtain ⟨y_place, y_least, y_most, y_smallest, y_greatest, y_ways, y_fault, y_base, y_otherKind, y_otherLo, y_otherHi, y_low, y_high, y_bytes, y_steps, y_op, y_first, y_second, y_offset, y_given, y_length, y_there, y_known, y_lo, y_hi, y_at, y_lookups, y_safe, y_met, y_tag, y_word, y_packet, y_keys, y_values, y_many⟩ := v
  by_cases z : v1 < 0
  · exact br_t z (br_t z ⟨rfl, I⟩)
  · obtain ⟨p, hp, rfl⟩ := nI_of z
    by_cases h2 : p < 2
    · exact vc_run I h2
    · exact br_f z (br_f (by rw [xb_lt2 hp]; omega) (br_f z (br_f (by rw [xb_ge1 hp]; omega) ⟨rfl, I⟩)))
theorem i_vc_steps {k : Nat} {u : SX} {v : SY} (I : i_Rel k u v) (hk : k + 6 ≤ 3072) : wpX_steps (fun r => wpY_steps (fun r' => r' = r ∧ i_Rel (k + 6) u v) v) u := by
  obtain ⟨x_safe, x_at, x_exitLeast, x_exitMost, x_branches, x_faultPlace, x_provedLeast, x_provedMost, x_packetLength, x_executed, x_ops, x_targets, x_sources, x_offsets, x_immediates, x_lengths, x_kinds, x_los, x_his, x_reached, x_branchAt, x_branchSafe, x_branchKinds, x_branchLos, x_branchHis, x_packet, x_registers, x_cells, x_keyWords, x_keyTaken⟩ := u
  obtain ⟨y_place, y_least, y_most, y_smallest, y_greatest, y_ways, y_fault, y_base, y_otherKind, y_otherLo, y_otherHi, y_low, y_high, y_bytes, y_steps, y_op, y_first, y_second, y_offset, y_given, y_length, y_there, y_known, y_lo, y_hi, y_at, y_lookups, y_safe, y_met, y_tag, y_word, y_packet, y_keys, y_values, y_many⟩ := v
  exact ⟨I.2.2.2.2.2.1.symm, I⟩
theorem ix_2 {x : Int32} (h : ¬ (x < 0 ∨ ¬ x < 2)) : ∃ m : Nat, m < 2 ∧ x = nI m := by
  obtain ⟨m, hm, e⟩ := nI_of (x := x) (fun z => h (Or.inl z))
  refine ⟨m, ?_, e⟩
  have : x < 2 := Classical.byContradiction fun z => h (Or.inr z)
  rw [e, xb_lt2 hm] at this; exact this
theorem i_vc_value {k : Nat} {u : SX} {v : SY} (I : i_Rel k u v) (hk : k + 6 ≤ 3072) (v1 : Int32) (v2 : Int32) (v3 : Int32) : wpX_value (fun r => wpY_value (fun r' => r' = r ∧ i_Rel (k + 6) u v) v v1 v2 v3) u v1 v2 v3 := by
  obtain ⟨x_safe, x_at, x_exitLeast, x_exitMost, x_branches, x_faultPlace, x_provedLeast, x_provedMost, x_packetLength, x_executed, x_ops, x_targets, x_sources, x_offsets, x_immediates, x_lengths, x_kinds, x_los, x_his, x_reached, x_branchAt, x_branchSafe, x_branchKinds, x_branchLos, x_branchHis, x_packet, x_registers, x_cells, x_keyWords, x_keyTaken⟩ := u
  obtain ⟨y_place, y_least, y_most, y_smallest, y_greatest, y_ways, y_fault, y_base, y_otherKind, y_otherLo, y_otherHi, y_low, y_high, y_bytes, y_steps, y_op, y_first, y_second, y_offset, y_given, y_length, y_there, y_known, y_lo, y_hi, y_at, y_lookups, y_safe, y_met, y_tag, y_word, y_packet, y_keys, y_values, y_many⟩ := v
  by_cases c : v3 < 0 ∨ ¬ v3 < 2
  · have Y : ∀ post : Int64 → Prop, post (-1) → wpY_value post (y_place, y_least, y_most, y_smallest, y_greatest, y_ways, y_fault, y_base, y_otherKind, y_otherLo, y_otherHi, y_low, y_high, y_bytes, y_steps, y_op, y_first, y_second, y_offset, y_given, y_length, y_there, y_known, y_lo, y_hi, y_at, y_lookups, y_safe, y_met, y_tag, y_word, y_packet, y_keys, y_values, y_many) v1 v2 v3 := by
      intro post P
      refine br_c (fun _ => br_f ?_ P) (fun _ => P)
      rw [yl_map]; exact fun z => z c
    rcases c with c | c
    · exact br_t c (Y _ ⟨rfl, I⟩)
    · refine br_c (fun _ => Y _ ⟨rfl, I⟩) (fun _ => br_f c (Y _ ⟨rfl, I⟩))
  · obtain ⟨cc, hc, rfl⟩ := ix_2 c
    have c1 : ¬ nI cc < 0 := fun z => c (Or.inl z)
    have c2 : nI cc < 2 := Classical.byContradiction fun z => c (Or.inr z)
    refine br_f c1 (br_t c2 ?_)
    by_cases m : v1 < 0 ∨ ¬ v1 < 2
    · have Y : ∀ post : Int64 → Prop, post (-1) → wpY_value post (y_place, y_least, y_most, y_smallest, y_greatest, y_ways, y_fault, y_base, y_otherKind, y_otherLo, y_otherHi, y_low, y_high, y_bytes, y_steps, y_op, y_first, y_second, y_offset, y_given, y_length, y_there, y_known, y_lo, y_hi, y_at, y_lookups, y_safe, y_met, y_tag, y_word, y_packet, y_keys, y_values, y_many) v1 v2 (nI cc) := by
        intro post P
        exact br_f (by rw [yl_map]; exact fun z => z m) P
      rcases m with m | m
      · exact br_t m (br_f sx_m1 (Y _ ⟨rfl, I⟩))
      · exact br_c (fun _ => br_f sx_m1 (Y _ ⟨rfl, I⟩)) (fun _ => br_f m (br_f sx_m1 (Y _ ⟨rfl, I⟩)))
    · obtain ⟨mm, hm, rfl⟩ := ix_2 m
      obtain ⟨π, M⟩ := I.2.2.2.2.2.2.1
      obtain ⟨n, en, M1⟩ := M mm hm
      have Y : ∀ post : Int64 → Prop, wpY_find (fun r_3 => ((0 ≤ r_3 → (vp_in ((2 * r_3) + nI cc) 16 ∧ (post (y_values ((2 * r_3) + nI cc).toNatClampNeg)))) ∧ (¬ 0 ≤ r_3 → (post (-1))))) (y_place, y_least, y_most, y_smallest, y_greatest, y_ways, y_fault, y_base, y_otherKind, y_otherLo, y_otherHi, y_low, y_high, y_bytes, y_steps, y_op, y_first, y_second, y_offset, y_given, y_length, y_there, y_known, y_lo, y_hi, y_at, y_lookups, y_safe, y_met, y_tag, y_word, y_packet, y_keys, y_values, y_many) (nI mm) (v2.toInt64 &&& 4294967295) → wpY_value post (y_place, y_least, y_most, y_smallest, y_greatest, y_ways, y_fault, y_base, y_otherKind, y_otherLo, y_otherHi, y_low, y_high, y_bytes, y_steps, y_op, y_first, y_second, y_offset, y_given, y_length, y_there, y_known, y_lo, y_hi, y_at, y_lookups, y_safe, y_met, y_tag, y_word, y_packet, y_keys, y_values, y_many) (nI mm) v2 (nI cc) := by
        intro post P
        exact br_t (by rw [yl_map]; exact m) (br_t (by rw [yl_map]; exact c) P)
      rcases mp_find M1 (v2.toInt64 &&& 4294967295) with ⟨j, j1, j2, j3, j4, jx, jy, j5, j6, j7⟩ | ⟨nx, ny⟩
      · have val := (sm_val M (show j < 8 by omega) j3).2 cc hc
        refine xr_slot hm (fun s h1 h2 h3 h4 => ?_) (fun h => absurd j4 (h j j1 j2 j3))
        rw [jx s h1 h2 h3 h4]
        have e : 6 + nI j * 2 + nI cc = nI (6 + 2 * j + cc) := by rw [xb_mur2, xb_add6, nI_add, Nat.mul_comm]
        refine br_t (nI_pos' (by omega)) ⟨by rw [e]; exact vp_in_nI (by omega) (by decide), ?_⟩
        rw [e, nI_clamp (n := 6 + 2 * j + cc) (by omega)]
        refine Y _ (yr_find hm M1.1 en (fun k2 h5 h6 h7 => ?_) (fun h => absurd j7 (h _ j5 j6)))
        rw [jy k2 h5 h6 h7]
        have e2 : 2 * nI (π j) + nI cc = nI (2 * π j + cc) := by rw [xb_mul2, nI_add]
        have p4 := M1.1
        refine br_t (nI_pos' (by omega)) ⟨by rw [e2]; exact vp_in_nI (by omega) (by decide), ?_⟩
        rw [e2, nI_clamp (n := 2 * π j + cc) (by omega)]
        exact ⟨val.1, I⟩
      · refine xr_slot hm (fun s h1 h2 h3 h4 => absurd h4 (nx s h1 h2 h3)) (fun _ => br_f sx_m1 ?_)
        exact Y _ (yr_find hm M1.1 en (fun k2 h5 h6 h7 => absurd h7 (ny k2 h5 h6)) (fun _ => br_f sx_m1 ⟨rfl, I⟩))
theorem i_vc_keys {k : Nat} {u : SX} {v : SY} (I : i_Rel k u v) (hk : k + 6 ≤ 3072) (v1 : Int32) : wpX_keys (fun r => wpY_keys (fun r' => r' = r ∧ i_Rel (k + 6) u v) v v1) u v1 := by
  obtain ⟨x_safe, x_at, x_exitLeast, x_exitMost, x_branches, x_faultPlace, x_provedLeast, x_provedMost, x_packetLength, x_executed, x_ops, x_targets, x_sources, x_offsets, x_immediates, x_lengths, x_kinds, x_los, x_his, x_reached, x_branchAt, x_branchSafe, x_branchKinds, x_branchLos, x_branchHis, x_packet, x_registers, x_cells, x_keyWords, x_keyTaken⟩ := u
  obtain ⟨y_place, y_least, y_most, y_smallest, y_greatest, y_ways, y_fault, y_base, y_otherKind, y_otherLo, y_otherHi, y_low, y_high, y_bytes, y_steps, y_op, y_first, y_second, y_offset, y_given, y_length, y_there, y_known, y_lo, y_hi, y_at, y_lookups, y_safe, y_met, y_tag, y_word, y_packet, y_keys, y_values, y_many⟩ := v
  by_cases m : v1 < 0 ∨ ¬ v1 < 2
  · have Y : ∀ post : Int32 → Prop, post (-1) → wpY_keys post (y_place, y_least, y_most, y_smallest, y_greatest, y_ways, y_fault, y_base, y_otherKind, y_otherLo, y_otherHi, y_low, y_high, y_bytes, y_steps, y_op, y_first, y_second, y_offset, y_given, y_length, y_there, y_known, y_lo, y_hi, y_at, y_lookups, y_safe, y_met, y_tag, y_word, y_packet, y_keys, y_values, y_many) v1 := fun post P => br_f (by rw [yl_map]; exact fun z => z m) P
    rcases m with m | m
    · exact br_t m (Y _ ⟨rfl, I⟩)
    · exact br_c (fun _ => Y _ ⟨rfl, I⟩) (fun _ => br_f m (Y _ ⟨rfl, I⟩))
  · obtain ⟨mm, hm, rfl⟩ := ix_2 m
    obtain ⟨π, M⟩ := I.2.2.2.2.2.2.1
    obtain ⟨n, en, M1⟩ := M mm hm
    refine xk_keys hm (br_t (by rw [yl_map]; exact m) ⟨vp_in_nI hm (by decide), ?_, I⟩)
    rw [nI_clamp (by omega), en, M1.2.1]
theorem i_vc_forget {k : Nat} {u : SX} {v : SY} (I : i_Rel k u v) (hk : k + 6 ≤ 3072) : wpX_forget (fun u' => wpY_forget (fun v' => i_Rel (k + 6) u' v') v) u := by
  obtain ⟨x_safe, x_at, x_exitLeast, x_exitMost, x_branches, x_faultPlace, x_provedLeast, x_provedMost, x_packetLength, x_executed, x_ops, x_targets, x_sources, x_offsets, x_immediates, x_lengths, x_kinds, x_los, x_his, x_reached, x_branchAt, x_branchSafe, x_branchKinds, x_branchLos, x_branchHis, x_packet, x_registers, x_cells, x_keyWords, x_keyTaken⟩ := u
  obtain ⟨y_place, y_least, y_most, y_smallest, y_greatest, y_ways, y_fault, y_base, y_otherKind, y_otherLo, y_otherHi, y_low, y_high, y_bytes, y_steps, y_op, y_first, y_second, y_offset, y_given, y_length, y_there, y_known, y_lo, y_hi, y_at, y_lookups, y_safe, y_met, y_tag, y_word, y_packet, y_keys, y_values, y_many⟩ := v
  obtain ⟨ar, ho, hl, pr, pk, st, ⟨π, mm⟩, th, z16⟩ := I
  refine xk_forget (nm_r (e' := upd y_many 0 0) (by rw [xb_b0]) (nm_r (e' := upd (upd y_many 0 0) 1 0) (by rw [xb_b0]) ?_))
  exact ⟨ar, ho, hl, pr, pk, st, ⟨π, mp_forget (by rw [pk_un (by decide), pk_us]; rfl) (by rw [pk_us]; rfl)⟩, th, z16⟩
