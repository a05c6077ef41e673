section
variable {y_place : Int32} {y_least : Int64} {y_most : Int64} {y_smallest : Int64} {y_greatest : Int64} {y_ways : Int32} {y_fault : Int32} {y_base : Int32} {y_otherKind : Int32} {y_otherLo : Int64} {y_otherHi : Int64} {y_low : Int64} {y_high : Int64} {y_bytes : Int32} {y_steps : Int32} {y_op : Nat → Int32} {y_first : Nat → Int32} {y_second : Nat → Int32} {y_offset : Nat → Int32} {y_given : Nat → Int32} {y_length : Nat → Int32} {y_there : Nat → Int32} {y_known : Nat → Int32} {y_lo : Nat → Int64} {y_hi : Nat → Int64} {y_at : Nat → Int32} {y_lookups : Nat → Int32} {y_safe : Nat → Int32} {y_met : Nat → Int32} {y_tag : Nat → Int32} {y_word : Nat → Int64} {y_packet : Nat → Int32} {y_keys : Nat → Int64} {y_values : Nat → Int64} {y_many : Nat → Int32}
theorem yr_28 {post : Int64 → SY → Prop} {p : Int32} (H : ∃ n72, wY_run_72 post p n72 0 y_place y_least y_most y_smallest y_greatest y_ways y_fault y_base y_otherKind y_otherLo y_otherHi y_low y_high y_bytes 0 y_op y_first y_second y_offset y_given y_length y_there y_known y_lo y_hi y_at y_lookups y_safe y_met (upd (upd (ze_ y_tag 14) 1 2) 2 3) (vp_updL (vp_updL (zeL y_word 14) 1 0) 2 y_bytes.toInt64) y_packet y_keys y_values y_many) : ∀ (d m : Nat), m + d = 14 → wY_run_28 post p (d + 1) (nI m) y_place y_least y_most y_smallest y_greatest y_ways y_fault y_base y_otherKind y_otherLo y_otherHi y_low y_high y_bytes y_steps y_op y_first y_second y_offset y_given y_length y_there y_known y_lo y_hi y_at y_lookups y_safe y_met (ze_ y_tag m) (zeL y_word m) y_packet y_keys y_values y_many := by
  intro d
  induction d with
  | zero =>
    intro m hm
    have e : m = 14 := by omega
    subst e
    exact br_t (by decide) ((yr_hold (r := 1) (by decide) (by unfold k7_; simp)).mpr ((yr_hold (r := 2) (by decide) (by unfold k7_; simp)).mpr H))
  | succ d ih =>
    intro m hm
    refine br_f (by rw [xb_le14 (by omega)]; omega) ((yr_hold (by omega) (Or.inl rfl)).mpr (nm_r (nI_1 m) ?_))
    rw [ze_s, zeL_s]
    exact ih (m + 1) (by omega)
theorem yr_28' {post : Int64 → SY → Prop} {p : Int32} (H : ∃ n72, wY_run_72 post p n72 0 y_place y_least y_most y_smallest y_greatest y_ways y_fault y_base y_otherKind y_otherLo y_otherHi y_low y_high y_bytes 0 y_op y_first y_second y_offset y_given y_length y_there y_known y_lo y_hi y_at y_lookups y_safe y_met (upd (upd (ze_ y_tag 14) 1 2) 2 3) (vp_updL (vp_updL (zeL y_word 14) 1 0) 2 y_bytes.toInt64) y_packet y_keys y_values y_many) : ∃ n28, wY_run_28 post p n28 0 y_place y_least y_most y_smallest y_greatest y_ways y_fault y_base y_otherKind y_otherLo y_otherHi y_low y_high y_bytes y_steps y_op y_first y_second y_offset y_given y_length y_there y_known y_lo y_hi y_at y_lookups y_safe y_met y_tag y_word y_packet y_keys y_values y_many := by
  refine ⟨15, ?_⟩
  have := yr_28 (y_steps := y_steps) H 14 0 rfl
  rw [ze_0, zeL_0] at this
  exact this
end
section
variable {x_safe : Int64} {x_at : Int32} {x_exitLeast : Int64} {x_exitMost : Int64} {x_branches : Int32} {x_faultPlace : Int32} {x_provedLeast : Int64} {x_provedMost : Int64} {x_packetLength : Int32} {x_executed : Int32} {x_ops : Nat → Int32} {x_targets : Nat → Int32} {x_sources : Nat → Int32} {x_offsets : Nat → Int32} {x_immediates : Nat → Int32} {x_lengths : Nat → Int32} {x_kinds : Nat → Int32} {x_los : Nat → Int64} {x_his : Nat → Int64} {x_reached : Nat → Int32} {x_branchAt : Nat → Int32} {x_branchSafe : Nat → Int64} {x_branchKinds : Nat → Int32} {x_branchLos : Nat → Int64} {x_branchHis : Nat → Int64} {x_packet : Nat → Int32} {x_registers : Nat → Int64} {x_cells : Nat → Int64} {x_keyWords : Nat → Int64} {x_keyTaken : Nat → Int32}
theorem xk_step {post : Int32 → Prop} {m j c fu : Nat} (hm : m < 2) (hj : j < 4) (H : wX_keys_15 post (nI m) x_safe x_at x_exitLeast x_exitMost x_branches x_faultPlace x_provedLeast x_provedMost x_packetLength x_executed x_ops x_targets x_sources x_offsets x_immediates x_lengths x_kinds x_los x_his x_reached x_branchAt x_branchSafe x_branchKinds x_branchLos x_branchHis x_packet x_registers x_cells x_keyWords x_keyTaken fu (nI (c + b1_ (x_keyTaken (4 * m + j)))) (nI (j + 1))) : wX_keys_15 post (nI m) x_safe x_at x_exitLeast x_exitMost x_branches x_faultPlace x_provedLeast x_provedMost x_packetLength x_executed x_ops x_targets x_sources x_offsets x_immediates x_lengths x_kinds x_los x_his x_reached x_branchAt x_branchSafe x_branchKinds x_branchLos x_branchHis x_packet x_registers x_cells x_keyWords x_keyTaken (fu + 1) (nI c) (nI j) := by
  have e : nI m * 4 + nI j = nI (4 * m + j) := by rw [xb_mur4, nI_add, Nat.mul_comm]
  have v : vp_in (nI m * 4 + nI j) 8 := by rw [e]; exact vp_in_nI (by omega) (by decide)
  have cl : (nI m * 4 + nI j).toNatClampNeg = 4 * m + j := by rw [e]; exact nI_clamp (by omega)
  refine br_f (by rw [xb_le4 (by omega)]; omega) ⟨v, ?_⟩
  rw [cl]
  refine br_c (fun z => nm_r (nI_1 j) ?_) (fun z => nm_r (nI_1 c) (nm_r (nI_1 j) ?_))
  · rw [b1_0 z] at H; exact H
  · rw [b1_1 z] at H; exact H
theorem xk_keys {post : Int32 → Prop} {m : Nat} (hm : m < 2) (H : post (nI (cn_ x_keyTaken m))) : wpX_keys post (x_safe, x_at, x_exitLeast, x_exitMost, x_branches, x_faultPlace, x_provedLeast, x_provedMost, x_packetLength, x_executed, x_ops, x_targets, x_sources, x_offsets, x_immediates, x_lengths, x_kinds, x_los, x_his, x_reached, x_branchAt, x_branchSafe, x_branchKinds, x_branchLos, x_branchHis, x_packet, x_registers, x_cells, x_keyWords, x_keyTaken) (nI m) := by
  refine br_f (xb_lt0 (by omega)) (br_t (by rw [xb_lt2 (by omega)]; exact hm) ⟨5, ?_⟩)
  refine xk_step (c := 0) (j := 0) hm (by omega) (xk_step hm (by omega) (xk_step hm (by omega) (xk_step hm (by omega) ?_)))
  refine br_t (by decide) ?_
  unfold cn_ at H
  rw [Nat.zero_add]
  exact H
theorem xk_forL {post : SX → Prop} (H : post (x_safe, x_at, x_exitLeast, x_exitMost, x_branches, x_faultPlace, x_provedLeast, x_provedMost, x_packetLength, x_executed, x_ops, x_targets, x_sources, x_offsets, x_immediates, x_lengths, x_kinds, x_los, x_his, x_reached, x_branchAt, x_branchSafe, x_branchKinds, x_branchLos, x_branchHis, x_packet, x_registers, x_cells, x_keyWords, ze_ x_keyTaken 8)) : ∀ d m : Nat, m + d = 8 → wX_forget_2 post x_safe x_at x_exitLeast x_exitMost x_branches x_faultPlace x_provedLeast x_provedMost x_packetLength x_executed (d + 1) (nI m) x_ops x_targets x_sources x_offsets x_immediates x_lengths x_kinds x_los x_his x_reached x_branchAt x_branchSafe x_branchKinds x_branchLos x_branchHis x_packet x_registers x_cells x_keyWords (ze_ x_keyTaken m) := by
  intro d
  induction d with
  | zero =>
    intro m hm
    have e : m = 8 := by omega
    subst e
    exact br_t (by decide) H
  | succ d ih =>
    intro m hm
    exact br_f (by rw [xb_le8 (by omega)]; omega) ⟨vp_in_nI (by omega) (by decide), nm_r (e' := ze_ x_keyTaken (m + 1)) (by rw [nI_clamp (by omega), xb_bf, ze_s]) (nm_r (nI_1 m) (ih (m + 1) (by omega)))⟩
theorem xk_forget {post : SX → Prop} (H : post (x_safe, x_at, x_exitLeast, x_exitMost, x_branches, x_faultPlace, x_provedLeast, x_provedMost, x_packetLength, x_executed, x_ops, x_targets, x_sources, x_offsets, x_immediates, x_lengths, x_kinds, x_los, x_his, x_reached, x_branchAt, x_branchSafe, x_branchKinds, x_branchLos, x_branchHis, x_packet, x_registers, x_cells, x_keyWords, ze_ x_keyTaken 8)) : wpX_forget post (x_safe, x_at, x_exitLeast, x_exitMost, x_branches, x_faultPlace, x_provedLeast, x_provedMost, x_packetLength, x_executed, x_ops, x_targets, x_sources, x_offsets, x_immediates, x_lengths, x_kinds, x_los, x_his, x_reached, x_branchAt, x_branchSafe, x_branchKinds, x_branchLos, x_branchHis, x_packet, x_registers, x_cells, x_keyWords, x_keyTaken) := by
  refine ⟨9, ?_⟩
  have := xk_forL H 8 0 rfl
  rw [ze_0] at this
  exact this
end
theorem mp_forget {π : Nat → Nat} {kt : Nat → Int32} {kw ce ks vs : Nat → Int64} {mn : Nat → Int32} (h0 : mn 0 = nI 0) (h1 : mn 1 = nI 0) : Mp_ π (ze_ kt 8) kw ce ks vs mn := by
  intro m hm
  have z : ∀ s, s < 8 → ze_ kt 8 s = 0 := by intro s hs; unfold ze_; rw [if_pos hs]
  refine ⟨0, ?_, by omega, ?_, fun s a b c => absurd (z s (by omega)) c, fun s t a b c d e => absurd (z s (by omega)) e, fun k a b => absurd b (by omega)⟩
  · have : m = 0 ∨ m = 1 := by omega
    rcases this with rfl | rfl
    · exact h0
    · exact h1
  · unfold cn_
    rw [z _ (by omega), z _ (by omega), z _ (by omega), z _ (by omega), b1_0 rfl]
theorem con_0 {π : Nat → Nat} {rg ce : Nat → Int64} {kt : Nat → Int32} {kw : Nat → Int64} {tg : Nat → Int32} {wd ks vs : Nat → Int64} {mn : Nat → Int32} {b : Nat} (M : Mp_ π kt kw ce ks vs mn) (r1 : rg 1 = 0) (r2 : rg 2 = lN b) (r8 : rg 8 = 0) (t1 : tg 1 = 2) (w1 : wd 1 = 0) (t2 : tg 2 = 3) (w2 : wd 2 = lN b) : Con_ K0_ (fun _ => 0) (fun _ => 0) 0 π rg ce kt kw tg wd ks vs mn b := by
  have e0 : ∀ r, ¬ r = 1 → ¬ r = 2 → K0_ (g_ r) = 0 := by
    intro r n1 n2
    unfold K0_
    rw [if_neg, if_neg, if_neg (g_8 r)]
    · unfold g_; split <;> omega
    · unfold g_; split <;> omega
  refine ⟨fun r hr => ?_, r8, ⟨⟨0, by omega, rfl⟩, fun r t hr ht kr _ => ?_⟩, M⟩
  · by_cases z1 : r = 1
    · subst z1
      have ex : cx_ rg ce 1 = 0 := by unfold cx_; rw [if_pos (by decide)]; exact r1
      rw [ex, t1, w1]
      exact V_2 rfl ⟨0, 0, 0, by omega, by omega, by omega, rfl, rfl, rfl⟩
    · by_cases z2 : r = 2
      · subst z2
        have ex : cx_ rg ce 2 = lN b := by unfold cx_; rw [if_pos (by decide)]; exact r2
        rw [ex, t2, w2]
        exact V_3 rfl rfl
      · rw [e0 r z1 z2]; exact V_0
  · exfalso
    by_cases z1 : r = 1
    · subst z1; exact absurd kr (by decide)
    · by_cases z2 : r = 2
      · subst z2; exact absurd kr (by decide)
      · rw [e0 r z1 z2] at kr; exact absurd kr (by decide)
section
variable {x_safe : Int64} {x_at : Int32} {x_exitLeast : Int64} {x_exitMost : Int64} {x_branches : Int32} {x_faultPlace : Int32} {x_provedLeast : Int64} {x_provedMost : Int64} {x_packetLength : Int32} {x_executed : Int32} {x_ops : Nat → Int32} {x_targets : Nat → Int32} {x_sources : Nat → Int32} {x_offsets : Nat → Int32} {x_immediates : Nat → Int32} {x_lengths : Nat → Int32} {x_kinds : Nat → Int32} {x_los : Nat → Int64} {x_his : Nat → Int64} {x_reached : Nat → Int32} {x_branchAt : Nat → Int32} {x_branchSafe : Nat → Int64} {x_branchKinds : Nat → Int32} {x_branchLos : Nat → Int64} {x_branchHis : Nat → Int64} {x_packet : Nat → Int32} {x_registers : Nat → Int64} {x_cells : Nat → Int64} {x_keyWords : Nat → Int64} {x_keyTaken : Nat → Int32} {y_place : Int32} {y_least : Int64} {y_most : Int64} {y_smallest : Int64} {y_greatest : Int64} {y_ways : Int32} {y_fault : Int32} {y_base : Int32} {y_otherKind : Int32} {y_otherLo : Int64} {y_otherHi : Int64} {y_low : Int64} {y_high : Int64} {y_bytes : Int32} {y_steps : Int32} {y_op : Nat → Int32} {y_first : Nat → Int32} {y_second : Nat → Int32} {y_offset : Nat → Int32} {y_given : Nat → Int32} {y_length : Nat → Int32} {y_there : Nat → Int32} {y_known : Nat → Int32} {y_lo : Nat → Int64} {y_hi : Nat → Int64} {y_at : Nat → Int32} {y_lookups : Nat → Int32} {y_safe : Nat → Int32} {y_met : Nat → Int32} {y_tag : Nat → Int32} {y_word : Nat → Int64} {y_packet : Nat → Int32} {y_keys : Nat → Int64} {y_values : Nat → Int64} {y_many : Nat → Int32}
theorem vc_run {k p : Nat} (I : i_Rel k (x_safe, x_at, x_exitLeast, x_exitMost, x_branches, x_faultPlace, x_provedLeast, x_provedMost, x_packetLength, x_executed, x_ops, x_targets, x_sources, x_offsets, x_immediates, x_lengths, x_kinds, x_los, x_his, x_reached, x_branchAt, x_branchSafe, x_branchKinds, x_branchLos, x_branchHis, x_packet, x_registers, x_cells, x_keyWords, x_keyTaken) (y_place, y_least, y_most, y_smallest, y_greatest, y_ways, y_fault, y_base, y_otherKind, y_otherLo, y_otherHi, y_low, y_high, y_bytes, y_steps, y_op, y_first, y_second, y_offset, y_given, y_length, y_there, y_known, y_lo, y_hi, y_at, y_lookups, y_safe, y_met, y_tag, y_word, y_packet, y_keys, y_values, y_many)) (hp : p < 2) : wpX_run (fun r u' => wpY_run (fun r' v' => r' = r ∧ i_Rel (k + 6) u' v') (y_place, y_least, y_most, y_smallest, y_greatest, y_ways, y_fault, y_base, y_otherKind, y_otherLo, y_otherHi, y_low, y_high, y_bytes, y_steps, y_op, y_first, y_second, y_offset, y_given, y_length, y_there, y_known, y_lo, y_hi, y_at, y_lookups, y_safe, y_met, y_tag, y_word, y_packet, y_keys, y_values, y_many) (nI p)) (x_safe, x_at, x_exitLeast, x_exitMost, x_branches, x_faultPlace, x_provedLeast, x_provedMost, x_packetLength, x_executed, x_ops, x_targets, x_sources, x_offsets, x_immediates, x_lengths, x_kinds, x_los, x_his, x_reached, x_branchAt, x_branchSafe, x_branchKinds, x_branchLos, x_branchHis, x_packet, x_registers, x_cells, x_keyWords, x_keyTaken) (nI p) := by
  obtain ⟨⟨rfl, rfl, rfl, rfl, rfl, rfl⟩, ho, hl', ⟨rfl, rfl, rfl⟩, ⟨b, hb, rfl, rfl, hpk⟩, rfl, ⟨π, mm⟩, th, z16⟩ := I
  have cp : (nI p).toNatClampNeg = p := nI_clamp (by omega)
  refine br_f (xb_lt0 (by omega)) (br_t (by rw [xb_lt2 (by omega)]; exact hp) ⟨vp_in_nI (by omega) (by decide), ?_⟩)
  rw [cp]
  have Y0 : ∀ post : Int64 → SY → Prop, (y_there p = 0 → post (-2) (x_faultPlace, x_provedLeast, x_provedMost, y_smallest, y_greatest, y_ways, y_fault, y_base, y_otherKind, y_otherLo, y_otherHi, y_low, y_high, nI b, x_executed, x_ops, x_targets, x_sources, x_offsets, x_immediates, x_lengths, y_there, y_known, y_lo, y_hi, y_at, y_lookups, y_safe, y_met, y_tag, y_word, y_packet, y_keys, y_values, y_many)) → (¬ y_there p = 0 → ∃ n28, wY_run_28 post (nI p) n28 0 x_faultPlace x_provedLeast x_provedMost y_smallest y_greatest y_ways y_fault y_base y_otherKind y_otherLo y_otherHi y_low y_high (nI b) x_executed x_ops x_targets x_sources x_offsets x_immediates x_lengths y_there y_known y_lo y_hi y_at y_lookups y_safe y_met y_tag y_word y_packet y_keys y_values y_many) → wpY_run post (x_faultPlace, x_provedLeast, x_provedMost, y_smallest, y_greatest, y_ways, y_fault, y_base, y_otherKind, y_otherLo, y_otherHi, y_low, y_high, nI b, x_executed, x_ops, x_targets, x_sources, x_offsets, x_immediates, x_lengths, y_there, y_known, y_lo, y_hi, y_at, y_lookups, y_safe, y_met, y_tag, y_word, y_packet, y_keys, y_values, y_many) (nI p) := by
    intro post A B
    refine br_f (xb_lt0 (by omega)) (br_t (by rw [xb_ge1 (by omega)]; omega) ⟨vp_in_nI hp (by decide), ?_⟩)
    rw [cp]
    exact br_c A B
  rcases th p hp with ⟨t0, l0⟩ | ⟨t1, m, m1, m2, m3, s⟩
  · refine br_t l0 (Y0 _ (fun _ => ⟨rfl, ⟨rfl, rfl, rfl, rfl, rfl, rfl⟩, ho, hl', ⟨rfl, rfl, rfl⟩, ⟨b, hb, rfl, rfl, hpk⟩, rfl, ⟨π, mm⟩, th, z16⟩) (fun n => absurd t0 n))
  · have l0 : ¬ x_lengths p = 0 := by rw [m3, xb_eq0 (by omega)]; omega
    refine br_f l0 (nm_e (nm_r (e' := vp_updL (vp_updL x_registers 1 0) 2 (lN b)) (by rw [nI_l (by omega)]) (nm_e ?_)))
    have C0 : Con_ K0_ (fun _ => 0) (fun _ => 0) 0 π (vp_updL (vp_updL (vp_updL x_registers 1 0) 2 (lN b)) 8 0) x_cells x_keyTaken x_keyWords (upd (upd (ze_ y_tag 14) 1 2) 2 3) (vp_updL (vp_updL (zeL y_word 14) 1 0) 2 (nI b).toInt64) y_keys y_values y_many b := by
      refine con_0 mm ?_ ?_ pk_uLs ?_ ?_ pk_us ?_
      · rw [pk_uLn (by decide), pk_uLn (by decide), pk_uLs]
      · rw [pk_uLn (by decide), pk_uLs]
      · rw [pk_un (by decide), pk_us]
      · rw [pk_uLn (by decide), pk_uLs]
      · rw [pk_uLs, nI_l (by omega)]
    obtain ⟨r, st, π2, rg2, ce2, kt2, kw2, tg2, wd2, ks2, vs2, mn2, M2, X2, Y2⟩ := s.2 _ _ _ _ _ _ _ _ _ _ _ x_packet y_packet C0 hb hpk
    have PG : Pg_ x_ops x_targets x_sources x_offsets x_immediates p m (fun j => x_ops (40 * p + j)) (fun j => x_targets (40 * p + j)) (fun j => x_sources (40 * p + j)) (fun j => x_offsets (40 * p + j)) (fun j => x_immediates (40 * p + j)) := fun j _ => ⟨rfl, rfl, rfl, rfl, rfl⟩
    refine ⟨41, X2 x_safe x_at x_exitLeast x_exitMost x_branches x_faultPlace x_provedLeast x_provedMost 0 0 x_ops x_targets x_sources x_offsets x_immediates x_lengths x_kinds x_los x_his x_reached x_branchAt x_branchSafe x_branchKinds x_branchLos x_branchHis x_packet x_registers x_cells x_keyWords x_keyTaken p 0 41 _ hp PG m3 (by omega) (by omega) ?_⟩
    refine Y0 _ (fun z => absurd z t1) (fun _ => yr_28' ⟨41, Y2 x_faultPlace x_provedLeast x_provedMost y_smallest y_greatest y_ways y_fault y_base y_otherKind y_otherLo y_otherHi y_low y_high 0 0 x_ops x_targets x_sources x_offsets x_immediates x_lengths y_there y_known y_lo y_hi y_at y_lookups y_safe y_met y_tag y_word y_packet y_keys y_values y_many p 41 _ hp PG (by omega) ?_⟩)
    exact ⟨rfl, ⟨rfl, rfl, rfl, rfl, rfl, rfl⟩, ho, hl', ⟨rfl, rfl, rfl⟩, ⟨b, hb, rfl, rfl, hpk⟩, rfl, ⟨π2, M2⟩, th, z16⟩
end
