section
variable {x_safe : Int64} {x_at : Int32} {x_exitLeast : Int64} {x_exitMost : Int64} {x_branches : Int32} {x_faultPlace : Int32} {x_provedLeast : Int64} {x_provedMost : Int64} {x_packetLength : Int32} {x_executed : Int32} {x_ops : Nat → Int32} {x_targets : Nat → Int32} {x_sources : Nat → Int32} {x_offsets : Nat → Int32} {x_immediates : Nat → Int32} {x_lengths : Nat → Int32} {x_kinds : Nat → Int32} {x_los : Nat → Int64} {x_his : Nat → Int64} {x_reached : Nat → Int32} {x_branchAt : Nat → Int32} {x_branchSafe : Nat → Int64} {x_branchKinds : Nat → Int32} {x_branchLos : Nat → Int64} {x_branchHis : Nat → Int64} {x_packet : Nat → Int32} {x_registers : Nat → Int64} {x_cells : Nat → Int64} {x_keyWords : Nat → Int64} {x_keyTaken : Nat → Int32}
theorem xr_slotL {post : Int32 → Prop} {m : Nat} {key : Int64} (hm : m < 2) (A : ∀ s, 4 * m ≤ s → s < 4 * m + 4 → ¬ x_keyTaken s = 0 → x_keyWords s = key → post (nI s)) (B : (∀ s, 4 * m ≤ s → s < 4 * m + 4 → ¬ x_keyTaken s = 0 → ¬ x_keyWords s = key) → post (-1)) : ∀ d j : Nat, j + d = 4 → (∀ s, 4 * m ≤ s → s < 4 * m + j → ¬ x_keyTaken s = 0 → ¬ x_keyWords s = key) → wX_slotOfKey_14 post (nI m) key x_safe x_at x_exitLeast x_exitMost x_branches x_faultPlace x_provedLeast x_provedMost x_packetLength x_executed x_ops x_targets x_sources x_offsets x_immediates x_lengths x_kinds x_los x_his x_reached x_branchAt x_branchSafe x_branchKinds x_branchLos x_branchHis x_packet x_registers x_cells x_keyWords x_keyTaken (d + 1) (nI j) := by
  intro d
  induction d with
  | zero =>
    intro j hj h
    have : j = 4 := by omega
    subst this
    exact br_t (by decide) (B h)
  | succ d ih =>
    intro j hj h
    have v : vp_in (nI (4 * m + j)) 8 := vp_in_nI (by omega) (by decide)
    have c : (nI (4 * m + j)).toNatClampNeg = 4 * m + j := nI_clamp (by omega)
    have nx : (¬ x_keyTaken (4 * m + j) = 0 → ¬ x_keyWords (4 * m + j) = key) → wX_slotOfKey_14 post (nI m) key x_safe x_at x_exitLeast x_exitMost x_branches x_faultPlace x_provedLeast x_provedMost x_packetLength x_executed x_ops x_targets x_sources x_offsets x_immediates x_lengths x_kinds x_los x_his x_reached x_branchAt x_branchSafe x_branchKinds x_branchLos x_branchHis x_packet x_registers x_cells x_keyWords x_keyTaken (d + 1) (nI (j + 1)) := by
      intro q
      refine ih (j + 1) (by omega) (fun s h1 h2 h3 => ?_)
      by_cases z : s = 4 * m + j
      · subst z; exact q h3
      · exact h s h1 (by omega) h3
    refine br_f (by rw [xb_le4 (by omega)]; omega) (nm_r (e' := nI (4 * m + j)) (by rw [xb_mur4, nI_add, Nat.mul_comm]) ⟨v, ?_⟩)
    rw [c]
    refine br_c (fun z => nm_r (nI_1 j) (nx (fun n => absurd z n))) (fun z => ⟨v, br_c (fun y => A _ (by omega) (by omega) z y) (fun y => nm_r (nI_1 j) (nx (fun _ => y)))⟩)
theorem xr_slot {post : Int32 → Prop} {m : Nat} {key : Int64} (hm : m < 2) (A : ∀ s, 4 * m ≤ s → s < 4 * m + 4 → ¬ x_keyTaken s = 0 → x_keyWords s = key → post (nI s)) (B : (∀ s, 4 * m ≤ s → s < 4 * m + 4 → ¬ x_keyTaken s = 0 → ¬ x_keyWords s = key) → post (-1)) : wpX_slotOfKey post (x_safe, x_at, x_exitLeast, x_exitMost, x_branches, x_faultPlace, x_provedLeast, x_provedMost, x_packetLength, x_executed, x_ops, x_targets, x_sources, x_offsets, x_immediates, x_lengths, x_kinds, x_los, x_his, x_reached, x_branchAt, x_branchSafe, x_branchKinds, x_branchLos, x_branchHis, x_packet, x_registers, x_cells, x_keyWords, x_keyTaken) (nI m) key := by
  refine br_f (xb_lt0 (by omega)) (br_t (by rw [xb_lt2 (by omega)]; exact hm) ⟨5, ?_⟩)
  exact xr_slotL hm A B 4 0 rfl (fun s h1 h2 => absurd h2 (by omega))
theorem xr_freeL {post : Int32 → Prop} {m : Nat} (hm : m < 2) (A : ∀ s, 4 * m ≤ s → s < 4 * m + 4 → x_keyTaken s = 0 → (∀ t, 4 * m ≤ t → t < s → ¬ x_keyTaken t = 0) → post (nI s)) (B : (∀ s, 4 * m ≤ s → s < 4 * m + 4 → ¬ x_keyTaken s = 0) → post (-1)) : ∀ d j : Nat, j + d = 4 → (∀ s, 4 * m ≤ s → s < 4 * m + j → ¬ x_keyTaken s = 0) → wX_freeSlot_13 post (nI m) x_safe x_at x_exitLeast x_exitMost x_branches x_faultPlace x_provedLeast x_provedMost x_packetLength x_executed x_ops x_targets x_sources x_offsets x_immediates x_lengths x_kinds x_los x_his x_reached x_branchAt x_branchSafe x_branchKinds x_branchLos x_branchHis x_packet x_registers x_cells x_keyWords x_keyTaken (d + 1) (nI j) := by
  intro d
  induction d with
  | zero =>
    intro j hj h
    have : j = 4 := by omega
    subst this
    exact br_t (by decide) (B h)
  | succ d ih =>
    intro j hj h
    have v : vp_in (nI (4 * m + j)) 8 := vp_in_nI (by omega) (by decide)
    have c : (nI (4 * m + j)).toNatClampNeg = 4 * m + j := nI_clamp (by omega)
    refine br_f (by rw [xb_le4 (by omega)]; omega) (nm_r (e' := nI (4 * m + j)) (by rw [xb_mur4, nI_add, Nat.mul_comm]) ⟨v, ?_⟩)
    rw [c]
    refine br_c (fun z => A _ (by omega) (by omega) z h) (fun z => nm_r (nI_1 j) (ih (j + 1) (by omega) (fun s h1 h2 => ?_)))
    by_cases y : s = 4 * m + j
    · subst y; exact z
    · exact h s h1 (by omega)
theorem xr_free {post : Int32 → Prop} {m : Nat} (hm : m < 2) (A : ∀ s, 4 * m ≤ s → s < 4 * m + 4 → x_keyTaken s = 0 → (∀ t, 4 * m ≤ t → t < s → ¬ x_keyTaken t = 0) → post (nI s)) (B : (∀ s, 4 * m ≤ s → s < 4 * m + 4 → ¬ x_keyTaken s = 0) → post (-1)) : wpX_freeSlot post (x_safe, x_at, x_exitLeast, x_exitMost, x_branches, x_faultPlace, x_provedLeast, x_provedMost, x_packetLength, x_executed, x_ops, x_targets, x_sources, x_offsets, x_immediates, x_lengths, x_kinds, x_los, x_his, x_reached, x_branchAt, x_branchSafe, x_branchKinds, x_branchLos, x_branchHis, x_packet, x_registers, x_cells, x_keyWords, x_keyTaken) (nI m) := by
  refine br_f (xb_lt0 (by omega)) (br_t (by rw [xb_lt2 (by omega)]; exact hm) ⟨5, ?_⟩)
  exact xr_freeL hm A B 4 0 rfl (fun s h1 h2 => absurd h2 (by omega))
theorem xr_put {post : SX → Prop} {s : Nat} {key p q : Int64} (hs : s < 8) (H : post (x_safe, x_at, x_exitLeast, x_exitMost, x_branches, x_faultPlace, x_provedLeast, x_provedMost, x_packetLength, x_executed, x_ops, x_targets, x_sources, x_offsets, x_immediates, x_lengths, x_kinds, x_los, x_his, x_reached, x_branchAt, x_branchSafe, x_branchKinds, x_branchLos, x_branchHis, x_packet, x_registers, vp_updL (vp_updL x_cells (6 + 2 * s) p) (6 + 2 * s + 1) q, vp_updL x_keyWords s key, upd x_keyTaken s 1)) : wpX_putKey post (x_safe, x_at, x_exitLeast, x_exitMost, x_branches, x_faultPlace, x_provedLeast, x_provedMost, x_packetLength, x_executed, x_ops, x_targets, x_sources, x_offsets, x_immediates, x_lengths, x_kinds, x_los, x_his, x_reached, x_branchAt, x_branchSafe, x_branchKinds, x_branchLos, x_branchHis, x_packet, x_registers, x_cells, x_keyWords, x_keyTaken) (nI s) key p q := by
  have v : vp_in (nI s) 8 := vp_in_nI hs (by decide)
  have c : (nI s).toNatClampNeg = s := nI_clamp (by omega)
  have e : 6 + nI s * 2 = nI (6 + 2 * s) := by rw [xb_mur2, xb_add6, Nat.mul_comm]
  have e2 : 6 + nI s * 2 + 1 = nI (6 + 2 * s + 1) := by rw [e, nI_1]
  refine ⟨v, nm_r (e' := upd x_keyTaken s 1) (by rw [c, xb_bt]) ⟨v, nm_r (e' := vp_updL x_keyWords s key) (by rw [c]) ⟨by rw [e]; exact vp_in_nI (by omega) (by decide), nm_r (e' := vp_updL x_cells (6 + 2 * s) p) (by rw [e, nI_clamp (by omega)]) ⟨by rw [e2]; exact vp_in_nI (by omega) (by decide), nm_r (e' := vp_updL (vp_updL x_cells (6 + 2 * s) p) (6 + 2 * s + 1) q) (by rw [e2, nI_clamp (by omega)]) H⟩⟩⟩⟩
end
section
variable {y_place : Int32} {y_least : Int64} {y_most : Int64} {y_smallest : Int64} {y_greatest : Int64} {y_ways : Int32} {y_fault : Int32} {y_base : Int32} {y_otherKind : Int32} {y_otherLo : Int64} {y_otherHi : Int64} {y_low : Int64} {y_high : Int64} {y_bytes : Int32} {y_steps : Int32} {y_op : Nat → Int32} {y_first : Nat → Int32} {y_second : Nat → Int32} {y_offset : Nat → Int32} {y_given : Nat → Int32} {y_length : Nat → Int32} {y_there : Nat → Int32} {y_known : Nat → Int32} {y_lo : Nat → Int64} {y_hi : Nat → Int64} {y_at : Nat → Int32} {y_lookups : Nat → Int32} {y_safe : Nat → Int32} {y_met : Nat → Int32} {y_tag : Nat → Int32} {y_word : Nat → Int64} {y_packet : Nat → Int32} {y_keys : Nat → Int64} {y_values : Nat → Int64} {y_many : Nat → Int32}
theorem yr_findL {post : Int32 → Prop} {m n : Nat} {key : Int64} (hm : m < 2) (hn : n ≤ 4) (en : y_many m = nI n) (A : ∀ k, 4 * m ≤ k → k < 4 * m + n → y_keys k = key → post (nI k)) (B : (∀ k, 4 * m ≤ k → k < 4 * m + n → ¬ y_keys k = key) → post (-1)) : ∀ d j : Nat, j + d = 4 * m + n → 4 * m ≤ j → (∀ k, 4 * m ≤ k → k < j → ¬ y_keys k = key) → wY_find_5 post (nI m) key y_place y_least y_most y_smallest y_greatest y_ways y_fault y_base y_otherKind y_otherLo y_otherHi y_low y_high y_bytes y_steps y_op y_first y_second y_offset y_given y_length y_there y_known y_lo y_hi y_at y_lookups y_safe y_met y_tag y_word y_packet y_keys y_values y_many (d + 1) (nI j) := by
  intro d
  have v : vp_in (nI m) 2 := vp_in_nI hm (by decide)
  have c : (nI m).toNatClampNeg = m := nI_clamp (by omega)
  have e : 4 * nI m + y_many (nI m).toNatClampNeg = nI (4 * m + n) := by rw [c, en, xb_mul4, nI_add]
  induction d with
  | zero =>
    intro j hj h4 h
    refine ⟨v, ?_⟩
    rw [e]
    exact br_t (by rw [nI_leI (by omega) (by omega)]; omega) (B (fun k h1 h2 => h k h1 (by omega)))
  | succ d ih =>
    intro j hj h4 h
    refine ⟨v, ?_⟩
    rw [e]
    refine br_f (by rw [nI_leI (by omega) (by omega)]; omega) ⟨vp_in_nI (by omega) (by decide), ?_⟩
    rw [nI_clamp (n := j) (by omega)]
    refine br_c (fun z => A j h4 (by omega) z) (fun z => nm_r (nI_1 j) (ih (j + 1) (by omega) (by omega) (fun k h1 h2 => ?_)))
    by_cases y : k = j
    · subst y; exact z
    · exact h k h1 (by omega)
theorem yr_find {post : Int32 → Prop} {m n : Nat} {key : Int64} (hm : m < 2) (hn : n ≤ 4) (en : y_many m = nI n) (A : ∀ k, 4 * m ≤ k → k < 4 * m + n → y_keys k = key → post (nI k)) (B : (∀ k, 4 * m ≤ k → k < 4 * m + n → ¬ y_keys k = key) → post (-1)) : wpY_find post (y_place, y_least, y_most, y_smallest, y_greatest, y_ways, y_fault, y_base, y_otherKind, y_otherLo, y_otherHi, y_low, y_high, y_bytes, y_steps, y_op, y_first, y_second, y_offset, y_given, y_length, y_there, y_known, y_lo, y_hi, y_at, y_lookups, y_safe, y_met, y_tag, y_word, y_packet, y_keys, y_values, y_many) (nI m) key := by
  refine nm_r (xb_mul4 m) ⟨n + 1, ?_⟩
  exact yr_findL hm hn en A B n (4 * m) rfl (Nat.le_refl _) (fun k h1 h2 => absurd h2 (by omega))
end
/-- a key is in X's map and in Y's, or in neither -/
theorem mp_find {π : Nat → Nat} {kt : Nat → Int32} {kw ce ks vs : Nat → Int64} {m n : Nat} (M : M1_ π kt kw ce ks vs m n) (key : Int64) : (∃ s, 4 * m ≤ s ∧ s < 4 * m + 4 ∧ ¬ kt s = 0 ∧ kw s = key ∧ (∀ t, 4 * m ≤ t → t < 4 * m + 4 → ¬ kt t = 0 → kw t = key → t = s) ∧ (∀ k, 4 * m ≤ k → k < 4 * m + n → ks k = key → k = π s) ∧ 4 * m ≤ π s ∧ π s < 4 * m + n ∧ ks (π s) = key) ∨ ((∀ s, 4 * m ≤ s → s < 4 * m + 4 → ¬ kt s = 0 → ¬ kw s = key) ∧ (∀ k, 4 * m ≤ k → k < 4 * m + n → ¬ ks k = key)) := by
  obtain ⟨a1, a2, a3, a4, a5⟩ := M
  by_cases q : ∃ s, 4 * m ≤ s ∧ s < 4 * m + 4 ∧ ¬ kt s = 0 ∧ kw s = key
  · left
    obtain ⟨s, h1, h2, h3, h4⟩ := q
    obtain ⟨q1, q2, q3, -⟩ := a3 s h1 h2 h3
    refine ⟨s, h1, h2, h3, h4, fun t t1 t2 t3 t4 => a4 t s t1 t2 h1 h2 t3 h3 (Or.inr (t4.trans h4.symm)), fun k k1 k2 k3 => ?_, q1, q2, q3.trans h4⟩
    obtain ⟨t, t1, t2, t3, t4⟩ := a5 k k1 k2
    obtain ⟨-, -, r3, -⟩ := a3 t t1 t2 t3
    have : t = s := a4 t s t1 t2 h1 h2 t3 h3 (Or.inr (by rw [← r3, t4, k3, h4]))
    rw [← this, t4]
  · right
    have nx : ∀ s, 4 * m ≤ s → s < 4 * m + 4 → ¬ kt s = 0 → ¬ kw s = key := fun s h1 h2 h3 h4 => q ⟨s, h1, h2, h3, h4⟩
    refine ⟨nx, fun k k1 k2 k3 => ?_⟩
    obtain ⟨t, t1, t2, t3, t4⟩ := a5 k k1 k2
    obtain ⟨-, -, r3, -⟩ := a3 t t1 t2 t3
    exact nx t t1 t2 t3 (by rw [← r3, t4, k3])
theorem M1_cong {π π' : Nat → Nat} {kt kt' : Nat → Int32} {kw ce ks vs kw' ce' ks' vs' : Nat → Int64} {m n : Nat} (M : M1_ π kt kw ce ks vs m n) (hx : ∀ s, 4 * m ≤ s → s < 4 * m + 4 → kt' s = kt s ∧ kw' s = kw s ∧ ce' (6 + 2 * s) = ce (6 + 2 * s) ∧ ce' (6 + 2 * s + 1) = ce (6 + 2 * s + 1) ∧ π' s = π s) (hy : ∀ k, 4 * m ≤ k → k < 4 * m + 4 → ks' k = ks k ∧ vs' (2 * k) = vs (2 * k) ∧ vs' (2 * k + 1) = vs (2 * k + 1)) : M1_ π' kt' kw' ce' ks' vs' m n := by
  obtain ⟨a1, a2, a3, a4, a5⟩ := M
  refine ⟨a1, ?_, fun s h1 h2 h3 => ?_, fun s t h1 h2 h3 h4 h5 h6 h7 => ?_, fun k h1 h2 => ?_⟩
  · unfold cn_ at a2 ⊢
    rw [(hx (4 * m) (by omega) (by omega)).1, (hx (4 * m + 1) (by omega) (by omega)).1, (hx (4 * m + 2) (by omega) (by omega)).1, (hx (4 * m + 3) (by omega) (by omega)).1]
    exact a2
  · obtain ⟨x1, x2, x3, x4, x5⟩ := hx s h1 h2
    rw [x1] at h3
    obtain ⟨q1, q2, q3, q4, q5, q6, q7⟩ := a3 s h1 h2 h3
    obtain ⟨y1, y2, y3⟩ := hy (π s) q1 (by omega)
    rw [x2, x3, x4, x5, y1, y2, y3]
    exact ⟨q1, q2, q3, q4, q5, q6, q7⟩
  · obtain ⟨x1, x2, -, -, x5⟩ := hx s h1 h2
    obtain ⟨z1, z2, -, -, z5⟩ := hx t h3 h4
    rw [x1] at h5
    rw [z1] at h6
    rw [x2, x5, z2, z5] at h7
    exact a4 s t h1 h2 h3 h4 h5 h6 h7
  · obtain ⟨s, s1, s2, s3, s4⟩ := a5 k h1 h2
    obtain ⟨x1, -, -, -, x5⟩ := hx s s1 s2
    exact ⟨s, s1, s2, by rw [x1]; exact s3, by rw [x5]; exact s4⟩
theorem b1_0 {x : Int32} (h : x = 0) : b1_ x = 0 := by unfold b1_; exact if_pos h
theorem b1_1 {x : Int32} (h : ¬ x = 0) : b1_ x = 1 := by unfold b1_; exact if_neg h
theorem b1_le (x : Int32) : b1_ x ≤ 1 := by unfold b1_; split <;> omega
theorem cn_u {kt : Nat → Int32} {m s : Nat} (v : Int32) (h1 : 4 * m ≤ s) (h2 : s < 4 * m + 4) : cn_ (upd kt s v) m + b1_ (kt s) = cn_ kt m + b1_ v := by
  have e : s = 4 * m ∨ s = 4 * m + 1 ∨ s = 4 * m + 2 ∨ s = 4 * m + 3 := by omega
  unfold cn_
  rcases e with rfl | rfl | rfl | rfl
  · rw [pk_us, pk_un (by omega), pk_un (by omega), pk_un (by omega)]; omega
  · rw [pk_us, pk_un (by omega), pk_un (by omega), pk_un (by omega)]; omega
  · rw [pk_us, pk_un (by omega), pk_un (by omega), pk_un (by omega)]; omega
  · rw [pk_us, pk_un (by omega), pk_un (by omega), pk_un (by omega)]; omega
theorem cn_free {kt : Nat → Int32} {m : Nat} (h : cn_ kt m < 4) : ∃ s, 4 * m ≤ s ∧ s < 4 * m + 4 ∧ kt s = 0 ∧ ∀ t, 4 * m ≤ t → t < s → ¬ kt t = 0 := by
  by_cases a : kt (4 * m) = 0
  · exact ⟨4 * m, by omega, by omega, a, fun t h1 h2 => absurd h2 (by omega)⟩
  · by_cases b : kt (4 * m + 1) = 0
    · refine ⟨4 * m + 1, by omega, by omega, b, fun t h1 h2 => ?_⟩
      have : t = 4 * m := by omega
      subst this; exact a
    · by_cases c : kt (4 * m + 2) = 0
      · refine ⟨4 * m + 2, by omega, by omega, c, fun t h1 h2 => ?_⟩
        have : t = 4 * m ∨ t = 4 * m + 1 := by omega
        rcases this with rfl | rfl
        · exact a
        · exact b
      · by_cases d : kt (4 * m + 3) = 0
        · refine ⟨4 * m + 3, by omega, by omega, d, fun t h1 h2 => ?_⟩
          have : t = 4 * m ∨ t = 4 * m + 1 ∨ t = 4 * m + 2 := by omega
          rcases this with rfl | rfl | rfl
          · exact a
          · exact b
          · exact c
        · unfold cn_ at h
          rw [b1_1 a, b1_1 b, b1_1 c, b1_1 d] at h
          omega
theorem cn_full {kt : Nat → Int32} {m : Nat} (h : cn_ kt m = 4) : ∀ s, 4 * m ≤ s → s < 4 * m + 4 → ¬ kt s = 0 := by
  intro s h1 h2 z
  have := cn_u (kt := kt) 1 h1 h2
  rw [b1_0 z, b1_1 (by decide)] at this
  have l : cn_ (upd kt s 1) m ≤ 4 := by
    unfold cn_
    have q1 := b1_le (upd kt s 1 (4 * m))
    have q2 := b1_le (upd kt s 1 (4 * m + 1))
    have q3 := b1_le (upd kt s 1 (4 * m + 2))
    have q4 := b1_le (upd kt s 1 (4 * m + 3))
    omega
  omega
