def gm_ (a g : Nat) : Nat := if a + 1 + g ≤ 40 then a + 1 + g else 40
section
variable {y_place : Int32} {y_least : Int64} {y_most : Int64} {y_smallest : Int64} {y_greatest : Int64} {y_ways : Int32} {y_fault : Int32} {y_base : Int32} {y_otherKind : Int32} {y_otherLo : Int64} {y_otherHi : Int64} {y_low : Int64} {y_high : Int64} {y_bytes : Int32} {y_steps : Int32} {y_op : Nat → Int32} {y_first : Nat → Int32} {y_second : Nat → Int32} {y_offset : Nat → Int32} {y_given : Nat → Int32} {y_length : Nat → Int32} {y_there : Nat → Int32} {y_known : Nat → Int32} {y_lo : Nat → Int64} {y_hi : Nat → Int64} {y_at : Nat → Int32} {y_lookups : Nat → Int32} {y_safe : Nat → Int32} {y_met : Nat → Int32} {y_tag : Nat → Int32} {y_word : Nat → Int64} {y_packet : Nat → Int32} {y_keys : Nat → Int64} {y_values : Nat → Int64} {y_many : Nat → Int32}
theorem yv_jOut {post : SY → Prop} {i : Nat} {a o : Int32} (hi : i < 120) (n : ¬ 0 ≤ y_offset i) (H : post (a, y_least, y_most, y_smallest, y_greatest, y_ways, 1, y_base, y_otherKind, y_otherLo, y_otherHi, y_low, y_high, y_bytes, y_steps, y_op, y_first, y_second, y_offset, y_given, y_length, y_there, y_known, y_lo, y_hi, y_at, y_lookups, y_safe, y_met, y_tag, y_word, y_packet, y_keys, y_values, y_many)) : wpY_jump post (y_place, y_least, y_most, y_smallest, y_greatest, y_ways, y_fault, y_base, y_otherKind, y_otherLo, y_otherHi, y_low, y_high, y_bytes, y_steps, y_op, y_first, y_second, y_offset, y_given, y_length, y_there, y_known, y_lo, y_hi, y_at, y_lookups, y_safe, y_met, y_tag, y_word, y_packet, y_keys, y_values, y_many) (nI i) a o := by
  have v : vp_in (nI i) 120 := vp_in_nI hi (by decide)
  have c : (nI i).toNatClampNeg = i := nI_clamp (by omega)
  have w31 : ∀ z : Int32, wY_jump_31 post (nI i) a o z y_place y_least y_most y_smallest y_greatest y_ways y_fault y_base y_otherKind y_otherLo y_otherHi y_low y_high y_bytes y_steps y_op y_first y_second y_offset y_given y_length y_there y_known y_lo y_hi y_at y_lookups y_safe y_met y_tag y_word y_packet y_keys y_values y_many := fun z => ⟨v, br_f (by rw [c]; exact n) H⟩
  exact ⟨v, nm_e (br_c (fun _ => w31 _) (fun _ => w31 _))⟩
theorem yv_j31 {post : SY → Prop} {i a g : Nat} {o : Int32} (hi : i < 120) (ha : a < 1000) (hg : g < 2 ^ 31) (eo : y_offset i = nI g) (H : wY_jump_31 post (nI i) (nI a) o (nI (gm_ a g)) y_place y_least y_most y_smallest y_greatest y_ways y_fault y_base y_otherKind y_otherLo y_otherHi y_low y_high y_bytes y_steps y_op y_first y_second y_offset y_given y_length y_there y_known y_lo y_hi y_at y_lookups y_safe y_met y_tag y_word y_packet y_keys y_values y_many) : wpY_jump post (y_place, y_least, y_most, y_smallest, y_greatest, y_ways, y_fault, y_base, y_otherKind, y_otherLo, y_otherHi, y_low, y_high, y_bytes, y_steps, y_op, y_first, y_second, y_offset, y_given, y_length, y_there, y_known, y_lo, y_hi, y_at, y_lookups, y_safe, y_met, y_tag, y_word, y_packet, y_keys, y_values, y_many) (nI i) (nI a) o := by
  have v : vp_in (nI i) 120 := vp_in_nI hi (by decide)
  have c : (nI i).toNatClampNeg = i := nI_clamp (by omega)
  have e40 : (40 : Int64) = lN 40 := by rfl
  refine ⟨v, nm_r (e' := lN (a + 1 + g)) (by rw [c, eo, nI_l (by omega), nI_l hg, lN_1, lN_add]) ?_⟩
  unfold gm_ at H
  refine br_c (fun z => ?_) (fun z => ?_)
  · rw [e40, pk_lLE (by omega) (by omega)] at z
    rw [if_pos z] at H
    rw [lN_i]; exact H
  · rw [e40, pk_lLE (by omega) (by omega)] at z
    rw [if_neg z] at H
    exact H
theorem yv_jA {post : SY → Prop} {i a g w : Nat} (hi : i < 120) (ha : a < 1000) (hg : g < 2 ^ 31) (hw : w < 12) (eo : y_offset i = nI g) (H : post (y_place, y_least, y_most, y_smallest, y_greatest, nI (w + 1), y_fault, y_base, y_otherKind, y_otherLo, y_otherHi, y_low, y_high, y_bytes, y_steps, y_op, y_first, y_second, y_offset, y_given, y_length, y_there, y_known, y_lo, y_hi, upd y_at w (nI (gm_ a g)), y_lookups, y_safe, y_met, y_tag, y_word, y_packet, y_keys, y_values, y_many)) : wpY_jump post (y_place, y_least, y_most, y_smallest, y_greatest, nI (w + 1), y_fault, y_base, y_otherKind, y_otherLo, y_otherHi, y_low, y_high, y_bytes, y_steps, y_op, y_first, y_second, y_offset, y_given, y_length, y_there, y_known, y_lo, y_hi, y_at, y_lookups, y_safe, y_met, y_tag, y_word, y_packet, y_keys, y_values, y_many) (nI i) (nI a) 20 := by
  have g40 : gm_ a g ≤ 40 := by unfold gm_; split <;> omega
  have v : vp_in (nI i) 120 := vp_in_nI hi (by decide)
  have c : (nI i).toNatClampNeg = i := nI_clamp (by omega)
  have vw : vp_in (nI (w + 1) - 1) 12 := by rw [nI_pred]; exact vp_in_nI hw (by decide)
  have cw : (nI (w + 1) - 1).toNatClampNeg = w := by rw [nI_pred]; exact nI_clamp (by omega)
  refine yv_j31 hi ha hg eo ⟨v, br_t (by rw [c, eo]; exact nI_pos' hg) (br_t rfl ⟨vw, nm_r (e' := upd y_at w (nI (gm_ a g))) ?_ H⟩)⟩
  rw [cw, xb_nb (by omega), xb_vb (by omega)]
theorem yv_jU {post : SY → Prop} {i a g B d s : Nat} {o r : Int32} (hi : i < 120) (ha : a < 1000) (hg : g < 2 ^ 31) (hd : B + d < 168) (hs : B + s < 168) (eo : y_offset i = nI g) (o20 : ¬ o = 20) (er : r = if o ≤ 30 then 0 else 1) (e1 : y_first i = nI d) (e2 : y_second i = nI s) (m : (¬ d = 8 ∧ y_known (B + d) = 0) ∨ (¬ r = 0 ∧ ¬ s = 8 ∧ y_known (B + s) = 0)) (H : post (nI a, y_least, y_most, y_smallest, y_greatest, y_ways, 2, nI B, y_otherKind, y_otherLo, y_otherHi, y_low, y_high, y_bytes, y_steps, y_op, y_first, y_second, y_offset, y_given, y_length, y_there, y_known, y_lo, y_hi, y_at, y_lookups, y_safe, y_met, y_tag, y_word, y_packet, y_keys, y_values, y_many)) : wpY_jump post (y_place, y_least, y_most, y_smallest, y_greatest, y_ways, y_fault, nI B, y_otherKind, y_otherLo, y_otherHi, y_low, y_high, y_bytes, y_steps, y_op, y_first, y_second, y_offset, y_given, y_length, y_there, y_known, y_lo, y_hi, y_at, y_lookups, y_safe, y_met, y_tag, y_word, y_packet, y_keys, y_values, y_many) (nI i) (nI a) o := by
  have v : vp_in (nI i) 120 := vp_in_nI hi (by decide)
  have c : (nI i).toNatClampNeg = i := nI_clamp (by omega)
  have w81 : wY_jump_81 post (nI i) (nI a) o (nI (gm_ a g)) r y_place y_least y_most y_smallest y_greatest y_ways y_fault (nI B) y_otherKind y_otherLo y_otherHi y_low y_high y_bytes y_steps y_op y_first y_second y_offset y_given y_length y_there y_known y_lo y_hi y_at y_lookups y_safe y_met y_tag y_word y_packet y_keys y_values y_many := by
    refine ⟨v, nm_r (e' := nI d) (by rw [c]; exact e1) ⟨v, nm_r (e' := nI s) (by rw [c]; exact e2) ?_⟩⟩
    by_cases q : d = 8 ∨ ¬ y_known (B + d) = 0
    · refine (yv_missN hd q).mpr ?_
      obtain ⟨z1, z2, z3⟩ : ¬ r = 0 ∧ ¬ s = 8 ∧ y_known (B + s) = 0 := by
        rcases m with m | m
        · rcases q with q | q
          · exact absurd q m.1
          · exact absurd m.2 q
        · exact m
      refine br_t rfl (br_f z1 ?_)
      exact (yv_missY hs z2 z3).mpr (br_f (by decide) H)
    · have q1 : ¬ d = 8 := fun n => q (Or.inl n)
      have q2 : y_known (B + d) = 0 := Classical.byContradiction fun n => q (Or.inr n)
      exact (yv_missY hd q1 q2).mpr (br_f (by decide) H)
  refine yv_j31 hi ha hg eo ⟨v, br_t (by rw [c, eo]; exact nI_pos' hg) (br_f o20 ?_)⟩
  by_cases z : o ≤ 30
  · rw [if_pos z] at er; subst er; exact br_t z w81
  · rw [if_neg z] at er; subst er; exact br_f z w81
theorem yv_jG {post : SY → Prop} {i a g B d s f : Nat} {o r k2 : Int32} {l2 h2 : Int64} (hi : i < 120) (ha : a < 1000) (hg : g < 2 ^ 31) (hd : B + d < 168) (hs : B + s < 168) (eo : y_offset i = nI g) (o20 : ¬ o = 20) (ef : o - o / 10 * 10 = nI f) (er : r = if o ≤ 30 then 0 else 1) (e1 : y_first i = nI d) (e2 : y_second i = nI s) (m1 : d = 8 ∨ ¬ y_known (B + d) = 0) (m2 : r = 0 ∨ s = 8 ∨ ¬ y_known (B + s) = 0) (OP : ∀ post : SY → Prop, post (y_place, y_least, y_most, y_smallest, y_greatest, y_ways, y_fault, nI B, k2, l2, h2, y_low, y_high, y_bytes, y_steps, y_op, y_first, y_second, y_offset, y_given, y_length, y_there, y_known, y_lo, y_hi, y_at, y_lookups, y_safe, y_met, y_tag, y_word, y_packet, y_keys, y_values, y_many) → wpY_other post (y_place, y_least, y_most, y_smallest, y_greatest, y_ways, y_fault, nI B, y_otherKind, y_otherLo, y_otherHi, y_low, y_high, y_bytes, y_steps, y_op, y_first, y_second, y_offset, y_given, y_length, y_there, y_known, y_lo, y_hi, y_at, y_lookups, y_safe, y_met, y_tag, y_word, y_packet, y_keys, y_values, y_many) (nI i) r) (A : y_known (B + d) = 1 → k2 = 1 → wpY_scalars post (y_place, y_least, y_most, y_smallest, y_greatest, y_ways, y_fault, nI B, k2, l2, h2, y_low, y_high, y_bytes, y_steps, y_op, y_first, y_second, y_offset, y_given, y_length, y_there, y_known, y_lo, y_hi, y_at, y_lookups, y_safe, y_met, y_tag, y_word, y_packet, y_keys, y_values, y_many) (nI d) (nI f) (nI (gm_ a g)) (nI (a + 1))) (C : ¬ (y_known (B + d) = 1 ∧ k2 = 1) → wY_jump_182 post (nI a) (nI (gm_ a g)) (nI d) (y_known (B + d)) (nI f) y_place y_least y_most y_smallest y_greatest y_ways y_fault (nI B) k2 l2 h2 y_low y_high y_bytes y_steps y_op y_first y_second y_offset y_given y_length y_there y_known y_lo y_hi y_at y_lookups y_safe y_met y_tag y_word y_packet y_keys y_values y_many) : wpY_jump post (y_place, y_least, y_most, y_smallest, y_greatest, y_ways, y_fault, nI B, y_otherKind, y_otherLo, y_otherHi, y_low, y_high, y_bytes, y_steps, y_op, y_first, y_second, y_offset, y_given, y_length, y_there, y_known, y_lo, y_hi, y_at, y_lookups, y_safe, y_met, y_tag, y_word, y_packet, y_keys, y_values, y_many) (nI i) (nI a) o := by
  have v : vp_in (nI i) 120 := vp_in_nI hi (by decide)
  have c : (nI i).toNatClampNeg = i := nI_clamp (by omega)
  have w125 : wY_jump_125 post (nI i) (nI a) o (nI (gm_ a g)) r (nI d) y_place y_least y_most y_smallest y_greatest y_ways y_fault (nI B) y_otherKind y_otherLo y_otherHi y_low y_high y_bytes y_steps y_op y_first y_second y_offset y_given y_length y_there y_known y_lo y_hi y_at y_lookups y_safe y_met y_tag y_word y_packet y_keys y_values y_many := by
    have v2 : vp_in (nI B + nI d) 168 := by rw [nI_add]; exact vp_in_nI hd (by decide)
    have c2 : (nI B + nI d).toNatClampNeg = B + d := by rw [nI_add, nI_clamp (by omega)]
    refine OP _ ⟨v2, nm_r (e' := y_known (B + d)) (by rw [c2]) ⟨by decide, nm_r ef (br_c (fun x => br_c (fun y => ?_) (fun y => C (fun n => y n.2))) (fun x => C (fun n => x n.1)))⟩⟩
    rw [nI_1]
    exact A x y
  have w81 : wY_jump_81 post (nI i) (nI a) o (nI (gm_ a g)) r y_place y_least y_most y_smallest y_greatest y_ways y_fault (nI B) y_otherKind y_otherLo y_otherHi y_low y_high y_bytes y_steps y_op y_first y_second y_offset y_given y_length y_there y_known y_lo y_hi y_at y_lookups y_safe y_met y_tag y_word y_packet y_keys y_values y_many := by
    refine ⟨v, nm_r (e' := nI d) (by rw [c]; exact e1) ⟨v, nm_r (e' := nI s) (by rw [c]; exact e2) ?_⟩⟩
    refine (yv_missN hd m1).mpr ?_
    refine br_t rfl (br_c (fun _ => w125) (fun z => ?_))
    have m2' : s = 8 ∨ ¬ y_known (B + s) = 0 := by rcases m2 with q | q; exact absurd q z; exact q
    exact (yv_missN hs m2').mpr (br_t rfl w125)
  refine yv_j31 hi ha hg eo ⟨v, br_t (by rw [c, eo]; exact nI_pos' hg) (br_f o20 ?_)⟩
  by_cases z : o ≤ 30
  · rw [if_pos z] at er; subst er; exact br_t z w81
  · rw [if_neg z] at er; subst er; exact br_f z w81
/-- from wY_jump_182 -/
theorem yv_j182K {post : SY → Prop} {a g d f : Nat} {k : Int32} (h1 : 1 ≤ f) (h4 : f ≤ 4) (n6 : ¬ (k = 6 ∧ f ≤ 2 ∧ y_otherKind = 1 ∧ y_otherHi = 0)) (n2 : ¬ (k = 2 ∧ 3 ≤ f ∧ y_otherKind = 3)) (n3 : ¬ (k = 3 ∧ 3 ≤ f ∧ y_otherKind = 2)) (H : post (nI a, y_least, y_most, y_smallest, y_greatest, y_ways, 3, y_base, y_otherKind, y_otherLo, y_otherHi, y_low, y_high, y_bytes, y_steps, y_op, y_first, y_second, y_offset, y_given, y_length, y_there, y_known, y_lo, y_hi, y_at, y_lookups, y_safe, y_met, y_tag, y_word, y_packet, y_keys, y_values, y_many)) : wY_jump_182 post (nI a) (nI g) (nI d) k (nI f) y_place y_least y_most y_smallest y_greatest y_ways y_fault y_base y_otherKind y_otherLo y_otherHi y_low y_high y_bytes y_steps y_op y_first y_second y_offset y_given y_length y_there y_known y_lo y_hi y_at y_lookups y_safe y_met y_tag y_word y_packet y_keys y_values y_many := by
  have w296 : wY_jump_296 post (nI a) (nI g) k (nI f) y_place y_least y_most y_smallest y_greatest y_ways y_fault y_base y_otherKind y_otherLo y_otherHi y_low y_high y_bytes y_steps y_op y_first y_second y_offset y_given y_length y_there y_known y_lo y_hi y_at y_lookups y_safe y_met y_tag y_word y_packet y_keys y_values y_many := by
    refine br_c (fun _ => H) (fun x => br_c (fun y => br_c (fun z => ?_) (fun _ => H)) (fun _ => H))
    rw [xb_ge2 (by omega)] at x
    exact absurd ⟨y, by omega, z⟩ n3
  have w239 : wY_jump_239 post (nI a) (nI g) (nI d) k (nI f) y_place y_least y_most y_smallest y_greatest y_ways y_fault y_base y_otherKind y_otherLo y_otherHi y_low y_high y_bytes y_steps y_op y_first y_second y_offset y_given y_length y_there y_known y_lo y_hi y_at y_lookups y_safe y_met y_tag y_word y_packet y_keys y_values y_many := by
    refine br_c (fun _ => w296) (fun x => br_c (fun y => br_c (fun z => ?_) (fun _ => w296)) (fun _ => w296))
    rw [xb_ge2 (by omega)] at x
    exact absurd ⟨y, by omega, z⟩ n2
  refine br_c (fun x => br_c (fun y => br_c (fun z => br_c (fun _ => w239) (fun q => ?_)) (fun _ => w239)) (fun _ => w239)) (fun _ => w239)
  rw [xb_le3 (by omega)] at q
  exact absurd ⟨x, by omega, y, z⟩ n6
theorem yv_j182M {post : SY → Prop} {a g d f B : Nat} (hd : B + d < 168) (h1 : 1 ≤ f) (h2 : f ≤ 2) (k1 : y_otherKind = 1) (h0 : y_otherHi = 0) (H : wpY_maybe post (y_place, y_least, y_most, y_smallest, y_greatest, y_ways, y_fault, nI B, y_otherKind, y_otherLo, y_otherHi, y_low, y_high, y_bytes, y_steps, y_op, y_first, y_second, y_offset, y_given, y_length, y_there, y_known, y_lo, y_hi, y_at, y_lookups, y_safe, y_met, y_tag, y_word, y_packet, y_keys, y_values, y_many) (y_lo (B + d)).toInt32 (nI f) (nI g) (nI (a + 1))) : wY_jump_182 post (nI a) (nI g) (nI d) 6 (nI f) y_place y_least y_most y_smallest y_greatest y_ways y_fault (nI B) y_otherKind y_otherLo y_otherHi y_low y_high y_bytes y_steps y_op y_first y_second y_offset y_given y_length y_there y_known y_lo y_hi y_at y_lookups y_safe y_met y_tag y_word y_packet y_keys y_values y_many := by
  have v2 : vp_in (nI B + nI d) 168 := by rw [nI_add]; exact vp_in_nI hd (by decide)
  have c2 : (nI B + nI d).toNatClampNeg = B + d := by rw [nI_add, nI_clamp (by omega)]
  refine br_t rfl (br_t k1 (br_t h0 (br_f (by rw [xb_le3 (by omega)]; omega) ⟨v2, ?_⟩)))
  rw [c2, nI_1]
  exact H
theorem yv_j182P {post : SY → Prop} {a g d f B : Nat} (hd : B + d < 168) (h3 : 3 ≤ f) (h4 : f ≤ 4) (k : y_otherKind = 3) (H : wpY_bounds post (y_place, y_least, y_most, y_smallest, y_greatest, y_ways, y_fault, nI B, y_otherKind, y_otherLo, y_otherHi, y_low, y_high, y_bytes, y_steps, y_op, y_first, y_second, y_offset, y_given, y_length, y_there, y_known, y_lo, y_hi, y_at, y_lookups, y_safe, y_met, y_tag, y_word, y_packet, y_keys, y_values, y_many) (y_lo (B + d) + 1) (if f = 3 then 1 else 0) (nI g) (nI (a + 1))) : wY_jump_182 post (nI a) (nI g) (nI d) 2 (nI f) y_place y_least y_most y_smallest y_greatest y_ways y_fault (nI B) y_otherKind y_otherLo y_otherHi y_low y_high y_bytes y_steps y_op y_first y_second y_offset y_given y_length y_there y_known y_lo y_hi y_at y_lookups y_safe y_met y_tag y_word y_packet y_keys y_values y_many := by
  have v2 : vp_in (nI B + nI d) 168 := by rw [nI_add]; exact vp_in_nI hd (by decide)
  have c2 : (nI B + nI d).toNatClampNeg = B + d := by rw [nI_add, nI_clamp (by omega)]
  refine br_f (by decide) (br_f (by rw [xb_ge2 (by omega)]; omega) (br_t rfl (br_t k ⟨v2, ?_⟩)))
  rw [c2]
  by_cases z : f = 3
  · rw [if_pos z] at H
    refine br_t (by rw [z]; rfl) ?_
    unfold wY_jump_285
    rw [nI_1]; exact H
  · rw [if_neg z] at H
    refine br_f (by rw [xb_eq3 (by omega)]; exact z) ?_
    unfold wY_jump_285
    rw [nI_1]; exact H
theorem yv_j182E {post : SY → Prop} {a g d f : Nat} (h3 : 3 ≤ f) (h4 : f ≤ 4) (k : y_otherKind = 2) (H : wpY_bounds post (y_place, y_least, y_most, y_smallest, y_greatest, y_ways, y_fault, y_base, y_otherKind, y_otherLo, y_otherHi, y_low, y_high, y_bytes, y_steps, y_op, y_first, y_second, y_offset, y_given, y_length, y_there, y_known, y_lo, y_hi, y_at, y_lookups, y_safe, y_met, y_tag, y_word, y_packet, y_keys, y_values, y_many) y_otherLo (if f = 4 then 1 else 0) (nI g) (nI (a + 1))) : wY_jump_182 post (nI a) (nI g) (nI d) 3 (nI f) y_place y_least y_most y_smallest y_greatest y_ways y_fault y_base y_otherKind y_otherLo y_otherHi y_low y_high y_bytes y_steps y_op y_first y_second y_offset y_given y_length y_there y_known y_lo y_hi y_at y_lookups y_safe y_met y_tag y_word y_packet y_keys y_values y_many := by
  refine br_f (by decide) (br_f (by rw [xb_ge2 (by omega)]; omega) (br_f (by decide) (br_f (by rw [xb_ge2 (by omega)]; omega) (br_t rfl (br_t k ?_)))))
  by_cases z : f = 4
  · rw [if_pos z] at H
    refine br_t (by rw [z]; rfl) ?_
    unfold wY_jump_332
    rw [nI_1]; exact H
  · rw [if_neg z] at H
    refine br_f (by rw [xb_eq4 (by omega)]; exact z) ?_
    unfold wY_jump_332
    rw [nI_1]; exact H
/-- instruction: where it goes -/
theorem yv_inA {post : SY → Prop} {i : Nat} {a o : Int32} (hi : i < 120) (eo : y_op i = o) (h : o < 20) (n60 : ¬ o = 60) (h50 : o < 50) (h40 : o < 40) (H : wpY_arithmetic (fun u => match u with | (y_place, y_least, y_most, y_smallest, y_greatest, y_ways, y_fault, y_base, y_otherKind, y_otherLo, y_otherHi, y_low, y_high, y_bytes, y_steps, y_op, y_first, y_second, y_offset, y_given, y_length, y_there, y_known, y_lo, y_hi, y_at, y_lookups, y_safe, y_met, y_tag, y_word, y_packet, y_keys, y_values, y_many) => wY_instruction_78 post y_place y_least y_most y_smallest y_greatest y_ways y_fault y_base y_otherKind y_otherLo y_otherHi y_low y_high y_bytes y_steps y_op y_first y_second y_offset y_given y_length y_there y_known y_lo y_hi y_at y_lookups y_safe y_met y_tag y_word y_packet y_keys y_values y_many) (y_place, y_least, y_most, y_smallest, y_greatest, y_ways, y_fault, y_base, y_otherKind, y_otherLo, y_otherHi, y_low, y_high, y_bytes, y_steps, y_op, y_first, y_second, y_offset, y_given, y_length, y_there, y_known, y_lo, y_hi, y_at, y_lookups, y_safe, y_met, y_tag, y_word, y_packet, y_keys, y_values, y_many) (nI i) a o) : wpY_instruction post (y_place, y_least, y_most, y_smallest, y_greatest, y_ways, y_fault, y_base, y_otherKind, y_otherLo, y_otherHi, y_low, y_high, y_bytes, y_steps, y_op, y_first, y_second, y_offset, y_given, y_length, y_there, y_known, y_lo, y_hi, y_at, y_lookups, y_safe, y_met, y_tag, y_word, y_packet, y_keys, y_values, y_many) (nI i) a := by
  refine ⟨vp_in_nI hi (by decide), nm_r (e' := o) (by rw [nI_clamp (by omega)]; exact eo) (br_t h (br_f n60 (br_t h50 (br_t h40 H))))⟩
theorem yv_inJ {post : SY → Prop} {i : Nat} {a o : Int32} (hi : i < 120) (eo : y_op i = o) (h : ¬ o < 20) (h40 : ¬ 40 ≤ o) (H : wpY_jump post (y_place, y_least, y_most, y_smallest, y_greatest, y_ways, y_fault, y_base, y_otherKind, y_otherLo, y_otherHi, y_low, y_high, y_bytes, y_steps, y_op, y_first, y_second, y_offset, y_given, y_length, y_there, y_known, y_lo, y_hi, y_at, y_lookups, y_safe, y_met, y_tag, y_word, y_packet, y_keys, y_values, y_many) (nI i) a o) : wpY_instruction post (y_place, y_least, y_most, y_smallest, y_greatest, y_ways, y_fault, y_base, y_otherKind, y_otherLo, y_otherHi, y_low, y_high, y_bytes, y_steps, y_op, y_first, y_second, y_offset, y_given, y_length, y_there, y_known, y_lo, y_hi, y_at, y_lookups, y_safe, y_met, y_tag, y_word, y_packet, y_keys, y_values, y_many) (nI i) a := by
  refine ⟨vp_in_nI hi (by decide), nm_r (e' := o) (by rw [nI_clamp (by omega)]; exact eo) (br_f h (br_f h40 H))⟩
theorem yv_inM {post : SY → Prop} {i : Nat} {a o : Int32} (hi : i < 120) (eo : y_op i = o) (h : ¬ o < 20) (h40 : 40 ≤ o) (n60 : ¬ o = 60) (h50 : o < 50) (n40 : ¬ o < 40) (H : wpY_memory (fun u => match u with | (y_place, y_least, y_most, y_smallest, y_greatest, y_ways, y_fault, y_base, y_otherKind, y_otherLo, y_otherHi, y_low, y_high, y_bytes, y_steps, y_op, y_first, y_second, y_offset, y_given, y_length, y_there, y_known, y_lo, y_hi, y_at, y_lookups, y_safe, y_met, y_tag, y_word, y_packet, y_keys, y_values, y_many) => wY_instruction_78 post y_place y_least y_most y_smallest y_greatest y_ways y_fault y_base y_otherKind y_otherLo y_otherHi y_low y_high y_bytes y_steps y_op y_first y_second y_offset y_given y_length y_there y_known y_lo y_hi y_at y_lookups y_safe y_met y_tag y_word y_packet y_keys y_values y_many) (y_place, y_least, y_most, y_smallest, y_greatest, y_ways, y_fault, y_base, y_otherKind, y_otherLo, y_otherHi, y_low, y_high, y_bytes, y_steps, y_op, y_first, y_second, y_offset, y_given, y_length, y_there, y_known, y_lo, y_hi, y_at, y_lookups, y_safe, y_met, y_tag, y_word, y_packet, y_keys, y_values, y_many) (nI i) a o) : wpY_instruction post (y_place, y_least, y_most, y_smallest, y_greatest, y_ways, y_fault, y_base, y_otherKind, y_otherLo, y_otherHi, y_low, y_high, y_bytes, y_steps, y_op, y_first, y_second, y_offset, y_given, y_length, y_there, y_known, y_lo, y_hi, y_at, y_lookups, y_safe, y_met, y_tag, y_word, y_packet, y_keys, y_values, y_many) (nI i) a := by
  refine ⟨vp_in_nI hi (by decide), nm_r (e' := o) (by rw [nI_clamp (by omega)]; exact eo) (br_f h (br_t h40 (br_f n60 (br_t h50 (br_f n40 H)))))⟩
theorem yv_inL {post : SY → Prop} {i : Nat} {a o : Int32} (hi : i < 120) (eo : y_op i = o) (h : ¬ o < 20) (h40 : 40 ≤ o) (n60 : ¬ o = 60) (h50 : ¬ o < 50) (H : wpY_lookup (fun u => match u with | (y_place, y_least, y_most, y_smallest, y_greatest, y_ways, y_fault, y_base, y_otherKind, y_otherLo, y_otherHi, y_low, y_high, y_bytes, y_steps, y_op, y_first, y_second, y_offset, y_given, y_length, y_there, y_known, y_lo, y_hi, y_at, y_lookups, y_safe, y_met, y_tag, y_word, y_packet, y_keys, y_values, y_many) => wY_instruction_78 post y_place y_least y_most y_smallest y_greatest y_ways y_fault y_base y_otherKind y_otherLo y_otherHi y_low y_high y_bytes y_steps y_op y_first y_second y_offset y_given y_length y_there y_known y_lo y_hi y_at y_lookups y_safe y_met y_tag y_word y_packet y_keys y_values y_many) (y_place, y_least, y_most, y_smallest, y_greatest, y_ways, y_fault, y_base, y_otherKind, y_otherLo, y_otherHi, y_low, y_high, y_bytes, y_steps, y_op, y_first, y_second, y_offset, y_given, y_length, y_there, y_known, y_lo, y_hi, y_at, y_lookups, y_safe, y_met, y_tag, y_word, y_packet, y_keys, y_values, y_many) (nI i) a o) : wpY_instruction post (y_place, y_least, y_most, y_smallest, y_greatest, y_ways, y_fault, y_base, y_otherKind, y_otherLo, y_otherHi, y_low, y_high, y_bytes, y_steps, y_op, y_first, y_second, y_offset, y_given, y_length, y_there, y_known, y_lo, y_hi, y_at, y_lookups, y_safe, y_met, y_tag, y_word, y_packet, y_keys, y_values, y_many) (nI i) a := by
  refine ⟨vp_in_nI hi (by decide), nm_r (e' := o) (by rw [nI_clamp (by omega)]; exact eo) (br_f h (br_t h40 (br_f n60 (br_f h50 H))))⟩
theorem yv_inE {post : SY → Prop} {i : Nat} {a : Int32} (hi : i < 120) (eo : y_op i = 60) (H : wpY_exit post (y_place, y_least, y_most, y_smallest, y_greatest, y_ways, y_fault, y_base, y_otherKind, y_otherLo, y_otherHi, y_low, y_high, y_bytes, y_steps, y_op, y_first, y_second, y_offset, y_given, y_length, y_there, y_known, y_lo, y_hi, y_at, y_lookups, y_safe, y_met, y_tag, y_word, y_packet, y_keys, y_values, y_many) a) : wpY_instruction post (y_place, y_least, y_most, y_smallest, y_greatest, y_ways, y_fault, y_base, y_otherKind, y_otherLo, y_otherHi, y_low, y_high, y_bytes, y_steps, y_op, y_first, y_second, y_offset, y_given, y_length, y_there, y_known, y_lo, y_hi, y_at, y_lookups, y_safe, y_met, y_tag, y_word, y_packet, y_keys, y_values, y_many) (nI i) a := by
  refine ⟨vp_in_nI hi (by decide), nm_r (e' := 60) (by rw [nI_clamp (by omega)]; exact eo) (br_f (by decide) (br_t (by decide) (br_t rfl H)))⟩
end
