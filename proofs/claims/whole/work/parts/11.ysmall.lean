theorem ys_k7 {k : Int32} (h : k7_ k) : vp_nar .byte k.toInt8.toInt32 = k := by
  rcases h with rfl | rfl | rfl | rfl | rfl | rfl | rfl <;> rfl
theorem ys_k7n {k : Int32} (h : k7_ k) : vp_nar .byte k = k := by
  rcases h with rfl | rfl | rfl | rfl | rfl | rfl | rfl <;> rfl
section
variable {y_place : Int32} {y_least : Int64} {y_most : Int64} {y_smallest : Int64} {y_greatest : Int64} {y_ways : Int32} {y_fault : Int32} {y_base : Int32} {y_otherKind : Int32} {y_otherLo : Int64} {y_otherHi : Int64} {y_low : Int64} {y_high : Int64} {y_bytes : Int32} {y_steps : Int32} {y_op : Nat → Int32} {y_first : Nat → Int32} {y_second : Nat → Int32} {y_offset : Nat → Int32} {y_given : Nat → Int32} {y_length : Nat → Int32} {y_there : Nat → Int32} {y_known : Nat → Int32} {y_lo : Nat → Int64} {y_hi : Nat → Int64} {y_at : Nat → Int32} {y_lookups : Nat → Int32} {y_safe : Nat → Int32} {y_met : Nat → Int32} {y_tag : Nat → Int32} {y_word : Nat → Int64} {y_packet : Nat → Int32} {y_keys : Nat → Int64} {y_values : Nat → Int64} {y_many : Nat → Int32}
theorem yv_set {post : SY → Prop} {B r : Nat} {k : Int32} {l h : Int64} (hr : B + r < 168) (hk : k7_ k) : wpY_set post (y_place, y_least, y_most, y_smallest, y_greatest, y_ways, y_fault, nI B, y_otherKind, y_otherLo, y_otherHi, y_low, y_high, y_bytes, y_steps, y_op, y_first, y_second, y_offset, y_given, y_length, y_there, y_known, y_lo, y_hi, y_at, y_lookups, y_safe, y_met, y_tag, y_word, y_packet, y_keys, y_values, y_many) (nI r) k l h ↔ post (y_place, y_least, y_most, y_smallest, y_greatest, y_ways, y_fault, nI B, y_otherKind, y_otherLo, y_otherHi, y_low, y_high, y_bytes, y_steps, y_op, y_first, y_second, y_offset, y_given, y_length, y_there, upd y_known (B + r) k, vp_updL y_lo (B + r) l, vp_updL y_hi (B + r) h, y_at, y_lookups, y_safe, y_met, y_tag, y_word, y_packet, y_keys, y_values, y_many) := by
  simp (disch := omega) only [wpY_set, forall_eq, true_and, and_true, true_implies, not_true_eq_false, false_implies, not_false_eq_true, implies_true, and_self, nI_add, nI_1, nI_clamp, vp_in_nI, xb_10, xb_bt, xb_bf, ys_k7 hk]
theorem yv_set0 {post : SY → Prop} {B : Nat} {k : Int32} {l h : Int64} (hr : B < 168) (hk : k7_ k) : wpY_set post (y_place, y_least, y_most, y_smallest, y_greatest, y_ways, y_fault, nI B, y_otherKind, y_otherLo, y_otherHi, y_low, y_high, y_bytes, y_steps, y_op, y_first, y_second, y_offset, y_given, y_length, y_there, y_known, y_lo, y_hi, y_at, y_lookups, y_safe, y_met, y_tag, y_word, y_packet, y_keys, y_values, y_many) 0 k l h ↔ post (y_place, y_least, y_most, y_smallest, y_greatest, y_ways, y_fault, nI B, y_otherKind, y_otherLo, y_otherHi, y_low, y_high, y_bytes, y_steps, y_op, y_first, y_second, y_offset, y_given, y_length, y_there, upd y_known B k, vp_updL y_lo B l, vp_updL y_hi B h, y_at, y_lookups, y_safe, y_met, y_tag, y_word, y_packet, y_keys, y_values, y_many) := yv_set (r := 0) (by omega) hk
theorem yv_missN {post : Int32 → SY → Prop} {B r : Nat} {i : Int32} (hr : B + r < 168) (h : r = 8 ∨ ¬ y_known (B + r) = 0) : wpY_missing post (y_place, y_least, y_most, y_smallest, y_greatest, y_ways, y_fault, nI B, y_otherKind, y_otherLo, y_otherHi, y_low, y_high, y_bytes, y_steps, y_op, y_first, y_second, y_offset, y_given, y_length, y_there, y_known, y_lo, y_hi, y_at, y_lookups, y_safe, y_met, y_tag, y_word, y_packet, y_keys, y_values, y_many) (nI r) i ↔ post 0 (y_place, y_least, y_most, y_smallest, y_greatest, y_ways, y_fault, nI B, y_otherKind, y_otherLo, y_otherHi, y_low, y_high, y_bytes, y_steps, y_op, y_first, y_second, y_offset, y_given, y_length, y_there, y_known, y_lo, y_hi, y_at, y_lookups, y_safe, y_met, y_tag, y_word, y_packet, y_keys, y_values, y_many) := by
  simp (disch := omega) only [wpY_missing, forall_eq, true_and, and_true, true_implies, not_true_eq_false, false_implies, not_false_eq_true, implies_true, and_self, nI_add, nI_1, nI_clamp, vp_in_nI, xb_10, xb_bt, xb_bf, xb_eq8]
  by_cases z : r = 8
  · simp only [z, forall_eq, true_and, and_true, true_implies, not_true_eq_false, false_implies, not_false_eq_true, implies_true, and_self]
  · have y : ¬ y_known (B + r) = 0 := by rcases h with h | h <;> first | exact absurd h z | exact h
    simp only [z, y, forall_eq, true_and, and_true, true_implies, not_true_eq_false, false_implies, not_false_eq_true, implies_true, and_self]
theorem yv_missY {post : Int32 → SY → Prop} {B r : Nat} {i : Int32} (hr : B + r < 168) (h8 : ¬ r = 8) (h : y_known (B + r) = 0) : wpY_missing post (y_place, y_least, y_most, y_smallest, y_greatest, y_ways, y_fault, nI B, y_otherKind, y_otherLo, y_otherHi, y_low, y_high, y_bytes, y_steps, y_op, y_first, y_second, y_offset, y_given, y_length, y_there, y_known, y_lo, y_hi, y_at, y_lookups, y_safe, y_met, y_tag, y_word, y_packet, y_keys, y_values, y_many) (nI r) i ↔ post 1 (i, y_least, y_most, y_smallest, y_greatest, y_ways, 2, nI B, y_otherKind, y_otherLo, y_otherHi, y_low, y_high, y_bytes, y_steps, y_op, y_first, y_second, y_offset, y_given, y_length, y_there, y_known, y_lo, y_hi, y_at, y_lookups, y_safe, y_met, y_tag, y_word, y_packet, y_keys, y_values, y_many) := by
  simp (disch := omega) only [wpY_missing, forall_eq, true_and, and_true, true_implies, not_true_eq_false, false_implies, not_false_eq_true, implies_true, and_self, nI_add, nI_1, nI_clamp, vp_in_nI, xb_10, xb_bt, xb_bf, xb_eq8, h8, h, wpY_fail]
/-- the second operand -/
theorem yv_otherI {post : SY → Prop} {i s : Nat} (hi : i < 120) (es : y_second i = nI s) (H : post (y_place, y_least, y_most, y_smallest, y_greatest, y_ways, y_fault, y_base, 1, (y_given i).toInt64 &&& 4294967295, (y_given i).toInt64 &&& 4294967295, y_low, y_high, y_bytes, y_steps, y_op, y_first, y_second, y_offset, y_given, y_length, y_there, y_known, y_lo, y_hi, y_at, y_lookups, y_safe, y_met, y_tag, y_word, y_packet, y_keys, y_values, y_many)) : wpY_other post (y_place, y_least, y_most, y_smallest, y_greatest, y_ways, y_fault, y_base, y_otherKind, y_otherLo, y_otherHi, y_low, y_high, y_bytes, y_steps, y_op, y_first, y_second, y_offset, y_given, y_length, y_there, y_known, y_lo, y_hi, y_at, y_lookups, y_safe, y_met, y_tag, y_word, y_packet, y_keys, y_values, y_many) (nI i) 0 := by
  simp (disch := omega) only [wpY_other, wY_other_18, wY_other_49, wY_other_91, forall_eq, true_and, and_true, true_implies, not_true_eq_false, false_implies, not_false_eq_true, implies_true, and_self, nI_add, nI_1, nI_clamp, vp_in_nI, xb_10, xb_bt, xb_bf, es]
  exact ⟨fun _ => H, fun _ => H⟩
theorem yv_otherR {post : SY → Prop} {i s B : Nat} (hi : i < 120) (hs : B + s < 168) (h8 : ¬ s = 8) (es : y_second i = nI s) (H : post (y_place, y_least, y_most, y_smallest, y_greatest, y_ways, y_fault, nI B, y_known (B + s), y_lo (B + s), y_hi (B + s), y_low, y_high, y_bytes, y_steps, y_op, y_first, y_second, y_offset, y_given, y_length, y_there, y_known, y_lo, y_hi, y_at, y_lookups, y_safe, y_met, y_tag, y_word, y_packet, y_keys, y_values, y_many)) : wpY_other post (y_place, y_least, y_most, y_smallest, y_greatest, y_ways, y_fault, nI B, y_otherKind, y_otherLo, y_otherHi, y_low, y_high, y_bytes, y_steps, y_op, y_first, y_second, y_offset, y_given, y_length, y_there, y_known, y_lo, y_hi, y_at, y_lookups, y_safe, y_met, y_tag, y_word, y_packet, y_keys, y_values, y_many) (nI i) 1 := by
  have z : ¬ (1 : Int32) = 0 := by decide
  have e : ¬ nI s = 8 ∨ 2 ^ 31 ≤ s := by
    by_cases q : s < 2 ^ 31
    · left; rw [xb_eq8 q]; exact h8
    · right; omega
  have e' : ¬ nI s = 8 := by rcases e with e | e; exact e; omega
  simp (disch := omega) only [wpY_other, wY_other_18, wY_other_49, wY_other_91, forall_eq, true_and, and_true, true_implies, not_true_eq_false, false_implies, not_false_eq_true, implies_true, and_self, nI_add, nI_1, nI_clamp, vp_in_nI, xb_10, xb_bt, xb_bf, es, e', z]
  exact H
theorem yv_otherF {post : SY → Prop} {i : Nat} (hi : i < 120) (es : y_second i = nI 8) (H : post (y_place, y_least, y_most, y_smallest, y_greatest, y_ways, y_fault, y_base, 4, 0, 0, y_low, y_high, y_bytes, y_steps, y_op, y_first, y_second, y_offset, y_given, y_length, y_there, y_known, y_lo, y_hi, y_at, y_lookups, y_safe, y_met, y_tag, y_word, y_packet, y_keys, y_values, y_many)) : wpY_other post (y_place, y_least, y_most, y_smallest, y_greatest, y_ways, y_fault, y_base, y_otherKind, y_otherLo, y_otherHi, y_low, y_high, y_bytes, y_steps, y_op, y_first, y_second, y_offset, y_given, y_length, y_there, y_known, y_lo, y_hi, y_at, y_lookups, y_safe, y_met, y_tag, y_word, y_packet, y_keys, y_values, y_many) (nI i) 1 := by
  have z : ¬ (1 : Int32) = 0 := by decide
  have e : nI 8 = 8 := by rfl
  simp (disch := omega) only [wpY_other, wY_other_18, wY_other_49, wY_other_91, forall_eq, true_and, and_true, true_implies, not_true_eq_false, false_implies, not_false_eq_true, implies_true, and_self, nI_add, nI_1, nI_clamp, vp_in_nI, xb_10, xb_bt, xb_bf, es, e, z]
  exact H
/-- interval -/
theorem yv_302 {post : SY → Prop} (c : ¬ y_low < 0 → ¬ 4294967295 < y_high → ¬ y_high < 0 → ¬ 4294967295 < y_low) (H : post (y_place, y_least, y_most, y_smallest, y_greatest, y_ways, y_fault, y_base, y_otherKind, y_otherLo, y_otherHi, ab_l y_low y_high, ab_h y_low y_high, y_bytes, y_steps, y_op, y_first, y_second, y_offset, y_given, y_length, y_there, y_known, y_lo, y_hi, y_at, y_lookups, y_safe, y_met, y_tag, y_word, y_packet, y_keys, y_values, y_many)) : wY_interval_302 post y_place y_least y_most y_smallest y_greatest y_ways y_fault y_base y_otherKind y_otherLo y_otherHi y_low y_high y_bytes y_steps y_op y_first y_second y_offset y_given y_length y_there y_known y_lo y_hi y_at y_lookups y_safe y_met y_tag y_word y_packet y_keys y_values y_many := by
  unfold wY_interval_302
  by_cases z : ab_ok y_low y_high
  · rw [ab_l_t z, ab_h_t z] at H
    exact br_f z.1 (br_f z.2.2.2 (br_t (Int64.not_lt.mp z.2.2.1) H))
  · rw [ab_l_f z, ab_h_f z] at H
    refine br_c (fun _ => H) (fun a => br_c (fun _ => H) (fun b => br_c (fun d => ?_) (fun _ => H)))
    exact absurd ⟨a, c a b (Int64.not_lt.mpr d), Int64.not_lt.mpr d, b⟩ z
theorem iv_c {l h : Int64} (z : ab_ok l h → iv_ l h (2 ^ 32)) (hle : ¬ l < 0 → ¬ 4294967295 < h → ¬ h < 0 → l ≤ h) : ¬ l < 0 → ¬ 4294967295 < h → ¬ h < 0 → ¬ 4294967295 < l := by
  intro a b c d
  have := hle a b c
  exact b (Int64.lt_of_lt_of_le d this)
theorem yv_225 {post : SY → Prop} {b e : Nat} (hb : b < 2 ^ 32) (he : e < 2 ^ 32) (H : wY_interval_302 post y_place y_least y_most y_smallest y_greatest y_ways y_fault y_base y_otherKind y_otherLo (lN e) y_low (on_it (lN (b ||| e)) 32 0) y_bytes y_steps y_op y_first y_second y_offset y_given y_length y_there y_known y_lo y_hi y_at y_lookups y_safe y_met y_tag y_word y_packet y_keys y_values y_many) : ∀ d k : Nat, k + d = 32 → on_it (lN (b ||| e)) d (lN (2 ^ k - 1)) = on_it (lN (b ||| e)) 32 0 → wY_interval_225 post (lN b) y_place y_least y_most y_smallest y_greatest y_ways y_fault y_base y_otherKind y_otherLo (lN e) y_low y_high y_bytes y_steps y_op y_first y_second y_offset y_given y_length y_there y_known y_lo y_hi y_at y_lookups y_safe y_met y_tag y_word y_packet y_keys y_values y_many (d + 1) (lN (2 ^ k - 1)) := by
  have w := pu_orlt hb he
  have l1 : b ≤ b ||| e := Nat.left_le_or
  have l2 : e ≤ b ||| e := Nat.right_le_or
  intro d
  induction d with
  | zero =>
    intro k hk E
    have : k = 32 := by omega
    subst this
    rw [on_it] at E
    refine br_f (by rw [pk_lLT (by omega) (by omega)]; omega) (br_t (by rw [pk_lLE (by omega) (by omega)]; omega) ?_)
    rw [E]
    exact H
  | succ d ih =>
    intro k hk E
    have pk : 2 ^ k ≤ 2 ^ 32 := Nat.pow_le_pow_right (by decide) (by omega)
    have p0 : 0 < 2 ^ k := Nat.pow_pos (by decide)
    have nx : ∀ x : Int64, x = (2 * lN (2 ^ k - 1)) + 1 → x = lN (2 ^ (k + 1) - 1) := by
      intro x ex
      rw [ex]
      have : 2 * lN (2 ^ k - 1) + 1 = lN (2 * (2 ^ k - 1) + 1) := by rw [← lN_add, ← lN_mul]; rfl
      rw [this, Nat.pow_succ]
      congr 1; omega
    by_cases z : b ||| e < 2 ^ k
    · rw [on_fix _ ((pk_lLE (by omega) (by omega)).mpr (by omega))] at E
      refine br_f (by rw [pk_lLT (by omega) (by omega)]; omega) (br_t (by rw [pk_lLE (by omega) (by omega)]; omega) ?_)
      rw [E]
      exact H
    · have E' : on_it (lN (b ||| e)) d (lN (2 ^ (k + 1) - 1)) = on_it (lN (b ||| e)) 32 0 := by
        rw [on_it, if_neg (by rw [pk_lLE (by omega) (by omega)]; omega)] at E
        rw [← E]
        congr 1
        rw [Int64.mul_comm]
        exact (nx _ rfl).symm
      have G := ih (k + 1) (by omega) E'
      by_cases y : b < 2 ^ k
      · have q : ¬ e < 2 ^ k := fun q => z (Nat.or_lt_two_pow y q)
        refine br_f (by rw [pk_lLT (by omega) (by omega)]; omega) (br_f (by rw [pk_lLE (by omega) (by omega)]; omega) ?_)
        intro x ex
        rw [nx x ex]; exact G
      · refine br_t (by rw [pk_lLT (by omega) (by omega)]; omega) ?_
        intro x ex
        rw [nx x ex]; exact G
end
