theorem yi_no {b e : Nat} (hb : b < 2 ^ 32) (he : e < 2 ^ 32) (h : 4294967295 < b * e) (l : Int64) : ¬ ab_ok l (lN (b * e)) := by
  intro z
  have m1 := cb_mulN hb he
  by_cases y : b * e < 2 ^ 63
  · have := z.2.2.2
    rw [pu_M, pk_lLT (by omega) y] at this
    omega
  · exact z.2.2.1 (cb_big m1 (by omega))
theorem yi_m1 : ¬ ab_ok (-1) (-1) := by
  intro z
  exact z.1 (by decide)
section
variable {y_place : Int32} {y_least : Int64} {y_most : Int64} {y_smallest : Int64} {y_greatest : Int64} {y_ways : Int32} {y_fault : Int32} {y_base : Int32} {y_otherKind : Int32} {y_otherLo : Int64} {y_otherHi : Int64} {y_low : Int64} {y_high : Int64} {y_bytes : Int32} {y_steps : Int32} {y_op : Nat → Int32} {y_first : Nat → Int32} {y_second : Nat → Int32} {y_offset : Nat → Int32} {y_given : Nat → Int32} {y_length : Nat → Int32} {y_there : Nat → Int32} {y_known : Nat → Int32} {y_lo : Nat → Int64} {y_hi : Nat → Int64} {y_at : Nat → Int32} {y_lookups : Nat → Int32} {y_safe : Nat → Int32} {y_met : Nat → Int32} {y_tag : Nat → Int32} {y_word : Nat → Int64} {y_packet : Nat → Int32} {y_keys : Nat → Int64} {y_values : Nat → Int64} {y_many : Nat → Int32}
theorem yv_interval {post : SY → Prop} {f a b c e : Nat} {r : Int32} (hr : r = 0 → c = e) (h1 : 1 ≤ f) (h6 : f ≤ 6) (ab : a ≤ b) (hb : b < 2 ^ 32) (ce : c ≤ e) (he : e < 2 ^ 32) (H : post (y_place, y_least, y_most, y_smallest, y_greatest, y_ways, y_fault, y_base, y_otherKind, lN c, lN e, ab_l (cb_l (nI f) (lN a) (lN b) (lN c) (lN e)) (cb_h (nI f) (lN a) (lN b) (lN c) (lN e)), ab_h (cb_l (nI f) (lN a) (lN b) (lN c) (lN e)) (cb_h (nI f) (lN a) (lN b) (lN c) (lN e)), y_bytes, y_steps, y_op, y_first, y_second, y_offset, y_given, y_length, y_there, y_known, y_lo, y_hi, y_at, y_lookups, y_safe, y_met, y_tag, y_word, y_packet, y_keys, y_values, y_many)) : wpY_interval post (y_place, y_least, y_most, y_smallest, y_greatest, y_ways, y_fault, y_base, y_otherKind, lN c, lN e, y_low, y_high, y_bytes, y_steps, y_op, y_first, y_second, y_offset, y_given, y_length, y_there, y_known, y_lo, y_hi, y_at, y_lookups, y_safe, y_met, y_tag, y_word, y_packet, y_keys, y_values, y_many) (nI f) (lN a) (lN b) r := by
  have ef : f = 1 ∨ f = 2 ∨ f = 3 ∨ f = 4 ∨ f = 5 ∨ f = 6 := by omega
  have lc : ∀ {x y : Nat}, x ≤ y → y < 2 ^ 63 → ¬ lN x < 0 → ¬ 4294967295 < lN y → ¬ lN y < 0 → ¬ 4294967295 < lN x := by
    intro x y xy hy _ z _
    rw [pu_M, pk_lLT (by omega) (by omega)] at z ⊢
    omega
  rcases ef with rfl | rfl | rfl | rfl | rfl | rfl
  · rw [cb_1.1, cb_1.2, lN_add, lN_add] at H
    refine nm_e (br_f (by decide) (br_f (by decide) (br_t rfl (nm_r (lN_add a c) (nm_r (lN_add b e) (yv_302 (lc (by omega) (by omega)) H))))))
  · rw [cb_2.1, cb_2.2] at H
    refine nm_e (br_f (by decide) (br_f (by decide) (br_f (by decide) (br_t rfl (nm_e (nm_e (yv_302 ?_ H)))))))
    intro z _ _
    rw [pu_sub0 (by omega) (by omega)] at z
    rw [lN_sub (by omega), pu_M, pk_lLT (by omega) (by omega)]
    omega
  · rw [cb_3.1, cb_3.2, lN_mul, lN_mul] at H
    have m1 := cb_mulN hb he
    have m2 : a * c ≤ b * e := Nat.mul_le_mul ab ce
    have yes : b * e ≤ 4294967295 → wY_interval_125 post (lN a) (lN b) y_place y_least y_most y_smallest y_greatest y_ways y_fault y_base y_otherKind (lN c) (lN e) 0 (lN b) y_bytes y_steps y_op y_first y_second y_offset y_given y_length y_there y_known y_lo y_hi y_at y_lookups y_safe y_met y_tag y_word y_packet y_keys y_values y_many := by
      intro q
      unfold wY_interval_125 wY_interval_130 wY_interval_150 wY_interval_172
      refine br_f (by decide) (br_f (by decide) ?_)
      rw [lN_mul, lN_mul]
      exact yv_302 (lc m2 (by omega)) H
    refine nm_e (br_f (by decide) (br_f (by decide) (br_f (by decide) (br_f (by decide) (br_t rfl (br_c (fun z => ?_) (fun z => ⟨z, br_c (fun y => ?_) (fun y => ?_)⟩)))))))
    · have : b = 0 := (pk_lEQ (b := 0) (by omega) (by omega)).mp z
      subst this
      exact yes (by rw [Nat.zero_mul]; omega)
    · have b0 : 0 < b := Nat.pos_of_ne_zero (fun q => z (by rw [q]; rfl))
      rw [pu_M, pk_lDiv (by omega) b0 (by omega), pk_lLT (Nat.lt_of_le_of_lt (Nat.div_le_self _ _) (by omega)) (by omega)] at y
      have big : 4294967295 < b * e := by
        have := (Nat.div_lt_iff_lt_mul b0).mp y
        rw [Nat.mul_comm] at this; exact this
      rw [ab_l_f (yi_no hb he big _), ab_h_f (yi_no hb he big _)] at H
      unfold wY_interval_130 wY_interval_150 wY_interval_172
      refine br_t rfl (br_t rfl (yv_302 (fun q => absurd (by decide) q) ?_))
      rw [ab_l_f yi_m1, ab_h_f yi_m1]
      exact H
    · have b0 : 0 < b := Nat.pos_of_ne_zero (fun q => z (by rw [q]; rfl))
      rw [pu_M, pk_lDiv (by omega) b0 (by omega), pk_lLT (Nat.lt_of_le_of_lt (Nat.div_le_self _ _) (by omega)) (by omega)] at y
      refine yes ?_
      have : ¬ 4294967295 < e * b := fun q => y ((Nat.div_lt_iff_lt_mul b0).mpr q)
      rw [Nat.mul_comm] at this; omega
  · rw [cb_4.1, cb_4.2] at H
    refine nm_e (br_f (by decide) (br_f (by decide) (br_f (by decide) (br_f (by decide) (br_f (by decide) (br_t rfl (br_c (fun z => ?_) (fun z => ?_))))))))
    · rw [pk_lLE (by omega) (by omega)] at z
      have q : (if lN e ≤ lN b then lN e else lN b) = lN b := by
        split
        · next y => rw [pk_lLE (by omega) (by omega)] at y; congr 1; omega
        · rfl
      rw [q] at H
      exact yv_302 (lc (Nat.zero_le b) (by omega)) H
    · rw [pk_lLE (by omega) (by omega)] at z
      have q : (if lN e ≤ lN b then lN e else lN b) = lN e := if_pos (by rw [pk_lLE (by omega) (by omega)]; omega)
      rw [q] at H
      exact yv_302 (lc (Nat.zero_le e) (by omega)) H
  · rw [cb_5.1, cb_5.2, pu_or hb he] at H
    obtain ⟨m, hm, h2, h3⟩ := on_ex (pu_orlt hb he)
    have pm : 2 ^ m ≤ 2 ^ 32 := Nat.pow_le_pow_right (by decide) hm
    have l1 : b ≤ b ||| e := Nat.left_le_or
    have l2 : e ≤ b ||| e := Nat.right_le_or
    refine nm_e (br_f (by decide) (br_f (by decide) (br_f (by decide) (br_f (by decide) (br_f (by decide) (br_f (by decide) (br_t rfl (br_c (fun z => ⟨33, ?_⟩) (fun z => ⟨33, ?_⟩)))))))))
    · rw [if_pos z] at H
      refine yv_225 hb he ?_ 32 0 rfl rfl
      refine yv_302 ?_ H
      rw [h2]
      exact lc (by omega) (by omega)
    · rw [if_neg z] at H
      refine yv_225 hb he ?_ 32 0 rfl rfl
      refine yv_302 ?_ H
      rw [h2]
      exact lc (by omega) (by omega)
  · rw [cb_6.1, cb_6.2] at H
    have es : (lN c).toInt32 &&& 31 = (lN c &&& 31).toInt32 := by rw [Int64.toInt32_and]; rfl
    have yes : c = e → wY_interval_285 post (lN a) (lN b) ((lN c).toInt32 &&& 31) y_place y_least y_most y_smallest y_greatest y_ways y_fault y_base y_otherKind (lN c) (lN e) 0 (lN b) y_bytes y_steps y_op y_first y_second y_offset y_given y_length y_there y_known y_lo y_hi y_at y_lookups y_safe y_met y_tag y_word y_packet y_keys y_values y_many := by
      intro q
      subst q
      rw [if_pos rfl, if_pos rfl] at H
      unfold wY_interval_285
      rw [es]
      refine nm_e (nm_e (yv_302 ?_ H))
      obtain ⟨d, hd⟩ := pu_sh (lN c)
      have y1 := hd a (by omega)
      have y2 := hd b hb
      unfold sh_r at y1 y2
      rw [y1, y2]
      have : b / 2 ^ d ≤ b := Nat.div_le_self _ _
      exact lc (Nat.div_le_div_right ab) (by omega)
    refine nm_e (br_f (by decide) (br_t (by decide) (br_c (fun z => yes (hr z)) (fun z => br_c (fun y => yes ((pk_lEQ (by omega) (by omega)).mp y)) (fun y => ?_)))))
    rw [if_neg y, if_neg y] at H
    exact yv_302 (lc (Nat.zero_le b) (by omega)) H
end
