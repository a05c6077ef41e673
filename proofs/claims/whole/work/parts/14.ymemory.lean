theorem ym_far {f : Int32} : far_ f ↔ (f.toInt64 < -100 ∨ ¬ f.toInt64 ≤ 100) := by
  unfold far_
  rw [Int32.lt_iff_toInt_lt, Int32.le_iff_toInt_le, Int64.lt_iff_toInt_lt, Int64.le_iff_toInt_le, Int32.toInt_toInt64]
  exact Iff.rfl
section
variable {y_place : Int32} {y_least : Int64} {y_most : Int64} {y_smallest : Int64} {y_greatest : Int64} {y_ways : Int32} {y_fault : Int32} {y_base : Int32} {y_otherKind : Int32} {y_otherLo : Int64} {y_otherHi : Int64} {y_low : Int64} {y_high : Int64} {y_bytes : Int32} {y_steps : Int32} {y_op : Nat → Int32} {y_first : Nat → Int32} {y_second : Nat → Int32} {y_offset : Nat → Int32} {y_given : Nat → Int32} {y_length : Nat → Int32} {y_there : Nat → Int32} {y_known : Nat → Int32} {y_lo : Nat → Int64} {y_hi : Nat → Int64} {y_at : Nat → Int32} {y_lookups : Nat → Int32} {y_safe : Nat → Int32} {y_met : Nat → Int32} {y_tag : Nat → Int32} {y_word : Nat → Int64} {y_packet : Nat → Int32} {y_keys : Nat → Int64} {y_values : Nat → Int64} {y_many : Nat → Int32}
theorem yv_m288 {post : SY → Prop} {a : Int32} (H : post (a, y_least, y_most, y_smallest, y_greatest, y_ways, 4, y_base, y_otherKind, y_otherLo, y_otherHi, y_low, y_high, y_bytes, y_steps, y_op, y_first, y_second, y_offset, y_given, y_length, y_there, y_known, y_lo, y_hi, y_at, y_lookups, y_safe, y_met, y_tag, y_word, y_packet, y_keys, y_values, y_many)) : wY_memory_288 post a y_place y_least y_most y_smallest y_greatest y_ways y_fault y_base y_otherKind y_otherLo y_otherHi y_low y_high y_bytes y_steps y_op y_first y_second y_offset y_given y_length y_there y_known y_lo y_hi y_at y_lookups y_safe y_met y_tag y_word y_packet y_keys y_values y_many := H
theorem yv_m209 {post : SY → Prop} {a : Int32} (H : post (a, y_least, y_most, y_smallest, y_greatest, y_ways, 4, y_base, y_otherKind, y_otherLo, y_otherHi, y_low, y_high, y_bytes, y_steps, y_op, y_first, y_second, y_offset, y_given, y_length, y_there, y_known, y_lo, y_hi, y_at, y_lookups, y_safe, y_met, y_tag, y_word, y_packet, y_keys, y_values, y_many)) : wY_memory_209 post a y_place y_least y_most y_smallest y_greatest y_ways y_fault y_base y_otherKind y_otherLo y_otherHi y_low y_high y_bytes y_steps y_op y_first y_second y_offset y_given y_length y_there y_known y_lo y_hi y_at y_lookups y_safe y_met y_tag y_word y_packet y_keys y_values y_many := H
theorem yv_meU {post : SY → Prop} {i B d s p : Nat} {a o : Int32} (hi : i < 120) (hp : B + p < 168) (hs : B + s < 168) (e1 : y_first i = nI d) (e2 : y_second i = nI s) (ep : p = if o = 41 then d else s) (m : (¬ p = 8 ∧ y_known (B + p) = 0) ∨ (o = 41 ∧ ¬ s = 8 ∧ y_known (B + s) = 0)) (H : post (a, y_least, y_most, y_smallest, y_greatest, y_ways, 2, nI B, y_otherKind, y_otherLo, y_otherHi, y_low, y_high, y_bytes, y_steps, y_op, y_first, y_second, y_offset, y_given, y_length, y_there, y_known, y_lo, y_hi, y_at, y_lookups, y_safe, y_met, y_tag, y_word, y_packet, y_keys, y_values, y_many)) : wpY_memory post (y_place, y_least, y_most, y_smallest, y_greatest, y_ways, y_fault, nI B, y_otherKind, y_otherLo, y_otherHi, y_low, y_high, y_bytes, y_steps, y_op, y_first, y_second, y_offset, y_given, y_length, y_there, y_known, y_lo, y_hi, y_at, y_lookups, y_safe, y_met, y_tag, y_word, y_packet, y_keys, y_values, y_many) (nI i) a o := by
  have v : vp_in (nI i) 120 := vp_in_nI hi (by decide)
  have w : wY_memory_29 post (nI i) a o (nI d) (nI s) (nI p) y_place y_least y_most y_smallest y_greatest y_ways y_fault (nI B) y_otherKind y_otherLo y_otherHi y_low y_high y_bytes y_steps y_op y_first y_second y_offset y_given y_length y_there y_known y_lo y_hi y_at y_lookups y_safe y_met y_tag y_word y_packet y_keys y_values y_many := by
    unfold wY_memory_29
    by_cases q : p = 8 ∨ ¬ y_known (B + p) = 0
    · refine (yv_missN hp q).mpr (br_t rfl ?_)
      obtain ⟨z1, z2, z3⟩ : o = 41 ∧ ¬ s = 8 ∧ y_known (B + s) = 0 := by
        rcases m with m | m
        · rcases q with q | q
          · exact absurd q m.1
          · exact absurd m.2 q
        · exact m
      exact br_t z1 ((yv_missY hs z2 z3).mpr (br_f (by decide) H))
    · have q1 : ¬ p = 8 := fun n => q (Or.inl n)
      have q2 : y_known (B + p) = 0 := Classical.byContradiction fun n => q (Or.inr n)
      exact (yv_missY hp q1 q2).mpr (br_f (by decide) H)
  refine ⟨v, nm_r (e' := nI d) (by rw [nI_clamp (by omega)]; exact e1) ⟨v, nm_r (e' := nI s) (by rw [nI_clamp (by omega)]; exact e2) ?_⟩⟩
  by_cases z : o = 41
  · rw [if_pos z] at ep; subst ep; exact br_t z w
  · rw [if_neg z] at ep; subst ep; exact br_f z w
theorem yv_meG {post : SY → Prop} {i B d s p : Nat} {a o kp : Int32} {lp : Int64} (hi : i < 120) (hp : B + p < 168) (hs : B + s < 168) (e1 : y_first i = nI d) (e2 : y_second i = nI s) (ep : p = if o = 41 then d else s) (m1 : p = 8 ∨ ¬ y_known (B + p) = 0) (m2 : o = 41 → s = 8 ∨ ¬ y_known (B + s) = 0) (ek : kp = if p = 8 then 4 else y_known (B + p)) (el : lp = if p = 8 then 0 else y_lo (B + p)) (A : far_ (y_offset i) → wY_memory_140 post a o (nI d) (nI s) (nI p) kp lp (y_offset i).toInt64 1 y_place y_least y_most y_smallest y_greatest y_ways y_fault (nI B) y_otherKind y_otherLo y_otherHi y_low y_high y_bytes y_steps y_op y_first y_second y_offset y_given y_length y_there y_known y_lo y_hi y_at y_lookups y_safe y_met y_tag y_word y_packet y_keys y_values y_many) (G : ¬ far_ (y_offset i) → wY_memory_140 post a o (nI d) (nI s) (nI p) kp lp (y_offset i).toInt64 0 y_place y_least y_most y_smallest y_greatest y_ways y_fault (nI B) y_otherKind y_otherLo y_otherHi y_low y_high y_bytes y_steps y_op y_first y_second y_offset y_given y_length y_there y_known y_lo y_hi y_at y_lookups y_safe y_met y_tag y_word y_packet y_keys y_values y_many) : wpY_memory post (y_place, y_least, y_most, y_smallest, y_greatest, y_ways, y_fault, nI B, y_otherKind, y_otherLo, y_otherHi, y_low, y_high, y_bytes, y_steps, y_op, y_first, y_second, y_offset, y_given, y_length, y_there, y_known, y_lo, y_hi, y_at, y_lookups, y_safe, y_met, y_tag, y_word, y_packet, y_keys, y_values, y_many) (nI i) a o := by
  have v : vp_in (nI i) 120 := vp_in_nI hi (by decide)
  have vp : vp_in (nI B + nI p) 168 := by rw [nI_add]; exact vp_in_nI hp (by decide)
  have c : (nI B + nI p).toNatClampNeg = B + p := by rw [nI_add, nI_clamp (by omega)]
  have w106 : wY_memory_106 post (nI i) a o (nI d) (nI s) (nI p) kp lp y_place y_least y_most y_smallest y_greatest y_ways y_fault (nI B) y_otherKind y_otherLo y_otherHi y_low y_high y_bytes y_steps y_op y_first y_second y_offset y_given y_length y_there y_known y_lo y_hi y_at y_lookups y_safe y_met y_tag y_word y_packet y_keys y_values y_many := by
    refine ⟨v, nm_r (e' := (y_offset i).toInt64) (by rw [nI_clamp (by omega)]) (br_c (fun z => A (ym_far.mpr (Or.inl z))) (fun z => br_c (fun y => G ?_) (fun y => A (ym_far.mpr (Or.inr y)))))⟩
    rw [ym_far]
    rintro (n | n)
    · exact z n
    · exact n y
  have w58 : wY_memory_58 post (nI i) a o (nI d) (nI s) (nI p) y_place y_least y_most y_smallest y_greatest y_ways y_fault (nI B) y_otherKind y_otherLo y_otherHi y_low y_high y_bytes y_steps y_op y_first y_second y_offset y_given y_length y_there y_known y_lo y_hi y_at y_lookups y_safe y_met y_tag y_word y_packet y_keys y_values y_many := by
    by_cases z : p = 8
    · rw [if_pos z] at ek el
      subst z
      subst ek el
      exact br_t rfl (br_t rfl w106)
    · rw [if_neg z] at ek el
      have z' : ¬ nI p = 8 := by rw [xb_eq8 (by omega)]; exact z
      refine br_f z' ⟨vp, br_f z' ⟨vp, ?_⟩⟩
      rw [c, ← ek, ← el]
      exact w106
  have w : wY_memory_29 post (nI i) a o (nI d) (nI s) (nI p) y_place y_least y_most y_smallest y_greatest y_ways y_fault (nI B) y_otherKind y_otherLo y_otherHi y_low y_high y_bytes y_steps y_op y_first y_second y_offset y_given y_length y_there y_known y_lo y_hi y_at y_lookups y_safe y_met y_tag y_word y_packet y_keys y_values y_many := by
    refine (yv_missN hp m1).mpr (br_t rfl (br_c (fun z => ?_) (fun _ => w58)))
    exact (yv_missN hs (m2 z)).mpr (br_t rfl w58)
  refine ⟨v, nm_r (e' := nI d) (by rw [nI_clamp (by omega)]; exact e1) ⟨v, nm_r (e' := nI s) (by rw [nI_clamp (by omega)]; exact e2) ?_⟩⟩
  by_cases z : o = 41
  · rw [if_pos z] at ep; subst ep; exact br_t z w
  · rw [if_neg z] at ep; subst ep; exact br_f z w
/-- LOADB from wY_memory_140 -/
theorem yv_mbK {post : SY → Prop} {a d s p kp z : Int32} {lp f : Int64} (k : ¬ kp = 2) (H : post (a, y_least, y_most, y_smallest, y_greatest, y_ways, 3, y_base, y_otherKind, y_otherLo, y_otherHi, y_low, y_high, y_bytes, y_steps, y_op, y_first, y_second, y_offset, y_given, y_length, y_there, y_known, y_lo, y_hi, y_at, y_lookups, y_safe, y_met, y_tag, y_word, y_packet, y_keys, y_values, y_many)) : wY_memory_140 post a 42 d s p kp lp f z y_place y_least y_most y_smallest y_greatest y_ways y_fault y_base y_otherKind y_otherLo y_otherHi y_low y_high y_bytes y_steps y_op y_first y_second y_offset y_given y_length y_there y_known y_lo y_hi y_at y_lookups y_safe y_met y_tag y_word y_packet y_keys y_values y_many := br_t rfl (br_f k H)
theorem yv_mbB {post : SY → Prop} {B p w : Nat} {a d s z : Int32} {lp f : Int64} (hp : B + p < 168) (hw : w < 12) (b : z = 1 ∨ (z = 0 ∧ (lp + f < 0 ∨ ¬ y_hi (B + p) + f < (y_safe w).toInt64))) (H : post (a, y_least, y_most, y_smallest, y_greatest, nI (w + 1), 4, nI B, y_otherKind, y_otherLo, y_otherHi, y_low, y_high, y_bytes, y_steps, y_op, y_first, y_second, y_offset, y_given, y_length, y_there, y_known, y_lo, y_hi, y_at, y_lookups, y_safe, y_met, y_tag, y_word, y_packet, y_keys, y_values, y_many)) : wY_memory_140 post a 42 d s (nI p) 2 lp f z y_place y_least y_most y_smallest y_greatest (nI (w + 1)) y_fault (nI B) y_otherKind y_otherLo y_otherHi y_low y_high y_bytes y_steps y_op y_first y_second y_offset y_given y_length y_there y_known y_lo y_hi y_at y_lookups y_safe y_met y_tag y_word y_packet y_keys y_values y_many := by
  have vp : vp_in (nI B + nI p) 168 := by rw [nI_add]; exact vp_in_nI hp (by decide)
  have c : (nI B + nI p).toNatClampNeg = B + p := by rw [nI_add, nI_clamp (by omega)]
  have vw : vp_in (nI (w + 1) - 1) 12 := by rw [nI_pred]; exact vp_in_nI hw (by decide)
  have cw : (nI (w + 1) - 1).toNatClampNeg = w := by rw [nI_pred]; exact nI_clamp (by omega)
  refine br_t rfl (br_t rfl ?_)
  rcases b with b | ⟨z0, b⟩
  · exact br_f (by rw [b]; decide) H
  · refine br_t z0 (br_c (fun _ => H) (fun n => ⟨vp, vw, ?_⟩))
    rw [c, cw]
    exact br_f (by rcases b with b | b; exact absurd b n; exact b) H
theorem yv_mbO {post : SY → Prop} {B p w d : Nat} {a s : Int32} {lp f : Int64} (hp : B + p < 168) (hd : B + d < 168) (hw : w < 12) (b1 : ¬ lp + f < 0) (b2 : y_hi (B + p) + f < (y_safe w).toInt64) (H : post (y_place, y_least, y_most, y_smallest, y_greatest, nI (w + 1), y_fault, nI B, y_otherKind, y_otherLo, y_otherHi, y_low, y_high, y_bytes, y_steps, y_op, y_first, y_second, y_offset, y_given, y_length, y_there, upd y_known (B + d) 1, vp_updL y_lo (B + d) 0, vp_updL y_hi (B + d) 255, y_at, y_lookups, y_safe, y_met, y_tag, y_word, y_packet, y_keys, y_values, y_many)) : wY_memory_140 post a 42 (nI d) s (nI p) 2 lp f 0 y_place y_least y_most y_smallest y_greatest (nI (w + 1)) y_fault (nI B) y_otherKind y_otherLo y_otherHi y_low y_high y_bytes y_steps y_op y_first y_second y_offset y_given y_length y_there y_known y_lo y_hi y_at y_lookups y_safe y_met y_tag y_word y_packet y_keys y_values y_many := by
  have vp : vp_in (nI B + nI p) 168 := by rw [nI_add]; exact vp_in_nI hp (by decide)
  have c : (nI B + nI p).toNatClampNeg = B + p := by rw [nI_add, nI_clamp (by omega)]
  have vw : vp_in (nI (w + 1) - 1) 12 := by rw [nI_pred]; exact vp_in_nI hw (by decide)
  have cw : (nI (w + 1) - 1).toNatClampNeg = w := by rw [nI_pred]; exact nI_clamp (by omega)
  refine br_t rfl (br_t rfl (br_t rfl (br_f b1 ⟨vp, vw, ?_⟩)))
  rw [c, cw]
  exact br_t b2 ((yv_set hd (Or.inr (Or.inl rfl))).mpr H)
/-- LOAD and STORE from wY_memory_140 -/
theorem yv_mcK {post : SY → Prop} {a o d s p kp z : Int32} {lp f : Int64} (ho : ¬ o = 42) (k : ¬ kp = 4 ∧ ¬ kp = 5) (H : post (a, y_least, y_most, y_smallest, y_greatest, y_ways, 3, y_base, y_otherKind, y_otherLo, y_otherHi, y_low, y_high, y_bytes, y_steps, y_op, y_first, y_second, y_offset, y_given, y_length, y_there, y_known, y_lo, y_hi, y_at, y_lookups, y_safe, y_met, y_tag, y_word, y_packet, y_keys, y_values, y_many)) : wY_memory_140 post a o d s p kp lp f z y_place y_least y_most y_smallest y_greatest y_ways y_fault y_base y_otherKind y_otherLo y_otherHi y_low y_high y_bytes y_steps y_op y_first y_second y_offset y_given y_length y_there y_known y_lo y_hi y_at y_lookups y_safe y_met y_tag y_word y_packet y_keys y_values y_many := br_f ho (nm_e (br_f k.1 (br_f k.2 H)))
theorem yv_mcB {post : SY → Prop} {a o d s p kp z : Int32} {lp f : Int64} (ho : ¬ o = 42) (k : kp = 4 ∨ kp = 5) (b : z = 1 ∨ (z = 0 ∧ (lp + f < 0 ∨ ¬ lp + f < (if kp = 4 then lN 6 else lN 2)))) (H : post (a, y_least, y_most, y_smallest, y_greatest, y_ways, 4, y_base, y_otherKind, y_otherLo, y_otherHi, y_low, y_high, y_bytes, y_steps, y_op, y_first, y_second, y_offset, y_given, y_length, y_there, y_known, y_lo, y_hi, y_at, y_lookups, y_safe, y_met, y_tag, y_word, y_packet, y_keys, y_values, y_many)) : wY_memory_140 post a o d s p kp lp f z y_place y_least y_most y_smallest y_greatest y_ways y_fault y_base y_otherKind y_otherLo y_otherHi y_low y_high y_bytes y_steps y_op y_first y_second y_offset y_given y_length y_there y_known y_lo y_hi y_at y_lookups y_safe y_met y_tag y_word y_packet y_keys y_values y_many := by
  have w : wY_memory_258 post a o d s kp z (lp + f) y_place y_least y_most y_smallest y_greatest y_ways y_fault y_base y_otherKind y_otherLo y_otherHi y_low y_high y_bytes y_steps y_op y_first y_second y_offset y_given y_length y_there y_known y_lo y_hi y_at y_lookups y_safe y_met y_tag y_word y_packet y_keys y_values y_many := by
    rcases b with b | ⟨z0, b⟩
    · exact br_f (by rw [b]; decide) H
    · refine br_t z0 (br_c (fun _ => H) (fun n => ?_))
      have b' : ¬ lp + f < (if kp = 4 then lN 6 else lN 2) := by rcases b with b | b; exact absurd b n; exact b
      obtain ⟨c, hc, ec⟩ := pk_lOf n
      rw [ec] at b' ⊢
      have e5 : (5 : Int32).toInt64 = lN 5 := by decide
      have e1 : (1 : Int32).toInt64 = lN 1 := by decide
      refine br_c (fun q => ?_) (fun q => ?_)
      · rw [if_pos q, pk_lLT (by omega) (by omega)] at b'
        exact br_f (by rw [e5, pk_lLE (by omega) (by omega)]; omega) H
      · rw [if_neg q, pk_lLT (by omega) (by omega)] at b'
        exact br_f (by rw [e1, pk_lLE (by omega) (by omega)]; omega) H
  rcases k with k | k
  · exact br_f ho (nm_e (br_t k w))
  · exact br_f ho (nm_e (br_f (by rw [k]; decide) (br_t k w)))
theorem yv_mcG {post : SY → Prop} {a o d s p kp : Int32} {lp f : Int64} {c : Nat} (ho : ¬ o = 42) (k : kp = 4 ∨ kp = 5) (ec : lp + f = lN c) (hc : c < (if kp = 4 then 6 else 2)) (H : (((o = 41 → (wpY_toCell post (y_place, y_least, y_most, y_smallest, y_greatest, y_ways, y_fault, y_base, y_otherKind, y_otherLo, y_otherHi, y_low, y_high, y_bytes, y_steps, y_op, y_first, y_second, y_offset, y_given, y_length, y_there, y_known, y_lo, y_hi, y_at, y_lookups, y_safe, y_met, y_tag, y_word, y_packet, y_keys, y_values, y_many) s kp (nI c) a)) ∧ (¬ o = 41 → (((kp = 5 → (wpY_set post (y_place, y_least, y_most, y_smallest, y_greatest, y_ways, y_fault, y_base, y_otherKind, y_otherLo, y_otherHi, y_low, y_high, y_bytes, y_steps, y_op, y_first, y_second, y_offset, y_given, y_length, y_there, y_known, y_lo, y_hi, y_at, y_lookups, y_safe, y_met, y_tag, y_word, y_packet, y_keys, y_values, y_many) d 1 0 4294967295)) ∧ (¬ kp = 5 → (wpY_fromStack post (y_place, y_least, y_most, y_smallest, y_greatest, y_ways, y_fault, y_base, y_otherKind, y_otherLo, y_otherHi, y_low, y_high, y_bytes, y_steps, y_op, y_first, y_second, y_offset, y_given, y_length, y_there, y_known, y_lo, y_hi, y_at, y_lookups, y_safe, y_met, y_tag, y_word, y_packet, y_keys, y_values, y_many) d (nI (8 + c)) a)))))))) : wY_memory_140 post a o d s p kp lp f 0 y_place y_least y_most y_smallest y_greatest y_ways y_fault y_base y_otherKind y_otherLo y_otherHi y_low y_high y_bytes y_steps y_op y_first y_second y_offset y_given y_length y_there y_known y_lo y_hi y_at y_lookups y_safe y_met y_tag y_word y_packet y_keys y_values y_many := by
  have c6 : c < 6 := by split at hc <;> omega
  have n0 : ¬ lN c < 0 := by
    have : ¬ lN c < lN 0 := by rw [pk_lLT (by omega) (by omega)]; omega
    exact this
  have e5 : (5 : Int32).toInt64 = lN 5 := by decide
  have e1 : (1 : Int32).toInt64 = lN 1 := by decide
  have G : (((o = 41 → (wpY_toCell post (y_place, y_least, y_most, y_smallest, y_greatest, y_ways, y_fault, y_base, y_otherKind, y_otherLo, y_otherHi, y_low, y_high, y_bytes, y_steps, y_op, y_first, y_second, y_offset, y_given, y_length, y_there, y_known, y_lo, y_hi, y_at, y_lookups, y_safe, y_met, y_tag, y_word, y_packet, y_keys, y_values, y_many) s kp (lN c).toInt32 a)) ∧ (¬ o = 41 → (((kp = 5 → (wpY_set post (y_place, y_least, y_most, y_smallest, y_greatest, y_ways, y_fault, y_base, y_otherKind, y_otherLo, y_otherHi, y_low, y_high, y_bytes, y_steps, y_op, y_first, y_second, y_offset, y_given, y_length, y_there, y_known, y_lo, y_hi, y_at, y_lookups, y_safe, y_met, y_tag, y_word, y_packet, y_keys, y_values, y_many) d 1 0 4294967295)) ∧ (¬ kp = 5 → (wpY_fromStack post (y_place, y_least, y_most, y_smallest, y_greatest, y_ways, y_fault, y_base, y_otherKind, y_otherLo, y_otherHi, y_low, y_high, y_bytes, y_steps, y_op, y_first, y_second, y_offset, y_given, y_length, y_there, y_known, y_lo, y_hi, y_at, y_lookups, y_safe, y_met, y_tag, y_word, y_packet, y_keys, y_values, y_many) d (8 + (lN c).toInt32) a))))))) := by
    rw [lN_i, xb_add8]; exact H
  have w : wY_memory_258 post a o d s kp 0 (lp + f) y_place y_least y_most y_smallest y_greatest y_ways y_fault y_base y_otherKind y_otherLo y_otherHi y_low y_high y_bytes y_steps y_op y_first y_second y_offset y_given y_length y_there y_known y_lo y_hi y_at y_lookups y_safe y_met y_tag y_word y_packet y_keys y_values y_many := by
    rw [ec]
    refine br_t rfl (br_f n0 (br_c (fun q => ?_) (fun q => ?_)))
    · rw [if_pos q] at hc
      exact br_t (by rw [e5, pk_lLE (by omega) (by omega)]; omega) G
    · rw [if_neg q] at hc
      exact br_t (by rw [e1, pk_lLE (by omega) (by omega)]; omega) G
  rcases k with k | k
  · exact br_f ho (nm_e (br_t k w))
  · exact br_f ho (nm_e (br_f (by rw [k]; decide) (br_t k w)))
theorem yv_cellV {post : SY → Prop} {B s : Nat} {c a : Int32} (hs : B + s < 168) (A : (if s = 8 then 4 else y_known (B + s)) = 1 → post (y_place, y_least, y_most, y_smallest, y_greatest, y_ways, y_fault, nI B, y_otherKind, y_otherLo, y_otherHi, y_low, y_high, y_bytes, y_steps, y_op, y_first, y_second, y_offset, y_given, y_length, y_there, y_known, y_lo, y_hi, y_at, y_lookups, y_safe, y_met, y_tag, y_word, y_packet, y_keys, y_values, y_many)) (C : ¬ (if s = 8 then 4 else y_known (B + s)) = 1 → post (a, y_least, y_most, y_smallest, y_greatest, y_ways, 3, nI B, y_otherKind, y_otherLo, y_otherHi, y_low, y_high, y_bytes, y_steps, y_op, y_first, y_second, y_offset, y_given, y_length, y_there, y_known, y_lo, y_hi, y_at, y_lookups, y_safe, y_met, y_tag, y_word, y_packet, y_keys, y_values, y_many)) : wpY_toCell post (y_place, y_least, y_most, y_smallest, y_greatest, y_ways, y_fault, nI B, y_otherKind, y_otherLo, y_otherHi, y_low, y_high, y_bytes, y_steps, y_op, y_first, y_second, y_offset, y_given, y_length, y_there, y_known, y_lo, y_hi, y_at, y_lookups, y_safe, y_met, y_tag, y_word, y_packet, y_keys, y_values, y_many) (nI s) 5 c a := by
  have vs : vp_in (nI B + nI s) 168 := by rw [nI_add]; exact vp_in_nI hs (by decide)
  have cs : (nI B + nI s).toNatClampNeg = B + s := by rw [nI_add, nI_clamp (by omega)]
  by_cases z : s = 8
  · simp only [z, if_true] at A C
    refine br_t (by rw [z]; rfl) (br_t rfl (br_f (by decide) (C (by decide))))
  · simp only [z, if_false] at A C
    refine br_f (by rw [xb_eq8 (by omega)]; exact z) ⟨vs, br_t rfl ?_⟩
    rw [cs]
    exact br_c A C
theorem yv_cellS {post : SY → Prop} {B s c : Nat} {a kk : Int32} {ll hh : Int64} (hs : B + s < 168) (hc : B + (8 + c) < 168) (e : (s = 8 ∧ kk = 4 ∧ ll = 0 ∧ hh = 0) ∨ (¬ s = 8 ∧ kk = y_known (B + s) ∧ ll = y_lo (B + s) ∧ hh = y_hi (B + s))) (k : k7_ kk) (H : post (y_place, y_least, y_most, y_smallest, y_greatest, y_ways, y_fault, nI B, y_otherKind, y_otherLo, y_otherHi, y_low, y_high, y_bytes, y_steps, y_op, y_first, y_second, y_offset, y_given, y_length, y_there, upd y_known (B + (8 + c)) kk, vp_updL y_lo (B + (8 + c)) ll, vp_updL y_hi (B + (8 + c)) hh, y_at, y_lookups, y_safe, y_met, y_tag, y_word, y_packet, y_keys, y_values, y_many)) : wpY_toCell post (y_place, y_least, y_most, y_smallest, y_greatest, y_ways, y_fault, nI B, y_otherKind, y_otherLo, y_otherHi, y_low, y_high, y_bytes, y_steps, y_op, y_first, y_second, y_offset, y_given, y_length, y_there, y_known, y_lo, y_hi, y_at, y_lookups, y_safe, y_met, y_tag, y_word, y_packet, y_keys, y_values, y_many) (nI s) 4 (nI c) a := by
  have vs : vp_in (nI B + nI s) 168 := by rw [nI_add]; exact vp_in_nI hs (by decide)
  have cs : (nI B + nI s).toNatClampNeg = B + s := by rw [nI_add, nI_clamp (by omega)]
  rcases e with ⟨z, rfl, rfl, rfl⟩ | ⟨z, rfl, rfl, rfl⟩
  · have z' : nI s = 8 := by rw [z]; rfl
    refine br_t z' (br_f (by decide) (br_t z' ?_))
    rw [xb_add8]
    exact (yv_set hc k).mpr H
  · have z' : ¬ nI s = 8 := by rw [xb_eq8 (by omega)]; exact z
    refine br_f z' ⟨vs, br_f (by decide) (br_f z' ⟨vs, vs, ?_⟩)⟩
    rw [xb_add8, cs]
    exact (yv_set hc k).mpr H
theorem yv_fromU {post : SY → Prop} {B c : Nat} {a d : Int32} (hc : B + c < 168) (k : y_known (B + c) = 0) (H : post (a, y_least, y_most, y_smallest, y_greatest, y_ways, 2, nI B, y_otherKind, y_otherLo, y_otherHi, y_low, y_high, y_bytes, y_steps, y_op, y_first, y_second, y_offset, y_given, y_length, y_there, y_known, y_lo, y_hi, y_at, y_lookups, y_safe, y_met, y_tag, y_word, y_packet, y_keys, y_values, y_many)) : wpY_fromStack post (y_place, y_least, y_most, y_smallest, y_greatest, y_ways, y_fault, nI B, y_otherKind, y_otherLo, y_otherHi, y_low, y_high, y_bytes, y_steps, y_op, y_first, y_second, y_offset, y_given, y_length, y_there, y_known, y_lo, y_hi, y_at, y_lookups, y_safe, y_met, y_tag, y_word, y_packet, y_keys, y_values, y_many) d (nI c) a := by
  have vs : vp_in (nI B + nI c) 168 := by rw [nI_add]; exact vp_in_nI hc (by decide)
  have cs : (nI B + nI c).toNatClampNeg = B + c := by rw [nI_add, nI_clamp (by omega)]
  refine ⟨vs, br_t (by rw [cs]; exact k) H⟩
theorem yv_fromO {post : SY → Prop} {B c d : Nat} {a : Int32} (hc : B + c < 168) (hd : B + d < 168) (k : ¬ y_known (B + c) = 0) (k7 : k7_ (y_known (B + c))) (H : post (y_place, y_least, y_most, y_smallest, y_greatest, y_ways, y_fault, nI B, y_otherKind, y_otherLo, y_otherHi, y_low, y_high, y_bytes, y_steps, y_op, y_first, y_second, y_offset, y_given, y_length, y_there, upd y_known (B + d) (y_known (B + c)), vp_updL y_lo (B + d) (y_lo (B + c)), vp_updL y_hi (B + d) (y_hi (B + c)), y_at, y_lookups, y_safe, y_met, y_tag, y_word, y_packet, y_keys, y_values, y_many)) : wpY_fromStack post (y_place, y_least, y_most, y_smallest, y_greatest, y_ways, y_fault, nI B, y_otherKind, y_otherLo, y_otherHi, y_low, y_high, y_bytes, y_steps, y_op, y_first, y_second, y_offset, y_given, y_length, y_there, y_known, y_lo, y_hi, y_at, y_lookups, y_safe, y_met, y_tag, y_word, y_packet, y_keys, y_values, y_many) (nI d) (nI c) a := by
  have vs : vp_in (nI B + nI c) 168 := by rw [nI_add]; exact vp_in_nI hc (by decide)
  have cs : (nI B + nI c).toNatClampNeg = B + c := by rw [nI_add, nI_clamp (by omega)]
  refine ⟨vs, br_f (by rw [cs]; exact k) ⟨vs, vs, vs, ?_⟩⟩
  rw [cs]
  exact (yv_set hd k7).mpr H
/-- exit -/
theorem yv_exU {post : SY → Prop} {B : Nat} {a : Int32} (hB : B < 168) (k : y_known B = 0) (H : post (a, y_least, y_most, y_smallest, y_greatest, y_ways, 2, nI B, y_otherKind, y_otherLo, y_otherHi, y_low, y_high, y_bytes, y_steps, y_op, y_first, y_second, y_offset, y_given, y_length, y_there, y_known, y_lo, y_hi, y_at, y_lookups, y_safe, y_met, y_tag, y_word, y_packet, y_keys, y_values, y_many)) : wpY_exit post (y_place, y_least, y_most, y_smallest, y_greatest, y_ways, y_fault, nI B, y_otherKind, y_otherLo, y_otherHi, y_low, y_high, y_bytes, y_steps, y_op, y_first, y_second, y_offset, y_given, y_length, y_there, y_known, y_lo, y_hi, y_at, y_lookups, y_safe, y_met, y_tag, y_word, y_packet, y_keys, y_values, y_many) a := by
  unfold wpY_exit
  refine (yv_missY (r := 0) (by omega) (by decide) k).mpr ?_
  exact br_f (by decide) H
theorem yv_exK {post : SY → Prop} {B : Nat} {a : Int32} (hB : B < 168) (k : ¬ y_known B = 0) (k1 : ¬ y_known B = 1) (H : post (a, y_least, y_most, y_smallest, y_greatest, y_ways, 3, nI B, y_otherKind, y_otherLo, y_otherHi, y_low, y_high, y_bytes, y_steps, y_op, y_first, y_second, y_offset, y_given, y_length, y_there, y_known, y_lo, y_hi, y_at, y_lookups, y_safe, y_met, y_tag, y_word, y_packet, y_keys, y_values, y_many)) : wpY_exit post (y_place, y_least, y_most, y_smallest, y_greatest, y_ways, y_fault, nI B, y_otherKind, y_otherLo, y_otherHi, y_low, y_high, y_bytes, y_steps, y_op, y_first, y_second, y_offset, y_given, y_length, y_there, y_known, y_lo, y_hi, y_at, y_lookups, y_safe, y_met, y_tag, y_word, y_packet, y_keys, y_values, y_many) a := by
  unfold wpY_exit
  refine (yv_missN (r := 0) (by omega) (Or.inr k)).mpr ?_
  refine br_t rfl ⟨vp_in_nI hB (by decide), br_f ?_ H⟩
  rw [nI_clamp (by omega)]; exact k1
theorem yv_exO {post : SY → Prop} {B w : Nat} {a : Int32} (hB : B < 168) (k1 : y_known B = 1) (H : post (y_place, y_least, y_most, if y_smallest < 0 then y_lo B else if y_smallest ≤ y_lo B then y_smallest else y_lo B, if y_hi B ≤ y_greatest then y_greatest else y_hi B, nI w, y_fault, nI B, y_otherKind, y_otherLo, y_otherHi, y_low, y_high, y_bytes, y_steps, y_op, y_first, y_second, y_offset, y_given, y_length, y_there, y_known, y_lo, y_hi, y_at, y_lookups, y_safe, y_met, y_tag, y_word, y_packet, y_keys, y_values, y_many)) : wpY_exit post (y_place, y_least, y_most, y_smallest, y_greatest, nI (w + 1), y_fault, nI B, y_otherKind, y_otherLo, y_otherHi, y_low, y_high, y_bytes, y_steps, y_op, y_first, y_second, y_offset, y_given, y_length, y_there, y_known, y_lo, y_hi, y_at, y_lookups, y_safe, y_met, y_tag, y_word, y_packet, y_keys, y_values, y_many) a := by
  have v : vp_in (nI B) 168 := vp_in_nI hB (by decide)
  have c : (nI B).toNatClampNeg = B := nI_clamp (by omega)
  have w69 : ∀ sm : Int64, sm = (if y_smallest < 0 then y_lo B else if y_smallest ≤ y_lo B then y_smallest else y_lo B) → wY_exit_69 post y_place y_least y_most sm y_greatest (nI (w + 1)) y_fault (nI B) y_otherKind y_otherLo y_otherHi y_low y_high y_bytes y_steps y_op y_first y_second y_offset y_given y_length y_there y_known y_lo y_hi y_at y_lookups y_safe y_met y_tag y_word y_packet y_keys y_values y_many := by
    intro sm es
    rw [← es] at H
    refine ⟨v, ?_⟩
    rw [c]
    by_cases z : y_hi B ≤ y_greatest
    · rw [if_pos z] at H
      exact br_t z (nm_r (nI_pred w) H)
    · rw [if_neg z] at H
      exact br_f z ⟨v, nm_e (nm_r (nI_pred w) H)⟩
  have w56 : y_lo B = (if y_smallest < 0 then y_lo B else if y_smallest ≤ y_lo B then y_smallest else y_lo B) → wY_exit_56 post y_place y_least y_most y_smallest y_greatest (nI (w + 1)) y_fault (nI B) y_otherKind y_otherLo y_otherHi y_low y_high y_bytes y_steps y_op y_first y_second y_offset y_given y_length y_there y_known y_lo y_hi y_at y_lookups y_safe y_met y_tag y_word y_packet y_keys y_values y_many := by
    intro es
    refine ⟨v, nm_r (e' := y_lo B) (by rw [c]) (w69 _ es)⟩
  unfold wpY_exit
  refine (yv_missN (r := 0) (by omega) (Or.inr (fun n => absurd (n.symm.trans k1) (by decide)))).mpr ?_
  refine br_t rfl ⟨v, br_t (by rw [c]; exact k1) ?_⟩
  refine br_c (fun z => w56 (by rw [if_pos z])) (fun z => ⟨v, ?_⟩)
  rw [c]
  refine br_c (fun y => w69 _ (by rw [if_neg z, if_pos y])) (fun y => w56 (by rw [if_neg z, if_neg y]))
end
