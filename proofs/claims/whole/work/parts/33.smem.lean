theorem sm_i (l : Int64) : (l &&& 4294967295).toInt32 = l.toInt32 := by
  rw [Int64.toInt32_and]
  have : (4294967295 : Int64).toInt32 = -1 := by rfl
  rw [this]
  exact Int32.and_neg_one
theorem sm_ix {l : Int64} {off : Int32} {c : Nat} (e : l + off.toInt64 = lN c) : l.toInt32 + off = nI c := by
  have := congrArg Int64.toInt32 e
  rw [Int64.toInt32_add, Int32.toInt32_toInt64, lN_i] at this
  exact this
/-- a byte's place -/
theorem sm_byte {a n c sn : Nat} {off : Int32} (an : a ≤ n) (nc : n ≤ c) (hc : c < 256) (hs : sn ≤ 24) (nf : ¬ far_ off) (b1 : ¬ lN a + off.toInt64 < 0) (b2 : lN c + off.toInt64 < lN sn) : ∃ k : Nat, k < sn ∧ (lN n).toInt32 + off = nI k := by
  have f1 : ¬ off < -100 := fun z => nf (Or.inl z)
  have f2 : off ≤ 100 := Classical.byContradiction fun z => nf (Or.inr z)
  rw [Int32.lt_iff_toInt_lt] at f1
  rw [Int32.le_iff_toInt_le] at f2
  have c1 : (-100 : Int32).toInt = -100 := by decide
  have c2 : (100 : Int32).toInt = 100 := by decide
  rw [c1] at f1
  rw [c2] at f2
  have t : ∀ x : Nat, x < 256 → (lN x + off.toInt64).toInt = (x : Int) + off.toInt := by
    intro x hx
    rw [Int64.toInt_add, pk_lT (by omega), Int32.toInt_toInt64, Int.bmod_eq_of_le (by omega) (by omega)]
  rw [pu_lt0, t a (by omega)] at b1
  rw [Int64.lt_iff_toInt_lt, t c hc, pk_lT (by omega)] at b2
  refine ⟨((n : Int) + off.toInt).toNat, by omega, ?_⟩
  apply sm_ix
  apply Int64.toInt_inj.mp
  rw [t n (by omega), pk_lT (by omega)]
  omega
section
variable {y_place : Int32} {y_least : Int64} {y_most : Int64} {y_smallest : Int64} {y_greatest : Int64} {y_ways : Int32} {y_fault : Int32} {y_base : Int32} {y_otherKind : Int32} {y_otherLo : Int64} {y_otherHi : Int64} {y_low : Int64} {y_high : Int64} {y_bytes : Int32} {y_steps : Int32} {y_op : Nat → Int32} {y_first : Nat → Int32} {y_second : Nat → Int32} {y_offset : Nat → Int32} {y_given : Nat → Int32} {y_length : Nat → Int32} {y_there : Nat → Int32} {y_known : Nat → Int32} {y_lo : Nat → Int64} {y_hi : Nat → Int64} {y_at : Nat → Int32} {y_lookups : Nat → Int32} {y_safe : Nat → Int32} {y_met : Nat → Int32} {y_tag : Nat → Int32} {y_word : Nat → Int64} {y_packet : Nat → Int32} {y_keys : Nat → Int64} {y_values : Nat → Int64} {y_many : Nat → Int32}
theorem yr_m {post : Int32 → SY → Prop} {i d a : Nat} {o t : Int32} {v : Int64} (ho : o = 40 ∨ o = 41 ∨ o = 42 ∨ o = 50 ∨ o = 51 ∨ o = 52) (hi : i < 120) (hd : d < 14) (A : o = 40 → wpY_load (fun u => match u with | (y_place, y_least, y_most, y_smallest, y_greatest, y_ways, y_fault, y_base, y_otherKind, y_otherLo, y_otherHi, y_low, y_high, y_bytes, y_steps, y_op, y_first, y_second, y_offset, y_given, y_length, y_there, y_known, y_lo, y_hi, y_at, y_lookups, y_safe, y_met, y_tag, y_word, y_packet, y_keys, y_values, y_many) => post (nI (a + 1)) (y_place, y_least, y_most, y_smallest, y_greatest, y_ways, y_fault, y_base, y_otherKind, y_otherLo, y_otherHi, y_low, y_high, y_bytes, y_steps, y_op, y_first, y_second, y_offset, y_given, y_length, y_there, y_known, y_lo, y_hi, y_at, y_lookups, y_safe, y_met, y_tag, y_word, y_packet, y_keys, y_values, y_many)) (y_place, y_least, y_most, y_smallest, y_greatest, y_ways, y_fault, y_base, y_otherKind, y_otherLo, y_otherHi, y_low, y_high, y_bytes, y_steps, y_op, y_first, y_second, y_offset, y_given, y_length, y_there, y_known, y_lo, y_hi, y_at, y_lookups, y_safe, y_met, y_tag, y_word, y_packet, y_keys, y_values, y_many) (nI d) t (v + (y_offset i).toInt64)) (B : o = 41 → wpY_store (fun u => match u with | (y_place, y_least, y_most, y_smallest, y_greatest, y_ways, y_fault, y_base, y_otherKind, y_otherLo, y_otherHi, y_low, y_high, y_bytes, y_steps, y_op, y_first, y_second, y_offset, y_given, y_length, y_there, y_known, y_lo, y_hi, y_at, y_lookups, y_safe, y_met, y_tag, y_word, y_packet, y_keys, y_values, y_many) => post (nI (a + 1)) (y_place, y_least, y_most, y_smallest, y_greatest, y_ways, y_fault, y_base, y_otherKind, y_otherLo, y_otherHi, y_low, y_high, y_bytes, y_steps, y_op, y_first, y_second, y_offset, y_given, y_length, y_there, y_known, y_lo, y_hi, y_at, y_lookups, y_safe, y_met, y_tag, y_word, y_packet, y_keys, y_values, y_many)) (y_place, y_least, y_most, y_smallest, y_greatest, y_ways, y_fault, y_base, y_otherKind, y_otherLo, y_otherHi, y_low, y_high, y_bytes, y_steps, y_op, y_first, y_second, y_offset, y_given, y_length, y_there, y_known, y_lo, y_hi, y_at, y_lookups, y_safe, y_met, y_tag, y_word, y_packet, y_keys, y_values, y_many) (y_tag d) (y_word d + (y_offset i).toInt64) t v) (C : o = 42 → vp_in (v.toInt32 + y_offset i) 24 ∧ wpY_hold (fun u => match u with | (y_place, y_least, y_most, y_smallest, y_greatest, y_ways, y_fault, y_base, y_otherKind, y_otherLo, y_otherHi, y_low, y_high, y_bytes, y_steps, y_op, y_first, y_second, y_offset, y_given, y_length, y_there, y_known, y_lo, y_hi, y_at, y_lookups, y_safe, y_met, y_tag, y_word, y_packet, y_keys, y_values, y_many) => post (nI (a + 1)) (y_place, y_least, y_most, y_smallest, y_greatest, y_ways, y_fault, y_base, y_otherKind, y_otherLo, y_otherHi, y_low, y_high, y_bytes, y_steps, y_op, y_first, y_second, y_offset, y_given, y_length, y_there, y_known, y_lo, y_hi, y_at, y_lookups, y_safe, y_met, y_tag, y_word, y_packet, y_keys, y_values, y_many)) (y_place, y_least, y_most, y_smallest, y_greatest, y_ways, y_fault, y_base, y_otherKind, y_otherLo, y_otherHi, y_low, y_high, y_bytes, y_steps, y_op, y_first, y_second, y_offset, y_given, y_length, y_there, y_known, y_lo, y_hi, y_at, y_lookups, y_safe, y_met, y_tag, y_word, y_packet, y_keys, y_values, y_many) (nI d) 1 ((y_packet (v.toInt32 + y_offset i).toNatClampNeg &&& 255).toInt64)) (D : o = 50 ∨ o = 51 ∨ o = 52 → wpY_maps (fun u => match u with | (y_place, y_least, y_most, y_smallest, y_greatest, y_ways, y_fault, y_base, y_otherKind, y_otherLo, y_otherHi, y_low, y_high, y_bytes, y_steps, y_op, y_first, y_second, y_offset, y_given, y_length, y_there, y_known, y_lo, y_hi, y_at, y_lookups, y_safe, y_met, y_tag, y_word, y_packet, y_keys, y_values, y_many) => post (nI (a + 1)) (y_place, y_least, y_most, y_smallest, y_greatest, y_ways, y_fault, y_base, y_otherKind, y_otherLo, y_otherHi, y_low, y_high, y_bytes, y_steps, y_op, y_first, y_second, y_offset, y_given, y_length, y_there, y_known, y_lo, y_hi, y_at, y_lookups, y_safe, y_met, y_tag, y_word, y_packet, y_keys, y_values, y_many)) (y_place, y_least, y_most, y_smallest, y_greatest, y_ways, y_fault, y_base, y_otherKind, y_otherLo, y_otherHi, y_low, y_high, y_bytes, y_steps, y_op, y_first, y_second, y_offset, y_given, y_length, y_there, y_known, y_lo, y_hi, y_at, y_lookups, y_safe, y_met, y_tag, y_word, y_packet, y_keys, y_values, y_many) o (y_given i)) : wY_step_114 post (nI i) (nI a) o (nI d) t v y_place y_least y_most y_smallest y_greatest y_ways y_fault y_base y_otherKind y_otherLo y_otherHi y_low y_high y_bytes y_steps y_op y_first y_second y_offset y_given y_length y_there y_known y_lo y_hi y_at y_lookups y_safe y_met y_tag y_word y_packet y_keys y_values y_many := by
  have vi : vp_in (nI i) 120 := vp_in_nI hi (by decide)
  have ci : (nI i).toNatClampNeg = i := nI_clamp (by omega)
  have vd : vp_in (nI d) 14 := vp_in_nI hd (by decide)
  have cd : (nI d).toNatClampNeg = d := nI_clamp (by omega)
  have h20 : 20 ≤ o ∧ ¬ o = 20 ∧ 40 ≤ o := by rcases ho with rfl | rfl | rfl | rfl | rfl | rfl <;> decide
  refine br_t h20.1 (br_f h20.2.1 (br_t h20.2.2 (br_c (fun z => ⟨vi, ?_⟩) (fun n0 => br_c (fun z => ⟨vd, vd, vi, ?_⟩) (fun n1 => br_c (fun z => ⟨vi, ?_⟩) (fun n2 => ⟨vi, ?_⟩))))))
  · rw [ci, nI_1]; exact A z
  · rw [ci, cd, nI_1]; exact B z
  · rw [ci, nI_1]; exact C z
  · rw [ci, nI_1]
    refine D ?_
    rcases ho with h | h | h | h
    · exact absurd h n0
    · exact absurd h n1
    · exact absurd h n2
    · exact h
theorem yr_loadF {post : SY → Prop} {d c : Nat} {v : Int64} (hc : c < 6) (hd : d < 14) (ev : v = lN c) (ht : k7_ (y_tag (8 + c))) (H : post (y_place, y_least, y_most, y_smallest, y_greatest, y_ways, y_fault, y_base, y_otherKind, y_otherLo, y_otherHi, y_low, y_high, y_bytes, y_steps, y_op, y_first, y_second, y_offset, y_given, y_length, y_there, y_known, y_lo, y_hi, y_at, y_lookups, y_safe, y_met, upd y_tag d (y_tag (8 + c)), vp_updL y_word d (y_word (8 + c)), y_packet, y_keys, y_values, y_many)) : wpY_load post (y_place, y_least, y_most, y_smallest, y_greatest, y_ways, y_fault, y_base, y_otherKind, y_otherLo, y_otherHi, y_low, y_high, y_bytes, y_steps, y_op, y_first, y_second, y_offset, y_given, y_length, y_there, y_known, y_lo, y_hi, y_at, y_lookups, y_safe, y_met, y_tag, y_word, y_packet, y_keys, y_values, y_many) (nI d) 4 v := by
  have v1 : vp_in (8 + v.toInt32) 14 := by rw [ev, lN_i, xb_add8]; exact vp_in_nI (by omega) (by decide)
  have c1 : (8 + v.toInt32).toNatClampNeg = 8 + c := by rw [ev, lN_i, xb_add8]; exact nI_clamp (by omega)
  refine br_t rfl ⟨v1, v1, ?_⟩
  rw [c1]
  exact (yr_hold hd ht).mpr H
theorem yr_vix {k c : Nat} {v : Int64} (hk : k < 8) (hc : c < 2) (ev : v = lN (100 * (8 + k) + c)) : (((((v / 100) - 8).toInt32) * 2) + ((v - v / 100 * 100).toInt32)) = nI (2 * k + c) := by
  have e100 : (100 : Int64) = lN 100 := by rfl
  have e8 : (8 : Int64) = lN 8 := by rfl
  have e1 : v / 100 = lN (8 + k) := by
    rw [ev, e100, pk_lDiv (by omega) (by omega) (by omega)]
    congr 1; omega
  have e2 : v - v / 100 * 100 = lN c := by
    rw [ev, e100, pk_lRem (by omega) (by omega) (by omega)]
    congr 1; omega
  rw [e2, e1, e8, lN_sub (by omega), lN_i, lN_i, xb_mur2, nI_add]
  congr 1; omega
theorem yr_loadV {post : SY → Prop} {d k c : Nat} {t : Int32} {v : Int64} (ht : ¬ t = 4) (hk : k < 8) (hc : c < 2) (hd : d < 14) (ev : v = lN (100 * (8 + k) + c)) (H : post (y_place, y_least, y_most, y_smallest, y_greatest, y_ways, y_fault, y_base, y_otherKind, y_otherLo, y_otherHi, y_low, y_high, y_bytes, y_steps, y_op, y_first, y_second, y_offset, y_given, y_length, y_there, y_known, y_lo, y_hi, y_at, y_lookups, y_safe, y_met, upd y_tag d 1, vp_updL y_word d (y_values (2 * k + c)), y_packet, y_keys, y_values, y_many)) : wpY_load post (y_place, y_least, y_most, y_smallest, y_greatest, y_ways, y_fault, y_base, y_otherKind, y_otherLo, y_otherHi, y_low, y_high, y_bytes, y_steps, y_op, y_first, y_second, y_offset, y_given, y_length, y_there, y_known, y_lo, y_hi, y_at, y_lookups, y_safe, y_met, y_tag, y_word, y_packet, y_keys, y_values, y_many) (nI d) t v := by
  have e := yr_vix hk hc ev
  refine br_f ht ⟨by decide, by decide, by rw [e]; exact vp_in_nI (by omega) (by decide), ?_⟩
  rw [e, nI_clamp (n := 2 * k + c) (by omega)]
  exact (yr_hold hd (by unfold k7_; simp)).mpr H
theorem yr_storeF {post : SY → Prop} {c : Nat} {t : Int32} {v w : Int64} (hc : c < 6) (ht : k7_ t) (ev : v = lN c) (H : post (y_place, y_least, y_most, y_smallest, y_greatest, y_ways, y_fault, y_base, y_otherKind, y_otherLo, y_otherHi, y_low, y_high, y_bytes, y_steps, y_op, y_first, y_second, y_offset, y_given, y_length, y_there, y_known, y_lo, y_hi, y_at, y_lookups, y_safe, y_met, upd y_tag (8 + c) t, vp_updL y_word (8 + c) w, y_packet, y_keys, y_values, y_many)) : wpY_store post (y_place, y_least, y_most, y_smallest, y_greatest, y_ways, y_fault, y_base, y_otherKind, y_otherLo, y_otherHi, y_low, y_high, y_bytes, y_steps, y_op, y_first, y_second, y_offset, y_given, y_length, y_there, y_known, y_lo, y_hi, y_at, y_lookups, y_safe, y_met, y_tag, y_word, y_packet, y_keys, y_values, y_many) 4 v t w := by
  refine br_t rfl ?_
  rw [ev, lN_i, xb_add8]
  exact (yr_hold (by omega) ht).mpr H
theorem yr_storeV {post : SY → Prop} {k c : Nat} {t0 t : Int32} {v w : Int64} (ht : ¬ t0 = 4) (hk : k < 8) (hc : c < 2) (ev : v = lN (100 * (8 + k) + c)) (H : post (y_place, y_least, y_most, y_smallest, y_greatest, y_ways, y_fault, y_base, y_otherKind, y_otherLo, y_otherHi, y_low, y_high, y_bytes, y_steps, y_op, y_first, y_second, y_offset, y_given, y_length, y_there, y_known, y_lo, y_hi, y_at, y_lookups, y_safe, y_met, y_tag, y_word, y_packet, y_keys, vp_updL y_values (2 * k + c) w, y_many)) : wpY_store post (y_place, y_least, y_most, y_smallest, y_greatest, y_ways, y_fault, y_base, y_otherKind, y_otherLo, y_otherHi, y_low, y_high, y_bytes, y_steps, y_op, y_first, y_second, y_offset, y_given, y_length, y_there, y_known, y_lo, y_hi, y_at, y_lookups, y_safe, y_met, y_tag, y_word, y_packet, y_keys, y_values, y_many) t0 v t w := by
  have e := yr_vix hk hc ev
  refine br_f ht ⟨by decide, by decide, by rw [e]; exact vp_in_nI (by omega) (by decide), ?_⟩
  rw [e, nI_clamp (n := 2 * k + c) (by omega)]
  exact nm_e H
end
section
variable {o off imm : Int32} {d s : Nat} {K : Nat → Int32} {L H : Nat → Int64} {S : Int64}
theorem om_rg {f : Prop} (ho : o = 40 ∨ o = 41 ∨ o = 42 ∨ o = 50 ∨ o = 51 ∨ o = 52) : True ↔ (¬ o < 10 ∧ o < 20) ∨ ¬ o ≤ 30 := by rcases ho with rfl | rfl | rfl | rfl | rfl | rfl <;> decide
theorem ys_om {y_tag : Nat → Int32} {y_word : Nat → Int64} {y_given : Nat → Int32} {i : Nat} : (¬ True ∧ (if s = 8 then 4 else y_tag s) = 1 ∧ (if s = 8 then 0 else y_word s) = (y_given i).toInt64 &&& 4294967295) ∨ (True ∧ s = 8 ∧ (if s = 8 then 4 else y_tag s) = 4 ∧ (if s = 8 then 0 else y_word s) = 0) ∨ (True ∧ ¬ s = 8 ∧ (if s = 8 then 4 else y_tag s) = y_tag s ∧ (if s = 8 then 0 else y_word s) = y_word s) := by
  by_cases z : s = 8
  · rw [if_pos z, if_pos z]; exact Or.inr (Or.inl ⟨trivial, z, rfl, rfl⟩)
  · rw [if_neg z, if_neg z]; exact Or.inr (Or.inr ⟨trivial, z, rfl, rfl⟩)
theorem xs_sv {x_immediates : Nat → Int32} {x_registers : Nat → Int64} {i : Nat} (ho : o = 40 ∨ o = 41 ∨ o = 42 ∨ o = 50 ∨ o = 51 ∨ o = 52) : (x_immediates i).toInt64 &&& 4294967295 = if o / 10 = 1 ∨ o / 10 = 3 then x_registers s else (x_immediates i).toInt64 &&& 4294967295 := by
  rw [if_neg]
  rcases ho with rfl | rfl | rfl | rfl | rfl | rfl <;> decide
theorem sp_bO (hd : d < 8) (hs : s < 9) (W : WF_ K L H S) (k : K s = 2) (bb : ¬ bb_ (L s) (H s) S off) : SP_ 42 d s off imm K L H S (upd K d 1) (vp_updL L d 0) (vp_updL H d 255) := by
  intro π rg ce kt kw tg wd ks vs mn b pX pY C hb hp
  have v := Con_s W C hs
  obtain ⟨t1, t2, a, n, c, an, nc, hc, ea, en, ec⟩ := v.2.1 k
  obtain ⟨a', c', ac', hc', ea', ec'⟩ := (W.1 s (by omega)).2.2.1 k
  have cc : c = c' := (pk_lEQ (by omega) (by omega)).mp (ec.symm.trans ec')
  obtain ⟨sn, hsn, eS⟩ := C.2.2.1.1
  have nf : ¬ far_ off := fun z => bb (Or.inl z)
  have b1 : ¬ L s + off.toInt64 < 0 := fun z => bb (Or.inr (Or.inl z))
  have b2 : H s + off.toInt64 < S := Classical.byContradiction fun z => bb (Or.inr (Or.inr z))
  rw [ea] at b1
  rw [ec, eS] at b2
  obtain ⟨j, hj, ej⟩ := sm_byte an nc (by omega) (by omega) nf b1 b2
  obtain ⟨y, hy, ey⟩ := pk_andE (pY j) (m := 255) 8 (by decide)
  have px : pX j = nI y := by rw [hp j, ey]
  refine ⟨π, vp_updL rg d (lN y), ce, kt, kw, upd tg d 1, vp_updL wd d (lN y), ks, vs, mn, Con_reg C hd (V_1 rfl ⟨0, y, 255, by omega, by omega, by omega, rfl, rfl, rfl⟩) (fun z => absurd z (by decide)), ?_, ?_⟩
  · intro x_safe x_at x_exitLeast x_exitMost x_branches x_faultPlace x_provedLeast x_provedMost x_packetLength x_executed x_ops x_targets x_sources x_offsets x_immediates x_lengths x_kinds x_los x_his x_reached x_branchAt x_branchSafe x_branchKinds x_branchLos x_branchHis x_packet x_registers x_cells x_keyWords x_keyTaken i post hi eo e1 e2 e3 e4 P
    refine xr_69 hi hs eo e1 e2 (xs_sv (by simp)) (xr_mem (k := j) (p := s) (by simp) hi hs eo e1 e2 (by rw [if_neg (by decide)]) (by rw [en, e3]; exact ej) (by omega) ?_)
    rw [if_pos rfl]
    refine xr_byte (by omega) hb (by omega) ?_
    rw [px, nI_l (by omega)]
    exact P
  · intro y_place y_least y_most y_smallest y_greatest y_ways y_fault y_base y_otherKind y_otherLo y_otherHi y_low y_high y_bytes y_steps y_op y_first y_second y_offset y_given y_length y_there y_known y_lo y_hi y_at y_lookups y_safe y_met y_tag y_word y_packet y_keys y_values y_many i a2 post hi eo e1 e2 e3 e4 P
    refine yr_114 hi hs eo e1 e2 (rg := True) (om_rg (f := True) (by simp)) ys_om (yr_m (by simp) hi (by omega) (fun z => absurd z (by decide)) (fun z => absurd z (by decide)) (fun _ => ?_) (fun z => absurd z (by decide)))
    rw [t2, en, e3, ej]
    refine ⟨vp_in_nI (by omega) (by decide), (yr_hold (by omega) (by unfold k7_; simp)).mpr ?_⟩
    rw [nI_clamp (n := j) (by omega), ey, nI_l (by omega)]
    exact P
/-- a cell of the stack -/
theorem sp_cSL {c : Nat} (hd : d < 8) (hs : s < 9) (W : WF_ K L H S) (k : K s = 4) (ec : L s + off.toInt64 = lN c) (hc : c < 6) (kc : ¬ K (10 + c) = 0) : SP_ 40 d s off imm K L H S (upd K d (K (10 + c))) (vp_updL L d (L (10 + c))) (vp_updL H d (H (10 + c))) := by
  intro π rg ce kt kw tg wd ks vs mn b pX pY C hb hp
  have v := Con_s W C hs
  obtain ⟨t1, t2, t3⟩ := v.2.2.2.1 k
  have vc := C.1 (8 + c) (by omega)
  have ex : cx_ rg ce (8 + c) = ce c := by unfold cx_; rw [if_neg (by omega)]; congr 1; omega
  rw [g_hi, ex] at vc
  refine ⟨π, vp_updL rg d (ce c), ce, kt, kw, upd tg d (tg (8 + c)), vp_updL wd d (wd (8 + c)), ks, vs, mn, Con_reg C hd vc (fun k6 r hr kr => by rw [← ex]; exact C.2.2.1.2 r (8 + c) hr (by omega) kr (by rw [g_hi]; exact k6)), ?_, ?_⟩
  · intro x_safe x_at x_exitLeast x_exitMost x_branches x_faultPlace x_provedLeast x_provedMost x_packetLength x_executed x_ops x_targets x_sources x_offsets x_immediates x_lengths x_kinds x_los x_his x_reached x_branchAt x_branchSafe x_branchKinds x_branchLos x_branchHis x_packet x_registers x_cells x_keyWords x_keyTaken i post hi eo e1 e2 e3 e4 P
    refine xr_69 hi hs eo e1 e2 (xs_sv (by simp)) (xr_mem (k := c) (p := s) (by simp) hi hs eo e1 e2 (by rw [if_neg (by decide)]) (by rw [t3, sm_i, e3]; exact sm_ix ec) (by omega) ?_)
    rw [if_neg (by decide)]
    exact xr_load (by omega) (by omega) P
  · intro y_place y_least y_most y_smallest y_greatest y_ways y_fault y_base y_otherKind y_otherLo y_otherHi y_low y_high y_bytes y_steps y_op y_first y_second y_offset y_given y_length y_there y_known y_lo y_hi y_at y_lookups y_safe y_met y_tag y_word y_packet y_keys y_values y_many i a2 post hi eo e1 e2 e3 e4 P
    refine yr_114 hi hs eo e1 e2 (rg := True) (om_rg (f := True) (by simp)) ys_om (yr_m (by simp) hi (by omega) (fun _ => ?_) (fun z => absurd z (by decide)) (fun z => absurd z (by decide)) (fun z => absurd z (by decide)))
    rw [t1, t2, e3, ec]
    exact yr_loadF hc (by omega) rfl (V_t vc (W.1 _ (by omega)).1 kc) P
theorem sp_cSS {c : Nat} (hd : d < 8) (hs : s < 9) (W : WF_ K L H S) (u2 : ¬ K s = 0) (k : K d = 4) (ec : L d + off.toInt64 = lN c) (hc : c < 6) : SP_ 41 d s off imm K L H S (upd K (10 + c) (K s)) (vp_updL L (10 + c) (L s)) (vp_updL H (10 + c) (H s)) := by
  intro π rg ce kt kw tg wd ks vs mn b pX pY C hb hp
  have v := Con_s W C hs
  have vd := Con_s W C (s := d) (by omega)
  rw [if_neg (by omega), if_neg (by omega)] at vd
  obtain ⟨t1, t2, t3⟩ := vd.2.2.2.1 k
  refine ⟨π, rg, vp_updL ce c (rg s), kt, kw, _, _, ks, vs, mn, Con_cell C hc v (Con_su W C hs), ?_, ?_⟩
  · intro x_safe x_at x_exitLeast x_exitMost x_branches x_faultPlace x_provedLeast x_provedMost x_packetLength x_executed x_ops x_targets x_sources x_offsets x_immediates x_lengths x_kinds x_los x_his x_reached x_branchAt x_branchSafe x_branchKinds x_branchLos x_branchHis x_packet x_registers x_cells x_keyWords x_keyTaken i post hi eo e1 e2 e3 e4 P
    refine xr_69 hi hs eo e1 e2 (xs_sv (by simp)) (xr_mem (k := c) (p := d) (by simp) hi (by omega) eo e1 e2 (by rw [if_pos rfl]) (by rw [t3, sm_i, e3]; exact sm_ix ec) (by omega) ?_)
    rw [if_neg (by decide)]
    exact xr_store (by omega) hs P
  · intro y_place y_least y_most y_smallest y_greatest y_ways y_fault y_base y_otherKind y_otherLo y_otherHi y_low y_high y_bytes y_steps y_op y_first y_second y_offset y_given y_length y_there y_known y_lo y_hi y_at y_lookups y_safe y_met y_tag y_word y_packet y_keys y_values y_many i a2 post hi eo e1 e2 e3 e4 P
    refine yr_114 hi hs eo e1 e2 (rg := True) (om_rg (f := True) (by simp)) ys_om (yr_m (by simp) hi (by omega) (fun z => absurd z (by decide)) (fun _ => ?_) (fun z => absurd z (by decide)) (fun z => absurd z (by decide)))
    rw [t1, t2, e3, ec]
    exact yr_storeF hc (V_t v (W.1 s (by omega)).1 u2) rfl P
/-- where a VALUE points -/
theorem sm_val {π : Nat → Nat} {kt : Nat → Int32} {kw ce ks vs : Nat → Int64} {mn : Nat → Int32} {j : Nat} (M : Mp_ π kt kw ce ks vs mn) (hj : j < 8) (tj : ¬ kt j = 0) : π j < 8 ∧ ∀ c, c < 2 → vs (2 * π j + c) = ce (6 + 2 * j + c) ∧ wd_ (ce (6 + 2 * j + c)) := by
  obtain ⟨n, -, h4, -, h, -⟩ := M (j / 4) (by omega)
  obtain ⟨q1, q2, q3, q4, q5, q6, q7⟩ := h j (by omega) (by omega) tj
  refine ⟨by omega, fun c hc => ?_⟩
  have : c = 0 ∨ c = 1 := by omega
  rcases this with rfl | rfl
  · exact ⟨q4, q6⟩
  · exact ⟨q5, q7⟩
theorem sm_vx {x l : Int64} {j c : Nat} (ex : x = (lN (6 + 2 * j) + l) &&& 4294967295) (ec : l + off.toInt64 = lN c) : x.toInt32 + off = nI (6 + 2 * j + c) := by
  rw [ex, sm_i, Int64.toInt32_add, lN_i, Int32.add_assoc, sm_ix ec, nI_add]
theorem sm_vy {w l : Int64} {p c : Nat} (ew : w = lN (100 * (8 + p)) + l) (ec : l + off.toInt64 = lN c) : w + off.toInt64 = lN (100 * (8 + p) + c) := by
  rw [ew, Int64.add_assoc, ec, lN_add]
theorem sp_cVL {c : Nat} (hd : d < 8) (hs : s < 9) (W : WF_ K L H S) (k : K s = 5) (ec : L s + off.toInt64 = lN c) (hc : c < 2) : SP_ 40 d s off imm K L H S (upd K d 1) (vp_updL L d 0) (vp_updL H d 4294967295) := by
  intro π rg ce kt kw tg wd ks vs mn b pX pY C hb hp
  have v := Con_s W C hs
  obtain ⟨t1, j, hj, tj, t2, t3⟩ := v.2.2.2.2.1 k
  obtain ⟨p8, hv⟩ := sm_val C.2.2.2 hj tj
  obtain ⟨q1, y, hy, ey⟩ := hv c hc
  refine ⟨π, vp_updL rg d (lN y), ce, kt, kw, upd tg d 1, vp_updL wd d (lN y), ks, vs, mn, Con_reg C hd (V_1 rfl ⟨0, y, 4294967295, by omega, by omega, by omega, rfl, rfl, rfl⟩) (fun z => absurd z (by decide)), ?_, ?_⟩
  · intro x_safe x_at x_exitLeast x_exitMost x_branches x_faultPlace x_provedLeast x_provedMost x_packetLength x_executed x_ops x_targets x_sources x_offsets x_immediates x_lengths x_kinds x_los x_his x_reached x_branchAt x_branchSafe x_branchKinds x_branchLos x_branchHis x_packet x_registers x_cells x_keyWords x_keyTaken i post hi eo e1 e2 e3 e4 P
    refine xr_69 hi hs eo e1 e2 (xs_sv (by simp)) (xr_mem (k := 6 + 2 * j + c) (p := s) (by simp) hi hs eo e1 e2 (by rw [if_neg (by decide)]) (by rw [e3]; exact sm_vx t3 ec) (by omega) ?_)
    rw [if_neg (by decide)]
    refine xr_load (by omega) (by omega) ?_
    rw [ey]; exact P
  · intro y_place y_least y_most y_smallest y_greatest y_ways y_fault y_base y_otherKind y_otherLo y_otherHi y_low y_high y_bytes y_steps y_op y_first y_second y_offset y_given y_length y_there y_known y_lo y_hi y_at y_lookups y_safe y_met y_tag y_word y_packet y_keys y_values y_many i a2 post hi eo e1 e2 e3 e4 P
    refine yr_114 hi hs eo e1 e2 (rg := True) (om_rg (f := True) (by simp)) ys_om (yr_m (by simp) hi (by omega) (fun _ => ?_) (fun z => absurd z (by decide)) (fun z => absurd z (by decide)) (fun z => absurd z (by decide)))
    rw [t1, e3, sm_vy t2 ec]
    refine yr_loadV (by decide) p8 hc (by omega) rfl ?_
    rw [q1, ey]; exact P
theorem sp_cVS {c : Nat} (hd : d < 8) (hs : s < 9) (W : WF_ K L H S) (k : K d = 5) (ec : L d + off.toInt64 = lN c) (hc : c < 2) (k1 : K s = 1) : SP_ 41 d s off imm K L H S K L H := by
  intro π rg ce kt kw tg wd ks vs mn b pX pY C hb hp
  have v := Con_s W C hs
  have vd := Con_s W C (s := d) (by omega)
  rw [if_neg (by omega), if_neg (by omega)] at vd
  obtain ⟨t1, j, hj, tj, t2, t3⟩ := vd.2.2.2.2.1 k
  obtain ⟨s1, s2, a, n, e, an, ne, he, ea, en, ee⟩ := v.1 k1
  obtain ⟨p8, hv⟩ := sm_val C.2.2.2 hj tj
  refine ⟨π, rg, vp_updL ce (6 + 2 * j + c) (rg s), kt, kw, tg, wd, ks, vp_updL vs (2 * π j + c) (rg s), mn, ⟨fun r hr => ?_, C.2.1, ⟨C.2.2.1.1, fun r t hr ht kr kt => ?_⟩, ?_⟩, ?_, ?_⟩
  · have ex : cx_ rg (vp_updL ce (6 + 2 * j + c) (rg s)) r = cx_ rg ce r := by
      unfold cx_; split
      · rfl
      · rw [pk_uLn (by omega)]
    rw [ex]; exact C.1 r hr
  · have ex : ∀ r, r < 14 → cx_ rg (vp_updL ce (6 + 2 * j + c) (rg s)) r = cx_ rg ce r := by
      intro r hr
      unfold cx_; split
      · rfl
      · rw [pk_uLn (by omega)]
    rw [ex r hr, ex t ht]; exact C.2.2.1.2 r t hr ht kr kt
  · intro m hm
    obtain ⟨nn, e0, a1, a2, a3, a4, a5⟩ := C.2.2.2 m hm
    refine ⟨nn, e0, a1, a2, fun t h1 h2 h3 => ?_, a4, a5⟩
    obtain ⟨q1, q2, q3, q4, q5, q6, q7⟩ := a3 t h1 h2 h3
    by_cases z : t = j
    · subst z
      have wds : wd_ (rg s) := ⟨n, by omega, en⟩
      have : c = 0 ∨ c = 1 := by omega
      rcases this with rfl | rfl
      · refine ⟨q1, q2, q3, ?_, ?_, ?_, ?_⟩
        · rw [Nat.add_zero, Nat.add_zero, pk_uLs, pk_uLs]
        · rw [pk_uLn (by omega), pk_uLn (by omega)]; exact q5
        · rw [Nat.add_zero, pk_uLs]; exact wds
        · rw [pk_uLn (by omega)]; exact q7
      · refine ⟨q1, q2, q3, ?_, ?_, ?_, ?_⟩
        · rw [pk_uLn (by omega), pk_uLn (by omega)]; exact q4
        · rw [pk_uLs, pk_uLs]
        · rw [pk_uLn (by omega)]; exact q6
        · rw [pk_uLs]; exact wds
    · have np : ¬ π t = π j := by
        intro zz
        obtain ⟨nj, -, b1, -, b3, b4, -⟩ := C.2.2.2 (j / 4) (by omega)
        obtain ⟨r1, r2, -⟩ := b3 j (by omega) (by omega) tj
        have jm : j / 4 = m := by omega
        exact z (a4 t j h1 h2 (by omega) (by omega) h3 tj (Or.inl zz))
      rw [pk_uLn (by omega), pk_uLn (by omega), pk_uLn (by omega), pk_uLn (by omega)]
      exact ⟨q1, q2, q3, q4, q5, q6, q7⟩
  · intro x_safe x_at x_exitLeast x_exitMost x_branches x_faultPlace x_provedLeast x_provedMost x_packetLength x_executed x_ops x_targets x_sources x_offsets x_immediates x_lengths x_kinds x_los x_his x_reached x_branchAt x_branchSafe x_branchKinds x_branchLos x_branchHis x_packet x_registers x_cells x_keyWords x_keyTaken i post hi eo e1 e2 e3 e4 P
    refine xr_69 hi hs eo e1 e2 (xs_sv (by simp)) (xr_mem (k := 6 + 2 * j + c) (p := d) (by simp) hi (by omega) eo e1 e2 (by rw [if_pos rfl]) (by rw [e3]; exact sm_vx t3 ec) (by omega) ?_)
    rw [if_neg (by decide)]
    exact xr_store (by omega) hs P
  · intro y_place y_least y_most y_smallest y_greatest y_ways y_fault y_base y_otherKind y_otherLo y_otherHi y_low y_high y_bytes y_steps y_op y_first y_second y_offset y_given y_length y_there y_known y_lo y_hi y_at y_lookups y_safe y_met y_tag y_word y_packet y_keys y_values y_many i a2 post hi eo e1 e2 e3 e4 P
    refine yr_114 hi hs eo e1 e2 (rg := True) (om_rg (f := True) (by simp)) ys_om (yr_m (by simp) hi (by omega) (fun z => absurd z (by decide)) (fun _ => ?_) (fun z => absurd z (by decide)) (fun z => absurd z (by decide)))
    rw [t1, e3, sm_vy t2 ec, s2]
    exact yr_storeV (by decide) p8 hc rfl P
end
