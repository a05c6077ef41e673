def oj_ (o : Int32) (f : Nat) : Prop := 1 ≤ f ∧ f ≤ 4 ∧ (o = nI (20 + f) ∨ o = nI (30 + f))
theorem oj_f {o : Int32} {f : Nat} (h : oj_ o f) : ¬ o < 20 ∧ ¬ 40 ≤ o ∧ ¬ o = 20 ∧ o - o / 10 * 10 = nI f ∧ ((rg_ o ∧ ¬ o ≤ 30 ∧ o / 10 = 3) ∨ (¬ rg_ o ∧ o ≤ 30 ∧ o / 10 = 2)) := by
  obtain ⟨h1, h4, h⟩ := h
  have e : f = 1 ∨ f = 2 ∨ f = 3 ∨ f = 4 := by omega
  unfold rg_
  rcases e with rfl | rfl | rfl | rfl <;> rcases h with rfl | rfl <;> decide
theorem oj_r {o : Int32} {f : Nat} (h : oj_ o f) : ∃ r : Int32, (r = if o ≤ 30 then 0 else 1) ∧ ((rg_ o ∧ r = 1) ∨ (¬ rg_ o ∧ r = 0)) := by
  obtain ⟨-, -, -, -, ⟨a, b, -⟩ | ⟨a, b, -⟩⟩ := oj_f h
  · exact ⟨1, by rw [if_neg b], Or.inl ⟨a, rfl⟩⟩
  · exact ⟨0, by rw [if_pos b], Or.inr ⟨a, rfl⟩⟩
/-- the goal alone -/
def YG_ (o : Int32) (d s : Nat) (off imm : Int32) (g : Nat) (K : Nat → Int32) (L H : Nat → Int64) (S : Int64) : Prop := ∀ (y_place : Int32) (y_least : Int64) (y_most : Int64) (y_smallest : Int64) (y_greatest : Int64) (y_ways : Int32) (y_fault : Int32) (y_base : Int32) (y_otherKind : Int32) (y_otherLo : Int64) (y_otherHi : Int64) (y_low : Int64) (y_high : Int64) (y_bytes : Int32) (y_steps : Int32) (y_op : Nat → Int32) (y_first : Nat → Int32) (y_second : Nat → Int32) (y_offset : Nat → Int32) (y_given : Nat → Int32) (y_length : Nat → Int32) (y_there : Nat → Int32) (y_known : Nat → Int32) (y_lo : Nat → Int64) (y_hi : Nat → Int64) (y_at : Nat → Int32) (y_lookups : Nat → Int32) (y_safe : Nat → Int32) (y_met : Nat → Int32) (y_tag : Nat → Int32) (y_word : Nat → Int64) (y_packet : Nat → Int32) (y_keys : Nat → Int64) (y_values : Nat → Int64) (y_many : Nat → Int32) (i a w : Nat) (post : SY → Prop), i < 120 → a < 40 → w < 12 → y_op i = o → y_first i = nI d → y_second i = nI s → y_offset i = off → y_given i = imm → y_at w = nI a → Fr_ K L H y_known y_lo y_hi (14 * w) (y_lookups w) → (y_safe w).toInt64 = S → vp_nar .byte (y_lookups w) = y_lookups w → (∀ (e1 : Int32) (e2 e3 e4 e5 : Int64), post (y_place, y_least, y_most, y_smallest, y_greatest, nI (w + 1), y_fault, nI (14 * w), e1, e2, e3, e4, e5, y_bytes, y_steps, y_op, y_first, y_second, y_offset, y_given, y_length, y_there, y_known, y_lo, y_hi, upd y_at w (nI (gm_ a g)), y_lookups, y_safe, y_met, y_tag, y_word, y_packet, y_keys, y_values, y_many)) → wpY_instruction post (y_place, y_least, y_most, y_smallest, y_greatest, nI (w + 1), y_fault, nI (14 * w), y_otherKind, y_otherLo, y_otherHi, y_low, y_high, y_bytes, y_steps, y_op, y_first, y_second, y_offset, y_given, y_length, y_there, y_known, y_lo, y_hi, y_at, y_lookups, y_safe, y_met, y_tag, y_word, y_packet, y_keys, y_values, y_many) (nI i) (nI a)
/-- both ways -/
def YB_ (o : Int32) (d s : Nat) (off imm : Int32) (g : Nat) (K : Nat → Int32) (L H : Nat → Int64) (S : Int64) (KG : Nat → Int32) (LG HG : Nat → Int64) (SG : Int64) (KN : Nat → Int32) (LN HN : Nat → Int64) (SN : Int64) : Prop := ∀ (y_place : Int32) (y_least : Int64) (y_most : Int64) (y_smallest : Int64) (y_greatest : Int64) (y_ways : Int32) (y_fault : Int32) (y_base : Int32) (y_otherKind : Int32) (y_otherLo : Int64) (y_otherHi : Int64) (y_low : Int64) (y_high : Int64) (y_bytes : Int32) (y_steps : Int32) (y_op : Nat → Int32) (y_first : Nat → Int32) (y_second : Nat → Int32) (y_offset : Nat → Int32) (y_given : Nat → Int32) (y_length : Nat → Int32) (y_there : Nat → Int32) (y_known : Nat → Int32) (y_lo : Nat → Int64) (y_hi : Nat → Int64) (y_at : Nat → Int32) (y_lookups : Nat → Int32) (y_safe : Nat → Int32) (y_met : Nat → Int32) (y_tag : Nat → Int32) (y_word : Nat → Int64) (y_packet : Nat → Int32) (y_keys : Nat → Int64) (y_values : Nat → Int64) (y_many : Nat → Int32) (i a w : Nat) (post : SY → Prop), i < 120 → a < 40 → w < 12 → y_op i = o → y_first i = nI d → y_second i = nI s → y_offset i = off → y_given i = imm → y_at w = nI a → Fr_ K L H y_known y_lo y_hi (14 * w) (y_lookups w) → (y_safe w).toInt64 = S → vp_nar .byte (y_lookups w) = y_lookups w → w + 1 < 12 → (∀ (e1 : Int32) (e2 e3 e4 e5 : Int64) (kn : Nat → Int32) (lo hi : Nat → Int64) (lk sf : Nat → Int32), Fr_ KG LG HG kn lo hi (14 * w) (lk w) → Fr_ KN LN HN kn lo hi (14 * (w + 1)) (lk (w + 1)) → (∀ j, j < 14 * w → kn j = y_known j ∧ lo j = y_lo j ∧ hi j = y_hi j) → (∀ j, j < w → lk j = y_lookups j ∧ sf j = y_safe j) → vp_nar .byte (lk w) = lk w → vp_nar .byte (lk (w + 1)) = lk (w + 1) → (sf w).toInt64 = SG → (sf (w + 1)).toInt64 = SN → post (y_place, y_least, y_most, y_smallest, y_greatest, nI (w + 2), y_fault, nI (14 * w), e1, e2, e3, e4, e5, y_bytes, y_steps, y_op, y_first, y_second, y_offset, y_given, y_length, y_there, kn, lo, hi, upd (upd y_at w (nI (gm_ a g))) (w + 1) (nI (a + 1)), lk, sf, y_met, y_tag, y_word, y_packet, y_keys, y_values, y_many)) → wpY_instruction post (y_place, y_least, y_most, y_smallest, y_greatest, nI (w + 1), y_fault, nI (14 * w), y_otherKind, y_otherLo, y_otherHi, y_low, y_high, y_bytes, y_steps, y_op, y_first, y_second, y_offset, y_given, y_length, y_there, y_known, y_lo, y_hi, y_at, y_lookups, y_safe, y_met, y_tag, y_word, y_packet, y_keys, y_values, y_many) (nI i) (nI a)
section
variable {o off imm : Int32} {d s f g : Nat} {K : Nat → Int32} {L H : Nat → Int64} {S : Int64}
theorem yj_out {K' : Nat → Int32} {L' H' : Nat → Int64} (h : ¬ o < 20) (h40 : ¬ 40 ≤ o) (n : ¬ 0 ≤ off) : YP_ o d s off imm K L H S 1 K' L' H' := by
  intro y_place y_least y_most y_smallest y_greatest y_ways y_fault y_base y_otherKind y_otherLo y_otherHi y_low y_high y_bytes y_steps y_op y_first y_second y_offset y_given y_length y_there y_known y_lo y_hi y_at y_lookups y_safe y_met y_tag y_word y_packet y_keys y_values y_many i a w post hi ha hw eo e1 e2 eof eg eat F eS hl hE hO
  refine yv_inJ hi eo h h40 ?_
  exact yv_jOut hi (by rw [eof]; exact n) (hE (by decide) _ _ _ _ _ _ _ _ _ _)
theorem yj_A (hg : g < 2 ^ 31) (eg' : off = nI g) : YG_ 20 d s off imm g K L H S := by
  intro y_place y_least y_most y_smallest y_greatest y_ways y_fault y_base y_otherKind y_otherLo y_otherHi y_low y_high y_bytes y_steps y_op y_first y_second y_offset y_given y_length y_there y_known y_lo y_hi y_at y_lookups y_safe y_met y_tag y_word y_packet y_keys y_values y_many i a w post hi ha hw eo e1 e2 eof eg eat F eS hl P
  refine yv_inJ hi eo (by decide) (by decide) ?_
  exact yv_jA hi (by omega) hg hw (eof.trans eg') (P _ _ _ _ _)
theorem yj_U {K' : Nat → Int32} {L' H' : Nat → Int64} (ho : oj_ o f) (hg : g < 2 ^ 31) (eg' : off = nI g) (hd : d < 8) (hs : s < 9) (W : WF_ K L H S) (n9 : nine_ o (imm.toInt64 &&& 4294967295) K L H) (u : K d = 0 ∨ K (q9_ o s) = 0) : YP_ o d s off imm K L H S 2 K' L' H' := by
  intro y_place y_least y_most y_smallest y_greatest y_ways y_fault y_base y_otherKind y_otherLo y_otherHi y_low y_high y_bytes y_steps y_op y_first y_second y_offset y_given y_length y_there y_known y_lo y_hi y_at y_lookups y_safe y_met y_tag y_word y_packet y_keys y_values y_many i a w post hi ha hw eo e1 e2 eof eg eat F eS hl hE hO
  obtain ⟨f1, f2, f3, f4, -⟩ := oj_f ho
  obtain ⟨r, er, hr⟩ := oj_r ho
  refine yv_inJ hi eo f1 f2 ?_
  refine yv_jU hi (by omega) hg (by omega) (by omega) (eof.trans eg') f3 er e1 e2 ?_ (hE (by decide) _ _ _ _ _ _ _ _ _ _)
  rcases u with u | u
  · refine Or.inl ⟨by omega, ?_⟩
    have t := F d (by omega)
    rw [g_lo hd] at t
    rw [t.1]; exact u
  · right
    rcases hr with ⟨q, rfl⟩ | ⟨q, rfl⟩
    · rw [q9_t q] at u
      exact ⟨by decide, (yp_un hs W F).mp u⟩
    · rw [q9_f q, (n9 q).1] at u; exact absurd u (by decide)
theorem yj_K {K' : Nat → Int32} {L' H' : Nat → Int64} (ho : oj_ o f) (hg : g < 2 ^ 31) (eg' : off = nI g) (hd : d < 8) (hs : s < 9) (W : WF_ K L H S) (n9 : nine_ o (imm.toInt64 &&& 4294967295) K L H) (u1 : ¬ K d = 0) (u2 : ¬ K (q9_ o s) = 0) (c : ¬ cm_ f (K d) (K (q9_ o s)) (H (q9_ o s))) : YP_ o d s off imm K L H S 3 K' L' H' := by
  intro y_place y_least y_most y_smallest y_greatest y_ways y_fault y_base y_otherKind y_otherLo y_otherHi y_low y_high y_bytes y_steps y_op y_first y_second y_offset y_given y_length y_there y_known y_lo y_hi y_at y_lookups y_safe y_met y_tag y_word y_packet y_keys y_values y_many i a w post hi ha hw eo e1 e2 eof eg eat F eS hl hE hO
  obtain ⟨f1, f2, f3, f4, -⟩ := oj_f ho
  obtain ⟨r, er, hr⟩ := oj_r ho
  obtain ⟨k2, l2, h2, t2, OP⟩ := yo_ex (B := 14 * w) hi (by omega) hs e2 eg F W.2.1 W.2.2.1 n9 hr
  obtain ⟨m1, m2⟩ := yp_m (f := 1) hd hs W F hr (Or.inr u1) u2
  have td := F d (by omega)
  rw [g_lo hd] at td
  have m1' : d = 8 ∨ ¬ y_known (14 * w + d) = 0 := by rcases m1 with q | q; exact absurd q (by decide); exact q
  refine yv_inJ hi eo f1 f2 ?_
  refine yv_jG hi (by omega) hg (by omega) (by omega) (eof.trans eg') f3 f4 er e1 e2 m1' m2 OP (fun a1 a2 => ?_) (fun nn => ?_)
  · exact absurd (Or.inl ⟨td.1.symm.trans a1, t2.1.symm.trans a2⟩) c
  · refine yv_j182K ho.1 ho.2.1 ?_ ?_ ?_ (hE (by decide) _ _ _ _ _ _ _ _ _ _)
    · rintro ⟨z1, z2, z3, z4⟩
      refine c (Or.inr (Or.inl ⟨td.1.symm.trans z1, z2, t2.1.symm.trans z3, ?_⟩))
      rw [← (t2.2.1 (Or.inl (t2.1.symm.trans z3))).2]; exact z4
    · rintro ⟨z1, z2, z3⟩
      exact c (Or.inr (Or.inr (Or.inl ⟨td.1.symm.trans z1, z2, t2.1.symm.trans z3⟩)))
    · rintro ⟨z1, z2, z3⟩
      exact c (Or.inr (Or.inr (Or.inr ⟨td.1.symm.trans z1, z2, t2.1.symm.trans z3⟩)))
/-- two SCALARs: into wpY_scalars -/
theorem yj_S {y_place : Int32} {y_least : Int64} {y_most : Int64} {y_smallest : Int64} {y_greatest : Int64} {y_ways : Int32} {y_fault : Int32} {y_base : Int32} {y_otherKind : Int32} {y_otherLo : Int64} {y_otherHi : Int64} {y_low : Int64} {y_high : Int64} {y_bytes : Int32} {y_steps : Int32} {y_op : Nat → Int32} {y_first : Nat → Int32} {y_second : Nat → Int32} {y_offset : Nat → Int32} {y_given : Nat → Int32} {y_length : Nat → Int32} {y_there : Nat → Int32} {y_known : Nat → Int32} {y_lo : Nat → Int64} {y_hi : Nat → Int64} {y_at : Nat → Int32} {y_lookups : Nat → Int32} {y_safe : Nat → Int32} {y_met : Nat → Int32} {y_tag : Nat → Int32} {y_word : Nat → Int64} {y_packet : Nat → Int32} {y_keys : Nat → Int64} {y_values : Nat → Int64} {y_many : Nat → Int32} {i a w : Nat} {post : SY → Prop} {p b c e : Nat} (hi : i < 120) (ha : a < 40) (hw : w < 12) (eo : y_op i = o) (e1 : y_first i = nI d) (e2 : y_second i = nI s) (eof : y_offset i = off) (eg : y_given i = imm) (F : Fr_ K L H y_known y_lo y_hi (14 * w) (y_lookups w)) (ho : oj_ o f) (hg : g < 2 ^ 31) (eg' : off = nI g) (hd : d < 8) (hs : s < 9) (W : WF_ K L H S) (n9 : nine_ o (imm.toInt64 &&& 4294967295) K L H) (k1 : K d = 1) (k2 : K (q9_ o s) = 1) (ep : L d = lN p) (eb : H d = lN b) (ec : L (q9_ o s) = lN c) (ee : H (q9_ o s) = lN e) (G : y_lo (14 * w + d) = lN p → y_hi (14 * w + d) = lN b → wpY_scalars post (y_place, y_least, y_most, y_smallest, y_greatest, nI (w + 1), y_fault, nI (14 * w), 1, lN c, lN e, y_low, y_high, y_bytes, y_steps, y_op, y_first, y_second, y_offset, y_given, y_length, y_there, y_known, y_lo, y_hi, y_at, y_lookups, y_safe, y_met, y_tag, y_word, y_packet, y_keys, y_values, y_many) (nI d) (nI f) (nI (gm_ a g)) (nI (a + 1))) : wpY_instruction post (y_place, y_least, y_most, y_smallest, y_greatest, nI (w + 1), y_fault, nI (14 * w), y_otherKind, y_otherLo, y_otherHi, y_low, y_high, y_bytes, y_steps, y_op, y_first, y_second, y_offset, y_given, y_length, y_there, y_known, y_lo, y_hi, y_at, y_lookups, y_safe, y_met, y_tag, y_word, y_packet, y_keys, y_values, y_many) (nI i) (nI a) := by
  obtain ⟨f1, f2, f3, f4, -⟩ := oj_f ho
  obtain ⟨r, er, hr⟩ := oj_r ho
  obtain ⟨c2, l2, h2, t2, OP⟩ := yo_ex (y_ways := nI (w + 1)) (B := 14 * w) hi (by omega) hs e2 eg F W.2.1 W.2.2.1 n9 hr
  obtain ⟨m1, m2⟩ := yp_m (f := 1) hd hs W F hr (Or.inr (by rw [k1]; decide)) (by rw [k2]; decide)
  have td := F d (by omega)
  rw [g_lo hd] at td
  have m1' : d = 8 ∨ ¬ y_known (14 * w + d) = 0 := by rcases m1 with q | q; exact absurd q (by decide); exact q
  have ek := t2.1.trans k2
  obtain ⟨tl, th⟩ := t2.2.1 (Or.inl k2)
  obtain ⟨ul, uh⟩ := td.2.1 (Or.inl k1)
  rw [ec] at tl
  rw [ee] at th
  subst ek tl th
  refine yv_inJ hi eo f1 f2 ?_
  refine yv_jG hi (by omega) hg (by omega) (by omega) (eof.trans eg') f3 f4 er e1 e2 m1' m2 OP (fun _ _ => G (ul.trans ep) (uh.trans eb)) (fun nn => absurd ⟨td.1.trans k1, rfl⟩ nn)
end
