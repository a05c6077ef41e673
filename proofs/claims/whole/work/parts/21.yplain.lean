def YP_ (o : Int32) (d s : Nat) (off imm : Int32) (K : Nat → Int32) (L H : Nat → Int64) (S : Int64) (e : Int32) (K' : Nat → Int32) (L' H' : Nat → Int64) : Prop := ∀ (y_place : Int32) (y_least : Int64) (y_most : Int64) (y_smallest : Int64) (y_greatest : Int64) (y_ways : Int32) (y_fault : Int32) (y_base : Int32) (y_otherKind : Int32) (y_otherLo : Int64) (y_otherHi : Int64) (y_low : Int64) (y_high : Int64) (y_bytes : Int32) (y_steps : Int32) (y_op : Nat → Int32) (y_first : Nat → Int32) (y_second : Nat → Int32) (y_offset : Nat → Int32) (y_given : Nat → Int32) (y_length : Nat → Int32) (y_there : Nat → Int32) (y_known : Nat → Int32) (y_lo : Nat → Int64) (y_hi : Nat → Int64) (y_at : Nat → Int32) (y_lookups : Nat → Int32) (y_safe : Nat → Int32) (y_met : Nat → Int32) (y_tag : Nat → Int32) (y_word : Nat → Int64) (y_packet : Nat → Int32) (y_keys : Nat → Int64) (y_values : Nat → Int64) (y_many : Nat → Int32) (i a w : Nat) (post : SY → Prop), i < 120 → a < 40 → w < 12 → y_op i = o → y_first i = nI d → y_second i = nI s → y_offset i = off → y_given i = imm → y_at w = nI a → Fr_ K L H y_known y_lo y_hi (14 * w) (y_lookups w) → (y_safe w).toInt64 = S → vp_nar .byte (y_lookups w) = y_lookups w → (¬ e = 0 → ∀ (e1 : Int32) (e2 e3 e4 e5 : Int64) (e6 : Nat → Int32) (e7 e8 : Nat → Int64) (e9 e10 : Nat → Int32), post (nI a, y_least, y_most, y_smallest, y_greatest, nI (w + 1), e, nI (14 * w), e1, e2, e3, e4, e5, y_bytes, y_steps, y_op, y_first, y_second, y_offset, y_given, y_length, y_there, e6, e7, e8, e9, e10, y_safe, y_met, y_tag, y_word, y_packet, y_keys, y_values, y_many)) → (e = 0 → ∀ (e1 : Int32) (e2 e3 e4 e5 : Int64) (kn : Nat → Int32) (lo hi : Nat → Int64) (lk : Nat → Int32), Fr_ K' L' H' kn lo hi (14 * w) (lk w) → (∀ j, j < 14 * w → kn j = y_known j ∧ lo j = y_lo j ∧ hi j = y_hi j) → (∀ j, j < w → lk j = y_lookups j) → vp_nar .byte (lk w) = lk w → post (y_place, y_least, y_most, y_smallest, y_greatest, nI (w + 1), y_fault, nI (14 * w), e1, e2, e3, e4, e5, y_bytes, y_steps, y_op, y_first, y_second, y_offset, y_given, y_length, y_there, kn, lo, hi, upd y_at w (nI (a + 1)), lk, y_safe, y_met, y_tag, y_word, y_packet, y_keys, y_values, y_many)) → wpY_instruction post (y_place, y_least, y_most, y_smallest, y_greatest, nI (w + 1), y_fault, nI (14 * w), y_otherKind, y_otherLo, y_otherHi, y_low, y_high, y_bytes, y_steps, y_op, y_first, y_second, y_offset, y_given, y_length, y_there, y_known, y_lo, y_hi, y_at, y_lookups, y_safe, y_met, y_tag, y_word, y_packet, y_keys, y_values, y_many) (nI i) (nI a)
def oa_ (o : Int32) (f : Nat) : Prop := f ≤ 6 ∧ (o = nI f ∨ o = nI (10 + f))
theorem oa_f {o : Int32} {f : Nat} (h : oa_ o f) : o < 20 ∧ ¬ o = 60 ∧ o < 50 ∧ o < 40 ∧ o - o / 10 * 10 = nI f ∧ ((rg_ o ∧ ¬ o < 10 ∧ o / 10 = 1) ∨ (¬ rg_ o ∧ o < 10 ∧ o / 10 = 0)) := by
  obtain ⟨h6, h⟩ := h
  have e : f = 0 ∨ f = 1 ∨ f = 2 ∨ f = 3 ∨ f = 4 ∨ f = 5 ∨ f = 6 := by omega
  unfold rg_
  rcases e with rfl | rfl | rfl | rfl | rfl | rfl | rfl <;> rcases h with rfl | rfl <;> decide
theorem oa_r {o : Int32} {f : Nat} (h : oa_ o f) : ∃ r : Int32, (r = if o < 10 then 0 else 1) ∧ ((rg_ o ∧ r = 1) ∨ (¬ rg_ o ∧ r = 0)) := by
  obtain ⟨-, -, -, -, -, ⟨a, b, -⟩ | ⟨a, b, -⟩⟩ := oa_f h
  · exact ⟨1, by rw [if_neg b], Or.inl ⟨a, rfl⟩⟩
  · exact ⟨0, by rw [if_pos b], Or.inr ⟨a, rfl⟩⟩
section
variable {o off imm : Int32} {d s f : Nat} {K : Nat → Int32} {L H : Nat → Int64} {S : Int64}
theorem yp_aU {K' : Nat → Int32} {L' H' : Nat → Int64} (ho : oa_ o f) (hd : d < 8) (hs : s < 9) (W : WF_ K L H S) (n9 : nine_ o (imm.toInt64 &&& 4294967295) K L H) (u : (¬ f = 0 ∧ K d = 0) ∨ K (q9_ o s) = 0) : YP_ o d s off imm K L H S 2 K' L' H' := by
  intro y_place y_least y_most y_smallest y_greatest y_ways y_fault y_base y_otherKind y_otherLo y_otherHi y_low y_high y_bytes y_steps y_op y_first y_second y_offset y_given y_length y_there y_known y_lo y_hi y_at y_lookups y_safe y_met y_tag y_word y_packet y_keys y_values y_many i a w post hi ha hw eo e1 e2 eof eg eat F eS hl hE hO
  obtain ⟨f1, f2, f3, f4, f5, -⟩ := oa_f ho
  obtain ⟨r, er, hr⟩ := oa_r ho
  refine yv_inA hi eo f1 f2 f3 f4 ?_
  refine yv_arU hi (by omega) (by omega) ho.1 f5 er e1 e2 ?_ ?_
  · rcases u with u | u
    · refine Or.inl ⟨u.1, by omega, ?_⟩
      have t := F d (by omega)
      rw [g_lo hd] at t
      rw [t.1]; exact u.2
    · right
      rcases hr with ⟨q, rfl⟩ | ⟨q, rfl⟩
      · rw [q9_t q] at u
        have s8 : ¬ s = 8 := by intro z; rw [z, W.2.1] at u; exact absurd u (by decide)
        have t := F s (by omega)
        rw [g_lo (by omega)] at t
        exact ⟨by decide, s8, by rw [t.1]; exact u⟩
      · rw [q9_f q, (n9 q).1] at u; exact absurd u (by decide)
  · exact yv_78 hw (by omega) eat (hE (by decide) _ _ _ _ _ _ _ _ _ _)
/-- the way into wY_arithmetic_66 -/
theorem yp_m {y_known : Nat → Int32} {y_lo y_hi : Nat → Int64} {B : Nat} {m r : Int32} (hd : d < 8) (hs : s < 9) (W : WF_ K L H S) (F : Fr_ K L H y_known y_lo y_hi B m) (hr : (rg_ o ∧ r = 1) ∨ (¬ rg_ o ∧ r = 0)) (u1 : f = 0 ∨ ¬ K d = 0) (u2 : ¬ K (q9_ o s) = 0) : (f = 0 ∨ d = 8 ∨ ¬ y_known (B + d) = 0) ∧ (r = 0 ∨ s = 8 ∨ ¬ y_known (B + s) = 0) := by
  constructor
  · rcases u1 with u | u
    · exact Or.inl u
    · refine Or.inr (Or.inr ?_)
      have t := F d (by omega)
      rw [g_lo hd] at t
      rw [t.1]; exact u
  · rcases hr with ⟨q, rfl⟩ | ⟨q, rfl⟩
    · rw [q9_t q] at u2
      by_cases z : s = 8
      · exact Or.inr (Or.inl z)
      · refine Or.inr (Or.inr ?_)
        have t := F s (by omega)
        rw [g_lo (by omega)] at t
        rw [t.1]; exact u2
    · exact Or.inl rfl
theorem yp_a0 (ho : oa_ o 0) (hd : d < 8) (hs : s < 9) (W : WF_ K L H S) (n9 : nine_ o (imm.toInt64 &&& 4294967295) K L H) (u : ¬ K (q9_ o s) = 0) : YP_ o d s off imm K L H S 0 (upd K d (K (q9_ o s))) (vp_updL L d (L (q9_ o s))) (vp_updL H d (H (q9_ o s))) := by
  intro y_place y_least y_most y_smallest y_greatest y_ways y_fault y_base y_otherKind y_otherLo y_otherHi y_low y_high y_bytes y_steps y_op y_first y_second y_offset y_given y_length y_there y_known y_lo y_hi y_at y_lookups y_safe y_met y_tag y_word y_packet y_keys y_values y_many i a w post hi ha hw eo e1 e2 eof eg eat F eS hl hE hO
  obtain ⟨f1, f2, f3, f4, f5, -⟩ := oa_f ho
  obtain ⟨r, er, hr⟩ := oa_r ho
  obtain ⟨k2, l2, h2, t2, OP⟩ := yo_ex (B := 14 * w) hi (by omega) hs e2 eg F W.2.1 W.2.2.1 n9 hr
  obtain ⟨m1, m2⟩ := yp_m (f := 0) hd hs W F hr (Or.inl rfl) u
  refine yv_inA hi eo f1 f2 f3 f4 ?_
  refine yv_arG hi (by omega) (by omega) ho.1 f5 er e1 e2 m1 m2 ?_
  refine yv_a0 (by omega) ?_ OP ?_
  · rw [t2.1]; exact (W.1 _ (q9_16 hs)).1
  · refine yv_78 hw (by omega) eat ?_
    have G := Fr_upd (r := d) F t2
    rw [g_lo hd] at G
    exact hO rfl _ _ _ _ _ _ _ _ _ G (fun j hj => ⟨pk_un (by omega), pk_uLn (by omega), pk_uLn (by omega)⟩) (fun _ _ => rfl) hl
theorem yp_aK {K' : Nat → Int32} {L' H' : Nat → Int64} (ho : oa_ o f) (h1 : 1 ≤ f) (hd : d < 8) (hs : s < 9) (W : WF_ K L H S) (n9 : nine_ o (imm.toInt64 &&& 4294967295) K L H) (u : ¬ K d = 0) (u2 : ¬ K (q9_ o s) = 0) (k : ¬ K (q9_ o s) = 1) : YP_ o d s off imm K L H S 3 K' L' H' := by
  intro y_place y_least y_most y_smallest y_greatest y_ways y_fault y_base y_otherKind y_otherLo y_otherHi y_low y_high y_bytes y_steps y_op y_first y_second y_offset y_given y_length y_there y_known y_lo y_hi y_at y_lookups y_safe y_met y_tag y_word y_packet y_keys y_values y_many i a w post hi ha hw eo e1 e2 eof eg eat F eS hl hE hO
  obtain ⟨f1, f2, f3, f4, f5, -⟩ := oa_f ho
  obtain ⟨r, er, hr⟩ := oa_r ho
  obtain ⟨k2, l2, h2, t2, OP⟩ := yo_ex (B := 14 * w) hi (by omega) hs e2 eg F W.2.1 W.2.2.1 n9 hr
  obtain ⟨m1, m2⟩ := yp_m hd hs W F hr (Or.inr u) u2
  refine yv_inA hi eo f1 f2 f3 f4 ?_
  refine yv_arG hi (by omega) (by omega) ho.1 f5 er e1 e2 m1 m2 ?_
  refine yv_aK (by omega) h1 ho.1 (by rw [t2.1]; exact k) OP ?_
  exact yv_78 hw (by omega) eat (hE (by decide) _ _ _ _ _ _ _ _ _ _)
theorem yp_aO {K' : Nat → Int32} {L' H' : Nat → Int64} (ho : oa_ o f) (h1 : 1 ≤ f) (hd : d < 8) (hs : s < 9) (W : WF_ K L H S) (n9 : nine_ o (imm.toInt64 &&& 4294967295) K L H) (u : ¬ K d = 0) (k : K (q9_ o s) = 1) (k1 : ¬ K d = 1) (k2 : ¬ K d = 2) (k4 : ¬ K d = 4) (k5 : ¬ K d = 5) : YP_ o d s off imm K L H S 3 K' L' H' := by
  intro y_place y_least y_most y_smallest y_greatest y_ways y_fault y_base y_otherKind y_otherLo y_otherHi y_low y_high y_bytes y_steps y_op y_first y_second y_offset y_given y_length y_there y_known y_lo y_hi y_at y_lookups y_safe y_met y_tag y_word y_packet y_keys y_values y_many i a w post hi ha hw eo e1 e2 eof eg eat F eS hl hE hO
  obtain ⟨f1, f2, f3, f4, f5, -⟩ := oa_f ho
  obtain ⟨r, er, hr⟩ := oa_r ho
  obtain ⟨c2, l2, h2, t2, OP⟩ := yo_ex (B := 14 * w) hi (by omega) hs e2 eg F W.2.1 W.2.2.1 n9 hr
  obtain ⟨m1, m2⟩ := yp_m hd hs W F hr (Or.inr u) (by rw [k]; decide)
  have td := F d (by omega)
  rw [g_lo hd] at td
  have ek := t2.1.trans k
  subst ek
  refine yv_inA hi eo f1 f2 f3 f4 ?_
  refine yv_arG hi (by omega) (by omega) ho.1 f5 er e1 e2 m1 m2 ?_
  refine yv_aO (by omega) h1 ho.1 (by rw [td.1]; exact k1) (by rw [td.1]; exact k2) (by rw [td.1]; exact k4) (by rw [td.1]; exact k5) OP ?_
  exact yv_78 hw (by omega) eat (hE (by decide) _ _ _ _ _ _ _ _ _ _)
theorem yp_aS (ho : oa_ o f) (h1 : 1 ≤ f) (hd : d < 8) (hs : s < 9) (W : WF_ K L H S) (n9 : nine_ o (imm.toInt64 &&& 4294967295) K L H) (k : K (q9_ o s) = 1) (k1 : K d = 1) {l h : Int64} (el : l = ab_l (cb_l (nI f) (L d) (H d) (L (q9_ o s)) (H (q9_ o s))) (cb_h (nI f) (L d) (H d) (L (q9_ o s)) (H (q9_ o s)))) (eh : h = ab_h (cb_l (nI f) (L d) (H d) (L (q9_ o s)) (H (q9_ o s))) (cb_h (nI f) (L d) (H d) (L (q9_ o s)) (H (q9_ o s)))) : YP_ o d s off imm K L H S 0 K (vp_updL L d l) (vp_updL H d h) := by
  intro y_place y_least y_most y_smallest y_greatest y_ways y_fault y_base y_otherKind y_otherLo y_otherHi y_low y_high y_bytes y_steps y_op y_first y_second y_offset y_given y_length y_there y_known y_lo y_hi y_at y_lookups y_safe y_met y_tag y_word y_packet y_keys y_values y_many i a w post hi ha hw eo e1 e2 eof eg eat F eS hl hE hO
  obtain ⟨f1, f2, f3, f4, f5, -⟩ := oa_f ho
  obtain ⟨r, er, hr⟩ := oa_r ho
  obtain ⟨c2, l2, h2, t2, OP⟩ := yo_ex (B := 14 * w) hi (by omega) hs e2 eg F W.2.1 W.2.2.1 n9 hr
  obtain ⟨m1, m2⟩ := yp_m hd hs W F hr (Or.inr (by rw [k1]; decide)) (by rw [k]; decide)
  have td := F d (by omega)
  rw [g_lo hd] at td
  have ek := t2.1.trans k
  obtain ⟨tl, th⟩ := t2.2.1 (Or.inl k)
  obtain ⟨ul, uh⟩ := td.2.1 (Or.inl k1)
  obtain ⟨p, b, pb, hb, ep, eb⟩ := (W.1 d (by omega)).2.1 k1
  obtain ⟨c, e, ce, he, ec, ee⟩ := (W.1 _ (q9_16 hs)).2.1 k
  subst ek tl th
  rw [ep, eb, ec, ee] at el eh
  rw [ec, ee] at OP
  refine yv_inA hi eo f1 f2 f3 f4 ?_
  refine yv_arG hi (by omega) (by omega) ho.1 f5 er e1 e2 m1 m2 ?_
  refine yv_aS (by omega) h1 ho.1 ?_ pb hb ce he (td.1.trans k1) (ul.trans ep) (uh.trans eb) OP el eh ?_
  · intro r0
    rcases hr with ⟨q, rfl⟩ | ⟨q, -⟩
    · exact absurd r0 (by decide)
    · obtain ⟨a1, a2, a3⟩ := n9 q
      rw [q9_f q] at ec ee
      have : lN c = lN e := by rw [← ec, ← ee, a2, a3]
      exact (pk_lEQ (by omega) (by omega)).mp this
  · refine yv_78 hw (by omega) eat ?_
    have G := Fr_upd (r := d) F (T_1 (l := l) (h := h))
    rw [g_lo hd, xb_updid k1] at G
    exact hO rfl _ _ _ _ _ _ _ _ _ G (fun j hj => ⟨pk_un (by omega), pk_uLn (by omega), pk_uLn (by omega)⟩) (fun _ _ => rfl) hl
theorem pu_le255 {x : Int64} : ¬ 255 < x ↔ x ≤ 255 := Int64.not_lt
theorem yp_aP (ho : oa_ o 1) (hd : d < 8) (hs : s < 9) (W : WF_ K L H S) (n9 : nine_ o (imm.toInt64 &&& 4294967295) K L H) (k : K (q9_ o s) = 1) (k1 : K d = 2) (hh : H d + H (q9_ o s) ≤ 255) : YP_ o d s off imm K L H S 0 (upd K d 2) (vp_updL L d (L d + L (q9_ o s))) (vp_updL H d (H d + H (q9_ o s))) := by
  intro y_place y_least y_most y_smallest y_greatest y_ways y_fault y_base y_otherKind y_otherLo y_otherHi y_low y_high y_bytes y_steps y_op y_first y_second y_offset y_given y_length y_there y_known y_lo y_hi y_at y_lookups y_safe y_met y_tag y_word y_packet y_keys y_values y_many i a w post hi ha hw eo e1 e2 eof eg eat F eS hl hE hO
  obtain ⟨f1, f2, f3, f4, f5, -⟩ := oa_f ho
  obtain ⟨r, er, hr⟩ := oa_r ho
  obtain ⟨c2, l2, h2, t2, OP⟩ := yo_ex (B := 14 * w) hi (by omega) hs e2 eg F W.2.1 W.2.2.1 n9 hr
  obtain ⟨m1, m2⟩ := yp_m (f := 1) hd hs W F hr (Or.inr (by rw [k1]; decide)) (by rw [k]; decide)
  have td := F d (by omega)
  rw [g_lo hd] at td
  have ek := t2.1.trans k
  obtain ⟨tl, th⟩ := t2.2.1 (Or.inl k)
  obtain ⟨ul, uh⟩ := td.2.1 (Or.inr k1)
  subst ek tl th
  refine yv_inA hi eo f1 f2 f3 f4 ?_
  refine yv_arG hi (by omega) (by omega) ho.1 f5 er e1 e2 m1 m2 ?_
  refine yv_aP (by omega) (td.1.trans k1) (by rw [uh, pu_le255]; exact hh) OP ?_
  refine yv_78 hw (by omega) eat ?_
  rw [ul, uh]
  have G := Fr_upd (r := d) F (T_2 (l := L d + L (q9_ o s)) (h := H d + H (q9_ o s)))
  rw [g_lo hd, xb_updid (f := y_known) (td.1.trans k1)] at G
  exact hO rfl _ _ _ _ _ _ _ _ _ G (fun j hj => ⟨rfl, pk_uLn (by omega), pk_uLn (by omega)⟩) (fun _ _ => rfl) hl
theorem yp_aPf {K' : Nat → Int32} {L' H' : Nat → Int64} (ho : oa_ o f) (h1 : 1 ≤ f) (hd : d < 8) (hs : s < 9) (W : WF_ K L H S) (n9 : nine_ o (imm.toInt64 &&& 4294967295) K L H) (k : K (q9_ o s) = 1) (k1 : K d = 2) (hh : ¬ (f = 1 ∧ H d + H (q9_ o s) ≤ 255)) : YP_ o d s off imm K L H S 3 K' L' H' := by
  intro y_place y_least y_most y_smallest y_greatest y_ways y_fault y_base y_otherKind y_otherLo y_otherHi y_low y_high y_bytes y_steps y_op y_first y_second y_offset y_given y_length y_there y_known y_lo y_hi y_at y_lookups y_safe y_met y_tag y_word y_packet y_keys y_values y_many i a w post hi ha hw eo e1 e2 eof eg eat F eS hl hE hO
  obtain ⟨f1, f2, f3, f4, f5, -⟩ := oa_f ho
  obtain ⟨r, er, hr⟩ := oa_r ho
  obtain ⟨c2, l2, h2, t2, OP⟩ := yo_ex (B := 14 * w) hi (by omega) hs e2 eg F W.2.1 W.2.2.1 n9 hr
  obtain ⟨m1, m2⟩ := yp_m hd hs W F hr (Or.inr (by rw [k1]; decide)) (by rw [k]; decide)
  have td := F d (by omega)
  rw [g_lo hd] at td
  have ek := t2.1.trans k
  obtain ⟨tl, th⟩ := t2.2.1 (Or.inl k)
  obtain ⟨ul, uh⟩ := td.2.1 (Or.inr k1)
  subst ek tl th
  refine yv_inA hi eo f1 f2 f3 f4 ?_
  refine yv_arG hi (by omega) (by omega) ho.1 f5 er e1 e2 m1 m2 ?_
  refine yv_aPf (by omega) h1 ho.1 (td.1.trans k1) (by rw [uh, pu_le255]; exact hh) OP ?_
  exact yv_78 hw (by omega) eat (hE (by decide) _ _ _ _ _ _ _ _ _ _)
theorem yp_aC (ho : oa_ o f) (hf : f = 1 ∨ f = 2) (hd : d < 8) (hs : s < 9) (W : WF_ K L H S) (n9 : nine_ o (imm.toInt64 &&& 4294967295) K L H) (k : K (q9_ o s) = 1) (k1 : K d = 4 ∨ K d = 5) (a1 : L (q9_ o s) = H (q9_ o s)) (a2 : L (q9_ o s) ≤ 100) {l : Int64} (el : l = if f = 1 then L d + L (q9_ o s) else L d - L (q9_ o s)) : YP_ o d s off imm K L H S 0 (upd K d (K d)) (vp_updL L d l) (vp_updL H d l) := by
  intro y_place y_least y_most y_smallest y_greatest y_ways y_fault y_base y_otherKind y_otherLo y_otherHi y_low y_high y_bytes y_steps y_op y_first y_second y_offset y_given y_length y_there y_known y_lo y_hi y_at y_lookups y_safe y_met y_tag y_word y_packet y_keys y_values y_many i a w post hi ha hw eo e1 e2 eof eg eat F eS hl hE hO
  obtain ⟨f1, f2, f3, f4, f5, -⟩ := oa_f ho
  obtain ⟨r, er, hr⟩ := oa_r ho
  obtain ⟨c2, l2, h2, t2, OP⟩ := yo_ex (B := 14 * w) hi (by omega) hs e2 eg F W.2.1 W.2.2.1 n9 hr
  obtain ⟨m1, m2⟩ := yp_m hd hs W F hr (Or.inr (by rcases k1 with k1 | k1 <;> rw [k1] <;> decide)) (by rw [k]; decide)
  have td := F d (by omega)
  rw [g_lo hd] at td
  have ek := t2.1.trans k
  obtain ⟨tl, th⟩ := t2.2.1 (Or.inl k)
  have ul := td.2.2.1 k1
  subst ek tl th
  refine yv_inA hi eo f1 f2 f3 f4 ?_
  refine yv_arG hi (by omega) (by omega) ho.1 f5 er e1 e2 m1 m2 ?_
  refine yv_aC (by omega) hf (by rw [td.1]; exact k1) a1 (Int64.not_lt.mpr a2) OP ?_
  refine yv_78 hw (by omega) eat ?_
  rw [ul, ← el]
  have G := Fr_upd (r := d) F (T_45 (l := l) (h := l) (h' := y_hi (14 * w + d)) k1)
  rw [g_lo hd, xb_updid (f := y_known) td.1, xb_updLid (f := y_hi) rfl] at G
  exact hO rfl _ _ _ _ _ _ _ _ _ G (fun j hj => ⟨rfl, pk_uLn (by omega), rfl⟩) (fun _ _ => rfl) hl
theorem yp_aCf {K' : Nat → Int32} {L' H' : Nat → Int64} (ho : oa_ o f) (h1 : 1 ≤ f) (hd : d < 8) (hs : s < 9) (W : WF_ K L H S) (n9 : nine_ o (imm.toInt64 &&& 4294967295) K L H) (k : K (q9_ o s) = 1) (k1 : K d = 4 ∨ K d = 5) (hh : ¬ (L (q9_ o s) = H (q9_ o s) ∧ L (q9_ o s) ≤ 100 ∧ (f = 1 ∨ f = 2))) : YP_ o d s off imm K L H S 3 K' L' H' := by
  intro y_place y_least y_most y_smallest y_greatest y_ways y_fault y_base y_otherKind y_otherLo y_otherHi y_low y_high y_bytes y_steps y_op y_first y_second y_offset y_given y_length y_there y_known y_lo y_hi y_at y_lookups y_safe y_met y_tag y_word y_packet y_keys y_values y_many i a w post hi ha hw eo e1 e2 eof eg eat F eS hl hE hO
  obtain ⟨f1, f2, f3, f4, f5, -⟩ := oa_f ho
  obtain ⟨r, er, hr⟩ := oa_r ho
  obtain ⟨c2, l2, h2, t2, OP⟩ := yo_ex (B := 14 * w) hi (by omega) hs e2 eg F W.2.1 W.2.2.1 n9 hr
  obtain ⟨m1, m2⟩ := yp_m hd hs W F hr (Or.inr (by rcases k1 with k1 | k1 <;> rw [k1] <;> decide)) (by rw [k]; decide)
  have td := F d (by omega)
  rw [g_lo hd] at td
  have ek := t2.1.trans k
  obtain ⟨tl, th⟩ := t2.2.1 (Or.inl k)
  subst ek tl th
  refine yv_inA hi eo f1 f2 f3 f4 ?_
  refine yv_arG hi (by omega) (by omega) ho.1 f5 er e1 e2 m1 m2 ?_
  refine yv_aCf (by omega) h1 ho.1 (by rw [td.1]; exact k1) (by rw [Int64.not_lt]; exact hh) OP ?_
  exact yv_78 hw (by omega) eat (hE (by decide) _ _ _ _ _ _ _ _ _ _)
end
