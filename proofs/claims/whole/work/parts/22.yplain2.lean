theorem T_m {k k' m m2 : Int32} {l h l' h' : Int64} (t : T_ k l h k' l' h' m) (n : ¬ k = 6) : T_ k l h k' l' h' m2 := ⟨t.1, t.2.1, t.2.2.1, fun z => absurd z n⟩
section
variable {o off imm : Int32} {d s : Nat} {K : Nat → Int32} {L H : Nat → Int64} {S : Int64}
theorem yp_kp {y_known : Nat → Int32} {y_lo y_hi : Nat → Int64} {B p : Nat} {m : Int32} (hp : p < 9) (W : WF_ K L H S) (F : Fr_ K L H y_known y_lo y_hi B m) : (if p = 8 then 4 else y_known (B + p)) = K p := by
  by_cases z : p = 8
  · rw [if_pos z, z]; exact W.2.1.symm
  · have t := F p (by omega)
    rw [g_lo (by omega)] at t
    rw [if_neg z]; exact t.1
theorem yp_lp {y_known : Nat → Int32} {y_lo y_hi : Nat → Int64} {B p : Nat} {m : Int32} (hp : p < 9) (W : WF_ K L H S) (F : Fr_ K L H y_known y_lo y_hi B m) (k : K p = 2 ∨ K p = 4 ∨ K p = 5) : (if p = 8 then 0 else y_lo (B + p)) = L p := by
  by_cases z : p = 8
  · rw [if_pos z, z]; exact W.2.2.1.symm
  · have t := F p (by omega)
    rw [g_lo (by omega)] at t
    rw [if_neg z]
    rcases k with k | k
    · exact (t.2.1 (Or.inr k)).1
    · exact t.2.2.1 k
theorem yp_un {y_known : Nat → Int32} {y_lo y_hi : Nat → Int64} {B p : Nat} {m : Int32} (hp : p < 9) (W : WF_ K L H S) (F : Fr_ K L H y_known y_lo y_hi B m) : (K p = 0 ↔ (¬ p = 8 ∧ y_known (B + p) = 0)) := by
  constructor
  · intro k
    have n : ¬ p = 8 := by intro z; rw [z, W.2.1] at k; exact absurd k (by decide)
    have t := F p (by omega)
    rw [g_lo (by omega)] at t
    exact ⟨n, t.1.trans k⟩
  · rintro ⟨n, k⟩
    have t := F p (by omega)
    rw [g_lo (by omega)] at t
    exact t.1.symm.trans k
theorem yp_nu {y_known : Nat → Int32} {y_lo y_hi : Nat → Int64} {B p : Nat} {m : Int32} (hp : p < 9) (W : WF_ K L H S) (F : Fr_ K L H y_known y_lo y_hi B m) (k : ¬ K p = 0) : p = 8 ∨ ¬ y_known (B + p) = 0 := by
  by_cases z : p = 8
  · exact Or.inl z
  · exact Or.inr (fun q => k ((yp_un hp W F).mpr ⟨z, q⟩))
theorem om_f (h : o = 40 ∨ o = 41 ∨ o = 42) : ¬ o < 20 ∧ 40 ≤ o ∧ ¬ o = 60 ∧ o < 50 ∧ ¬ o < 40 := by rcases h with rfl | rfl | rfl <;> decide
theorem yp_mU {K' : Nat → Int32} {L' H' : Nat → Int64} {p : Nat} (ho : o = 40 ∨ o = 41 ∨ o = 42) (hd : d < 8) (hs : s < 9) (W : WF_ K L H S) (ep : p = if o = 41 then d else s) (u : K p = 0 ∨ (o = 41 ∧ K s = 0)) : YP_ o d s off imm K L H S 2 K' L' H' := by
  intro y_place y_least y_most y_smallest y_greatest y_ways y_fault y_base y_otherKind y_otherLo y_otherHi y_low y_high y_bytes y_steps y_op y_first y_second y_offset y_given y_length y_there y_known y_lo y_hi y_at y_lookups y_safe y_met y_tag y_word y_packet y_keys y_values y_many i a w post hi ha hw eo e1 e2 eof eg eat F eS hl hE hO
  obtain ⟨f1, f2, f3, f4, f5⟩ := om_f ho
  have hp : p < 9 := by rw [ep]; split <;> omega
  refine yv_inM hi eo f1 f2 f3 f4 f5 ?_
  refine yv_meU hi (by omega) (by omega) e1 e2 ep ?_ (yv_78 hw (by omega) eat (hE (by decide) _ _ _ _ _ _ _ _ _ _))
  rcases u with u | ⟨u1, u2⟩
  · exact Or.inl ((yp_un hp W F).mp u)
  · exact Or.inr ⟨u1, (yp_un hs W F).mp u2⟩
theorem yp_bK {K' : Nat → Int32} {L' H' : Nat → Int64} (hd : d < 8) (hs : s < 9) (W : WF_ K L H S) (u : ¬ K s = 0) (k : ¬ K s = 2) : YP_ 42 d s off imm K L H S 3 K' L' H' := by
  intro y_place y_least y_most y_smallest y_greatest y_ways y_fault y_base y_otherKind y_otherLo y_otherHi y_low y_high y_bytes y_steps y_op y_first y_second y_offset y_given y_length y_there y_known y_lo y_hi y_at y_lookups y_safe y_met y_tag y_word y_packet y_keys y_values y_many i a w post hi ha hw eo e1 e2 eof eg eat F eS hl hE hO
  obtain ⟨f1, f2, f3, f4, f5⟩ := om_f (o := 42) (Or.inr (Or.inr rfl))
  have P := yv_78 (y_fault := 3) (y_place := nI a) hw (by omega) eat (hE (by decide) y_otherKind y_otherLo y_otherHi y_low y_high y_known y_lo y_hi (upd y_at w (nI (a + 1))) y_lookups)
  have kp := yp_kp (p := s) hs W F
  refine yv_inM hi eo f1 f2 f3 f4 f5 ?_
  refine yv_meG (p := s) hi (by omega) (by omega) e1 e2 (by rw [if_neg (by decide)]) (yp_nu hs W F u) (fun z => absurd z (by decide)) rfl rfl (fun _ => yv_mbK (by rw [kp]; exact k) P) (fun _ => yv_mbK (by rw [kp]; exact k) P)
theorem yp_bB {K' : Nat → Int32} {L' H' : Nat → Int64} (hd : d < 8) (hs : s < 9) (W : WF_ K L H S) (k : K s = 2) (b : bb_ (L s) (H s) S off) : YP_ 42 d s off imm K L H S 4 K' L' H' := by
  intro y_place y_least y_most y_smallest y_greatest y_ways y_fault y_base y_otherKind y_otherLo y_otherHi y_low y_high y_bytes y_steps y_op y_first y_second y_offset y_given y_length y_there y_known y_lo y_hi y_at y_lookups y_safe y_met y_tag y_word y_packet y_keys y_values y_many i a w post hi ha hw eo e1 e2 eof eg eat F eS hl hE hO
  obtain ⟨f1, f2, f3, f4, f5⟩ := om_f (o := 42) (Or.inr (Or.inr rfl))
  have P := yv_78 (y_fault := 4) (y_place := nI a) (y_base := nI (14 * w)) hw (by omega) eat (hE (by decide) y_otherKind y_otherLo y_otherHi y_low y_high y_known y_lo y_hi (upd y_at w (nI (a + 1))) y_lookups)
  have kp := yp_kp (p := s) hs W F
  have lp := yp_lp (p := s) hs W F (Or.inl k)
  have s8 : ¬ s = 8 := by intro z; rw [z, W.2.1] at k; exact absurd k (by decide)
  have t := F s (by omega)
  rw [g_lo (by omega)] at t
  obtain ⟨-, th⟩ := t.2.1 (Or.inr k)
  refine yv_inM hi eo f1 f2 f3 f4 f5 ?_
  refine yv_meG (p := s) hi (by omega) (by omega) e1 e2 (by rw [if_neg (by decide)]) (yp_nu hs W F (by rw [k]; decide)) (fun z => absurd z (by decide)) rfl rfl (fun _ => ?_) (fun nf => ?_)
  · rw [kp, k]
    exact yv_mbB (by omega) hw (Or.inl rfl) P
  · rw [kp, k, lp]
    refine yv_mbB (by omega) hw (Or.inr ⟨rfl, ?_⟩) P
    rw [th, eof, eS]
    rw [eof] at nf
    rcases b with b | b
    · exact absurd b nf
    · exact b
theorem yp_bO (hd : d < 8) (hs : s < 9) (W : WF_ K L H S) (k : K s = 2) (b : ¬ bb_ (L s) (H s) S off) : YP_ 42 d s off imm K L H S 0 (upd K d 1) (vp_updL L d 0) (vp_updL H d 255) := by
  intro y_place y_least y_most y_smallest y_greatest y_ways y_fault y_base y_otherKind y_otherLo y_otherHi y_low y_high y_bytes y_steps y_op y_first y_second y_offset y_given y_length y_there y_known y_lo y_hi y_at y_lookups y_safe y_met y_tag y_word y_packet y_keys y_values y_many i a w post hi ha hw eo e1 e2 eof eg eat F eS hl hE hO
  obtain ⟨f1, f2, f3, f4, f5⟩ := om_f (o := 42) (Or.inr (Or.inr rfl))
  have kp := yp_kp (p := s) hs W F
  have lp := yp_lp (p := s) hs W F (Or.inl k)
  have t := F s (by omega)
  have s8 : ¬ s = 8 := by intro z; rw [z, W.2.1] at k; exact absurd k (by decide)
  rw [g_lo (by omega)] at t
  obtain ⟨-, th⟩ := t.2.1 (Or.inr k)
  refine yv_inM hi eo f1 f2 f3 f4 f5 ?_
  refine yv_meG (p := s) hi (by omega) (by omega) e1 e2 (by rw [if_neg (by decide)]) (yp_nu hs W F (by rw [k]; decide)) (fun z => absurd z (by decide)) rfl rfl (fun fa => ?_) (fun nf => ?_)
  · rw [eof] at fa; exact absurd (Or.inl fa) b
  · rw [kp, k, lp]
    refine yv_mbO (by omega) (by omega) hw ?_ ?_ ?_
    · rw [eof]; exact fun z => b (Or.inr (Or.inl z))
    · rw [th, eof, eS]; exact Classical.byContradiction fun z => b (Or.inr (Or.inr z))
    · refine yv_78 hw (by omega) eat ?_
      have G := Fr_upd (r := d) F (T_1 (l := 0) (h := 255))
      rw [g_lo hd] at G
      exact hO rfl _ _ _ _ _ _ _ _ _ G (fun j hj => ⟨pk_un (by omega), pk_uLn (by omega), pk_uLn (by omega)⟩) (fun _ _ => rfl) hl
theorem yp_cK {K' : Nat → Int32} {L' H' : Nat → Int64} {p : Nat} (ho : o = 40 ∨ o = 41) (hd : d < 8) (hs : s < 9) (W : WF_ K L H S) (ep : p = if o = 41 then d else s) (u : ¬ K p = 0) (u2 : o = 41 → ¬ K s = 0) (k : ¬ K p = 4 ∧ ¬ K p = 5) : YP_ o d s off imm K L H S 3 K' L' H' := by
  intro y_place y_least y_most y_smallest y_greatest y_ways y_fault y_base y_otherKind y_otherLo y_otherHi y_low y_high y_bytes y_steps y_op y_first y_second y_offset y_given y_length y_there y_known y_lo y_hi y_at y_lookups y_safe y_met y_tag y_word y_packet y_keys y_values y_many i a w post hi ha hw eo e1 e2 eof eg eat F eS hl hE hO
  have hp : p < 9 := by rw [ep]; split <;> omega
  obtain ⟨f1, f2, f3, f4, f5⟩ := om_f (by rcases ho with h | h; exact Or.inl h; exact Or.inr (Or.inl h))
  have n42 : ¬ o = 42 := by rcases ho with rfl | rfl <;> decide
  have P := yv_78 (y_fault := 3) (y_place := nI a) (y_base := nI (14 * w)) hw (by omega) eat (hE (by decide) y_otherKind y_otherLo y_otherHi y_low y_high y_known y_lo y_hi (upd y_at w (nI (a + 1))) y_lookups)
  have kp := yp_kp hp W F
  refine yv_inM hi eo f1 f2 f3 f4 f5 ?_
  refine yv_meG hi (by omega) (by omega) e1 e2 ep (yp_nu hp W F u) (fun z => yp_nu hs W F (u2 z)) rfl rfl (fun _ => yv_mcK n42 (by rw [kp]; exact k) P) (fun _ => yv_mcK n42 (by rw [kp]; exact k) P)
theorem yp_cB {K' : Nat → Int32} {L' H' : Nat → Int64} {p : Nat} (ho : o = 40 ∨ o = 41) (hd : d < 8) (hs : s < 9) (W : WF_ K L H S) (ep : p = if o = 41 then d else s) (u2 : o = 41 → ¬ K s = 0) (k : K p = 4 ∨ K p = 5) (b : cc_ (K p) (L p) off) : YP_ o d s off imm K L H S 4 K' L' H' := by
  intro y_place y_least y_most y_smallest y_greatest y_ways y_fault y_base y_otherKind y_otherLo y_otherHi y_low y_high y_bytes y_steps y_op y_first y_second y_offset y_given y_length y_there y_known y_lo y_hi y_at y_lookups y_safe y_met y_tag y_word y_packet y_keys y_values y_many i a w post hi ha hw eo e1 e2 eof eg eat F eS hl hE hO
  have hp : p < 9 := by rw [ep]; split <;> omega
  obtain ⟨f1, f2, f3, f4, f5⟩ := om_f (by rcases ho with h | h; exact Or.inl h; exact Or.inr (Or.inl h))
  have n42 : ¬ o = 42 := by rcases ho with rfl | rfl <;> decide
  have P := yv_78 (y_fault := 4) (y_place := nI a) (y_base := nI (14 * w)) hw (by omega) eat (hE (by decide) y_otherKind y_otherLo y_otherHi y_low y_high y_known y_lo y_hi (upd y_at w (nI (a + 1))) y_lookups)
  have kp := yp_kp hp W F
  have lp := yp_lp hp W F (Or.inr k)
  refine yv_inM hi eo f1 f2 f3 f4 f5 ?_
  refine yv_meG hi (by omega) (by omega) e1 e2 ep (yp_nu hp W F (by rcases k with k | k <;> rw [k] <;> decide)) (fun z => yp_nu hs W F (u2 z)) rfl rfl (fun _ => yv_mcB n42 (by rw [kp]; exact k) (Or.inl rfl) P) (fun nf => yv_mcB n42 (by rw [kp]; exact k) (Or.inr ⟨rfl, ?_⟩) P)
  rw [kp, lp, eof]
  rw [eof] at nf
  rcases b with b | b
  · exact absurd b nf
  · exact b
/-- inside: what remains -/
theorem yp_cG {e : Int32} {K' : Nat → Int32} {L' H' : Nat → Int64} {p c : Nat} (ho : o = 40 ∨ o = 41) (hd : d < 8) (hs : s < 9) (W : WF_ K L H S) (ep : p = if o = 41 then d else s) (u2 : o = 41 → ¬ K s = 0) (k : K p = 4 ∨ K p = 5) (nf : ¬ far_ off) (ec : L p + off.toInt64 = lN c) (hc : c < (if K p = 4 then 6 else 2)) (G : ∀ (y_place : Int32) (y_least : Int64) (y_most : Int64) (y_smallest : Int64) (y_greatest : Int64) (y_ways : Int32) (y_fault : Int32) (y_base : Int32) (y_otherKind : Int32) (y_otherLo : Int64) (y_otherHi : Int64) (y_low : Int64) (y_high : Int64) (y_bytes : Int32) (y_steps : Int32) (y_op : Nat → Int32) (y_first : Nat → Int32) (y_second : Nat → Int32) (y_offset : Nat → Int32) (y_given : Nat → Int32) (y_length : Nat → Int32) (y_there : Nat → Int32) (y_known : Nat → Int32) (y_lo : Nat → Int64) (y_hi : Nat → Int64) (y_at : Nat → Int32) (y_lookups : Nat → Int32) (y_safe : Nat → Int32) (y_met : Nat → Int32) (y_tag : Nat → Int32) (y_word : Nat → Int64) (y_packet : Nat → Int32) (y_keys : Nat → Int64) (y_values : Nat → Int64) (y_many : Nat → Int32) (i a w : Nat) (post : SY → Prop), i < 120 → a < 40 → w < 12 → y_op i = o → y_first i = nI d → y_second i = nI s → y_offset i = off → y_given i = imm → y_at w = nI a → Fr_ K L H y_known y_lo y_hi (14 * w) (y_lookups w) → (y_safe w).toInt64 = S → vp_nar .byte (y_lookups w) = y_lookups w → (¬ e = 0 → ∀ (e1 : Int32) (e2 e3 e4 e5 : Int64) (e6 : Nat → Int32) (e7 e8 : Nat → Int64) (e9 e10 : Nat → Int32), post (nI a, y_least, y_most, y_smallest, y_greatest, nI (w + 1), e, nI (14 * w), e1, e2, e3, e4, e5, y_bytes, y_steps, y_op, y_first, y_second, y_offset, y_given, y_length, y_there, e6, e7, e8, e9, e10, y_safe, y_met, y_tag, y_word, y_packet, y_keys, y_values, y_many)) → (e = 0 → ∀ (e1 : Int32) (e2 e3 e4 e5 : Int64) (kn : Nat → Int32) (lo hi : Nat → Int64) (lk : Nat → Int32), Fr_ K' L' H' kn lo hi (14 * w) (lk w) → (∀ j, j < 14 * w → kn j = y_known j ∧ lo j = y_lo j ∧ hi j = y_hi j) → (∀ j, j < w → lk j = y_lookups j) → vp_nar .byte (lk w) = lk w → post (y_place, y_least, y_most, y_smallest, y_greatest, nI (w + 1), y_fault, nI (14 * w), e1, e2, e3, e4, e5, y_bytes, y_steps, y_op, y_first, y_second, y_offset, y_given, y_length, y_there, kn, lo, hi, upd y_at w (nI (a + 1)), lk, y_safe, y_met, y_tag, y_word, y_packet, y_keys, y_values, y_many)) → ((o = 41 → (wpY_toCell (fun u => match u with | (y_place, y_least, y_most, y_smallest, y_greatest, y_ways, y_fault, y_base, y_otherKind, y_otherLo, y_otherHi, y_low, y_high, y_bytes, y_steps, y_op, y_first, y_second, y_offset, y_given, y_length, y_there, y_known, y_lo, y_hi, y_at, y_lookups, y_safe, y_met, y_tag, y_word, y_packet, y_keys, y_values, y_many) => wY_instruction_78 post y_place y_least y_most y_smallest y_greatest y_ways y_fault y_base y_otherKind y_otherLo y_otherHi y_low y_high y_bytes y_steps y_op y_first y_second y_offset y_given y_length y_there y_known y_lo y_hi y_at y_lookups y_safe y_met y_tag y_word y_packet y_keys y_values y_many) (y_place, y_least, y_most, y_smallest, y_greatest, nI (w + 1), y_fault, nI (14 * w), y_otherKind, y_otherLo, y_otherHi, y_low, y_high, y_bytes, y_steps, y_op, y_first, y_second, y_offset, y_given, y_length, y_there, y_known, y_lo, y_hi, y_at, y_lookups, y_safe, y_met, y_tag, y_word, y_packet, y_keys, y_values, y_many) (nI s) (K p) (nI c) (nI a))) ∧ (¬ o = 41 → (((K p = 5 → (wpY_set (fun u => match u with | (y_place, y_least, y_most, y_smallest, y_greatest, y_ways, y_fault, y_base, y_otherKind, y_otherLo, y_otherHi, y_low, y_high, y_bytes, y_steps, y_op, y_first, y_second, y_offset, y_given, y_length, y_there, y_known, y_lo, y_hi, y_at, y_lookups, y_safe, y_met, y_tag, y_word, y_packet, y_keys, y_values, y_many) => wY_instruction_78 post y_place y_least y_most y_smallest y_greatest y_ways y_fault y_base y_otherKind y_otherLo y_otherHi y_low y_high y_bytes y_steps y_op y_first y_second y_offset y_given y_length y_there y_known y_lo y_hi y_at y_lookups y_safe y_met y_tag y_word y_packet y_keys y_values y_many) (y_place, y_least, y_most, y_smallest, y_greatest, nI (w + 1), y_fault, nI (14 * w), y_otherKind, y_otherLo, y_otherHi, y_low, y_high, y_bytes, y_steps, y_op, y_first, y_second, y_offset, y_given, y_length, y_there, y_known, y_lo, y_hi, y_at, y_lookups, y_safe, y_met, y_tag, y_word, y_packet, y_keys, y_values, y_many) (nI d) 1 0 4294967295)) ∧ (¬ K p = 5 → (wpY_fromStack (fun u => match u with | (y_place, y_least, y_most, y_smallest, y_greatest, y_ways, y_fault, y_base, y_otherKind, y_otherLo, y_otherHi, y_low, y_high, y_bytes, y_steps, y_op, y_first, y_second, y_offset, y_given, y_length, y_there, y_known, y_lo, y_hi, y_at, y_lookups, y_safe, y_met, y_tag, y_word, y_packet, y_keys, y_values, y_many) => wY_instruction_78 post y_place y_least y_most y_smallest y_greatest y_ways y_fault y_base y_otherKind y_otherLo y_otherHi y_low y_high y_bytes y_steps y_op y_first y_second y_offset y_given y_length y_there y_known y_lo y_hi y_at y_lookups y_safe y_met y_tag y_word y_packet y_keys y_values y_many) (y_place, y_least, y_most, y_smallest, y_greatest, nI (w + 1), y_fault, nI (14 * w), y_otherKind, y_otherLo, y_otherHi, y_low, y_high, y_bytes, y_steps, y_op, y_first, y_second, y_offset, y_given, y_length, y_there, y_known, y_lo, y_hi, y_at, y_lookups, y_safe, y_met, y_tag, y_word, y_packet, y_keys, y_values, y_many) (nI d) (nI (8 + c)) (nI a)))))))) : YP_ o d s off imm K L H S e K' L' H' := by
  intro y_place y_least y_most y_smallest y_greatest y_ways y_fault y_base y_otherKind y_otherLo y_otherHi y_low y_high y_bytes y_steps y_op y_first y_second y_offset y_given y_length y_there y_known y_lo y_hi y_at y_lookups y_safe y_met y_tag y_word y_packet y_keys y_values y_many i a w post hi ha hw eo e1 e2 eof eg eat F eS hl hE hO
  have hp : p < 9 := by rw [ep]; split <;> omega
  obtain ⟨f1, f2, f3, f4, f5⟩ := om_f (by rcases ho with h | h; exact Or.inl h; exact Or.inr (Or.inl h))
  have n42 : ¬ o = 42 := by rcases ho with rfl | rfl <;> decide
  have kp := yp_kp hp W F
  have lp := yp_lp hp W F (Or.inr k)
  refine yv_inM hi eo f1 f2 f3 f4 f5 ?_
  refine yv_meG hi (by omega) (by omega) e1 e2 ep (yp_nu hp W F (by rcases k with k | k <;> rw [k] <;> decide)) (fun z => yp_nu hs W F (u2 z)) kp.symm lp.symm (fun fa => ?_) (fun _ => ?_)
  · rw [eof] at fa; exact absurd fa nf
  · rw [eof]
    exact yv_mcG n42 k ec hc (G y_place y_least y_most y_smallest y_greatest y_ways y_fault y_base y_otherKind y_otherLo y_otherHi y_low y_high y_bytes y_steps y_op y_first y_second y_offset y_given y_length y_there y_known y_lo y_hi y_at y_lookups y_safe y_met y_tag y_word y_packet y_keys y_values y_many i a w post hi ha hw eo e1 e2 eof eg eat F eS hl hE hO)
theorem yp_cSS {c : Nat} (hd : d < 8) (hs : s < 9) (W : WF_ K L H S) (u2 : ¬ K s = 0) (k : K d = 4) (nf : ¬ far_ off) (ec : L d + off.toInt64 = lN c) (hc : c < 6) : YP_ 41 d s off imm K L H S 0 (upd K (10 + c) (K s)) (vp_updL L (10 + c) (L s)) (vp_updL H (10 + c) (H s)) := by
  refine yp_cG (p := d) (c := c) (Or.inr rfl) hd hs W (by rw [if_pos rfl]) (fun _ => u2) (Or.inl k) nf ec (by rw [if_pos k]; exact hc) ?_
  intro y_place y_least y_most y_smallest y_greatest y_ways y_fault y_base y_otherKind y_otherLo y_otherHi y_low y_high y_bytes y_steps y_op y_first y_second y_offset y_given y_length y_there y_known y_lo y_hi y_at y_lookups y_safe y_met y_tag y_word y_packet y_keys y_values y_many i a w post hi ha hw eo e1 e2 eof eg eat F eS hl hE hO
  refine ⟨fun _ => ?_, fun n => absurd rfl n⟩
  rw [k]
  have k7 := (W.1 s (by omega)).1
  by_cases z : s = 8
  · subst z
    refine yv_cellS (kk := 4) (ll := 0) (hh := 0) (by omega) (by omega) (Or.inl ⟨rfl, rfl, rfl, rfl⟩) (by unfold k7_; simp) ?_
    refine yv_78 hw (by omega) eat ?_
    have t8 : T_ (K 8) (L 8) (H 8) 4 0 0 (y_lookups w) := by rw [W.2.1, W.2.2.1]; exact T_45 (Or.inl rfl)
    have G := Fr_upd (r := 8 + c) F t8
    rw [g_hi] at G
    exact hO rfl _ _ _ _ _ _ _ _ _ G (fun j hj => ⟨pk_un (by omega), pk_uLn (by omega), pk_uLn (by omega)⟩) (fun _ _ => rfl) hl
  · have t := F s (by omega)
    rw [g_lo (by omega)] at t
    refine yv_cellS (by omega) (by omega) (Or.inr ⟨z, rfl, rfl, rfl⟩) (by rw [t.1]; exact k7) ?_
    refine yv_78 hw (by omega) eat ?_
    have G := Fr_upd (r := 8 + c) F t
    rw [g_hi] at G
    exact hO rfl _ _ _ _ _ _ _ _ _ G (fun j hj => ⟨pk_un (by omega), pk_uLn (by omega), pk_uLn (by omega)⟩) (fun _ _ => rfl) hl
theorem yp_cVS {c : Nat} (hd : d < 8) (hs : s < 9) (W : WF_ K L H S) (k : K d = 5) (nf : ¬ far_ off) (ec : L d + off.toInt64 = lN c) (hc : c < 2) (ks : K s = 1) : YP_ 41 d s off imm K L H S 0 K L H := by
  refine yp_cG (p := d) (c := c) (Or.inr rfl) hd hs W (by rw [if_pos rfl]) (fun _ => by rw [ks]; decide) (Or.inr k) nf ec (by rw [k, if_neg (by decide)]; exact hc) ?_
  intro y_place y_least y_most y_smallest y_greatest y_ways y_fault y_base y_otherKind y_otherLo y_otherHi y_low y_high y_bytes y_steps y_op y_first y_second y_offset y_given y_length y_there y_known y_lo y_hi y_at y_lookups y_safe y_met y_tag y_word y_packet y_keys y_values y_many i a w post hi ha hw eo e1 e2 eof eg eat F eS hl hE hO
  refine ⟨fun _ => ?_, fun n => absurd rfl n⟩
  rw [k]
  have kp := yp_kp hs W F
  refine yv_cellV (by omega) (fun _ => ?_) (fun n => absurd (kp.trans ks) n)
  exact yv_78 hw (by omega) eat (hO rfl _ _ _ _ _ _ _ _ _ F (fun j hj => ⟨rfl, rfl, rfl⟩) (fun _ _ => rfl) hl)
theorem yp_cVSf {K' : Nat → Int32} {L' H' : Nat → Int64} {c : Nat} (hd : d < 8) (hs : s < 9) (W : WF_ K L H S) (u2 : ¬ K s = 0) (k : K d = 5) (nf : ¬ far_ off) (ec : L d + off.toInt64 = lN c) (hc : c < 2) (ks : ¬ K s = 1) : YP_ 41 d s off imm K L H S 3 K' L' H' := by
  refine yp_cG (p := d) (c := c) (Or.inr rfl) hd hs W (by rw [if_pos rfl]) (fun _ => u2) (Or.inr k) nf ec (by rw [k, if_neg (by decide)]; exact hc) ?_
  intro y_place y_least y_most y_smallest y_greatest y_ways y_fault y_base y_otherKind y_otherLo y_otherHi y_low y_high y_bytes y_steps y_op y_first y_second y_offset y_given y_length y_there y_known y_lo y_hi y_at y_lookups y_safe y_met y_tag y_word y_packet y_keys y_values y_many i a w post hi ha hw eo e1 e2 eof eg eat F eS hl hE hO
  refine ⟨fun _ => ?_, fun n => absurd rfl n⟩
  rw [k]
  have kp := yp_kp hs W F
  refine yv_cellV (by omega) (fun n => absurd (kp.symm.trans n) ks) (fun _ => ?_)
  exact yv_78 hw (by omega) eat (hE (by decide) _ _ _ _ _ _ _ _ _ _)
theorem yp_cVL {c : Nat} (hd : d < 8) (hs : s < 9) (W : WF_ K L H S) (k : K s = 5) (nf : ¬ far_ off) (ec : L s + off.toInt64 = lN c) (hc : c < 2) : YP_ 40 d s off imm K L H S 0 (upd K d 1) (vp_updL L d 0) (vp_updL H d 4294967295) := by
  refine yp_cG (p := s) (c := c) (Or.inl rfl) hd hs W (by rw [if_neg (by decide)]) (fun z => absurd z (by decide)) (Or.inr k) nf ec (by rw [k, if_neg (by decide)]; exact hc) ?_
  intro y_place y_least y_most y_smallest y_greatest y_ways y_fault y_base y_otherKind y_otherLo y_otherHi y_low y_high y_bytes y_steps y_op y_first y_second y_offset y_given y_length y_there y_known y_lo y_hi y_at y_lookups y_safe y_met y_tag y_word y_packet y_keys y_values y_many i a w post hi ha hw eo e1 e2 eof eg eat F eS hl hE hO
  refine ⟨fun n => absurd n (by decide), fun _ => br_t k ?_⟩
  refine (yv_set (by omega) (by unfold k7_; simp)).mpr ?_
  refine yv_78 hw (by omega) eat ?_
  have G := Fr_upd (r := d) F (T_1 (l := 0) (h := 4294967295))
  rw [g_lo hd] at G
  exact hO rfl _ _ _ _ _ _ _ _ _ G (fun j hj => ⟨pk_un (by omega), pk_uLn (by omega), pk_uLn (by omega)⟩) (fun _ _ => rfl) hl
theorem yp_cSLu {K' : Nat → Int32} {L' H' : Nat → Int64} {c : Nat} (hd : d < 8) (hs : s < 9) (W : WF_ K L H S) (k : K s = 4) (nf : ¬ far_ off) (ec : L s + off.toInt64 = lN c) (hc : c < 6) (kc : K (10 + c) = 0) : YP_ 40 d s off imm K L H S 2 K' L' H' := by
  refine yp_cG (p := s) (c := c) (Or.inl rfl) hd hs W (by rw [if_neg (by decide)]) (fun z => absurd z (by decide)) (Or.inl k) nf ec (by rw [if_pos k]; exact hc) ?_
  intro y_place y_least y_most y_smallest y_greatest y_ways y_fault y_base y_otherKind y_otherLo y_otherHi y_low y_high y_bytes y_steps y_op y_first y_second y_offset y_given y_length y_there y_known y_lo y_hi y_at y_lookups y_safe y_met y_tag y_word y_packet y_keys y_values y_many i a w post hi ha hw eo e1 e2 eof eg eat F eS hl hE hO
  have t := F (8 + c) (by omega)
  rw [g_hi] at t
  refine ⟨fun n => absurd n (by decide), fun _ => br_f (by rw [k]; decide) ?_⟩
  refine yv_fromU (by omega) (t.1.trans kc) ?_
  exact yv_78 hw (by omega) eat (hE (by decide) _ _ _ _ _ _ _ _ _ _)
theorem yp_cSL {c : Nat} (hd : d < 8) (hs : s < 9) (W : WF_ K L H S) (k : K s = 4) (nf : ¬ far_ off) (ec : L s + off.toInt64 = lN c) (hc : c < 6) (kc : ¬ K (10 + c) = 0) : YP_ 40 d s off imm K L H S 0 (upd K d (K (10 + c))) (vp_updL L d (L (10 + c))) (vp_updL H d (H (10 + c))) := by
  refine yp_cG (p := s) (c := c) (Or.inl rfl) hd hs W (by rw [if_neg (by decide)]) (fun z => absurd z (by decide)) (Or.inl k) nf ec (by rw [if_pos k]; exact hc) ?_
  intro y_place y_least y_most y_smallest y_greatest y_ways y_fault y_base y_otherKind y_otherLo y_otherHi y_low y_high y_bytes y_steps y_op y_first y_second y_offset y_given y_length y_there y_known y_lo y_hi y_at y_lookups y_safe y_met y_tag y_word y_packet y_keys y_values y_many i a w post hi ha hw eo e1 e2 eof eg eat F eS hl hE hO
  have t := F (8 + c) (by omega)
  rw [g_hi] at t
  refine ⟨fun n => absurd n (by decide), fun _ => br_f (by rw [k]; decide) ?_⟩
  refine yv_fromO (by omega) (by omega) (by rw [t.1]; exact kc) (by rw [t.1]; exact (W.1 (10 + c) (by omega)).1) ?_
  refine yv_78 hw (by omega) eat ?_
  have G := Fr_upd (r := d) F t
  rw [g_lo hd] at G
  exact hO rfl _ _ _ _ _ _ _ _ _ G (fun j hj => ⟨pk_un (by omega), pk_uLn (by omega), pk_uLn (by omega)⟩) (fun _ _ => rfl) hl
end
