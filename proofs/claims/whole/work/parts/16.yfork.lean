/-- the frame at B copied to B + 14, m cells of it -/
def fk_ {α : Type} (o : Nat → α) (B m : Nat) : Nat → α := fun j => if B + 14 ≤ j ∧ j < B + 14 + m then o (j - 14) else o j
theorem fk_0 {α : Type} (o : Nat → α) (B : Nat) : fk_ o B 0 = o := by funext j; unfold fk_; rw [if_neg (by omega)]
theorem fk_lo {α : Type} (o : Nat → α) {B m j : Nat} (h : j < B + 14) : fk_ o B m j = o j := by unfold fk_; rw [if_neg (by omega)]
theorem fk_hi {α : Type} (o : Nat → α) {B m r : Nat} (h : r < m) : fk_ o B m (B + 14 + r) = o (B + r) := by
  unfold fk_; rw [if_pos (by omega)]; congr 1; omega
theorem fk_s (o : Nat → Int32) (B m : Nat) : upd (fk_ o B m) (B + 14 + m) (o (B + m)) = fk_ o B (m + 1) := by
  funext j; unfold upd fk_
  by_cases h : j = B + 14 + m
  · subst h; rw [if_pos rfl, if_pos (by omega)]; congr 1; omega
  · rw [if_neg h]
    by_cases z : B + 14 ≤ j ∧ j < B + 14 + m
    · rw [if_pos z, if_pos (by omega)]
    · rw [if_neg z, if_neg (by omega)]
theorem fk_sL (o : Nat → Int64) (B m : Nat) : vp_updL (fk_ o B m) (B + 14 + m) (o (B + m)) = fk_ o B (m + 1) := by
  funext j; unfold vp_updL fk_
  by_cases h : j = B + 14 + m
  · subst h; rw [if_pos rfl, if_pos (by omega)]; congr 1; omega
  · rw [if_neg h]
    by_cases z : B + 14 ≤ j ∧ j < B + 14 + m
    · rw [if_pos z, if_pos (by omega)]
    · rw [if_neg z, if_neg (by omega)]
def yc_l (f : Nat) (n l h : Int64) : Int64 := if f = 1 then n else if f = 2 then (if l = n then l + 1 else l) else if f = 3 then l else (if n ≤ l then l else n)
def yc_h (f : Nat) (n l h : Int64) : Int64 := if f = 1 then n else if f = 2 then (if h = n then h - 1 else h) else if f = 3 then (if h < n then h else n - 1) else h
section
variable {y_place : Int32} {y_least : Int64} {y_most : Int64} {y_smallest : Int64} {y_greatest : Int64} {y_ways : Int32} {y_fault : Int32} {y_base : Int32} {y_otherKind : Int32} {y_otherLo : Int64} {y_otherHi : Int64} {y_low : Int64} {y_high : Int64} {y_bytes : Int32} {y_steps : Int32} {y_op : Nat → Int32} {y_first : Nat → Int32} {y_second : Nat → Int32} {y_offset : Nat → Int32} {y_given : Nat → Int32} {y_length : Nat → Int32} {y_there : Nat → Int32} {y_known : Nat → Int32} {y_lo : Nat → Int64} {y_hi : Nat → Int64} {y_at : Nat → Int32} {y_lookups : Nat → Int32} {y_safe : Nat → Int32} {y_met : Nat → Int32} {y_tag : Nat → Int32} {y_word : Nat → Int64} {y_packet : Nat → Int32} {y_keys : Nat → Int64} {y_values : Nat → Int64} {y_many : Nat → Int32}
theorem yv_forkL {post : SY → Prop} {w : Nat} {g x : Nat} (hw : w + 1 < 12) (hg : g < 128) (hx : x < 128) (hk : ∀ r, r < 14 → k7_ (y_known (14 * w + r))) (hs : vp_nar .short (y_safe w) = y_safe w) (hl : vp_nar .byte (y_lookups w) = y_lookups w) (H : post (y_place, y_least, y_most, y_smallest, y_greatest, nI (w + 2), y_fault, nI (14 * w), y_otherKind, y_otherLo, y_otherHi, y_low, y_high, y_bytes, y_steps, y_op, y_first, y_second, y_offset, y_given, y_length, y_there, fk_ y_known (14 * w) 14, fk_ y_lo (14 * w) 14, fk_ y_hi (14 * w) 14, upd (upd y_at w (nI g)) (w + 1) (nI x), upd y_lookups (w + 1) (y_lookups w), upd y_safe (w + 1) (y_safe w), y_met, y_tag, y_word, y_packet, y_keys, y_values, y_many)) : ∀ d m : Nat, m + d = 14 → wY_fork_10 post (nI g) (nI x) (nI w) y_place y_least y_most y_smallest y_greatest (nI (w + 1)) y_fault (nI (14 * w)) y_otherKind y_otherLo y_otherHi y_low y_high y_bytes y_steps (d + 1) (nI m) y_op y_first y_second y_offset y_given y_length y_there (fk_ y_known (14 * w) m) (fk_ y_lo (14 * w) m) (fk_ y_hi (14 * w) m) y_at y_lookups y_safe y_met y_tag y_word y_packet y_keys y_values y_many := by
  intro d
  have v1 : vp_in (nI w) 12 := vp_in_nI (by omega) (by decide)
  have v2 : vp_in (nI w + 1) 12 := by rw [nI_1]; exact vp_in_nI (by omega) (by decide)
  have c1 : (nI w).toNatClampNeg = w := nI_clamp (by omega)
  have c2 : (nI w + 1).toNatClampNeg = w + 1 := by rw [nI_1]; exact nI_clamp (by omega)
  induction d with
  | zero =>
    intro m hm
    have e : m = 14 := by omega
    subst e
    refine br_t (by decide) ⟨v1, v2, nm_r (by rw [c1, c2, hs]) ⟨v1, v2, nm_r (by rw [c1, c2, hl]) ⟨v1, nm_r (e' := upd y_at w (nI g)) (by rw [c1, xb_nb hg, xb_vb hg]) ⟨v2, nm_r (e' := upd (upd y_at w (nI g)) (w + 1) (nI x)) (by rw [c2, xb_nb hx, xb_vb hx]) (nm_r (nI_1 (w + 1)) H)⟩⟩⟩⟩
  | succ d ih =>
    intro m hm
    have v3 : vp_in (nI (14 * w) + nI m) 168 := by rw [nI_add]; exact vp_in_nI (by omega) (by decide)
    have v4 : vp_in (nI (14 * w) + 14 + nI m) 168 := by rw [xb_adr14, nI_add]; exact vp_in_nI (by omega) (by decide)
    have c3 : (nI (14 * w) + nI m).toNatClampNeg = 14 * w + m := by rw [nI_add]; exact nI_clamp (by omega)
    have c4 : (nI (14 * w) + 14 + nI m).toNatClampNeg = 14 * w + 14 + m := by rw [xb_adr14, nI_add]; exact nI_clamp (by omega)
    refine br_f (by rw [xb_le14 (by omega)]; omega) ⟨v3, v4, nm_r (e' := fk_ y_known (14 * w) (m + 1)) ?_ ⟨v3, v4, nm_r (e' := fk_ y_lo (14 * w) (m + 1)) ?_ ⟨v3, v4, nm_r (e' := fk_ y_hi (14 * w) (m + 1)) ?_ (nm_r (nI_1 m) (ih (m + 1) (by omega)))⟩⟩⟩
    · rw [c3, c4, fk_lo y_known (by omega), ys_k7n (hk m (by omega)), fk_s]
    · rw [c3, c4, fk_lo y_lo (by omega), fk_sL]
    · rw [c3, c4, fk_lo y_hi (by omega), fk_sL]
theorem yv_fork {post : SY → Prop} {w : Nat} {g x : Nat} (hw : w + 1 < 12) (hg : g < 128) (hx : x < 128) (hk : ∀ r, r < 14 → k7_ (y_known (14 * w + r))) (hs : vp_nar .short (y_safe w) = y_safe w) (hl : vp_nar .byte (y_lookups w) = y_lookups w) (H : post (y_place, y_least, y_most, y_smallest, y_greatest, nI (w + 2), y_fault, nI (14 * w), y_otherKind, y_otherLo, y_otherHi, y_low, y_high, y_bytes, y_steps, y_op, y_first, y_second, y_offset, y_given, y_length, y_there, fk_ y_known (14 * w) 14, fk_ y_lo (14 * w) 14, fk_ y_hi (14 * w) 14, upd (upd y_at w (nI g)) (w + 1) (nI x), upd y_lookups (w + 1) (y_lookups w), upd y_safe (w + 1) (y_safe w), y_met, y_tag, y_word, y_packet, y_keys, y_values, y_many)) : wpY_fork post (y_place, y_least, y_most, y_smallest, y_greatest, nI (w + 1), y_fault, nI (14 * w), y_otherKind, y_otherLo, y_otherHi, y_low, y_high, y_bytes, y_steps, y_op, y_first, y_second, y_offset, y_given, y_length, y_there, y_known, y_lo, y_hi, y_at, y_lookups, y_safe, y_met, y_tag, y_word, y_packet, y_keys, y_values, y_many) (nI g) (nI x) := by
  refine nm_r (nI_pred w) ⟨15, ?_⟩
  have := yv_forkL hw hg hx hk hs hl H 14 0 rfl
  rw [fk_0, fk_0, fk_0] at this
  exact this
theorem yv_cut {post : SY → Prop} {R f : Nat} (hR : R < 168) (h1 : 1 ≤ f) (h4 : f ≤ 4) (H : post (y_place, y_least, y_most, y_smallest, y_greatest, y_ways, y_fault, y_base, y_otherKind, y_otherLo, y_otherHi, y_low, y_high, y_bytes, y_steps, y_op, y_first, y_second, y_offset, y_given, y_length, y_there, y_known, vp_updL y_lo R (yc_l f y_otherLo (y_lo R) (y_hi R)), vp_updL y_hi R (yc_h f y_otherLo (y_lo R) (y_hi R)), y_at, y_lookups, y_safe, y_met, y_tag, y_word, y_packet, y_keys, y_values, y_many)) : wpY_cut post (y_place, y_least, y_most, y_smallest, y_greatest, y_ways, y_fault, y_base, y_otherKind, y_otherLo, y_otherHi, y_low, y_high, y_bytes, y_steps, y_op, y_first, y_second, y_offset, y_given, y_length, y_there, y_known, y_lo, y_hi, y_at, y_lookups, y_safe, y_met, y_tag, y_word, y_packet, y_keys, y_values, y_many) (nI R) (nI f) := by
  have v : vp_in (nI R) 168 := vp_in_nI hR (by decide)
  have c : (nI R).toNatClampNeg = R := nI_clamp (by omega)
  have e : f = 1 ∨ f = 2 ∨ f = 3 ∨ f = 4 := by omega
  rcases e with rfl | rfl | rfl | rfl
  · exact br_t rfl ⟨v, nm_r (by rw [c]; rfl) ⟨v, nm_r (by rw [c]; rfl) H⟩⟩
  · have e1 : yc_l 2 y_otherLo (y_lo R) (y_hi R) = (if y_lo R = y_otherLo then y_lo R + 1 else y_lo R) := by simp [yc_l]
    have e2 : yc_h 2 y_otherLo (y_lo R) (y_hi R) = (if y_hi R = y_otherLo then y_hi R - 1 else y_hi R) := by simp [yc_h]
    rw [e1, e2] at H
    have w57 : ∀ L : Nat → Int64, L = vp_updL y_lo R (if y_lo R = y_otherLo then y_lo R + 1 else y_lo R) → wY_cut_57 post (nI R) y_place y_least y_most y_smallest y_greatest y_ways y_fault y_base y_otherKind y_otherLo y_otherHi y_low y_high y_bytes y_steps y_op y_first y_second y_offset y_given y_length y_there y_known L y_hi y_at y_lookups y_safe y_met y_tag y_word y_packet y_keys y_values y_many := by
      intro L eL
      rw [← eL] at H
      refine ⟨v, ?_⟩
      rw [c]
      by_cases z : y_hi R = y_otherLo
      · rw [if_pos z] at H
        exact br_t z ⟨v, v, nm_e H⟩
      · rw [if_neg z, xb_updLid rfl] at H
        exact br_f z H
    refine br_f (by decide) (br_t rfl ⟨v, ?_⟩)
    rw [c]
    refine br_c (fun z => ⟨v, v, nm_e (w57 _ (by rw [if_pos z]))⟩) (fun z => w57 _ (by rw [if_neg z, xb_updLid rfl]))
  · have e1 : yc_l 3 y_otherLo (y_lo R) (y_hi R) = y_lo R := by simp [yc_l]
    have e2 : yc_h 3 y_otherLo (y_lo R) (y_hi R) = (if y_hi R < y_otherLo then y_hi R else y_otherLo - 1) := by simp [yc_h]
    rw [e1, e2, xb_updLid rfl] at H
    refine br_f (by decide) (br_f (by decide) (br_t rfl ⟨v, ?_⟩))
    rw [c]
    refine br_c (fun z => ?_) (fun z => ⟨v, ?_⟩)
    · rw [if_pos z, xb_updLid rfl] at H; exact H
    · rw [if_neg z] at H; exact nm_e H
  · have e1 : yc_l 4 y_otherLo (y_lo R) (y_hi R) = (if y_otherLo ≤ y_lo R then y_lo R else y_otherLo) := by simp [yc_l]
    have e2 : yc_h 4 y_otherLo (y_lo R) (y_hi R) = y_hi R := by simp [yc_h]
    rw [e1, e2, xb_updLid (f := y_hi) rfl] at H
    refine br_f (by decide) (br_f (by decide) (br_f (by decide) ⟨v, ?_⟩))
    rw [c]
    refine br_c (fun z => ?_) (fun z => ⟨v, ?_⟩)
    · rw [if_pos z, xb_updLid rfl] at H; exact H
    · rw [if_neg z] at H; exact nm_e H
end
/-- goes, stays -/
def yg_ (f : Nat) (a b l2 h2 : Int64) : Prop := if f = 1 then ¬ h2 < a ∧ ¬ b < l2 else if f = 2 then ¬ (a = b ∧ l2 = h2 ∧ a = l2) else if f = 3 then ¬ h2 ≤ a else ¬ b < l2
section
variable {y_place : Int32} {y_least : Int64} {y_most : Int64} {y_smallest : Int64} {y_greatest : Int64} {y_ways : Int32} {y_fault : Int32} {y_base : Int32} {y_otherKind : Int32} {y_otherLo : Int64} {y_otherHi : Int64} {y_low : Int64} {y_high : Int64} {y_bytes : Int32} {y_steps : Int32} {y_op : Nat → Int32} {y_first : Nat → Int32} {y_second : Nat → Int32} {y_offset : Nat → Int32} {y_given : Nat → Int32} {y_length : Nat → Int32} {y_there : Nat → Int32} {y_known : Nat → Int32} {y_lo : Nat → Int64} {y_hi : Nat → Int64} {y_at : Nat → Int32} {y_lookups : Nat → Int32} {y_safe : Nat → Int32} {y_met : Nat → Int32} {y_tag : Nat → Int32} {y_word : Nat → Int64} {y_packet : Nat → Int32} {y_keys : Nat → Int64} {y_values : Nat → Int64} {y_many : Nat → Int32}
theorem yv_sc224 {post : SY → Prop} {d f : Nat} {g x : Int32} (h1 : 1 ≤ f) (h4 : f ≤ 4) {R : Nat} (hR : R < 168) (eR : y_base + nI d = nI R) (H : ∀ go st : Int32, (yg_ f (y_lo R) (y_hi R) y_otherLo y_otherHi → go = 1) → (¬ yg_ f (y_lo R) (y_hi R) y_otherLo y_otherHi → go = 0) → (yg_ (op_ f) (y_lo R) (y_hi R) y_otherLo y_otherHi → st = 1) → (¬ yg_ (op_ f) (y_lo R) (y_hi R) y_otherLo y_otherHi → st = 0) → wY_scalars_224 post (nI d) (nI f) g x go st y_place y_least y_most y_smallest y_greatest y_ways y_fault y_base y_otherKind y_otherLo y_otherHi y_low y_high y_bytes y_steps y_op y_first y_second y_offset y_given y_length y_there y_known y_lo y_hi y_at y_lookups y_safe y_met y_tag y_word y_packet y_keys y_values y_many) : wpY_scalars post (y_place, y_least, y_most, y_smallest, y_greatest, y_ways, y_fault, y_base, y_otherKind, y_otherLo, y_otherHi, y_low, y_high, y_bytes, y_steps, y_op, y_first, y_second, y_offset, y_given, y_length, y_there, y_known, y_lo, y_hi, y_at, y_lookups, y_safe, y_met, y_tag, y_word, y_packet, y_keys, y_values, y_many) (nI d) (nI f) g x := by
  have v : vp_in (y_base + nI d) 168 := by rw [eR]; exact vp_in_nI hR (by decide)
  have c : (y_base + nI d).toNatClampNeg = R := by rw [eR]; exact nI_clamp (by omega)
  have e : f = 1 ∨ f = 2 ∨ f = 3 ∨ f = 4 := by omega
  -- what 88 comes to
  have w88 : ∀ t s : Int32, (¬ y_otherHi < y_lo R ∧ ¬ y_hi R < y_otherLo → t = 1) → (¬ (¬ y_otherHi < y_lo R ∧ ¬ y_hi R < y_otherLo) → t = 0) → (y_lo R = y_hi R ∧ y_otherLo = y_otherHi ∧ y_lo R = y_otherLo → s = 1) → (¬ (y_lo R = y_hi R ∧ y_otherLo = y_otherHi ∧ y_lo R = y_otherLo) → s = 0) → wY_scalars_88 post (nI d) (nI f) g x (y_lo R) (y_hi R) t s y_place y_least y_most y_smallest y_greatest y_ways y_fault y_base y_otherKind y_otherLo y_otherHi y_low y_high y_bytes y_steps y_op y_first y_second y_offset y_given y_length y_there y_known y_lo y_hi y_at y_lookups y_safe y_met y_tag y_word y_packet y_keys y_values y_many := by
    intro t s t1 t0 s1 s0
    have z10 : ¬ (1 : Int32) = 0 := by decide
    rcases e with rfl | rfl | rfl | rfl
    · refine br_t rfl (br_t rfl (br_c (fun q => ?_) (fun q => ?_)))
      · refine H t 1 t1 t0 (fun _ => rfl) (fun n => absurd (fun m => ?_) n)
        have := s1 m; rw [q] at this; exact absurd this (by decide)
      · refine H t 0 t1 t0 (fun n => absurd (s0 n) q) (fun _ => rfl)
    · refine br_f (by decide) (br_t rfl (br_c (fun q => ?_) (fun q => ?_)))
      · refine br_f (by decide) (br_t rfl (H 1 t (fun _ => rfl) (fun n => absurd (fun m => ?_) n) t1 t0))
        have := s1 m; rw [q] at this; exact absurd this (by decide)
      · refine br_f (by decide) (br_t rfl (H 0 t (fun n => absurd (s0 n) q) (fun _ => rfl) t1 t0))
    · refine br_f (by decide) (br_f (by decide) (br_t rfl (br_c (fun q => ?_) (fun q => ?_))))
      · refine br_f (by decide) (br_f (by decide) (br_t rfl (br_c (fun y => H 0 0 (fun n => absurd q n) (fun _ => rfl) (fun n => absurd y n) (fun _ => rfl)) (fun y => H 0 1 (fun n => absurd q n) (fun _ => rfl) (fun _ => rfl) (fun n => absurd y n)))))
      · refine br_f (by decide) (br_f (by decide) (br_t rfl (br_c (fun y => H 1 0 (fun _ => rfl) (fun n => absurd q n) (fun n => absurd y n) (fun _ => rfl)) (fun y => H 1 1 (fun _ => rfl) (fun n => absurd q n) (fun _ => rfl) (fun n => absurd y n)))))
    · refine br_f (by decide) (br_f (by decide) (br_f (by decide) (br_c (fun q => ?_) (fun q => ?_))))
      · refine br_f (by decide) (br_f (by decide) (br_f (by decide) (br_c (fun y => H 0 0 (fun n => absurd q n) (fun _ => rfl) (fun n => absurd y n) (fun _ => rfl)) (fun y => H 0 1 (fun n => absurd q n) (fun _ => rfl) (fun _ => rfl) (fun n => absurd y n)))))
      · refine br_f (by decide) (br_f (by decide) (br_f (by decide) (br_c (fun y => H 1 0 (fun _ => rfl) (fun n => absurd q n) (fun n => absurd y n) (fun _ => rfl)) (fun y => H 1 1 (fun _ => rfl) (fun n => absurd q n) (fun _ => rfl) (fun n => absurd y n)))))
  have w51 : ∀ t : Int32, (¬ y_otherHi < y_lo R ∧ ¬ y_hi R < y_otherLo → t = 1) → (¬ (¬ y_otherHi < y_lo R ∧ ¬ y_hi R < y_otherLo) → t = 0) → wY_scalars_51 post (nI d) (nI f) g x (y_lo R) (y_hi R) t y_place y_least y_most y_smallest y_greatest y_ways y_fault y_base y_otherKind y_otherLo y_otherHi y_low y_high y_bytes y_steps y_op y_first y_second y_offset y_given y_length y_there y_known y_lo y_hi y_at y_lookups y_safe y_met y_tag y_word y_packet y_keys y_values y_many := by
    intro t t1 t0
    refine br_c (fun a => br_c (fun b => br_c (fun c => ?_) (fun c => ?_)) (fun b => ?_)) (fun a => ?_)
    · exact w88 t 1 t1 t0 (fun _ => rfl) (fun n => absurd ⟨a, b, c⟩ n)
    · exact w88 t 0 t1 t0 (fun n => absurd n.2.2 c) (fun _ => rfl)
    · exact w88 t 0 t1 t0 (fun n => absurd n.2.1 b) (fun _ => rfl)
    · exact w88 t 0 t1 t0 (fun n => absurd n.1 a) (fun _ => rfl)
  refine ⟨v, nm_r (e' := y_lo R) (by rw [c]) ⟨v, nm_r (e' := y_hi R) (by rw [c]) (br_c (fun a => ?_) (fun a => br_c (fun b => ?_) (fun b => ?_)))⟩⟩
  · exact w51 0 (fun n => absurd a n.1) (fun _ => rfl)
  · exact w51 0 (fun n => absurd b n.2) (fun _ => rfl)
  · exact w51 1 (fun _ => rfl) (fun n => absurd ⟨a, b⟩ n)
end
