/-- the settled frames: Z to SCALAR 0, N to VALUE 0 -/
noncomputable def mbK (kn : Nat → Int32) (Z N m : Nat) : Nat → Int32 := fun j => if Z ≤ j ∧ j < Z + m ∧ kn j = 6 then 1 else if N ≤ j ∧ j < N + m ∧ kn j = 6 then 5 else kn j
noncomputable def mbL (kn : Nat → Int32) (o : Nat → Int64) (Z N m : Nat) : Nat → Int64 := fun j => if ((Z ≤ j ∧ j < Z + m) ∨ (N ≤ j ∧ j < N + m)) ∧ kn j = 6 then 0 else o j
theorem mbK_0 (kn : Nat → Int32) (Z N : Nat) : mbK kn Z N 0 = kn := by
  funext j; unfold mbK; rw [if_neg (by omega), if_neg (by omega)]
theorem mbL_0 (kn : Nat → Int32) (o : Nat → Int64) (Z N : Nat) : mbL kn o Z N 0 = o := by
  funext j; unfold mbL; rw [if_neg (by omega)]
/-- half a step -/
noncomputable def mhK (kn : Nat → Int32) (Z N m : Nat) : Nat → Int32 := fun j => if Z ≤ j ∧ j < Z + (m + 1) ∧ kn j = 6 then 1 else if N ≤ j ∧ j < N + m ∧ kn j = 6 then 5 else kn j
noncomputable def mhL (kn : Nat → Int32) (o : Nat → Int64) (Z N m : Nat) : Nat → Int64 := fun j => if ((Z ≤ j ∧ j < Z + (m + 1)) ∨ (N ≤ j ∧ j < N + m)) ∧ kn j = 6 then 0 else o j
theorem mb_dj {Z N : Nat} (h : N = Z + 14 ∨ Z = N + 14) {m : Nat} (hm : m < 14) : ¬ (N ≤ Z + m ∧ Z + m < N + m) ∧ ¬ (Z ≤ N + m ∧ N + m < Z + (m + 1)) := by omega
theorem mbK_z {kn : Nat → Int32} {Z N m : Nat} (h : N = Z + 14 ∨ Z = N + 14) (hm : m < 14) : mbK kn Z N m (Z + m) = kn (Z + m) := by
  unfold mbK; rw [if_neg (by omega), if_neg (by omega)]
theorem mbL_z {kn : Nat → Int32} {o : Nat → Int64} {Z N m : Nat} (h : N = Z + 14 ∨ Z = N + 14) (hm : m < 14) : mbL kn o Z N m (Z + m) = o (Z + m) := by
  unfold mbL; rw [if_neg (by omega)]
theorem mhK_n {kn : Nat → Int32} {Z N m : Nat} (h : N = Z + 14 ∨ Z = N + 14) (hm : m < 14) : mhK kn Z N m (N + m) = kn (N + m) := by
  unfold mhK; rw [if_neg (by omega), if_neg (by omega)]
theorem mhL_n {kn : Nat → Int32} {o : Nat → Int64} {Z N m : Nat} (h : N = Z + 14 ∨ Z = N + 14) (hm : m < 14) : mhL kn o Z N m (N + m) = o (N + m) := by
  unfold mhL; rw [if_neg (by omega)]
theorem mb_1t {kn : Nat → Int32} {Z N m : Nat} (h : N = Z + 14 ∨ Z = N + 14) (hm : m < 14) (k : kn (Z + m) = 6) : upd (mbK kn Z N m) (Z + m) 1 = mhK kn Z N m := by
  funext j; unfold upd mbK mhK
  by_cases e : j = Z + m
  · subst e; rw [if_pos rfl, if_pos ⟨by omega, by omega, k⟩]
  · rw [if_neg e]
    by_cases a : Z ≤ j ∧ j < Z + m ∧ kn j = 6
    · rw [if_pos a, if_pos ⟨a.1, by omega, a.2.2⟩]
    · rw [if_neg a, if_neg (c := Z ≤ j ∧ j < Z + (m + 1) ∧ kn j = 6) (fun z => a ⟨z.1, by omega, z.2.2⟩)]
theorem mb_1f {kn : Nat → Int32} {Z N m : Nat} (k : ¬ kn (Z + m) = 6) : mbK kn Z N m = mhK kn Z N m := by
  funext j; unfold mbK mhK
  by_cases a : Z ≤ j ∧ j < Z + m ∧ kn j = 6
  · rw [if_pos a, if_pos ⟨a.1, by omega, a.2.2⟩]
  · rw [if_neg a, if_neg (c := Z ≤ j ∧ j < Z + (m + 1) ∧ kn j = 6)]
    intro z
    by_cases e : j = Z + m
    · subst e; exact k z.2.2
    · exact a ⟨z.1, by omega, z.2.2⟩
theorem mb_1tL {kn : Nat → Int32} {o : Nat → Int64} {Z N m : Nat} (h : N = Z + 14 ∨ Z = N + 14) (hm : m < 14) (k : kn (Z + m) = 6) : vp_updL (mbL kn o Z N m) (Z + m) 0 = mhL kn o Z N m := by
  funext j; unfold vp_updL mbL mhL
  by_cases e : j = Z + m
  · subst e; rw [if_pos rfl, if_pos ⟨by omega, k⟩]
  · rw [if_neg e]
    by_cases a : ((Z ≤ j ∧ j < Z + m) ∨ (N ≤ j ∧ j < N + m)) ∧ kn j = 6
    · rw [if_pos a, if_pos ⟨by omega, a.2⟩]
    · rw [if_neg a, if_neg (fun z => a ⟨by omega, z.2⟩)]
theorem mb_1fL {kn : Nat → Int32} {o : Nat → Int64} {Z N m : Nat} (k : ¬ kn (Z + m) = 6) : mbL kn o Z N m = mhL kn o Z N m := by
  funext j; unfold mbL mhL
  by_cases a : ((Z ≤ j ∧ j < Z + m) ∨ (N ≤ j ∧ j < N + m)) ∧ kn j = 6
  · rw [if_pos a, if_pos ⟨by omega, a.2⟩]
  · rw [if_neg a, if_neg]
    intro z
    by_cases e : j = Z + m
    · subst e; exact k z.2
    · exact a ⟨by omega, z.2⟩
theorem mb_2t {kn : Nat → Int32} {Z N m : Nat} (h : N = Z + 14 ∨ Z = N + 14) (hm : m < 14) (k : kn (N + m) = 6) : upd (mhK kn Z N m) (N + m) 5 = mbK kn Z N (m + 1) := by
  funext j; unfold upd mhK mbK
  by_cases e : j = N + m
  · subst e; rw [if_pos rfl, if_neg (by omega), if_pos ⟨by omega, by omega, k⟩]
  · rw [if_neg e]
    by_cases a : Z ≤ j ∧ j < Z + (m + 1) ∧ kn j = 6
    · rw [if_pos a, if_pos a]
    · rw [if_neg a, if_neg a]
      by_cases b : N ≤ j ∧ j < N + m ∧ kn j = 6
      · rw [if_pos b, if_pos ⟨b.1, by omega, b.2.2⟩]
      · rw [if_neg b, if_neg (fun z => b ⟨z.1, by omega, z.2.2⟩)]
theorem mb_2f {kn : Nat → Int32} {Z N m : Nat} (k : ¬ kn (N + m) = 6) : mhK kn Z N m = mbK kn Z N (m + 1) := by
  funext j; unfold mhK mbK
  by_cases a : Z ≤ j ∧ j < Z + (m + 1) ∧ kn j = 6
  · rw [if_pos a, if_pos a]
  · rw [if_neg a, if_neg a]
    by_cases b : N ≤ j ∧ j < N + m ∧ kn j = 6
    · rw [if_pos b, if_pos ⟨b.1, by omega, b.2.2⟩]
    · rw [if_neg b, if_neg (c := N ≤ j ∧ j < N + (m + 1) ∧ kn j = 6)]
      intro z
      by_cases e : j = N + m
      · subst e; exact k z.2.2
      · exact b ⟨z.1, by omega, z.2.2⟩
theorem mb_2tL {kn : Nat → Int32} {o : Nat → Int64} {Z N m : Nat} (h : N = Z + 14 ∨ Z = N + 14) (hm : m < 14) (k : kn (N + m) = 6) : vp_updL (mhL kn o Z N m) (N + m) 0 = mbL kn o Z N (m + 1) := by
  funext j; unfold vp_updL mhL mbL
  by_cases e : j = N + m
  · subst e; rw [if_pos rfl, if_pos ⟨by omega, k⟩]
  · rw [if_neg e]
    by_cases a : ((Z ≤ j ∧ j < Z + (m + 1)) ∨ (N ≤ j ∧ j < N + m)) ∧ kn j = 6
    · rw [if_pos a, if_pos ⟨by omega, a.2⟩]
    · rw [if_neg a, if_neg (fun z => a ⟨by omega, z.2⟩)]
theorem mb_2fL {kn : Nat → Int32} {o : Nat → Int64} {Z N m : Nat} (k : ¬ kn (N + m) = 6) : mhL kn o Z N m = mbL kn o Z N (m + 1) := by
  funext j; unfold mhL mbL
  by_cases a : ((Z ≤ j ∧ j < Z + (m + 1)) ∨ (N ≤ j ∧ j < N + m)) ∧ kn j = 6
  · rw [if_pos a, if_pos ⟨by omega, a.2⟩]
  · rw [if_neg a, if_neg]
    intro z
    by_cases e : j = N + m
    · subst e; exact k z.2
    · exact a ⟨by omega, z.2⟩
section
variable {y_place : Int32} {y_least : Int64} {y_most : Int64} {y_smallest : Int64} {y_greatest : Int64} {y_ways : Int32} {y_fault : Int32} {y_base : Int32} {y_otherKind : Int32} {y_otherLo : Int64} {y_otherHi : Int64} {y_low : Int64} {y_high : Int64} {y_bytes : Int32} {y_steps : Int32} {y_op : Nat → Int32} {y_first : Nat → Int32} {y_second : Nat → Int32} {y_offset : Nat → Int32} {y_given : Nat → Int32} {y_length : Nat → Int32} {y_there : Nat → Int32} {y_known : Nat → Int32} {y_lo : Nat → Int64} {y_hi : Nat → Int64} {y_at : Nat → Int32} {y_lookups : Nat → Int32} {y_safe : Nat → Int32} {y_met : Nat → Int32} {y_tag : Nat → Int32} {y_word : Nat → Int64} {y_packet : Nat → Int32} {y_keys : Nat → Int64} {y_values : Nat → Int64} {y_many : Nat → Int32}
theorem yv_mbL {post : SY → Prop} {Z N : Nat} {x : Int32} (h : N = Z + 14 ∨ Z = N + 14) (hZ : Z + 14 ≤ 168) (hN : N + 14 ≤ 168) (nz : ∀ r, r < 14 → y_known (Z + r) = 6 → y_lo (Z + r) = x.toInt64) (nn : ∀ r, r < 14 → y_known (N + r) = 6 → y_lo (N + r) = x.toInt64) (H : post (y_place, y_least, y_most, y_smallest, y_greatest, y_ways, y_fault, y_base, y_otherKind, y_otherLo, y_otherHi, y_low, y_high, y_bytes, y_steps, y_op, y_first, y_second, y_offset, y_given, y_length, y_there, mbK y_known Z N 14, mbL y_known y_lo Z N 14, mbL y_known y_hi Z N 14, y_at, y_lookups, y_safe, y_met, y_tag, y_word, y_packet, y_keys, y_values, y_many)) : ∀ d m : Nat, m + d = 14 → wY_maybe_52 post x (nI Z) (nI N) y_place y_least y_most y_smallest y_greatest y_ways y_fault y_base y_otherKind y_otherLo y_otherHi y_low y_high y_bytes y_steps (d + 1) (nI m) y_op y_first y_second y_offset y_given y_length y_there (mbK y_known Z N m) (mbL y_known y_lo Z N m) (mbL y_known y_hi Z N m) y_at y_lookups y_safe y_met y_tag y_word y_packet y_keys y_values y_many := by
  intro d
  induction d with
  | zero =>
    intro m hm
    have e : m = 14 := by omega
    subst e
    exact br_t (by decide) H
  | succ d ih =>
    intro m hm
    have m14 : m < 14 := by omega
    have v1 : vp_in (nI Z + nI m) 168 := by rw [nI_add]; exact vp_in_nI (by omega) (by decide)
    have v2 : vp_in (nI N + nI m) 168 := by rw [nI_add]; exact vp_in_nI (by omega) (by decide)
    have c1 : (nI Z + nI m).toNatClampNeg = Z + m := by rw [nI_add]; exact nI_clamp (by omega)
    have c2 : (nI N + nI m).toNatClampNeg = N + m := by rw [nI_add]; exact nI_clamp (by omega)
    have w123 : wY_maybe_123 post (wY_maybe_52 post x (nI Z) (nI N) y_place y_least y_most y_smallest y_greatest y_ways y_fault y_base y_otherKind y_otherLo y_otherHi y_low y_high y_bytes y_steps (d + 1)) x (nI Z) (nI N) (nI m) y_place y_least y_most y_smallest y_greatest y_ways y_fault y_base y_otherKind y_otherLo y_otherHi y_low y_high y_bytes y_steps y_op y_first y_second y_offset y_given y_length y_there (mhK y_known Z N m) (mhL y_known y_lo Z N m) (mhL y_known y_hi Z N m) y_at y_lookups y_safe y_met y_tag y_word y_packet y_keys y_values y_many := by
      refine ⟨v2, ?_⟩
      rw [c2, mhK_n h m14, mhL_n h m14]
      refine br_c (fun k => ⟨v2, br_t (nn m m14 k) ⟨v2, nm_r (e' := mbK y_known Z N (m + 1)) (by rw [xb_b5, mb_2t h m14 k]) ⟨v2, nm_r (e' := mbL y_known y_lo Z N (m + 1)) (by rw [mb_2tL h m14 k]) ⟨v2, nm_r (e' := mbL y_known y_hi Z N (m + 1)) (by rw [mb_2tL h m14 k]) (nm_r (nI_1 m) (ih (m + 1) (by omega)))⟩⟩⟩⟩) (fun k => nm_r (nI_1 m) ?_)
      rw [mb_2f k, mb_2fL k, mb_2fL k]
      exact ih (m + 1) (by omega)
    refine br_f (by rw [xb_le14 (by omega)]; omega) ⟨v1, ?_⟩
    rw [c1, mbK_z h m14, mbL_z h m14]
    refine br_c (fun k => ⟨v1, br_t (nz m m14 k) ⟨v1, nm_r (e' := mhK y_known Z N m) (by rw [xb_b1, mb_1t h m14 k]) ⟨v1, nm_r (e' := mhL y_known y_lo Z N m) (by rw [mb_1tL h m14 k]) ⟨v1, nm_r (e' := mhL y_known y_hi Z N m) (by rw [mb_1tL h m14 k]) w123⟩⟩⟩⟩) (fun k => ?_)
    rw [mb_1f k, mb_1fL k, mb_1fL k]
    exact w123
theorem yv_maybe {post : SY → Prop} {w g x f Z N : Nat} {num : Int32} (hw : w + 1 < 12) (hg : g < 128) (hx : x < 128) (hf : f < 10) (hk : ∀ r, r < 14 → k7_ (y_known (14 * w + r))) (hs : vp_nar .short (y_safe w) = y_safe w) (hl : vp_nar .byte (y_lookups w) = y_lookups w) (nu : ∀ r, r < 14 → y_known (14 * w + r) = 6 → y_lo (14 * w + r) = num.toInt64) (eZ : Z = if f = 1 then 14 * w else 14 * w + 14) (eN : N = if f = 1 then 14 * w + 14 else 14 * w) (H : post (y_place, y_least, y_most, y_smallest, y_greatest, nI (w + 2), y_fault, nI (14 * w), y_otherKind, y_otherLo, y_otherHi, y_low, y_high, y_bytes, y_steps, y_op, y_first, y_second, y_offset, y_given, y_length, y_there, mbK (fk_ y_known (14 * w) 14) Z N 14, mbL (fk_ y_known (14 * w) 14) (fk_ y_lo (14 * w) 14) Z N 14, mbL (fk_ y_known (14 * w) 14) (fk_ y_hi (14 * w) 14) Z N 14, upd (upd y_at w (nI g)) (w + 1) (nI x), upd y_lookups (w + 1) (y_lookups w), upd y_safe (w + 1) (y_safe w), y_met, y_tag, y_word, y_packet, y_keys, y_values, y_many)) : wpY_maybe post (y_place, y_least, y_most, y_smallest, y_greatest, nI (w + 1), y_fault, nI (14 * w), y_otherKind, y_otherLo, y_otherHi, y_low, y_high, y_bytes, y_steps, y_op, y_first, y_second, y_offset, y_given, y_length, y_there, y_known, y_lo, y_hi, y_at, y_lookups, y_safe, y_met, y_tag, y_word, y_packet, y_keys, y_values, y_many) num (nI f) (nI g) (nI x) := by
  have h : N = Z + 14 ∨ Z = N + 14 := by rw [eZ, eN]; split <;> omega
  have hZ : Z + 14 ≤ 168 := by rw [eZ]; split <;> omega
  have hN : N + 14 ≤ 168 := by rw [eN]; split <;> omega
  have nf : ∀ r, r < 14 → fk_ y_known (14 * w) 14 (14 * w + r) = 6 → fk_ y_lo (14 * w) 14 (14 * w + r) = num.toInt64 := by
    intro r hr; rw [fk_lo _ (by omega), fk_lo _ (by omega)]; exact nu r hr
  have nh : ∀ r, r < 14 → fk_ y_known (14 * w) 14 (14 * w + 14 + r) = 6 → fk_ y_lo (14 * w) 14 (14 * w + 14 + r) = num.toInt64 := by
    intro r hr; rw [fk_hi _ hr, fk_hi _ hr]; exact nu r hr
  have w40 : wY_maybe_40 post num (nI g) (nI x) (nI Z) (nI N) y_place y_least y_most y_smallest y_greatest (nI (w + 1)) y_fault (nI (14 * w)) y_otherKind y_otherLo y_otherHi y_low y_high y_bytes y_steps y_op y_first y_second y_offset y_given y_length y_there y_known y_lo y_hi y_at y_lookups y_safe y_met y_tag y_word y_packet y_keys y_values y_many := by
    refine yv_fork hw hg hx hk hs hl ⟨15, ?_⟩
    have nz : ∀ r, r < 14 → fk_ y_known (14 * w) 14 (Z + r) = 6 → fk_ y_lo (14 * w) 14 (Z + r) = num.toInt64 := by
      rw [eZ]; split
      · exact nf
      · exact nh
    have nn : ∀ r, r < 14 → fk_ y_known (14 * w) 14 (N + r) = 6 → fk_ y_lo (14 * w) 14 (N + r) = num.toInt64 := by
      rw [eN]; split
      · exact nh
      · exact nf
    have := yv_mbL h hZ hN nz nn H 14 0 rfl
    rw [mbK_0, mbL_0, mbL_0] at this
    exact this
  by_cases z : f = 1
  · rw [if_pos z] at eZ eN
    subst eZ eN z
    refine br_t rfl (br_t rfl ?_)
    rw [xb_adr14]; exact w40
  · rw [if_neg z] at eZ eN
    subst eZ eN
    have z' : ¬ nI f = 1 := by rw [xb_eq1 (by omega)]; exact z
    refine br_f z' (br_f z' ?_)
    rw [xb_adr14]; exact w40
theorem yv_bounds {post : SY → Prop} {w g x n sn V : Nat} {at0 : Int32} (hw : w + 1 < 12) (hg : g < 128) (hx : x < 128) (hn : n ≤ 256) (hsn : sn ≤ 256) (hk : ∀ r, r < 14 → k7_ (y_known (14 * w + r))) (es : y_safe w = nI sn) (hl : vp_nar .byte (y_lookups w) = y_lookups w) (eV : V = if at0 = 0 then w + 1 else w) (H : post (y_place, y_least, y_most, y_smallest, y_greatest, nI (w + 2), y_fault, nI (14 * w), y_otherKind, y_otherLo, y_otherHi, y_low, y_high, y_bytes, y_steps, y_op, y_first, y_second, y_offset, y_given, y_length, y_there, fk_ y_known (14 * w) 14, fk_ y_lo (14 * w) 14, fk_ y_hi (14 * w) 14, upd (upd y_at w (nI g)) (w + 1) (nI x), upd y_lookups (w + 1) (y_lookups w), upd (upd y_safe (w + 1) (nI sn)) V (nI (if n ≤ sn then sn else n)), y_met, y_tag, y_word, y_packet, y_keys, y_values, y_many)) : wpY_bounds post (y_place, y_least, y_most, y_smallest, y_greatest, nI (w + 1), y_fault, nI (14 * w), y_otherKind, y_otherLo, y_otherHi, y_low, y_high, y_bytes, y_steps, y_op, y_first, y_second, y_offset, y_given, y_length, y_there, y_known, y_lo, y_hi, y_at, y_lookups, y_safe, y_met, y_tag, y_word, y_packet, y_keys, y_values, y_many) (lN n) at0 (nI g) (nI x) := by
  have sV : upd y_safe (w + 1) (nI sn) V = nI sn := by
    rw [eV]; split
    · exact pk_us
    · rw [pk_un (by omega)]; exact es
  have V12 : V < 12 := by rw [eV]; split <;> omega
  have w29 : wY_bounds_29 post (lN n) (nI V) y_place y_least y_most y_smallest y_greatest (nI (w + 2)) y_fault (nI (14 * w)) y_otherKind y_otherLo y_otherHi y_low y_high y_bytes y_steps y_op y_first y_second y_offset y_given y_length y_there (fk_ y_known (14 * w) 14) (fk_ y_lo (14 * w) 14) (fk_ y_hi (14 * w) 14) (upd (upd y_at w (nI g)) (w + 1) (nI x)) (upd y_lookups (w + 1) (y_lookups w)) (upd y_safe (w + 1) (nI sn)) y_met y_tag y_word y_packet y_keys y_values y_many := by
    have v : vp_in (nI V) 12 := vp_in_nI V12 (by decide)
    have c : (nI V).toNatClampNeg = V := nI_clamp (by omega)
    refine ⟨v, ?_⟩
    rw [c, sV, nI_l (by omega), pk_lLE (by omega) (by omega)]
    refine br_c (fun q => ?_) (fun q => ⟨v, nm_r (e' := upd (upd y_safe (w + 1) (nI sn)) V (nI n)) ?_ ?_⟩)
    · rw [if_pos q, xb_updid sV] at H; exact H
    · rw [lN_i, xb_ns (by omega), xb_vs (by omega)]
    · rw [if_neg q] at H; exact H
  have hs : vp_nar .short (y_safe w) = y_safe w := by rw [es]; exact xb_vs (by omega)
  refine nm_r (nI_pred w) ?_
  refine yv_fork hw hg hx hk hs hl ?_
  rw [es]
  by_cases z : at0 = 0
  · rw [if_pos z] at eV; subst eV
    refine br_t z ?_
    rw [nI_1]; exact w29
  · rw [if_neg z] at eV; subst eV
    exact br_f z w29
/-- scalars: one way open -/
theorem yv_scG {post : SY → Prop} {w d f g : Nat} {x : Int32} (hw : w < 12) (hd : d < 14) (hg : g < 128) (h1 : 1 ≤ f) (h4 : f ≤ 4) (A : yg_ f (y_lo (14 * w + d)) (y_hi (14 * w + d)) y_otherLo y_otherHi) (C : ¬ yg_ (op_ f) (y_lo (14 * w + d)) (y_hi (14 * w + d)) y_otherLo y_otherHi) (no : y_otherLo = y_otherHi → yc_l f y_otherLo (y_lo (14 * w + d)) (y_hi (14 * w + d)) = y_lo (14 * w + d) ∧ yc_h f y_otherLo (y_lo (14 * w + d)) (y_hi (14 * w + d)) = y_hi (14 * w + d)) (H : post (y_place, y_least, y_most, y_smallest, y_greatest, nI (w + 1), y_fault, nI (14 * w), y_otherKind, y_otherLo, y_otherHi, y_low, y_high, y_bytes, y_steps, y_op, y_first, y_second, y_offset, y_given, y_length, y_there, y_known, y_lo, y_hi, upd y_at w (nI g), y_lookups, y_safe, y_met, y_tag, y_word, y_packet, y_keys, y_values, y_many)) : wpY_scalars post (y_place, y_least, y_most, y_smallest, y_greatest, nI (w + 1), y_fault, nI (14 * w), y_otherKind, y_otherLo, y_otherHi, y_low, y_high, y_bytes, y_steps, y_op, y_first, y_second, y_offset, y_given, y_length, y_there, y_known, y_lo, y_hi, y_at, y_lookups, y_safe, y_met, y_tag, y_word, y_packet, y_keys, y_values, y_many) (nI d) (nI f) (nI g) x := by
  refine yv_sc224 h1 h4 (R := 14 * w + d) (by omega) (nI_add _ _) (fun go st g1 _ _ s0 => ?_)
  rw [g1 A, s0 C]
  have v : vp_in (nI w) 12 := vp_in_nI hw (by decide)
  have c : (nI w).toNatClampNeg = w := nI_clamp (by omega)
  have w334 : ∀ z : Int32, wY_scalars_334 post 1 0 (nI (14 * w + d)) z y_place y_least y_most y_smallest y_greatest (nI (w + 1)) y_fault (nI (14 * w)) y_otherKind y_otherLo y_otherHi y_low y_high y_bytes y_steps y_op y_first y_second y_offset y_given y_length y_there y_known y_lo y_hi (upd y_at w (nI g)) y_lookups y_safe y_met y_tag y_word y_packet y_keys y_values y_many := fun z => br_t rfl H
  refine nm_r (nI_pred w) (br_f (by decide) (br_t rfl (br_f (by decide) ⟨v, nm_r (e' := upd y_at w (nI g)) (by rw [c, xb_nb hg, xb_vb hg]) (br_c (fun q => nm_r (nI_add _ _) (br_f (by decide) ?_)) (fun q => H))⟩)))
  refine yv_cut (by omega) h1 h4 ?_
  rw [(no q).1, (no q).2, xb_updLid rfl, xb_updLid rfl]
  exact br_c (fun _ => w334 _) (fun _ => br_c (fun _ => w334 _) (fun _ => br_c (fun _ => w334 _) (fun _ => w334 _)))
theorem yv_scS {post : SY → Prop} {w d f x : Nat} {g : Int32} (hw : w < 12) (hd : d < 14) (hx : x < 128) (h1 : 1 ≤ f) (h4 : f ≤ 4) (A : ¬ yg_ f (y_lo (14 * w + d)) (y_hi (14 * w + d)) y_otherLo y_otherHi) (C : yg_ (op_ f) (y_lo (14 * w + d)) (y_hi (14 * w + d)) y_otherLo y_otherHi) (no : y_otherLo = y_otherHi → yc_l (op_ f) y_otherLo (y_lo (14 * w + d)) (y_hi (14 * w + d)) = y_lo (14 * w + d) ∧ yc_h (op_ f) y_otherLo (y_lo (14 * w + d)) (y_hi (14 * w + d)) = y_hi (14 * w + d)) (H : post (y_place, y_least, y_most, y_smallest, y_greatest, nI (w + 1), y_fault, nI (14 * w), y_otherKind, y_otherLo, y_otherHi, y_low, y_high, y_bytes, y_steps, y_op, y_first, y_second, y_offset, y_given, y_length, y_there, y_known, y_lo, y_hi, upd y_at w (nI x), y_lookups, y_safe, y_met, y_tag, y_word, y_packet, y_keys, y_values, y_many)) : wpY_scalars post (y_place, y_least, y_most, y_smallest, y_greatest, nI (w + 1), y_fault, nI (14 * w), y_otherKind, y_otherLo, y_otherHi, y_low, y_high, y_bytes, y_steps, y_op, y_first, y_second, y_offset, y_given, y_length, y_there, y_known, y_lo, y_hi, y_at, y_lookups, y_safe, y_met, y_tag, y_word, y_packet, y_keys, y_values, y_many) (nI d) (nI f) g (nI x) := by
  refine yv_sc224 h1 h4 (R := 14 * w + d) (by omega) (nI_add _ _) (fun go st _ g0 s1 _ => ?_)
  rw [g0 A, s1 C]
  have v : vp_in (nI w) 12 := vp_in_nI hw (by decide)
  have c : (nI w).toNatClampNeg = w := nI_clamp (by omega)
  obtain ⟨o1, o4⟩ := op_r h1 h4
  refine nm_r (nI_pred w) (br_t rfl (br_t rfl ⟨v, nm_r (e' := upd y_at w (nI x)) (by rw [c, xb_nb hx, xb_vb hx]) (br_c (fun q => nm_r (nI_add _ _) (br_t rfl ?_)) (fun q => H))⟩))
  have w334 : wY_scalars_334 post 0 1 (nI (14 * w + d)) (nI (op_ f)) y_place y_least y_most y_smallest y_greatest (nI (w + 1)) y_fault (nI (14 * w)) y_otherKind y_otherLo y_otherHi y_low y_high y_bytes y_steps y_op y_first y_second y_offset y_given y_length y_there y_known y_lo y_hi (upd y_at w (nI x)) y_lookups y_safe y_met y_tag y_word y_packet y_keys y_values y_many := by
    refine br_f (by decide) (br_t rfl ?_)
    refine yv_cut (by omega) o1 o4 ?_
    rw [(no q).1, (no q).2, xb_updLid rfl, xb_updLid rfl]
    exact H
  have e : f = 1 ∨ f = 2 ∨ f = 3 ∨ f = 4 := by omega
  rcases e with rfl | rfl | rfl | rfl
  · exact br_t rfl w334
  · exact br_f (by decide) (br_t rfl w334)
  · exact br_f (by decide) (br_f (by decide) (br_t rfl w334))
  · exact br_f (by decide) (br_f (by decide) (br_f (by decide) w334))
/-- scalars: both ways -/
theorem yv_scB {post : SY → Prop} {w d f g x : Nat} (hw : w + 1 < 12) (hd : d < 14) (hg : g < 128) (hx : x < 128) (h1 : 1 ≤ f) (h4 : f ≤ 4) (hk : ∀ r, r < 14 → k7_ (y_known (14 * w + r))) (hs : vp_nar .short (y_safe w) = y_safe w) (hl : vp_nar .byte (y_lookups w) = y_lookups w) (A : yg_ f (y_lo (14 * w + d)) (y_hi (14 * w + d)) y_otherLo y_otherHi) (C : yg_ (op_ f) (y_lo (14 * w + d)) (y_hi (14 * w + d)) y_otherLo y_otherHi) {L H : Nat → Int64} (eL : L = if y_otherLo = y_otherHi then vp_updL (vp_updL (fk_ y_lo (14 * w) 14) (14 * w + d) (yc_l f y_otherLo (y_lo (14 * w + d)) (y_hi (14 * w + d)))) (14 * w + 14 + d) (yc_l (op_ f) y_otherLo (y_lo (14 * w + d)) (y_hi (14 * w + d))) else fk_ y_lo (14 * w) 14) (eH : H = if y_otherLo = y_otherHi then vp_updL (vp_updL (fk_ y_hi (14 * w) 14) (14 * w + d) (yc_h f y_otherLo (y_lo (14 * w + d)) (y_hi (14 * w + d)))) (14 * w + 14 + d) (yc_h (op_ f) y_otherLo (y_lo (14 * w + d)) (y_hi (14 * w + d))) else fk_ y_hi (14 * w) 14) (P : post (y_place, y_least, y_most, y_smallest, y_greatest, nI (w + 2), y_fault, nI (14 * w), y_otherKind, y_otherLo, y_otherHi, y_low, y_high, y_bytes, y_steps, y_op, y_first, y_second, y_offset, y_given, y_length, y_there, fk_ y_known (14 * w) 14, L, H, upd (upd y_at w (nI g)) (w + 1) (nI x), upd y_lookups (w + 1) (y_lookups w), upd y_safe (w + 1) (y_safe w), y_met, y_tag, y_word, y_packet, y_keys, y_values, y_many)) : wpY_scalars post (y_place, y_least, y_most, y_smallest, y_greatest, nI (w + 1), y_fault, nI (14 * w), y_otherKind, y_otherLo, y_otherHi, y_low, y_high, y_bytes, y_steps, y_op, y_first, y_second, y_offset, y_given, y_length, y_there, y_known, y_lo, y_hi, y_at, y_lookups, y_safe, y_met, y_tag, y_word, y_packet, y_keys, y_values, y_many) (nI d) (nI f) (nI g) (nI x) := by
  refine yv_sc224 h1 h4 (R := 14 * w + d) (by omega) (nI_add _ _) (fun go st g1 _ s1 _ => ?_)
  rw [g1 A, s1 C]
  obtain ⟨o1, o4⟩ := op_r h1 h4
  refine nm_r (nI_pred w) (br_f (by decide) (br_f (by decide) ?_))
  refine yv_fork hw hg hx hk hs hl ?_
  refine br_c (fun q => nm_r (nI_add _ _) (br_f (by decide) ?_)) (fun q => ?_)
  · rw [if_pos q] at eL eH
    refine yv_cut (by omega) h1 h4 ?_
    rw [fk_lo y_lo (by omega), fk_lo y_hi (by omega)]
    have w334 : wY_scalars_334 post 1 1 (nI (14 * w + d)) (nI (op_ f)) y_place y_least y_most y_smallest y_greatest (nI (w + 2)) y_fault (nI (14 * w)) y_otherKind y_otherLo y_otherHi y_low y_high y_bytes y_steps y_op y_first y_second y_offset y_given y_length y_there (fk_ y_known (14 * w) 14) (vp_updL (fk_ y_lo (14 * w) 14) (14 * w + d) (yc_l f y_otherLo (y_lo (14 * w + d)) (y_hi (14 * w + d)))) (vp_updL (fk_ y_hi (14 * w) 14) (14 * w + d) (yc_h f y_otherLo (y_lo (14 * w + d)) (y_hi (14 * w + d)))) (upd (upd y_at w (nI g)) (w + 1) (nI x)) (upd y_lookups (w + 1) (y_lookups w)) (upd y_safe (w + 1) (y_safe w)) y_met y_tag y_word y_packet y_keys y_values y_many := by
      refine br_f (by decide) (br_f (by decide) ?_)
      rw [xb_adr14, show 14 * w + d + 14 = 14 * w + 14 + d from by omega]
      refine yv_cut (by omega) o1 o4 ?_
      rw [pk_uLn (f := fk_ y_lo (14 * w) 14) (by omega), pk_uLn (f := fk_ y_hi (14 * w) 14) (by omega), fk_hi y_lo hd, fk_hi y_hi hd, ← eL, ← eH]
      exact P
    have e : f = 1 ∨ f = 2 ∨ f = 3 ∨ f = 4 := by omega
    rcases e with rfl | rfl | rfl | rfl
    · exact br_t rfl w334
    · exact br_f (by decide) (br_t rfl w334)
    · exact br_f (by decide) (br_f (by decide) (br_t rfl w334))
    · exact br_f (by decide) (br_f (by decide) (br_f (by decide) w334))
  · rw [if_neg q] at eL eH
    rw [eL, eH] at P
    exact P
end
