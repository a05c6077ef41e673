theorem mbK_Z {kn : Nat → Int32} {Z N r : Nat} (hr : r < 14) : mbK kn Z N 14 (Z + r) = if kn (Z + r) = 6 then 1 else (if N ≤ Z + r ∧ Z + r < N + 14 ∧ kn (Z + r) = 6 then 5 else kn (Z + r)) := by
  unfold mbK
  by_cases k : kn (Z + r) = 6
  · rw [if_pos k, if_pos ⟨by omega, by omega, k⟩]
  · rw [if_neg k, if_neg (fun z => k z.2.2)]
theorem mbK_N {kn : Nat → Int32} {Z N r : Nat} (h : N = Z + 14 ∨ Z = N + 14) (hr : r < 14) : mbK kn Z N 14 (N + r) = if kn (N + r) = 6 then 5 else kn (N + r) := by
  unfold mbK
  rw [if_neg (by omega)]
  by_cases k : kn (N + r) = 6
  · rw [if_pos k, if_pos ⟨by omega, by omega, k⟩]
  · rw [if_neg k, if_neg (fun z => k z.2.2)]
theorem mbL_C {kn : Nat → Int32} {o : Nat → Int64} {Z N C r : Nat} (h : C = Z ∨ C = N) (hr : r < 14) : mbL kn o Z N 14 (C + r) = if kn (C + r) = 6 then 0 else o (C + r) := by
  unfold mbL
  by_cases k : kn (C + r) = 6
  · rw [if_pos k, if_pos ⟨by omega, k⟩]
  · rw [if_neg k, if_neg (fun z => k z.2)]
section
variable {o off imm : Int32} {d s f g : Nat} {K : Nat → Int32} {L H : Nat → Int64} {S : Int64}
theorem Fr_mb {kn : Nat → Int32} {lo hi : Nat → Int64} {Z N C : Nat} {m v : Int32} (W : WF_ K L H S) (F : Fr_ K L H kn lo hi C m) (h : N = Z + 14 ∨ Z = N + 14) (hc : (C = Z ∧ v = 1) ∨ (C = N ∧ v = 5)) : Fr_ (se_K K v 16) L H (mbK kn Z N 14) (mbL kn lo Z N 14) (mbL kn hi Z N 14) C m := by
  intro r hr
  have t := F r hr
  have g16 := g_16 hr
  have eK : mbK kn Z N 14 (C + r) = if K (g_ r) = 6 then v else kn (C + r) := by
    rcases hc with ⟨rfl, rfl⟩ | ⟨rfl, rfl⟩
    · rw [mbK_Z hr, t.1]
      by_cases k : K (g_ r) = 6
      · rw [if_pos k, if_pos k]
      · rw [if_neg k, if_neg k, if_neg (fun z => k z.2.2)]
    · rw [mbK_N h hr, t.1]
  have cz : C = Z ∨ C = N := by rcases hc with z | z; exact Or.inl z.1; exact Or.inr z.1
  rw [eK, mbL_C cz hr, mbL_C cz hr, t.1]
  by_cases k : K (g_ r) = 6
  · have es : se_K K v 16 (g_ r) = v := by unfold se_K; rw [if_pos ⟨g16, k⟩]
    obtain ⟨l0, h0⟩ := (W.1 _ g16).2.2.2 k
    rw [es, l0, h0, if_pos k, if_pos k, if_pos k]
    rcases hc with ⟨-, rfl⟩ | ⟨-, rfl⟩
    · exact T_1
    · exact T_45 (Or.inr rfl)
  · have es : se_K K v 16 (g_ r) = K (g_ r) := by unfold se_K; rw [if_neg (fun z => k z.2)]
    rw [es, if_neg k, if_neg k, if_neg k, ← t.1]
    rw [t.1]
    exact ⟨rfl, t.2⟩
theorem yj_op {y_place : Int32} {y_least : Int64} {y_most : Int64} {y_smallest : Int64} {y_greatest : Int64} {y_ways : Int32} {y_fault : Int32} {y_base : Int32} {y_otherKind : Int32} {y_otherLo : Int64} {y_otherHi : Int64} {y_low : Int64} {y_high : Int64} {y_bytes : Int32} {y_steps : Int32} {y_op : Nat → Int32} {y_first : Nat → Int32} {y_second : Nat → Int32} {y_offset : Nat → Int32} {y_given : Nat → Int32} {y_length : Nat → Int32} {y_there : Nat → Int32} {y_known : Nat → Int32} {y_lo : Nat → Int64} {y_hi : Nat → Int64} {y_at : Nat → Int32} {y_lookups : Nat → Int32} {y_safe : Nat → Int32} {y_met : Nat → Int32} {y_tag : Nat → Int32} {y_word : Nat → Int64} {y_packet : Nat → Int32} {y_keys : Nat → Int64} {y_values : Nat → Int64} {y_many : Nat → Int32} {i a w : Nat} {post : SY → Prop} (hi : i < 120) (ha : a < 40) (hw : w < 12) (eo : y_op i = o) (e1 : y_first i = nI d) (e2 : y_second i = nI s) (eof : y_offset i = off) (eg : y_given i = imm) (F : Fr_ K L H y_known y_lo y_hi (14 * w) (y_lookups w)) (ho : oj_ o f) (hg : g < 2 ^ 31) (eg' : off = nI g) (hd : d < 8) (hs : s < 9) (W : WF_ K L H S) (n9 : nine_ o (imm.toInt64 &&& 4294967295) K L H) (u1 : ¬ K d = 0) (u2 : ¬ K (q9_ o s) = 0) (k1 : ¬ K d = 1) (G : ∀ k2 l2 h2, T_ (K (q9_ o s)) (L (q9_ o s)) (H (q9_ o s)) k2 l2 h2 (y_lookups w) → wY_jump_182 post (nI a) (nI (gm_ a g)) (nI d) (K d) (nI f) y_place y_least y_most y_smallest y_greatest (nI (w + 1)) y_fault (nI (14 * w)) k2 l2 h2 y_low y_high y_bytes y_steps y_op y_first y_second y_offset y_given y_length y_there y_known y_lo y_hi y_at y_lookups y_safe y_met y_tag y_word y_packet y_keys y_values y_many) : wpY_instruction post (y_place, y_least, y_most, y_smallest, y_greatest, nI (w + 1), y_fault, nI (14 * w), y_otherKind, y_otherLo, y_otherHi, y_low, y_high, y_bytes, y_steps, y_op, y_first, y_second, y_offset, y_given, y_length, y_there, y_known, y_lo, y_hi, y_at, y_lookups, y_safe, y_met, y_tag, y_word, y_packet, y_keys, y_values, y_many) (nI i) (nI a) := by
  obtain ⟨f1, f2, f3, f4, -⟩ := oj_f ho
  obtain ⟨r, er, hr⟩ := oj_r ho
  obtain ⟨c2, l2, h2, t2, OP⟩ := yo_ex (y_ways := nI (w + 1)) (B := 14 * w) hi (by omega) hs e2 eg F W.2.1 W.2.2.1 n9 hr
  obtain ⟨m1, m2⟩ := yp_m (f := 1) hd hs W F hr (Or.inr u1) u2
  have td := F d (by omega)
  rw [g_lo hd] at td
  have m1' : d = 8 ∨ ¬ y_known (14 * w + d) = 0 := by rcases m1 with q | q; exact absurd q (by decide); exact q
  refine yv_inJ hi eo f1 f2 ?_
  refine yv_jG hi (by omega) hg (by omega) (by omega) (eof.trans eg') f3 f4 er e1 e2 m1' m2 OP (fun a1 _ => absurd (td.1.symm.trans a1) k1) (fun _ => ?_)
  rw [td.1]
  exact G _ _ _ t2
theorem yj_MB (ho : oj_ o f) (hg : g < 2 ^ 31) (eg' : off = nI g) (hd : d < 8) (hs : s < 9) (W : WF_ K L H S) (n9 : nine_ o (imm.toInt64 &&& 4294967295) K L H) (k1 : K d = 6) (f2 : f ≤ 2) (k2 : K (q9_ o s) = 1) (h0 : H (q9_ o s) = 0) {q : Nat} (eq : q = q9_ o s) : YB_ o d s off imm g K L H S (ln_K f d K) (ln_L f d q K L H) (ln_H f d q K L H) (ln_S f d q K L S) (ln_K (op_ f) d K) (ln_L (op_ f) d q K L H) (ln_H (op_ f) d q K L H) (ln_S (op_ f) d q K L S) := by
  subst eq
  intro y_place y_least y_most y_smallest y_greatest y_ways y_fault y_base y_otherKind y_otherLo y_otherHi y_low y_high y_bytes y_steps y_op y_first y_second y_offset y_given y_length y_there y_known y_lo y_hi y_at y_lookups y_safe y_met y_tag y_word y_packet y_keys y_values y_many i a w post hi ha hw eo e1 e2 eof eg eat F eS hl w12 P
  obtain ⟨sn, hsn, eSn⟩ := W.2.2.2.2
  have sfw := sf_n (eS.trans eSn) hsn
  have g40 : gm_ a g ≤ 40 := by unfold gm_; split <;> omega
  have lK : ∀ f', ln_K f' d K = se_K K (if f' = 1 then 1 else 5) 16 := by intro f'; unfold ln_K; rw [if_pos k1]
  have lL : ∀ f', ln_L f' d (q9_ o s) K L H = L := by intro f'; unfold ln_L; rw [if_neg (by rw [k1]; simp)]
  have lH : ∀ f', ln_H f' d (q9_ o s) K L H = H := by intro f'; unfold ln_H; rw [if_neg (by rw [k1]; simp)]
  have lS : ∀ f', ln_S f' d (q9_ o s) K L S = S := by intro f'; unfold ln_S; rw [k1, if_neg (by simp), if_neg (by simp)]
  refine yj_op (y_base := y_base) (y_ways := y_ways) hi ha hw eo e1 e2 eof eg F ho hg eg' hd hs W n9 (by rw [k1]; decide) (by rw [k2]; decide) (by rw [k1]; decide) (fun c2 l2 h2 t2 => ?_)
  rw [k1]
  have td := F d (by omega)
  rw [g_lo hd] at td
  refine yv_j182M (by omega) ho.1 f2 (t2.1.trans k2) ((t2.2.1 (Or.inl k2)).2.trans h0) ?_
  have el : (y_lo (14 * w + d)).toInt32 = y_lookups w := by rw [td.2.2.2 k1]; exact Int32.toInt32_toInt64 _
  rw [el]
  refine yv_maybe w12 (by omega) (by omega) (by omega) (Fr_k7 W F) (by rw [sfw]; exact xb_vs (by omega)) hl (fun r hr k => ?_) rfl rfl ?_
  · have t := F r hr
    exact t.2.2.2 (t.1.symm.trans k)
  · have h14 : (if f = 1 then 14 * w + 14 else 14 * w) = (if f = 1 then 14 * w else 14 * w + 14) + 14 ∨ (if f = 1 then 14 * w else 14 * w + 14) = (if f = 1 then 14 * w + 14 else 14 * w) + 14 := by split <;> omega
    have sfE : (upd y_safe (w + 1) (y_safe w) w).toInt64 = S := by rw [pk_un (by omega)]; exact eS
    have sfE1 : (upd y_safe (w + 1) (y_safe w) (w + 1)).toInt64 = S := by rw [pk_us]; exact eS
    refine P _ _ _ _ _ _ _ _ _ _ ?_ ?_ ?_ (fun j hj => ⟨pk_un (by omega), pk_un (by omega)⟩) ?_ ?_ (by rw [lS]; exact sfE) (by rw [lS]; exact sfE1)
    · rw [lK, lL, lH, pk_un (f := y_lookups) (show ¬ w = w + 1 by omega)]
      refine Fr_mb W (Fr_fl F) h14 ?_
      by_cases z : f = 1
      · simp only [z, if_true]; exact Or.inl ⟨by trivial, by trivial⟩
      · simp only [z, if_false]; exact Or.inr ⟨by trivial, by trivial⟩
    · rw [lK, lL, lH, pk_us (f := y_lookups), show 14 * (w + 1) = 14 * w + 14 from by omega]
      refine Fr_mb W (Fr_fk F) h14 ?_
      have ef : f = 1 ∨ f = 2 := by have := ho.1; omega
      rcases ef with rfl | rfl
      · exact Or.inr ⟨rfl, rfl⟩
      · exact Or.inl ⟨rfl, rfl⟩
    · intro j hj
      have nz : ¬ ((if f = 1 then 14 * w else 14 * w + 14) ≤ j) := by split <;> omega
      have nn : ¬ ((if f = 1 then 14 * w + 14 else 14 * w) ≤ j) := by split <;> omega
      refine ⟨?_, ?_, ?_⟩
      · unfold mbK; rw [if_neg (fun z => nz z.1), if_neg (fun z => nn z.1)]; exact fk_lo _ (by omega)
      · unfold mbL; rw [if_neg (by rintro ⟨z | z, -⟩; exact nz z.1; exact nn z.1)]; exact fk_lo _ (by omega)
      · unfold mbL; rw [if_neg (by rintro ⟨z | z, -⟩; exact nz z.1; exact nn z.1)]; exact fk_lo _ (by omega)
    · rw [pk_un (by omega)]; exact hl
    · rw [pk_us]; exact hl
/-- both ways, and one of them is told that n bytes are safe -/
theorem yj_bd {y_place : Int32} {y_least : Int64} {y_most : Int64} {y_smallest : Int64} {y_greatest : Int64} {y_ways : Int32} {y_fault : Int32} {y_base : Int32} {y_otherKind : Int32} {y_otherLo : Int64} {y_otherHi : Int64} {y_low : Int64} {y_high : Int64} {y_bytes : Int32} {y_steps : Int32} {y_op : Nat → Int32} {y_first : Nat → Int32} {y_second : Nat → Int32} {y_offset : Nat → Int32} {y_given : Nat → Int32} {y_length : Nat → Int32} {y_there : Nat → Int32} {y_known : Nat → Int32} {y_lo : Nat → Int64} {y_hi : Nat → Int64} {y_at : Nat → Int32} {y_lookups : Nat → Int32} {y_safe : Nat → Int32} {y_met : Nat → Int32} {y_tag : Nat → Int32} {y_word : Nat → Int64} {y_packet : Nat → Int32} {y_keys : Nat → Int64} {y_values : Nat → Int64} {y_many : Nat → Int32} {a w n sn V : Nat} {at0 : Int32} {post : SY → Prop} {SG SN : Int64} (ha : a < 40) (w12 : w + 1 < 12) (hn : n ≤ 256) (hsn : sn ≤ 256) (es : y_safe w = nI sn) (hl : vp_nar .byte (y_lookups w) = y_lookups w) (W : WF_ K L H S) (F : Fr_ K L H y_known y_lo y_hi (14 * w) (y_lookups w)) (eV : V = if at0 = 0 then w + 1 else w) (eG : SG = if at0 = 0 then lN sn else ra_S (lN sn) (lN n)) (eN : SN = if at0 = 0 then ra_S (lN sn) (lN n) else lN sn) (P : (∀ (e1 : Int32) (e2 e3 e4 e5 : Int64) (kn : Nat → Int32) (lo hi : Nat → Int64) (lk sf : Nat → Int32), Fr_ K L H kn lo hi (14 * w) (lk w) → Fr_ K L H kn lo hi (14 * (w + 1)) (lk (w + 1)) → (∀ j, j < 14 * w → kn j = y_known j ∧ lo j = y_lo j ∧ hi j = y_hi j) → (∀ j, j < w → lk j = y_lookups j ∧ sf j = y_safe j) → vp_nar .byte (lk w) = lk w → vp_nar .byte (lk (w + 1)) = lk (w + 1) → (sf w).toInt64 = SG → (sf (w + 1)).toInt64 = SN → post (y_place, y_least, y_most, y_smallest, y_greatest, nI (w + 2), y_fault, nI (14 * w), e1, e2, e3, e4, e5, y_bytes, y_steps, y_op, y_first, y_second, y_offset, y_given, y_length, y_there, kn, lo, hi, upd (upd y_at w (nI (gm_ a g))) (w + 1) (nI (a + 1)), lk, sf, y_met, y_tag, y_word, y_packet, y_keys, y_values, y_many))) : wpY_bounds post (y_place, y_least, y_most, y_smallest, y_greatest, nI (w + 1), y_fault, nI (14 * w), y_otherKind, y_otherLo, y_otherHi, y_low, y_high, y_bytes, y_steps, y_op, y_first, y_second, y_offset, y_given, y_length, y_there, y_known, y_lo, y_hi, y_at, y_lookups, y_safe, y_met, y_tag, y_word, y_packet, y_keys, y_values, y_many) (lN n) at0 (nI (gm_ a g)) (nI (a + 1)) := by
  have g40 : gm_ a g ≤ 40 := by unfold gm_; split <;> omega
  refine yv_bounds w12 (by omega) (by omega) hn hsn (Fr_k7 W F) es hl eV ?_
  have v256 : (if n ≤ sn then sn else n) ≤ 256 := by split <;> omega
  refine P _ _ _ _ _ _ _ _ _ _ ?_ ?_ (fun j hj => ⟨fk_lo _ (by omega), fk_lo _ (by omega), fk_lo _ (by omega)⟩) (fun j hj => ⟨pk_un (by omega), ?_⟩) ?_ ?_ ?_ ?_
  · rw [pk_un (f := y_lookups) (show ¬ w = w + 1 by omega)]; exact Fr_fl F
  · rw [pk_us (f := y_lookups), show 14 * (w + 1) = 14 * w + 14 from by omega]; exact Fr_fk F
  · rw [pk_un (by rw [eV]; split <;> omega), pk_un (by omega)]
  · rw [pk_un (by omega)]; exact hl
  · rw [pk_us]; exact hl
  · by_cases z : at0 = 0
    · rw [if_pos z] at eG eV
      rw [eV, pk_un (by omega), pk_un (by omega), es, eG, nI_l (by omega)]
    · rw [if_neg z] at eG eV
      rw [eV, pk_us, eG, ra_N (by omega) (by omega), nI_l (by omega)]
  · by_cases z : at0 = 0
    · rw [if_pos z] at eN eV
      rw [eV, pk_us, eN, ra_N (by omega) (by omega), nI_l (by omega)]
    · rw [if_neg z] at eN eV
      rw [eV, pk_un (by omega), pk_us, eN, nI_l (by omega)]
theorem yj_PB (ho : oj_ o f) (hg : g < 2 ^ 31) (eg' : off = nI g) (hd : d < 8) (hs : s < 9) (W : WF_ K L H S) (n9 : nine_ o (imm.toInt64 &&& 4294967295) K L H) (k1 : K d = 2) (f3 : 3 ≤ f) (k2 : K (q9_ o s) = 3) {q : Nat} (eq : q = q9_ o s) : YB_ o d s off imm g K L H S (ln_K f d K) (ln_L f d q K L H) (ln_H f d q K L H) (ln_S f d q K L S) (ln_K (op_ f) d K) (ln_L (op_ f) d q K L H) (ln_H (op_ f) d q K L H) (ln_S (op_ f) d q K L S) := by
  subst eq
  intro y_place y_least y_most y_smallest y_greatest y_ways y_fault y_base y_otherKind y_otherLo y_otherHi y_low y_high y_bytes y_steps y_op y_first y_second y_offset y_given y_length y_there y_known y_lo y_hi y_at y_lookups y_safe y_met y_tag y_word y_packet y_keys y_values y_many i a w post hi ha hw eo e1 e2 eof eg eat F eS hl w12 P
  obtain ⟨sn, hsn, eSn⟩ := W.2.2.2.2
  obtain ⟨p, b, pb, hb, ep, eb⟩ := (W.1 d (by omega)).2.2.1 k1
  have sfw := sf_n (eS.trans eSn) hsn
  have lK : ∀ f', ln_K f' d K = K := by intro f'; unfold ln_K; rw [if_neg (by rw [k1]; decide)]
  have lL : ∀ f', ln_L f' d (q9_ o s) K L H = L := by intro f'; unfold ln_L; rw [if_neg (by rw [k1]; simp)]
  have lH : ∀ f', ln_H f' d (q9_ o s) K L H = H := by intro f'; unfold ln_H; rw [if_neg (by rw [k1]; simp)]
  have lS : ∀ f', ln_S f' d (q9_ o s) K L S = if f' = 3 then ra_S (lN sn) (lN (p + 1)) else lN sn := by
    intro f'; unfold ln_S
    rw [k1, ep, lN_1, eSn]
    by_cases z : f' = 3
    · rw [if_pos ⟨rfl, z⟩, if_pos z]
    · rw [if_neg (fun y => z y.2), if_neg (by simp), if_neg z]
  have td := F d (by omega)
  rw [g_lo hd] at td
  refine yj_op (y_base := y_base) (y_ways := y_ways) hi ha hw eo e1 e2 eof eg F ho hg eg' hd hs W n9 (by rw [k1]; decide) (by rw [k2]; decide) (by rw [k1]; decide) (fun c2 l2 h2 t2 => ?_)
  rw [k1]
  refine yv_j182P (by omega) f3 ho.2.1 (t2.1.trans k2) ?_
  rw [(td.2.1 (Or.inr k1)).1, ep, lN_1]
  rw [lK, lK, lL, lL, lH, lH] at P
  have ef : f = 3 ∨ f = 4 := by have := ho.2.1; omega
  refine yj_bd (y_base := y_base) (y_ways := y_ways) ha w12 (by omega) hsn sfw hl W F rfl ?_ ?_ P
  · rw [lS]; rcases ef with rfl | rfl <;> rfl
  · rw [lS]; rcases ef with rfl | rfl <;> rfl
theorem yj_EB (ho : oj_ o f) (hg : g < 2 ^ 31) (eg' : off = nI g) (hd : d < 8) (hs : s < 9) (W : WF_ K L H S) (n9 : nine_ o (imm.toInt64 &&& 4294967295) K L H) (k1 : K d = 3) (f3 : 3 ≤ f) (k2 : K (q9_ o s) = 2) {q : Nat} (eq : q = q9_ o s) : YB_ o d s off imm g K L H S (ln_K f d K) (ln_L f d q K L H) (ln_H f d q K L H) (ln_S f d q K L S) (ln_K (op_ f) d K) (ln_L (op_ f) d q K L H) (ln_H (op_ f) d q K L H) (ln_S (op_ f) d q K L S) := by
  subst eq
  intro y_place y_least y_most y_smallest y_greatest y_ways y_fault y_base y_otherKind y_otherLo y_otherHi y_low y_high y_bytes y_steps y_op y_first y_second y_offset y_given y_length y_there y_known y_lo y_hi y_at y_lookups y_safe y_met y_tag y_word y_packet y_keys y_values y_many i a w post hi ha hw eo e1 e2 eof eg eat F eS hl w12 P
  obtain ⟨sn, hsn, eSn⟩ := W.2.2.2.2
  obtain ⟨p, b, pb, hb, ep, eb⟩ := (W.1 _ (q9_16 hs)).2.2.1 k2
  have sfw := sf_n (eS.trans eSn) hsn
  have lK : ∀ f', ln_K f' d K = K := by intro f'; unfold ln_K; rw [if_neg (by rw [k1]; decide)]
  have lL : ∀ f', ln_L f' d (q9_ o s) K L H = L := by intro f'; unfold ln_L; rw [if_neg (by rw [k1]; simp)]
  have lH : ∀ f', ln_H f' d (q9_ o s) K L H = H := by intro f'; unfold ln_H; rw [if_neg (by rw [k1]; simp)]
  have lS : ∀ f', ln_S f' d (q9_ o s) K L S = if f' = 4 then ra_S (lN sn) (lN p) else lN sn := by
    intro f'; unfold ln_S
    rw [k1, ep, eSn]
    by_cases z : f' = 4
    · rw [if_neg (by simp), if_pos ⟨rfl, z⟩, if_pos z]
    · rw [if_neg (by simp), if_neg (fun y => z y.2), if_neg z]
  refine yj_op (y_base := y_base) (y_ways := y_ways) hi ha hw eo e1 e2 eof eg F ho hg eg' hd hs W n9 (by rw [k1]; decide) (by rw [k2]; decide) (by rw [k1]; decide) (fun c2 l2 h2 t2 => ?_)
  rw [k1]
  refine yv_j182E f3 ho.2.1 (t2.1.trans k2) ?_
  rw [(t2.2.1 (Or.inr k2)).1, ep]
  rw [lK, lK, lL, lL, lH, lH] at P
  have ef : f = 3 ∨ f = 4 := by have := ho.2.1; omega
  refine yj_bd (y_base := y_base) (y_ways := y_ways) ha w12 (by omega) hsn sfw hl W F rfl ?_ ?_ P
  · rw [lS]; rcases ef with rfl | rfl <;> rfl
  · rw [lS]; rcases ef with rfl | rfl <;> rfl
end
