section
variable {o off imm : Int32} {d s f g : Nat} {K : Nat → Int32} {L H : Nat → Int64} {S : Int64}
theorem yj_SG (ho : oj_ o f) (hg : g < 2 ^ 31) (eg' : off = nI g) (hd : d < 8) (hs : s < 9) (W : WF_ K L H S) (n9 : nine_ o (imm.toInt64 &&& 4294967295) K L H) (k1 : K d = 1) (k2 : K (q9_ o s) = 1) (m : ¬ my_ (op_ f) d (q9_ o s) K L H) : YG_ o d s off imm g K L H S := by
  intro y_place y_least y_most y_smallest y_greatest y_ways y_fault y_base y_otherKind y_otherLo y_otherHi y_low y_high y_bytes y_steps y_op y_first y_second y_offset y_given y_length y_there y_known y_lo y_hi y_at y_lookups y_safe y_met y_tag y_word y_packet y_keys y_values y_many i a w post hi ha hw eo e1 e2 eof eg eat F eS hl P
  obtain ⟨p, b, pb, hb, ep, eb⟩ := (W.1 d (by omega)).2.1 k1
  obtain ⟨c, e, ce, he, ec, ee⟩ := (W.1 _ (q9_16 hs)).2.1 k2
  have m' : ¬ mN_ (op_ f) p b c e := by
    intro z; apply m; intro _
    rw [ep, eb, ec, ee]; exact (mh_N pb hb ce he).mpr z
  have y' := mN_op ho.1 ho.2.1 pb ce m'
  obtain ⟨o1, o4⟩ := op_r ho.1 ho.2.1
  refine yj_S (y_base := y_base) (y_ways := y_ways) hi ha hw eo e1 e2 eof eg F ho hg eg' hd hs W n9 k1 k2 ep eb ec ee (fun ul uh => ?_)
  have g40 : gm_ a g ≤ 40 := by unfold gm_; split <;> omega
  refine yv_scG hw (by omega) (by omega) ho.1 ho.2.1 ?_ ?_ (fun q => ?_) (P _ _ _ _ _)
  · rw [ul, uh]; exact (mh_yg ho.1 ho.2.1 pb hb ce he).mpr ((mh_N pb hb ce he).mpr y')
  · rw [ul, uh]; exact fun z => m' ((mh_N pb hb ce he).mp ((mh_yg o1 o4 pb hb ce he).mp z))
  · rw [ul, uh]
    have q' := (pk_lEQ (by omega) (by omega)).mp q
    subst q'
    exact yc_no ho.1 ho.2.1 pb hb he y' m'
theorem yj_SN (ho : oj_ o f) (hg : g < 2 ^ 31) (eg' : off = nI g) (hd : d < 8) (hs : s < 9) (W : WF_ K L H S) (n9 : nine_ o (imm.toInt64 &&& 4294967295) K L H) (k1 : K d = 1) (k2 : K (q9_ o s) = 1) (m : my_ (op_ f) d (q9_ o s) K L H) (m2 : ¬ my_ f d (q9_ o s) K L H) : YP_ o d s off imm K L H S 0 K L H := by
  intro y_place y_least y_most y_smallest y_greatest y_ways y_fault y_base y_otherKind y_otherLo y_otherHi y_low y_high y_bytes y_steps y_op y_first y_second y_offset y_given y_length y_there y_known y_lo y_hi y_at y_lookups y_safe y_met y_tag y_word y_packet y_keys y_values y_many i a w post hi ha hw eo e1 e2 eof eg eat F eS hl hE hO
  obtain ⟨p, b, pb, hb, ep, eb⟩ := (W.1 d (by omega)).2.1 k1
  obtain ⟨c, e, ce, he, ec, ee⟩ := (W.1 _ (q9_16 hs)).2.1 k2
  have y' : mN_ (op_ f) p b c e := by
    have := m k1
    rw [ep, eb, ec, ee] at this; exact (mh_N pb hb ce he).mp this
  have m' : ¬ mN_ f p b c e := by
    intro z; apply m2; intro _
    rw [ep, eb, ec, ee]; exact (mh_N pb hb ce he).mpr z
  obtain ⟨o1, o4⟩ := op_r ho.1 ho.2.1
  refine yj_S (y_base := y_base) (y_ways := y_ways) hi ha hw eo e1 e2 eof eg F ho hg eg' hd hs W n9 k1 k2 ep eb ec ee (fun ul uh => ?_)
  refine yv_scS hw (by omega) (by omega) ho.1 ho.2.1 ?_ ?_ (fun q => ?_) (hO rfl _ _ _ _ _ _ _ _ _ F (fun j hj => ⟨rfl, rfl, rfl⟩) (fun _ _ => rfl) hl)
  · rw [ul, uh]; exact fun z => m' ((mh_N pb hb ce he).mp ((mh_yg ho.1 ho.2.1 pb hb ce he).mp z))
  · rw [ul, uh]; exact (mh_yg o1 o4 pb hb ce he).mpr ((mh_N pb hb ce he).mpr y')
  · rw [ul, uh]
    have q' := (pk_lEQ (by omega) (by omega)).mp q
    subst q'
    exact yc_no o1 o4 pb hb he y' (by rw [op_op ho.1 ho.2.1]; exact m')
/-- the frame that fork makes -/
theorem Fr_fk {kn : Nat → Int32} {lo hi : Nat → Int64} {B : Nat} {m : Int32} (F : Fr_ K L H kn lo hi B m) : Fr_ K L H (fk_ kn B 14) (fk_ lo B 14) (fk_ hi B 14) (B + 14) m := by
  intro r hr
  rw [fk_hi kn hr, fk_hi lo hr, fk_hi hi hr]; exact F r hr
theorem Fr_fl {kn : Nat → Int32} {lo hi : Nat → Int64} {B : Nat} {m : Int32} (F : Fr_ K L H kn lo hi B m) : Fr_ K L H (fk_ kn B 14) (fk_ lo B 14) (fk_ hi B 14) B m := by
  intro r hr
  rw [fk_lo kn (by omega), fk_lo lo (by omega), fk_lo hi (by omega)]; exact F r hr
theorem Fr_k7 {kn : Nat → Int32} {lo hi : Nat → Int64} {B : Nat} {m : Int32} (W : WF_ K L H S) (F : Fr_ K L H kn lo hi B m) : ∀ r, r < 14 → k7_ (kn (B + r)) := by
  intro r hr
  rw [(F r hr).1]; exact (W.1 _ (g_16 hr)).1
theorem sf_n {x : Int32} {n : Nat} (h : x.toInt64 = lN n) (hn : n ≤ 256) : x = nI n := by
  have : x.toInt = (n : Int) := by
    have e := congrArg Int64.toInt h
    rw [Int32.toInt_toInt64, pk_lT (by omega)] at e; exact e
  apply Int32.toInt_inj.mp
  rw [this, nI_toInt (by omega)]
theorem yj_SB (ho : oj_ o f) (hg : g < 2 ^ 31) (eg' : off = nI g) (hd : d < 8) (hs : s < 9) (W : WF_ K L H S) (n9 : nine_ o (imm.toInt64 &&& 4294967295) K L H) (k1 : K d = 1) (k2 : K (q9_ o s) = 1) (m : my_ (op_ f) d (q9_ o s) K L H) (m2 : my_ f d (q9_ o s) K L H) {q : Nat} (eq : q = q9_ o s) : YB_ o d s off imm g K L H S (ln_K f d K) (ln_L f d q K L H) (ln_H f d q K L H) (ln_S f d q K L S) (ln_K (op_ f) d K) (ln_L (op_ f) d q K L H) (ln_H (op_ f) d q K L H) (ln_S (op_ f) d q K L S) := by
  subst eq
  intro y_place y_least y_most y_smallest y_greatest y_ways y_fault y_base y_otherKind y_otherLo y_otherHi y_low y_high y_bytes y_steps y_op y_first y_second y_offset y_given y_length y_there y_known y_lo y_hi y_at y_lookups y_safe y_met y_tag y_word y_packet y_keys y_values y_many i a w post hi ha hw eo e1 e2 eof eg eat F eS hl w12 P
  obtain ⟨p, b, pb, hb, ep, eb⟩ := (W.1 d (by omega)).2.1 k1
  obtain ⟨c, e, ce, he, ec, ee⟩ := (W.1 _ (q9_16 hs)).2.1 k2
  have y1 : mN_ (op_ f) p b c e := by
    have := m k1
    rw [ep, eb, ec, ee] at this; exact (mh_N pb hb ce he).mp this
  have y2 : mN_ f p b c e := by
    have := m2 k1
    rw [ep, eb, ec, ee] at this; exact (mh_N pb hb ce he).mp this
  obtain ⟨o1, o4⟩ := op_r ho.1 ho.2.1
  obtain ⟨sn, hsn, eSn⟩ := W.2.2.2.2
  have sfw := sf_n (eS.trans eSn) hsn
  have g40 : gm_ a g ≤ 40 := by unfold gm_; split <;> omega
  have lK : ∀ f', ln_K f' d K = K := by intro f'; unfold ln_K; rw [if_neg (by rw [k1]; decide)]
  have lS : ∀ f', ln_S f' d (q9_ o s) K L S = S := by intro f'; unfold ln_S; rw [k1, if_neg (by simp), if_neg (by simp)]
  refine yj_S (y_base := y_base) (y_ways := y_ways) hi ha hw eo e1 e2 eof eg F ho hg eg' hd hs W n9 k1 k2 ep eb ec ee (fun ul uh => ?_)
  refine yv_scB w12 (by omega) (by omega) (by omega) ho.1 ho.2.1 (Fr_k7 W F) (by rw [sfw]; exact xb_vs (by omega)) hl ?_ ?_ rfl rfl ?_
  · rw [ul, uh]; exact (mh_yg ho.1 ho.2.1 pb hb ce he).mpr ((mh_N pb hb ce he).mpr y2)
  · rw [ul, uh]; exact (mh_yg o1 o4 pb hb ce he).mpr ((mh_N pb hb ce he).mpr y1)
  · have sfE : (upd y_safe (w + 1) (y_safe w) w).toInt64 = S := by rw [pk_un (by omega)]; exact eS
    have sfE1 : (upd y_safe (w + 1) (y_safe w) (w + 1)).toInt64 = S := by rw [pk_us]; exact eS
    refine P _ _ _ _ _ _ _ _ _ _ ?_ ?_ ?_ (fun j hj => ⟨pk_un (by omega), pk_un (by omega)⟩) ?_ ?_ (by rw [lS]; exact sfE) (by rw [lS]; exact sfE1)
    · rw [lK, pk_un (f := y_lookups) (show ¬ w = w + 1 by omega)]
      by_cases z : lN c = lN e
      · have z' := (pk_lEQ (by omega) (by omega)).mp z
        subst z'
        have q1 : K d = 1 ∧ L (q9_ o s) = H (q9_ o s) := ⟨k1, by rw [ec, ee]⟩
        unfold ln_L ln_H
        rw [if_pos q1, if_pos q1, if_pos z, if_pos z, ul, uh, ep, eb, ec]
        obtain ⟨x1, x2⟩ := yc_cu ho.1 ho.2.1 pb hb he y2 y1
        rw [x1, x2]
        have G := Fr_upd (r := d) (Fr_fl F) (T_1 (l := cu_l f (lN c) (lN p) (lN b)) (h := cu_h f (lN c) (lN p) (lN b)))
        rw [g_lo hd, xb_updid k1, xb_updid (f := fk_ y_known (14 * w) 14)] at G
        · intro r hr
          have t := G r hr
          rw [pk_uLn (k := 14 * w + 14 + d) (by omega), pk_uLn (k := 14 * w + 14 + d) (by omega)]
          exact t
        · rw [fk_lo _ (by omega)]
          have td := F d (by omega)
          rw [g_lo hd] at td
          exact td.1.trans k1
      · have q1 : ¬ (K d = 1 ∧ L (q9_ o s) = H (q9_ o s)) := by rintro ⟨-, z'⟩; rw [ec, ee] at z'; exact z z'
        unfold ln_L ln_H
        rw [if_neg q1, if_neg q1, if_neg z, if_neg z]
        exact Fr_fl F
    · rw [lK, pk_us (f := y_lookups), show 14 * (w + 1) = 14 * w + 14 from by omega]
      by_cases z : lN c = lN e
      · have z' := (pk_lEQ (by omega) (by omega)).mp z
        subst z'
        have q1 : K d = 1 ∧ L (q9_ o s) = H (q9_ o s) := ⟨k1, by rw [ec, ee]⟩
        unfold ln_L ln_H
        rw [if_pos q1, if_pos q1, if_pos z, if_pos z, ul, uh, ep, eb, ec]
        obtain ⟨x1, x2⟩ := yc_cu o1 o4 pb hb he y1 (by rw [op_op ho.1 ho.2.1]; exact y2)
        rw [x1, x2]
        have F2 : Fr_ K L H (fk_ y_known (14 * w) 14) (vp_updL (fk_ y_lo (14 * w) 14) (14 * w + d) (yc_l f (lN c) (lN p) (lN b))) (vp_updL (fk_ y_hi (14 * w) 14) (14 * w + d) (yc_h f (lN c) (lN p) (lN b))) (14 * w + 14) (y_lookups w) := by
          intro r hr
          rw [pk_uLn (by omega), pk_uLn (by omega)]
          exact Fr_fk F r hr
        have G := Fr_upd (r := d) F2 (T_1 (l := cu_l (op_ f) (lN c) (lN p) (lN b)) (h := cu_h (op_ f) (lN c) (lN p) (lN b)))
        rw [g_lo hd, xb_updid k1, xb_updid (f := fk_ y_known (14 * w) 14)] at G
        · exact G
        · rw [fk_hi _ (by omega)]
          have td := F d (by omega)
          rw [g_lo hd] at td
          exact td.1.trans k1
      · have q1 : ¬ (K d = 1 ∧ L (q9_ o s) = H (q9_ o s)) := by rintro ⟨-, z'⟩; rw [ec, ee] at z'; exact z z'
        unfold ln_L ln_H
        rw [if_neg q1, if_neg q1, if_neg z, if_neg z]
        exact Fr_fk F
    · intro j hj
      refine ⟨fk_lo _ (by omega), ?_, ?_⟩
      · split
        · rw [pk_uLn (by omega), pk_uLn (by omega)]; exact fk_lo _ (by omega)
        · exact fk_lo _ (by omega)
      · split
        · rw [pk_uLn (by omega), pk_uLn (by omega)]; exact fk_lo _ (by omega)
        · exact fk_lo _ (by omega)
    · rw [pk_un (by omega)]; exact hl
    · rw [pk_us]; exact hl
end
