theorem su_and (n : Nat) : lN n &&& 4294967295 = lN (n % 2 ^ 32) := by
  apply uN_inj
  have u : ∀ k : Nat, uN (lN k) = k % 2 ^ 64 := fun k => by
    show (UInt64.ofNat k).toNat = _
    rw [UInt64.toNat_ofNat']
  rw [uN_lo, u, u]
  omega
theorem su_andw {n : Nat} (h : n < 2 ^ 32) : lN n &&& 4294967295 = lN n := by rw [su_and, Nat.mod_eq_of_lt h]
theorem su_wd (x : Int64) : wd_ (x &&& 4294967295) := by
  obtain ⟨m, hm, e⟩ := pf_andw x
  exact ⟨m, hm, e⟩
/-- what the run makes of two words lies in what the verifier makes of two intervals -/
theorem su_in {f a b c e n m : Nat} (h1 : 1 ≤ f) (h6 : f ≤ 6) (an : a ≤ n) (nb : n ≤ b) (hb : b < 2 ^ 32) (cm : c ≤ m) (me : m ≤ e) (he : e < 2 ^ 32) : inb_ (ab_l (cb_l (nI f) (lN a) (lN b) (lN c) (lN e)) (cb_h (nI f) (lN a) (lN b) (lN c) (lN e))) (ab_h (cb_l (nI f) (lN a) (lN b) (lN c) (lN e)) (cb_h (nI f) (lN a) (lN b) (lN c) (lN e))) (rw_ f (lN n) (lN m) &&& 4294967295) := by
  by_cases ok : ab_ok (cb_l (nI f) (lN a) (lN b) (lN c) (lN e)) (cb_h (nI f) (lN a) (lN b) (lN c) (lN e))
  · rw [ab_l_t ok, ab_h_t ok]
    have ef : f = 1 ∨ f = 2 ∨ f = 3 ∨ f = 4 ∨ f = 5 ∨ f = 6 := by omega
    rcases ef with rfl | rfl | rfl | rfl | rfl | rfl
    · rw [cb_1.1, cb_1.2, lN_add, lN_add] at ok ⊢
      rw [pu_ok (by omega) (by omega)] at ok
      have er : rw_ 1 (lN n) (lN m) = lN (n + m) := by unfold rw_; rw [if_pos rfl, lN_add]
      rw [er, su_andw (by omega)]
      exact ⟨a + c, n + m, b + e, by omega, by omega, by omega, rfl, rfl, rfl⟩
    · rw [cb_2.1, cb_2.2] at ok ⊢
      have h := ok.1
      rw [pu_sub0 (by omega) (by omega)] at h
      have er : rw_ 2 (lN n) (lN m) = lN (n - m) := by unfold rw_; rw [if_neg (by decide), if_pos rfl, lN_sub (by omega)]
      rw [lN_sub (by omega), lN_sub (by omega), er, su_andw (by omega)]
      exact ⟨a - e, n - m, b - c, by omega, by omega, by omega, rfl, rfl, rfl⟩
    · rw [cb_3.1, cb_3.2, lN_mul, lN_mul] at ok ⊢
      have m1 := cb_mulN hb he
      have q1 : a * c ≤ n * m := Nat.mul_le_mul an cm
      have q2 : n * m ≤ b * e := Nat.mul_le_mul nb me
      have h3 : b * e < 2 ^ 63 := by
        apply Classical.byContradiction
        intro z
        exact ok.2.2.1 (cb_big m1 (by omega))
      rw [pu_ok (by omega) h3] at ok
      have er : rw_ 3 (lN n) (lN m) = lN (n * m) := by unfold rw_; rw [if_neg (by decide), if_neg (by decide), if_pos rfl, lN_mul]
      rw [er, su_andw (by omega)]
      exact ⟨a * c, n * m, b * e, q1, q2, by omega, rfl, rfl, rfl⟩
    · rw [cb_4.1, cb_4.2]
      have er : rw_ 4 (lN n) (lN m) = lN (n &&& m) := by unfold rw_; rw [if_neg (by decide), if_neg (by decide), if_neg (by decide), if_pos rfl, wb_and (by omega) (by omega)]
      have q1 : n &&& m ≤ n := Nat.and_le_left
      have q2 : n &&& m ≤ m := Nat.and_le_right
      rw [er, su_andw (by omega)]
      split
      · exact ⟨0, n &&& m, e, by omega, by omega, he, rfl, rfl, rfl⟩
      · exact ⟨0, n &&& m, b, by omega, by omega, hb, rfl, rfl, rfl⟩
    · rw [cb_5.1, cb_5.2, pu_or hb he]
      obtain ⟨k, hk, h2, h3⟩ := on_ex (pu_orlt hb he)
      have pm : 2 ^ k ≤ 2 ^ 32 := Nat.pow_le_pow_right (by decide) hk
      have l1 : b ≤ b ||| e := Nat.left_le_or
      have l2 : e ≤ b ||| e := Nat.right_le_or
      have er : rw_ 5 (lN n) (lN m) = lN (n ||| m) := by unfold rw_; rw [if_neg (by decide), if_neg (by decide), if_neg (by decide), if_neg (by decide), if_pos rfl, wb_or (by omega) (by omega)]
      have q1 : n ≤ n ||| m := Nat.left_le_or
      have q2 : m ≤ n ||| m := Nat.right_le_or
      have q3 : n ||| m < 2 ^ k := Nat.or_lt_two_pow (by omega) (by omega)
      rw [h2, er, su_andw (by omega)]
      split
      · exact ⟨c, n ||| m, 2 ^ k - 1, by omega, by omega, by omega, rfl, rfl, rfl⟩
      · exact ⟨a, n ||| m, 2 ^ k - 1, by omega, by omega, by omega, rfl, rfl, rfl⟩
    · rw [cb_6.1, cb_6.2]
      have er : rw_ 6 (lN n) (lN m) = sh_r (lN n) (lN m) := by unfold rw_; rw [if_neg (by decide), if_neg (by decide), if_neg (by decide), if_neg (by decide), if_neg (by decide)]
      obtain ⟨d, hd⟩ := pu_sh (lN m)
      have q1 : n / 2 ^ d ≤ n := Nat.div_le_self _ _
      rw [er, hd n (by omega), su_andw (by omega)]
      split
      · next z =>
        have z' := (pk_lEQ (by omega) (by omega)).mp z
        have : m = c := by omega
        subst this
        rw [hd a (by omega), hd b hb]
        have q2 : b / 2 ^ d ≤ b := Nat.div_le_self _ _
        exact ⟨a / 2 ^ d, n / 2 ^ d, b / 2 ^ d, Nat.div_le_div_right an, Nat.div_le_div_right nb, by omega, rfl, rfl, rfl⟩
      · exact ⟨0, n / 2 ^ d, b, Nat.zero_le _, by omega, hb, rfl, rfl, rfl⟩
  · rw [ab_l_f ok, ab_h_f ok]
    obtain ⟨k, hk, e⟩ := su_wd (rw_ f (lN n) (lN m))
    rw [e]
    exact ⟨0, k, 4294967295, by omega, by omega, by omega, rfl, rfl, rfl⟩
theorem su_rx {f n m : Nat} (h1 : 1 ≤ f) (h6 : f ≤ 6) (hn : n < 2 ^ 32) (hm : m < 2 ^ 32) : rx_ f (lN n) (lN m) = rw_ f (lN n) (lN m) &&& 4294967295 := by
  unfold rx_
  rw [if_neg (by omega)]
  by_cases z : f ≤ 3
  · rw [if_pos z]
  · rw [if_neg z]
    have ef : f = 4 ∨ f = 5 ∨ f = 6 := by omega
    rcases ef with rfl | rfl | rfl
    · have er : rw_ 4 (lN n) (lN m) = lN (n &&& m) := by unfold rw_; rw [if_neg (by decide), if_neg (by decide), if_neg (by decide), if_pos rfl, wb_and (by omega) (by omega)]
      have q1 : n &&& m ≤ n := Nat.and_le_left
      rw [er, su_andw (by omega)]
    · have er : rw_ 5 (lN n) (lN m) = lN (n ||| m) := by unfold rw_; rw [if_neg (by decide), if_neg (by decide), if_neg (by decide), if_neg (by decide), if_pos rfl, wb_or (by omega) (by omega)]
      rw [er, su_andw (Nat.or_lt_two_pow hn hm)]
    · have er : rw_ 6 (lN n) (lN m) = sh_r (lN n) (lN m) := by unfold rw_; rw [if_neg (by decide), if_neg (by decide), if_neg (by decide), if_neg (by decide), if_neg (by decide)]
      obtain ⟨d, hd⟩ := pu_sh (lN m)
      have q1 : n / 2 ^ d ≤ n := Nat.div_le_self _ _
      rw [er, hd n (by omega), su_andw (by omega)]
theorem su_mask (z y : Int64) : ((z &&& 4294967295) + y) &&& 4294967295 = (z + y) &&& 4294967295 := by
  apply uN_inj
  rw [uN_lo, uN_add, uN_lo, uN_lo, uN_add]
  omega
theorem su_masks (z y : Int64) : ((z &&& 4294967295) - y) &&& 4294967295 = (z - y) &&& 4294967295 := by
  rw [Int64.sub_eq_add_neg, Int64.sub_eq_add_neg, su_mask]
def XS_ (o : Int32) (d s : Nat) (off imm : Int32) (b : Nat) (pX : Nat → Int32) (rg ce kw : Nat → Int64) (kt : Nat → Int32) (r : Int32) (rg' ce' kw' : Nat → Int64) (kt' : Nat → Int32) : Prop := ∀ (x_safe : Int64) (x_at : Int32) (x_exitLeast : Int64) (x_exitMost : Int64) (x_branches : Int32) (x_faultPlace : Int32) (x_provedLeast : Int64) (x_provedMost : Int64) (x_packetLength : Int32) (x_executed : Int32) (x_ops : Nat → Int32) (x_targets : Nat → Int32) (x_sources : Nat → Int32) (x_offsets : Nat → Int32) (x_immediates : Nat → Int32) (x_lengths : Nat → Int32) (x_kinds : Nat → Int32) (x_los : Nat → Int64) (x_his : Nat → Int64) (x_reached : Nat → Int32) (x_branchAt : Nat → Int32) (x_branchSafe : Nat → Int64) (x_branchKinds : Nat → Int32) (x_branchLos : Nat → Int64) (x_branchHis : Nat → Int64) (x_packet : Nat → Int32) (x_registers : Nat → Int64) (x_cells : Nat → Int64) (x_keyWords : Nat → Int64) (x_keyTaken : Nat → Int32) (i : Nat) (post : Int32 → SX → Prop), i < 120 → x_ops i = o → x_targets i = nI d → x_sources i = nI s → x_offsets i = off → x_immediates i = imm → post r (x_safe, x_at, x_exitLeast, x_exitMost, x_branches, x_faultPlace, x_provedLeast, x_provedMost, nI b, x_executed, x_ops, x_targets, x_sources, x_offsets, x_immediates, x_lengths, x_kinds, x_los, x_his, x_reached, x_branchAt, x_branchSafe, x_branchKinds, x_branchLos, x_branchHis, pX, rg', ce', kw', kt') → wpX_perform post (x_safe, x_at, x_exitLeast, x_exitMost, x_branches, x_faultPlace, x_provedLeast, x_provedMost, nI b, x_executed, x_ops, x_targets, x_sources, x_offsets, x_immediates, x_lengths, x_kinds, x_los, x_his, x_reached, x_branchAt, x_branchSafe, x_branchKinds, x_branchLos, x_branchHis, pX, rg, ce, kw, kt) (nI i)
def YS_ (o : Int32) (d s : Nat) (off imm : Int32) (b : Nat) (pY : Nat → Int32) (tg : Nat → Int32) (wd ks vs : Nat → Int64) (mn : Nat → Int32) (δ : Nat) (tg' : Nat → Int32) (wd' ks' vs' : Nat → Int64) (mn' : Nat → Int32) : Prop := ∀ (y_place : Int32) (y_least : Int64) (y_most : Int64) (y_smallest : Int64) (y_greatest : Int64) (y_ways : Int32) (y_fault : Int32) (y_base : Int32) (y_otherKind : Int32) (y_otherLo : Int64) (y_otherHi : Int64) (y_low : Int64) (y_high : Int64) (y_bytes : Int32) (y_steps : Int32) (y_op : Nat → Int32) (y_first : Nat → Int32) (y_second : Nat → Int32) (y_offset : Nat → Int32) (y_given : Nat → Int32) (y_length : Nat → Int32) (y_there : Nat → Int32) (y_known : Nat → Int32) (y_lo : Nat → Int64) (y_hi : Nat → Int64) (y_at : Nat → Int32) (y_lookups : Nat → Int32) (y_safe : Nat → Int32) (y_met : Nat → Int32) (y_tag : Nat → Int32) (y_word : Nat → Int64) (y_packet : Nat → Int32) (y_keys : Nat → Int64) (y_values : Nat → Int64) (y_many : Nat → Int32) (i a : Nat) (post : Int32 → SY → Prop), i < 120 → y_op i = o → y_first i = nI d → y_second i = nI s → y_offset i = off → y_given i = imm → post (nI (a + δ)) (y_place, y_least, y_most, y_smallest, y_greatest, y_ways, y_fault, y_base, y_otherKind, y_otherLo, y_otherHi, y_low, y_high, nI b, y_steps, y_op, y_first, y_second, y_offset, y_given, y_length, y_there, y_known, y_lo, y_hi, y_at, y_lookups, y_safe, y_met, tg', wd', pY, ks', vs', mn') → wpY_step post (y_place, y_least, y_most, y_smallest, y_greatest, y_ways, y_fault, y_base, y_otherKind, y_otherLo, y_otherHi, y_low, y_high, nI b, y_steps, y_op, y_first, y_second, y_offset, y_given, y_length, y_there, y_known, y_lo, y_hi, y_at, y_lookups, y_safe, y_met, tg, wd, pY, ks, vs, mn) (nI i) (nI a)
def SP_ (o : Int32) (d s : Nat) (off imm : Int32) (K : Nat → Int32) (L H : Nat → Int64) (S : Int64) (K' : Nat → Int32) (L' H' : Nat → Int64) : Prop := ∀ (π : Nat → Nat) (rg ce : Nat → Int64) (kt : Nat → Int32) (kw : Nat → Int64) (tg : Nat → Int32) (wd ks vs : Nat → Int64) (mn : Nat → Int32) (b : Nat) (pX pY : Nat → Int32), Con_ K L H S π rg ce kt kw tg wd ks vs mn b → b ≤ 24 → (∀ j, pX j = pY j &&& 255) → ∃ (π' : Nat → Nat) (rg' ce' : Nat → Int64) (kt' : Nat → Int32) (kw' : Nat → Int64) (tg' : Nat → Int32) (wd' ks' vs' : Nat → Int64) (mn' : Nat → Int32), Con_ K' L' H' S π' rg' ce' kt' kw' tg' wd' ks' vs' mn' b ∧ XS_ o d s off imm b pX rg ce kw kt 0 rg' ce' kw' kt' ∧ YS_ o d s off imm b pY tg wd ks vs mn 1 tg' wd' ks' vs' mn'
/-- the second operand of arithmetic and of jumps -/
noncomputable def so_ (o imm : Int32) (rg : Nat → Int64) (s : Nat) : Int64 := @ite _ (rg_ o) (Classical.propDecidable _) (rg s) (imm.toInt64 &&& 4294967295)
noncomputable def ts_ (o : Int32) (tg : Nat → Int32) (s : Nat) : Int32 := @ite _ (rg_ o) (Classical.propDecidable _) (if s = 8 then 4 else tg s) 1
noncomputable def ws_ (o imm : Int32) (wd : Nat → Int64) (s : Nat) : Int64 := @ite _ (rg_ o) (Classical.propDecidable _) (if s = 8 then 0 else wd s) (imm.toInt64 &&& 4294967295)
section
variable {o off imm : Int32} {d s f : Nat} {K : Nat → Int32} {L H : Nat → Int64} {S : Int64}
theorem xs_ar {b : Nat} {pX : Nat → Int32} {rg ce kw : Nat → Int64} {kt : Nat → Int32} (ho : oa_ o f) (hd : d < 8) (hs : s < 9) : XS_ o d s off imm b pX rg ce kw kt 0 (vp_updL rg d (rx_ f (rg d) (so_ o imm rg s))) ce kw kt := by
  intro x_safe x_at x_exitLeast x_exitMost x_branches x_faultPlace x_provedLeast x_provedMost x_packetLength x_executed x_ops x_targets x_sources x_offsets x_immediates x_lengths x_kinds x_los x_his x_reached x_branchAt x_branchSafe x_branchKinds x_branchLos x_branchHis x_packet x_registers x_cells x_keyWords x_keyTaken i post hi eo e1 e2 e3 e4 P
  refine xr_69 hi hs eo e1 e2 (sv := so_ o imm rg s) ?_ (xr_arith ho (by omega) P)
  obtain ⟨-, -, -, -, -, q | q⟩ := oa_f ho
  · rw [if_pos (Or.inl q.2.2)]; unfold so_; rw [if_pos q.1]
  · rw [if_neg (by rw [q.2.2]; decide), e4]; unfold so_; rw [if_neg q.1]
theorem ys_op {y_tag : Nat → Int32} {y_word : Nat → Int64} {y_given : Nat → Int32} {i : Nat} (hr : (rg_ o ↔ (¬ o < 10 ∧ o < 20) ∨ ¬ o ≤ 30)) (eg : y_given i = imm) : (¬ rg_ o ∧ ts_ o y_tag s = 1 ∧ ws_ o imm y_word s = (y_given i).toInt64 &&& 4294967295) ∨ (rg_ o ∧ s = 8 ∧ ts_ o y_tag s = 4 ∧ ws_ o imm y_word s = 0) ∨ (rg_ o ∧ ¬ s = 8 ∧ ts_ o y_tag s = y_tag s ∧ ws_ o imm y_word s = y_word s) := by
  unfold ts_ ws_
  by_cases r : rg_ o
  · rw [if_pos r, if_pos r]
    by_cases z : s = 8
    · rw [if_pos z, if_pos z]; exact Or.inr (Or.inl ⟨r, z, rfl, rfl⟩)
    · rw [if_neg z, if_neg z]; exact Or.inr (Or.inr ⟨r, z, rfl, rfl⟩)
  · rw [if_neg r, if_neg r, eg]; exact Or.inl ⟨r, rfl, rfl⟩
theorem oa_rg (ho : oa_ o f) : rg_ o ↔ (¬ o < 10 ∧ o < 20) ∨ ¬ o ≤ 30 := by
  obtain ⟨h6, h⟩ := ho
  have e : f = 0 ∨ f = 1 ∨ f = 2 ∨ f = 3 ∨ f = 4 ∨ f = 5 ∨ f = 6 := by omega
  unfold rg_
  rcases e with rfl | rfl | rfl | rfl | rfl | rfl | rfl <;> rcases h with rfl | rfl <;> decide
theorem sp_a0 (ho : oa_ o 0) (hd : d < 8) (hs : s < 9) (W : WF_ K L H S) (n9 : nine_ o (imm.toInt64 &&& 4294967295) K L H) (u : ¬ K (q9_ o s) = 0) : SP_ o d s off imm K L H S (upd K d (K (q9_ o s))) (vp_updL L d (L (q9_ o s))) (vp_updL H d (H (q9_ o s))) := by
  intro π rg ce kt kw tg wd ks vs mn b pX pY C hb hp
  have v := Con_q W n9 C hs
  refine ⟨π, _, ce, kt, kw, _, _, ks, vs, mn, Con_reg C hd v (Con_qu W n9 C hs), xs_ar ho hd hs, ?_⟩
  intro y_place y_least y_most y_smallest y_greatest y_ways y_fault y_base y_otherKind y_otherLo y_otherHi y_low y_high y_bytes y_steps y_op y_first y_second y_offset y_given y_length y_there y_known y_lo y_hi y_at y_lookups y_safe y_met y_tag y_word y_packet y_keys y_values y_many i a post hi eo e1 e2 e3 e4 P
  refine yr_114 hi hs eo e1 e2 (oa_rg ho) (ys_op (oa_rg ho) e4) (yr_arith0 ho (by omega) (V_t v (W.1 _ (q9_16 hs)).1 u) P)
theorem sp_aS (ho : oa_ o f) (h1 : 1 ≤ f) (hd : d < 8) (hs : s < 9) (W : WF_ K L H S) (n9 : nine_ o (imm.toInt64 &&& 4294967295) K L H) (k : K (q9_ o s) = 1) (k1 : K d = 1) {l h : Int64} (el : l = ab_l (cb_l (nI f) (L d) (H d) (L (q9_ o s)) (H (q9_ o s))) (cb_h (nI f) (L d) (H d) (L (q9_ o s)) (H (q9_ o s)))) (eh : h = ab_h (cb_l (nI f) (L d) (H d) (L (q9_ o s)) (H (q9_ o s))) (cb_h (nI f) (L d) (H d) (L (q9_ o s)) (H (q9_ o s)))) : SP_ o d s off imm K L H S K (vp_updL L d l) (vp_updL H d h) := by
  intro π rg ce kt kw tg wd ks vs mn b pX pY C hb hp
  have v := Con_q W n9 C hs
  have vd := Con_s W C (s := d) (by omega)
  rw [if_neg (by omega), if_neg (by omega)] at vd
  obtain ⟨t1, t2, a, n, c, an, nc, hc, ea, en, ec⟩ := vd.1 k1
  obtain ⟨s1, s2, p, m, e, pm, me, he, ep, em, ee⟩ := v.1 k
  have X := xs_ar (off := off) (imm := imm) (b := b) (pX := pX) (rg := rg) (ce := ce) (kw := kw) (kt := kt) ho hd hs
  have eso : so_ o imm rg s = lN m := em
  have ews : ws_ o imm wd s = lN m := s2.trans em
  rw [en, eso, su_rx h1 ho.1 (by omega) (by omega)] at X
  have I := su_in h1 ho.1 an nc hc pm me he
  rw [← ea, ← ec, ← ep, ← ee, ← el, ← eh] at I
  refine ⟨π, _, ce, kt, kw, upd tg d 1, vp_updL wd d (rw_ f (lN n) (lN m) &&& 4294967295), ks, vs, mn, ?_, X, ?_⟩
  · have G := Con_reg (d := d) C hd (V_1 (w := rw_ f (lN n) (lN m) &&& 4294967295) rfl I) (fun z => absurd z (by decide))
    rw [xb_updid k1] at G
    exact G
  · intro y_place y_least y_most y_smallest y_greatest y_ways y_fault y_base y_otherKind y_otherLo y_otherHi y_low y_high y_bytes y_steps y_op y_first y_second y_offset y_given y_length y_there y_known y_lo y_hi y_at y_lookups y_safe y_met y_tag y_word y_packet y_keys y_values y_many i a' post hi eo e1 e2 e3 e4 P
    refine yr_114 hi hs eo e1 e2 (oa_rg ho) (ys_op (oa_rg ho) e4) (yr_arith ho h1 (by omega) ?_)
    rw [xb_updid t1] at P
    rw [if_pos t1, t2, en, ews]
    exact P
theorem sp_aP (ho : oa_ o 1) (hd : d < 8) (hs : s < 9) (W : WF_ K L H S) (n9 : nine_ o (imm.toInt64 &&& 4294967295) K L H) (k : K (q9_ o s) = 1) (k1 : K d = 2) (hh : H d + H (q9_ o s) ≤ 255) : SP_ o d s off imm K L H S (upd K d 2) (vp_updL L d (L d + L (q9_ o s))) (vp_updL H d (H d + H (q9_ o s))) := by
  intro π rg ce kt kw tg wd ks vs mn b pX pY C hb hp
  have v := Con_q W n9 C hs
  have vd := Con_s W C (s := d) (by omega)
  rw [if_neg (by omega), if_neg (by omega)] at vd
  obtain ⟨t1, t2, a, n, c, an, nc, hc, ea, en, ec⟩ := vd.2.1 k1
  obtain ⟨s1, s2, p, m, e, pm, me, he, ep, em, ee⟩ := v.1 k
  have X := xs_ar (off := off) (imm := imm) (b := b) (pX := pX) (rg := rg) (ce := ce) (kw := kw) (kt := kt) ho hd hs
  have eso : so_ o imm rg s = lN m := em
  have ews : ws_ o imm wd s = lN m := s2.trans em
  have e255 : (255 : Int64) = lN 255 := by rfl
  rw [ec, ee, lN_add, e255, pk_lLE (by omega) (by omega)] at hh
  have er : rw_ 1 (lN n) (lN m) = lN (n + m) := by unfold rw_; rw [if_pos rfl, lN_add]
  rw [en, eso, su_rx (by decide) (by decide) (by omega) (by omega), er, su_andw (by omega)] at X
  refine ⟨π, _, ce, kt, kw, upd tg d 2, vp_updL wd d (lN (n + m)), ks, vs, mn, ?_, X, ?_⟩
  · rw [ea, ec, ep, ee, lN_add, lN_add]
    exact Con_reg (d := d) C hd (V_2 rfl ⟨a + p, n + m, c + e, by omega, by omega, by omega, rfl, rfl, rfl⟩) (fun z => absurd z (by decide))
  · intro y_place y_least y_most y_smallest y_greatest y_ways y_fault y_base y_otherKind y_otherLo y_otherHi y_low y_high y_bytes y_steps y_op y_first y_second y_offset y_given y_length y_there y_known y_lo y_hi y_at y_lookups y_safe y_met y_tag y_word y_packet y_keys y_values y_many i a' post hi eo e1 e2 e3 e4 P
    refine yr_114 hi hs eo e1 e2 (oa_rg ho) (ys_op (oa_rg ho) e4) (yr_arith ho (by decide) (by omega) ?_)
    rw [xb_updid t1] at P
    rw [if_neg (by rw [t1]; decide), t2, en, ews, er]
    exact P
theorem sp_aC (ho : oa_ o f) (hf : f = 1 ∨ f = 2) (hd : d < 8) (hs : s < 9) (W : WF_ K L H S) (n9 : nine_ o (imm.toInt64 &&& 4294967295) K L H) (k : K (q9_ o s) = 1) (k1 : K d = 4 ∨ K d = 5) (a1 : L (q9_ o s) = H (q9_ o s)) {l : Int64} (el : l = if f = 1 then L d + L (q9_ o s) else L d - L (q9_ o s)) : SP_ o d s off imm K L H S (upd K d (K d)) (vp_updL L d l) (vp_updL H d l) := by
  intro π rg ce kt kw tg wd ks vs mn b pX pY C hb hp
  have v := Con_q W n9 C hs
  have vd := Con_s W C (s := d) (by omega)
  rw [if_neg (by omega), if_neg (by omega)] at vd
  obtain ⟨s1, s2, p, m, e, pm, me, he, ep, em, ee⟩ := v.1 k
  have pe : p = e := by rw [ep, ee] at a1; exact (pk_lEQ (by omega) (by omega)).mp a1
  have mp : m = p := by omega
  subst mp
  have eso : so_ o imm rg s = L (q9_ o s) := em.trans ep.symm
  have ews : ws_ o imm wd s = L (q9_ o s) := (s2.trans em).trans ep.symm
  have X := xs_ar (off := off) (imm := imm) (b := b) (pX := pX) (rg := rg) (ce := ce) (kw := kw) (kt := kt) ho hd hs
  rw [eso] at X
  have t5 : tg d = 4 ∨ tg d = 5 := by
    rcases k1 with k1 | k1
    · exact Or.inl (vd.2.2.2.1 k1).1
    · exact Or.inr (vd.2.2.2.2.1 k1).1
  refine ⟨π, _, ce, kt, kw, upd tg d (tg d), vp_updL wd d (rw_ f (wd d) (L (q9_ o s))), ks, vs, mn, Con_reg (d := d) C hd ?_ (fun z => by rcases k1 with q | q <;> rw [q] at z <;> exact absurd z (by decide)), X, ?_⟩
  · have er : ∀ z y : Int64, rw_ f z y = if f = 1 then z + y else z - y := by
      intro z y; unfold rw_; rcases hf with rfl | rfl
      · rfl
      · rfl
    have ex : ∀ z y : Int64, rx_ f z y = (if f = 1 then z + y else z - y) &&& 4294967295 := by
      intro z y; unfold rx_
      rw [if_neg (by omega), if_pos (by omega), er]
    rw [er, ex]
    rcases k1 with k1 | k1
    · obtain ⟨q1, q2, q3⟩ := vd.2.2.2.1 k1
      rw [k1, q1, q2, q3, el]
      refine V_4 rfl ?_
      rcases hf with rfl | rfl
      · exact su_mask _ _
      · exact su_masks _ _
    · obtain ⟨q1, j, hj, q4, q2, q3⟩ := vd.2.2.2.2.1 k1
      rw [k1, q1, q2, q3, el]
      refine V_5 ⟨j, hj, q4, ?_, ?_⟩
      · rcases hf with rfl | rfl
        · exact Int64.add_assoc _ _ _
        · show lN _ + L d - L (q9_ o s) = lN _ + (L d - L (q9_ o s))
          rw [Int64.sub_eq_add_neg, Int64.sub_eq_add_neg, Int64.add_assoc]
      · rcases hf with rfl | rfl
        · show (((lN (6 + 2 * j) + L d) &&& 4294967295) + L (q9_ o s)) &&& 4294967295 = (lN (6 + 2 * j) + (L d + L (q9_ o s))) &&& 4294967295
          rw [su_mask, Int64.add_assoc]
        · show (((lN (6 + 2 * j) + L d) &&& 4294967295) - L (q9_ o s)) &&& 4294967295 = (lN (6 + 2 * j) + (L d - L (q9_ o s))) &&& 4294967295
          rw [su_masks, Int64.sub_eq_add_neg, Int64.sub_eq_add_neg, Int64.add_assoc]
  · intro y_place y_least y_most y_smallest y_greatest y_ways y_fault y_base y_otherKind y_otherLo y_otherHi y_low y_high y_bytes y_steps y_op y_first y_second y_offset y_given y_length y_there y_known y_lo y_hi y_at y_lookups y_safe y_met y_tag y_word y_packet y_keys y_values y_many i a' post hi eo e1 e2 e3 e4 P
    refine yr_114 hi hs eo e1 e2 (oa_rg ho) (ys_op (oa_rg ho) e4) (yr_arith ho (by omega) (by omega) ?_)
    rw [xb_updid rfl] at P
    rw [if_neg (by rcases t5 with z | z <;> rw [z] <;> decide), ews]
    exact P
end
