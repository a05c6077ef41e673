def SG_ (o : Int32) (d s : Nat) (off imm : Int32) (g : Nat) (K : Nat → Int32) (L H : Nat → Int64) (S : Int64) : Prop := ∀ (π : Nat → Nat) (rg ce : Nat → Int64) (kt : Nat → Int32) (kw : Nat → Int64) (tg : Nat → Int32) (wd ks vs : Nat → Int64) (mn : Nat → Int32) (b : Nat) (pX pY : Nat → Int32), Con_ K L H S π rg ce kt kw tg wd ks vs mn b → b ≤ 24 → XS_ o d s off imm b pX rg ce kw kt 1 rg ce kw kt ∧ YS_ o d s off imm b pY tg wd ks vs mn (1 + g) tg wd ks vs mn
def SB_ (o : Int32) (d s : Nat) (off imm : Int32) (g : Nat) (K : Nat → Int32) (L H : Nat → Int64) (S : Int64) (KG : Nat → Int32) (LG HG : Nat → Int64) (SG : Int64) (KN : Nat → Int32) (LN HN : Nat → Int64) (SN : Int64) : Prop := ∀ (π : Nat → Nat) (rg ce : Nat → Int64) (kt : Nat → Int32) (kw : Nat → Int64) (tg : Nat → Int32) (wd ks vs : Nat → Int64) (mn : Nat → Int32) (b : Nat) (pX pY : Nat → Int32), Con_ K L H S π rg ce kt kw tg wd ks vs mn b → b ≤ 24 → (Con_ KG LG HG SG π rg ce kt kw tg wd ks vs mn b ∧ XS_ o d s off imm b pX rg ce kw kt 1 rg ce kw kt ∧ YS_ o d s off imm b pY tg wd ks vs mn (1 + g) tg wd ks vs mn) ∨ (Con_ KN LN HN SN π rg ce kt kw tg wd ks vs mn b ∧ XS_ o d s off imm b pX rg ce kw kt 0 rg ce kw kt ∧ YS_ o d s off imm b pY tg wd ks vs mn 1 tg wd ks vs mn)
theorem hx_op {f : Nat} {x y : Int64} (h1 : 1 ≤ f) (h4 : f ≤ 4) (n : ¬ hx_ f x y) : hx_ (op_ f) x y := by
  have e : f = 1 ∨ f = 2 ∨ f = 3 ∨ f = 4 := by omega
  rcases e with rfl | rfl | rfl | rfl
  · exact n
  · exact Classical.byContradiction n
  · have := Classical.byContradiction n
    exact Int64.not_lt.mpr this
  · have := Classical.byContradiction n
    exact Int64.not_le.mpr this
def hN_ (f n m : Nat) : Prop := if f = 1 then n = m else if f = 2 then ¬ n = m else if f = 3 then n < m else m ≤ n
theorem hx_N {f n m : Nat} (hn : n < 2 ^ 32) (hm : m < 2 ^ 32) : hx_ f (lN n) (lN m) ↔ hN_ f n m := by
  unfold hx_ hN_
  split
  · exact pk_lEQ (by omega) (by omega)
  · split
    · rw [pk_lEQ (by omega) (by omega)]
    · split
      · rw [pk_lLE (by omega) (by omega)]; omega
      · rw [pk_lLT (by omega) (by omega)]; omega
theorem cu_in {f a b c n : Nat} (h1 : 1 ≤ f) (h4 : f ≤ 4) (an : a ≤ n) (nb : n ≤ b) (hb : b < 2 ^ 32) (hc : c < 2 ^ 32) (h : hN_ f n c) : inb_ (cu_l f (lN c) (lN a) (lN b)) (cu_h f (lN c) (lN a) (lN b)) (lN n) := by
  have ef : f = 1 ∨ f = 2 ∨ f = 3 ∨ f = 4 := by omega
  rcases ef with rfl | rfl | rfl | rfl
  · simp [hN_] at h
    subst h
    exact ⟨n, n, n, Nat.le_refl _, Nat.le_refl _, hc, by simp [cu_l], rfl, by simp [cu_h]⟩
  · simp [hN_] at h
    refine ⟨if a = c then c + 1 else a, n, if b = c then c - 1 else b, ?_, ?_, ?_, ?_, rfl, ?_⟩
    · split <;> omega
    · split <;> omega
    · split <;> omega
    · simp only [cu_l, pk_lEQ (show a < 2 ^ 63 by omega) (show c < 2 ^ 63 by omega)]
      by_cases z : a = c
      · simp [z, lN_1]
      · simp [z]
    · simp only [cu_h, pk_lEQ (show b < 2 ^ 63 by omega) (show c < 2 ^ 63 by omega)]
      by_cases z : b = c
      · have : lN c - 1 = lN (c - 1) := lN_sub (b := 1) (by omega)
        simp [z, this]
      · simp [z]
  · simp [hN_] at h
    have : lN c - 1 = lN (c - 1) := lN_sub (b := 1) (by omega)
    exact ⟨a, n, c - 1, an, by omega, by omega, by simp [cu_l], rfl, by simp [cu_h, this]⟩
  · simp [hN_] at h
    exact ⟨c, n, b, by omega, nb, hb, by simp [cu_l], rfl, by simp [cu_h]⟩
/-- what is shut in the abstract does not happen -/
theorem mN_h {f a b c e n m : Nat} (h1 : 1 ≤ f) (h4 : f ≤ 4) (an : a ≤ n) (nb : n ≤ b) (cm : c ≤ m) (me : m ≤ e) (z : ¬ mN_ f a b c e) : ¬ hN_ f n m := by
  have ef : f = 1 ∨ f = 2 ∨ f = 3 ∨ f = 4 := by omega
  rcases ef with rfl | rfl | rfl | rfl <;> simp [mN_, hN_] at z ⊢ <;> omega
theorem hN_op {f n m : Nat} (h1 : 1 ≤ f) (h4 : f ≤ 4) : hN_ (op_ f) n m ↔ ¬ hN_ f n m := by
  have ef : f = 1 ∨ f = 2 ∨ f = 3 ∨ f = 4 := by omega
  rcases ef with rfl | rfl | rfl | rfl <;> simp [hN_, op_] <;> omega
section
variable {o off imm : Int32} {d s f g : Nat} {K : Nat → Int32} {L H : Nat → Int64} {S : Int64}
theorem oj_rg (ho : oj_ o f) : rg_ o ↔ (¬ o < 10 ∧ o < 20) ∨ ¬ o ≤ 30 := by
  obtain ⟨h1, h4, h⟩ := ho
  have e : f = 1 ∨ f = 2 ∨ f = 3 ∨ f = 4 := by omega
  unfold rg_
  rcases e with rfl | rfl | rfl | rfl <;> rcases h with rfl | rfl <;> decide
theorem sj_xs {b : Nat} {pX : Nat → Int32} {rg ce kw : Nat → Int64} {kt : Nat → Int32} {r : Int32} (ho : oj_ o f) (hd : d < 8) (hs : s < 9) (A : hx_ f (rg d) (so_ o imm rg s) → r = 1) (B : ¬ hx_ f (rg d) (so_ o imm rg s) → r = 0) : XS_ o d s off imm b pX rg ce kw kt r rg ce kw kt := by
  intro x_safe x_at x_exitLeast x_exitMost x_branches x_faultPlace x_provedLeast x_provedMost x_packetLength x_executed x_ops x_targets x_sources x_offsets x_immediates x_lengths x_kinds x_los x_his x_reached x_branchAt x_branchSafe x_branchKinds x_branchLos x_branchHis x_packet x_registers x_cells x_keyWords x_keyTaken i post hi eo e1 e2 e3 e4 P
  refine xr_69 hi hs eo e1 e2 (sv := so_ o imm rg s) ?_ (xr_jump ho (by omega) (fun z => by rw [A z] at P; exact P) (fun z => by rw [B z] at P; exact P))
  obtain ⟨-, -, -, -, q | q⟩ := oj_f ho
  · rw [if_pos (Or.inr q.2.2)]; unfold so_; rw [if_pos q.1]
  · rw [if_neg (by rw [q.2.2]; decide), e4]; unfold so_; rw [if_neg q.1]
theorem sj_ys {b : Nat} {pY tg mn : Nat → Int32} {wd ks vs : Nat → Int64} {δ : Nat} (ho : oj_ o f) (eg' : off = nI g) (hd : d < 8) (hs : s < 9) (A : hx_ f (wd d) (ws_ o imm wd s) → δ = 1 + g) (B : ¬ hx_ f (wd d) (ws_ o imm wd s) → δ = 1) : YS_ o d s off imm b pY tg wd ks vs mn δ tg wd ks vs mn := by
  intro y_place y_least y_most y_smallest y_greatest y_ways y_fault y_base y_otherKind y_otherLo y_otherHi y_low y_high y_bytes y_steps y_op y_first y_second y_offset y_given y_length y_there y_known y_lo y_hi y_at y_lookups y_safe y_met y_tag y_word y_packet y_keys y_values y_many i a post hi eo e1 e2 e3 e4 P
  refine yr_114 hi hs eo e1 e2 (oj_rg ho) (ys_op (oj_rg ho) e4) (yr_jump (g := g) hi ho (by omega) (e3.trans eg') (fun z => ?_) (fun z => ?_))
  · rw [A z, ← Nat.add_assoc] at P; exact P
  · rw [B z] at P; exact P
theorem sj_A (hg : g < 2 ^ 31) (eg' : off = nI g) (hd : d < 8) (hs : s < 9) : SG_ 20 d s off imm g K L H S := by
  intro π rg ce kt kw tg wd ks vs mn b pX pY C hb
  constructor
  · intro x_safe x_at x_exitLeast x_exitMost x_branches x_faultPlace x_provedLeast x_provedMost x_packetLength x_executed x_ops x_targets x_sources x_offsets x_immediates x_lengths x_kinds x_los x_his x_reached x_branchAt x_branchSafe x_branchKinds x_branchLos x_branchHis x_packet x_registers x_cells x_keyWords x_keyTaken i post hi eo e1 e2 e3 e4 P
    exact xr_69 hi hs eo e1 e2 (sv := (x_immediates i).toInt64 &&& 4294967295) (by rw [if_neg (by decide)]) (xr_ja P)
  · intro y_place y_least y_most y_smallest y_greatest y_ways y_fault y_base y_otherKind y_otherLo y_otherHi y_low y_high y_bytes y_steps y_op y_first y_second y_offset y_given y_length y_there y_known y_lo y_hi y_at y_lookups y_safe y_met y_tag y_word y_packet y_keys y_values y_many i a post hi eo e1 e2 e3 e4 P
    refine yr_114 (t := 1) (v := (y_given i).toInt64 &&& 4294967295) (rg := False) hi hs eo e1 e2 (by decide) (Or.inl ⟨fun z => z, rfl, rfl⟩) (yr_ja hi (e3.trans eg') ?_)
    rw [Nat.add_assoc]; exact P
/-- two SCALARs as numbers -/
theorem sj_S {π : Nat → Nat} {rg ce : Nat → Int64} {kt : Nat → Int32} {kw : Nat → Int64} {tg : Nat → Int32} {wd ks vs : Nat → Int64} {mn : Nat → Int32} {b : Nat} (hd : d < 8) (hs : s < 9) (W : WF_ K L H S) (n9 : nine_ o (imm.toInt64 &&& 4294967295) K L H) (k1 : K d = 1) (k2 : K (q9_ o s) = 1) (C : Con_ K L H S π rg ce kt kw tg wd ks vs mn b) : ∃ a n c p m e : Nat, a ≤ n ∧ n ≤ c ∧ c < 2 ^ 32 ∧ p ≤ m ∧ m ≤ e ∧ e < 2 ^ 32 ∧ L d = lN a ∧ H d = lN c ∧ L (q9_ o s) = lN p ∧ H (q9_ o s) = lN e ∧ rg d = lN n ∧ wd d = lN n ∧ tg d = 1 ∧ so_ o imm rg s = lN m ∧ ws_ o imm wd s = lN m := by
  have v := Con_q W n9 C hs
  have vd := Con_s W C (s := d) (by omega)
  rw [if_neg (by omega), if_neg (by omega)] at vd
  obtain ⟨t1, t2, a, n, c, an, nc, hc, ea, en, ec⟩ := vd.1 k1
  obtain ⟨s1, s2, p, m, e, pm, me, he, ep, em, ee⟩ := v.1 k2
  exact ⟨a, n, c, p, m, e, an, nc, hc, pm, me, he, ea, ec, ep, ee, en, t2.trans en, t1, em, s2.trans em⟩
theorem sj_SG (ho : oj_ o f) (eg' : off = nI g) (hd : d < 8) (hs : s < 9) (W : WF_ K L H S) (n9 : nine_ o (imm.toInt64 &&& 4294967295) K L H) (k1 : K d = 1) (k2 : K (q9_ o s) = 1) (m : ¬ my_ (op_ f) d (q9_ o s) K L H) : SG_ o d s off imm g K L H S := by
  intro π rg ce kt kw tg wd ks vs mn b pX pY C hb
  obtain ⟨a, n, c, p, q, e, an, nc, hc, pq, qe, he, ea, ec, ep, ee, en, ew, et, es, ey⟩ := sj_S hd hs W n9 k1 k2 C
  obtain ⟨o1, o4⟩ := op_r ho.1 ho.2.1
  have m' : ¬ mN_ (op_ f) a c p e := by
    intro z; apply m; intro _
    rw [ea, ec, ep, ee]; exact (mh_N (by omega) hc (by omega) he).mpr z
  have h : hN_ f n q := by
    have := mN_h o1 o4 an nc pq qe m'
    rw [hN_op ho.1 ho.2.1] at this
    exact Classical.byContradiction this
  have hx := (hx_N (f := f) (show n < 2 ^ 32 by omega) (show q < 2 ^ 32 by omega)).mpr h
  exact ⟨sj_xs ho hd hs (fun _ => rfl) (fun z => absurd (by rw [en, es]; exact hx) z), sj_ys ho eg' hd hs (fun _ => rfl) (fun z => absurd (by rw [ew, ey]; exact hx) z)⟩
theorem sj_SN (ho : oj_ o f) (eg' : off = nI g) (hd : d < 8) (hs : s < 9) (W : WF_ K L H S) (n9 : nine_ o (imm.toInt64 &&& 4294967295) K L H) (k1 : K d = 1) (k2 : K (q9_ o s) = 1) (m : ¬ my_ f d (q9_ o s) K L H) : SP_ o d s off imm K L H S K L H := by
  intro π rg ce kt kw tg wd ks vs mn b pX pY C hb hp
  obtain ⟨a, n, c, p, q, e, an, nc, hc, pq, qe, he, ea, ec, ep, ee, en, ew, et, es, ey⟩ := sj_S hd hs W n9 k1 k2 C
  have m' : ¬ mN_ f a c p e := by
    intro z; apply m; intro _
    rw [ea, ec, ep, ee]; exact (mh_N (by omega) hc (by omega) he).mpr z
  have h := mN_h ho.1 ho.2.1 an nc pq qe m'
  have hx : ¬ hx_ f (lN n) (lN q) := fun z => h ((hx_N (by omega) (by omega)).mp z)
  exact ⟨π, rg, ce, kt, kw, tg, wd, ks, vs, mn, C, sj_xs ho hd hs (fun z => absurd (by rw [en, es] at z; exact z) hx) (fun _ => rfl), sj_ys ho eg' hd hs (fun z => absurd (by rw [ew, ey] at z; exact z) hx) (fun _ => rfl)⟩
theorem sj_SB (ho : oj_ o f) (eg' : off = nI g) (hd : d < 8) (hs : s < 9) (W : WF_ K L H S) (n9 : nine_ o (imm.toInt64 &&& 4294967295) K L H) (k1 : K d = 1) (k2 : K (q9_ o s) = 1) {q : Nat} (eq : q = q9_ o s) : SB_ o d s off imm g K L H S (ln_K f d K) (ln_L f d q K L H) (ln_H f d q K L H) (ln_S f d q K L S) (ln_K (op_ f) d K) (ln_L (op_ f) d q K L H) (ln_H (op_ f) d q K L H) (ln_S (op_ f) d q K L S) := by
  subst eq
  intro π rg ce kt kw tg wd ks vs mn b pX pY C hb
  obtain ⟨a, n, c, p, m, e, an, nc, hc, pm, me, he, ea, ec, ep, ee, en, ew, et, es, ey⟩ := sj_S hd hs W n9 k1 k2 C
  obtain ⟨o1, o4⟩ := op_r ho.1 ho.2.1
  have lK : ∀ f', ln_K f' d K = K := by intro f'; unfold ln_K; rw [if_neg (by rw [k1]; decide)]
  have lS : ∀ f', ln_S f' d (q9_ o s) K L S = S := by intro f'; unfold ln_S; rw [k1, if_neg (by simp), if_neg (by simp)]
  have G : ∀ f', 1 ≤ f' → f' ≤ 4 → hN_ f' n m → Con_ (ln_K f' d K) (ln_L f' d (q9_ o s) K L H) (ln_H f' d (q9_ o s) K L H) (ln_S f' d (q9_ o s) K L S) π rg ce kt kw tg wd ks vs mn b := by
    intro f' h1 h4 h
    rw [lK, lS]
    unfold ln_L ln_H
    by_cases z : L (q9_ o s) = H (q9_ o s)
    · rw [if_pos ⟨k1, z⟩, if_pos ⟨k1, z⟩]
      rw [ep, ee] at z
      have z' := (pk_lEQ (by omega) (by omega)).mp z
      have mp : m = p := by omega
      subst mp
      have I := cu_in h1 h4 an nc hc (show m < 2 ^ 32 by omega) h
      rw [← ea, ← ec, ← ep] at I
      have R := Con_reg (d := d) C hd (V_1 (w := wd d) (x := rg d) (ew.trans en.symm) (by rw [en]; exact I)) (fun z => absurd z (by decide))
      rw [xb_updid k1, xb_updid et, xb_updLid (f := rg) rfl, xb_updLid (f := wd) rfl] at R
      exact R
    · rw [if_neg (fun q => z q.2), if_neg (fun q => z q.2)]; exact C
  have hxN := hx_N (f := f) (show n < 2 ^ 32 by omega) (show m < 2 ^ 32 by omega)
  by_cases h : hN_ f n m
  · have hx := hxN.mpr h
    exact Or.inl ⟨G f ho.1 ho.2.1 h, sj_xs ho hd hs (fun _ => rfl) (fun z => absurd (by rw [en, es]; exact hx) z), sj_ys ho eg' hd hs (fun _ => rfl) (fun z => absurd (by rw [ew, ey]; exact hx) z)⟩
  · have hx : ¬ hx_ f (lN n) (lN m) := fun z => h (hxN.mp z)
    exact Or.inr ⟨G (op_ f) o1 o4 ((hN_op ho.1 ho.2.1).mpr h), sj_xs ho hd hs (fun z => absurd (by rw [en, es] at z; exact z) hx) (fun _ => rfl), sj_ys ho eg' hd hs (fun z => absurd (by rw [ew, ey] at z; exact z) hx) (fun _ => rfl)⟩
theorem sj_MB (ho : oj_ o f) (eg' : off = nI g) (hd : d < 8) (hs : s < 9) (W : WF_ K L H S) (n9 : nine_ o (imm.toInt64 &&& 4294967295) K L H) (k1 : K d = 6) (f2 : f ≤ 2) (k2 : K (q9_ o s) = 1) (h0 : H (q9_ o s) = 0) {q : Nat} (eq : q = q9_ o s) : SB_ o d s off imm g K L H S (ln_K f d K) (ln_L f d q K L H) (ln_H f d q K L H) (ln_S f d q K L S) (ln_K (op_ f) d K) (ln_L (op_ f) d q K L H) (ln_H (op_ f) d q K L H) (ln_S (op_ f) d q K L S) := by
  subst eq
  intro π rg ce kt kw tg wd ks vs mn b pX pY C hb
  have v := Con_q W n9 C hs
  have vd := Con_s W C (s := d) (by omega)
  rw [if_neg (by omega), if_neg (by omega)] at vd
  obtain ⟨s1, s2, p, m, e, pm, me, he, ep, em, ee⟩ := v.1 k2
  have e0 : e = 0 := (pk_lEQ (b := 0) (by omega) (by omega)).mp (ee.symm.trans h0)
  have m0 : m = 0 := by omega
  subst m0
  have es : so_ o imm rg s = 0 := em
  have ey : ws_ o imm wd s = 0 := s2.trans em
  have lK : ∀ f', ln_K f' d K = se_K K (if f' = 1 then 1 else 5) 16 := by intro f'; unfold ln_K; rw [if_pos k1]
  have lL : ∀ f', ln_L f' d (q9_ o s) K L H = L := by intro f'; unfold ln_L; rw [if_neg (by rw [k1]; simp)]
  have lH : ∀ f', ln_H f' d (q9_ o s) K L H = H := by intro f'; unfold ln_H; rw [if_neg (by rw [k1]; simp)]
  have lS : ∀ f', ln_S f' d (q9_ o s) K L S = S := by intro f'; unfold ln_S; rw [k1, if_neg (by simp), if_neg (by simp)]
  have exd : cx_ rg ce d = rg d := by unfold cx_; rw [if_pos hd]
  -- all that may be a VALUE is what slot d is
  have al : ∀ r, r < 14 → K (g_ r) = 6 → cx_ rg ce r = rg d ∧ tg r = tg d ∧ wd r = wd d := by
    intro r hr kr
    rw [← exd]
    exact C.2.2.1.2 r d hr (by omega) kr (by rw [g_lo hd]; exact k1)
  have G : ∀ v' : Int32, (v' = 1 ∨ v' = 5) → (∀ r, r < 14 → K (g_ r) = 6 → V_ v' 0 0 (rg d) (tg d) (wd d) b π kt) → Con_ (se_K K v' 16) L H S π rg ce kt kw tg wd ks vs mn b := by
    intro v' hv hV
    refine ⟨fun r hr => ?_, C.2.1, ⟨C.2.2.1.1, fun r t hr ht kr kt => ?_⟩, C.2.2.2⟩
    · by_cases z : K (g_ r) = 6
      · have e1 : se_K K v' 16 (g_ r) = v' := by unfold se_K; rw [if_pos ⟨g_16 hr, z⟩]
        obtain ⟨l0, h0'⟩ := (W.1 _ (g_16 hr)).2.2.2 z
        obtain ⟨a1, a2, a3⟩ := al r hr z
        rw [e1, l0, h0', a1, a2, a3]
        exact hV r hr z
      · have e1 : se_K K v' 16 (g_ r) = K (g_ r) := by unfold se_K; rw [if_neg (fun w => z w.2)]
        rw [e1]; exact C.1 r hr
    · exfalso
      by_cases z : K (g_ r) = 6
      · have e1 : se_K K v' 16 (g_ r) = v' := by unfold se_K; rw [if_pos ⟨g_16 hr, z⟩]
        rw [e1] at kr
        rcases hv with hv | hv <;> rw [hv] at kr <;> exact absurd kr (by decide)
      · have e1 : se_K K v' 16 (g_ r) = K (g_ r) := by unfold se_K; rw [if_neg (fun w => z w.2)]
        rw [e1] at kr; exact z kr
  have ef : f = 1 ∨ f = 2 := by have := ho.1; omega
  rw [lK, lK, lL, lL, lH, lH, lS, lS]
  rcases vd.2.2.2.2.2 k1 with ⟨t1, t2, t3⟩ | ⟨t1, j, hj, tj, t2, t3⟩
  · have C1 := G 1 (Or.inl rfl) (fun r hr z => by rw [t1, t2, t3]; exact V_1 rfl ⟨0, 0, 0, by omega, by omega, by omega, rfl, rfl, rfl⟩)
    rcases ef with rfl | rfl
    · have hx : hx_ 1 (0 : Int64) 0 := rfl
      exact Or.inl ⟨C1, sj_xs ho hd hs (fun _ => rfl) (fun z => absurd (by rw [t3, es]; exact hx) z), sj_ys ho eg' hd hs (fun _ => rfl) (fun z => absurd (by rw [t2, ey]; exact hx) z)⟩
    · have hx : ¬ hx_ 2 (0 : Int64) 0 := fun z => z rfl
      exact Or.inr ⟨C1, sj_xs ho hd hs (fun z => absurd (by rw [t3, es] at z; exact z) hx) (fun _ => rfl), sj_ys ho eg' hd hs (fun z => absurd (by rw [t2, ey] at z; exact z) hx) (fun _ => rfl)⟩
  · have p8 := (sm_val C.2.2.2 hj tj).1
    have C5 := G 5 (Or.inr rfl) (fun r hr z => by
      rw [t1, t2, t3]
      refine V_5 ⟨j, hj, tj, ?_, ?_⟩
      · rw [pu_0, lN_add, Nat.add_zero]
      · rw [pu_0, lN_add, Nat.add_zero, su_andw (by omega)])
    have nx : ¬ lN (6 + 2 * j) = 0 := by rw [pu_0, pk_lEQ (by omega) (by omega)]; omega
    have ny : ¬ lN (100 * (8 + π j)) = 0 := by rw [pu_0, pk_lEQ (by omega) (by omega)]; omega
    rcases ef with rfl | rfl
    · exact Or.inr ⟨C5, sj_xs ho hd hs (fun z => absurd (by rw [t3, es] at z; exact z) nx) (fun _ => rfl), sj_ys ho eg' hd hs (fun z => absurd (by rw [t2, ey] at z; exact z) ny) (fun _ => rfl)⟩
    · exact Or.inl ⟨C5, sj_xs ho hd hs (fun _ => rfl) (fun z => absurd (by rw [t3, es]; exact nx) z), sj_ys ho eg' hd hs (fun _ => rfl) (fun z => absurd (by rw [t2, ey]; exact ny) z)⟩
/-- more bytes known to be safe -/
theorem Con_S {π : Nat → Nat} {rg ce : Nat → Int64} {kt : Nat → Int32} {kw : Nat → Int64} {tg : Nat → Int32} {wd ks vs : Nat → Int64} {mn : Nat → Int32} {b sn n : Nat} (C : Con_ K L H S π rg ce kt kw tg wd ks vs mn b) (hb : b ≤ 24) (hs : sn ≤ 256) (eS : S = lN sn) (hn : n ≤ b) : Con_ K L H (ra_S S (lN n)) π rg ce kt kw tg wd ks vs mn b := by
  obtain ⟨s2, h2, e2⟩ := C.2.2.1.1
  refine ⟨C.1, C.2.1, ⟨⟨if n ≤ sn then sn else n, ?_, ?_⟩, C.2.2.1.2⟩, C.2.2.2⟩
  · have : sn = s2 := (pk_lEQ (by omega) (by omega)).mp (eS.symm.trans e2)
    split <;> omega
  · rw [eS, ra_N (by omega) (by omega)]
theorem sj_PB (ho : oj_ o f) (eg' : off = nI g) (hd : d < 8) (hs : s < 9) (W : WF_ K L H S) (n9 : nine_ o (imm.toInt64 &&& 4294967295) K L H) (k1 : K d = 2) (f3 : 3 ≤ f) (k2 : K (q9_ o s) = 3) {q : Nat} (eq : q = q9_ o s) : SB_ o d s off imm g K L H S (ln_K f d K) (ln_L f d q K L H) (ln_H f d q K L H) (ln_S f d q K L S) (ln_K (op_ f) d K) (ln_L (op_ f) d q K L H) (ln_H (op_ f) d q K L H) (ln_S (op_ f) d q K L S) := by
  subst eq
  intro π rg ce kt kw tg wd ks vs mn b pX pY C hb
  have v := Con_q W n9 C hs
  have vd := Con_s W C (s := d) (by omega)
  rw [if_neg (by omega), if_neg (by omega)] at vd
  obtain ⟨t1, t2, a, n, c, an, nc, hc, ea, en, ec⟩ := vd.2.1 k1
  obtain ⟨s1, s2, s3⟩ := v.2.2.1 k2
  have es : so_ o imm rg s = lN b := s3
  have ey : ws_ o imm wd s = lN b := s2
  have ew := t2.trans en
  obtain ⟨sn, hsn, eSn⟩ := W.2.2.2.2
  have lK : ∀ f', ln_K f' d K = K := by intro f'; unfold ln_K; rw [if_neg (by rw [k1]; decide)]
  have lL : ∀ f', ln_L f' d (q9_ o s) K L H = L := by intro f'; unfold ln_L; rw [if_neg (by rw [k1]; simp)]
  have lH : ∀ f', ln_H f' d (q9_ o s) K L H = H := by intro f'; unfold ln_H; rw [if_neg (by rw [k1]; simp)]
  have lS3 : ln_S 3 d (q9_ o s) K L S = ra_S S (lN (a + 1)) := by unfold ln_S; rw [if_pos ⟨k1, rfl⟩, ea, lN_1]
  have lS4 : ln_S 4 d (q9_ o s) K L S = S := by unfold ln_S; rw [k1, if_neg (by simp), if_neg (by simp)]
  rw [lK, lK, lL, lL, lH, lH]
  have hxN : ∀ f', hx_ f' (lN n) (lN b) ↔ hN_ f' n b := fun f' => hx_N (by omega) (by omega)
  have ef : f = 3 ∨ f = 4 := by have := ho.2.1; omega
  rcases ef with rfl | rfl
  · show (Con_ K L H (ln_S 3 d (q9_ o s) K L S) _ _ _ _ _ _ _ _ _ _ _ ∧ _) ∨ (Con_ K L H (ln_S 4 d (q9_ o s) K L S) _ _ _ _ _ _ _ _ _ _ _ ∧ _)
    rw [lS3, lS4]
    by_cases h : n < b
    · have hx := (hxN 3).mpr h
      exact Or.inl ⟨Con_S C hb hsn eSn (by omega), sj_xs ho hd hs (fun _ => rfl) (fun z => absurd (by rw [en, es]; exact hx) z), sj_ys ho eg' hd hs (fun _ => rfl) (fun z => absurd (by rw [ew, ey]; exact hx) z)⟩
    · have hx : ¬ hx_ 3 (lN n) (lN b) := fun z => h ((hxN 3).mp z)
      exact Or.inr ⟨C, sj_xs ho hd hs (fun z => absurd (by rw [en, es] at z; exact z) hx) (fun _ => rfl), sj_ys ho eg' hd hs (fun z => absurd (by rw [ew, ey] at z; exact z) hx) (fun _ => rfl)⟩
  · show (Con_ K L H (ln_S 4 d (q9_ o s) K L S) _ _ _ _ _ _ _ _ _ _ _ ∧ _) ∨ (Con_ K L H (ln_S 3 d (q9_ o s) K L S) _ _ _ _ _ _ _ _ _ _ _ ∧ _)
    rw [lS3, lS4]
    by_cases h : n < b
    · have hx : ¬ hx_ 4 (lN n) (lN b) := fun z => absurd ((hxN 4).mp z) (by simp [hN_]; omega)
      exact Or.inr ⟨Con_S C hb hsn eSn (by omega), sj_xs ho hd hs (fun z => absurd (by rw [en, es] at z; exact z) hx) (fun _ => rfl), sj_ys ho eg' hd hs (fun z => absurd (by rw [ew, ey] at z; exact z) hx) (fun _ => rfl)⟩
    · have hx := (hxN 4).mpr (by simp [hN_]; omega)
      exact Or.inl ⟨C, sj_xs ho hd hs (fun _ => rfl) (fun z => absurd (by rw [en, es]; exact hx) z), sj_ys ho eg' hd hs (fun _ => rfl) (fun z => absurd (by rw [ew, ey]; exact hx) z)⟩
theorem sj_EB (ho : oj_ o f) (eg' : off = nI g) (hd : d < 8) (hs : s < 9) (W : WF_ K L H S) (n9 : nine_ o (imm.toInt64 &&& 4294967295) K L H) (k1 : K d = 3) (f3 : 3 ≤ f) (k2 : K (q9_ o s) = 2) {q : Nat} (eq : q = q9_ o s) : SB_ o d s off imm g K L H S (ln_K f d K) (ln_L f d q K L H) (ln_H f d q K L H) (ln_S f d q K L S) (ln_K (op_ f) d K) (ln_L (op_ f) d q K L H) (ln_H (op_ f) d q K L H) (ln_S (op_ f) d q K L S) := by
  subst eq
  intro π rg ce kt kw tg wd ks vs mn b pX pY C hb
  have v := Con_q W n9 C hs
  have vd := Con_s W C (s := d) (by omega)
  rw [if_neg (by omega), if_neg (by omega)] at vd
  obtain ⟨t1, ew, en⟩ := vd.2.2.1 k1
  obtain ⟨s1, s2, a, n, c, an, nc, hc, ea, em, ec⟩ := v.2.1 k2
  have es : so_ o imm rg s = lN n := em
  have ey : ws_ o imm wd s = lN n := s2.trans em
  obtain ⟨sn, hsn, eSn⟩ := W.2.2.2.2
  have lK : ∀ f', ln_K f' d K = K := by intro f'; unfold ln_K; rw [if_neg (by rw [k1]; decide)]
  have lL : ∀ f', ln_L f' d (q9_ o s) K L H = L := by intro f'; unfold ln_L; rw [if_neg (by rw [k1]; simp)]
  have lH : ∀ f', ln_H f' d (q9_ o s) K L H = H := by intro f'; unfold ln_H; rw [if_neg (by rw [k1]; simp)]
  have lS4 : ln_S 4 d (q9_ o s) K L S = ra_S S (lN a) := by unfold ln_S; rw [if_neg (by rw [k1]; simp), if_pos ⟨k1, rfl⟩, ea]
  have lS3 : ln_S 3 d (q9_ o s) K L S = S := by unfold ln_S; rw [k1, if_neg (by simp), if_neg (by simp)]
  rw [lK, lK, lL, lL, lH, lH]
  have hxN : ∀ f', hx_ f' (lN b) (lN n) ↔ hN_ f' b n := fun f' => hx_N (by omega) (by omega)
  have ef : f = 3 ∨ f = 4 := by have := ho.2.1; omega
  rcases ef with rfl | rfl
  · show (Con_ K L H (ln_S 3 d (q9_ o s) K L S) _ _ _ _ _ _ _ _ _ _ _ ∧ _) ∨ (Con_ K L H (ln_S 4 d (q9_ o s) K L S) _ _ _ _ _ _ _ _ _ _ _ ∧ _)
    rw [lS3, lS4]
    by_cases h : b < n
    · have hx := (hxN 3).mpr h
      exact Or.inl ⟨C, sj_xs ho hd hs (fun _ => rfl) (fun z => absurd (by rw [en, es]; exact hx) z), sj_ys ho eg' hd hs (fun _ => rfl) (fun z => absurd (by rw [ew, ey]; exact hx) z)⟩
    · have hx : ¬ hx_ 3 (lN b) (lN n) := fun z => h ((hxN 3).mp z)
      exact Or.inr ⟨Con_S C hb hsn eSn (by omega), sj_xs ho hd hs (fun z => absurd (by rw [en, es] at z; exact z) hx) (fun _ => rfl), sj_ys ho eg' hd hs (fun z => absurd (by rw [ew, ey] at z; exact z) hx) (fun _ => rfl)⟩
  · show (Con_ K L H (ln_S 4 d (q9_ o s) K L S) _ _ _ _ _ _ _ _ _ _ _ ∧ _) ∨ (Con_ K L H (ln_S 3 d (q9_ o s) K L S) _ _ _ _ _ _ _ _ _ _ _ ∧ _)
    rw [lS3, lS4]
    by_cases h : b < n
    · have hx : ¬ hx_ 4 (lN b) (lN n) := fun z => absurd ((hxN 4).mp z) (by simp [hN_]; omega)
      exact Or.inr ⟨C, sj_xs ho hd hs (fun z => absurd (by rw [en, es] at z; exact z) hx) (fun _ => rfl), sj_ys ho eg' hd hs (fun z => absurd (by rw [ew, ey] at z; exact z) hx) (fun _ => rfl)⟩
    · have hx := (hxN 4).mpr (by simp [hN_]; omega)
      exact Or.inl ⟨Con_S C hb hsn eSn (by omega), sj_xs ho hd hs (fun _ => rfl) (fun z => absurd (by rw [en, es]; exact hx) z), sj_ys ho eg' hd hs (fun _ => rfl) (fun z => absurd (by rw [ew, ey]; exact hx) z)⟩
end
