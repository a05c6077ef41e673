def PO_ (ops tgt src : Nat → Int32) : Prop := ∀ j, ok_ (ops j) ∧ (∃ d, d < 8 ∧ tgt j = nI d) ∧ (∃ s, s < 9 ∧ src j = nI s)
def TH_ (ops tgt src off imm len there : Nat → Int32) : Prop := ∀ p, p < 2 → (there p = 0 ∧ len p = 0) ∨ (¬ there p = 0 ∧ ∃ m : Nat, 1 ≤ m ∧ m ≤ 40 ∧ len p = nI m ∧ Sf_ (fun j => ops (40 * p + j)) (fun j => tgt (40 * p + j)) (fun j => src (40 * p + j)) (fun j => off (40 * p + j)) (fun j => imm (40 * p + j)) m 0 K0_ (fun _ => 0) (fun _ => 0) 0)
def PK_ (a b : Int32) (pX pY : Nat → Int32) : Prop := ∃ c : Nat, c ≤ 24 ∧ a = nI c ∧ b = nI c ∧ ∀ j, pX j = pY j &&& 255
/-- what holds between the two machines at the head of every call -/
def i_Rel (_ : Nat) (u : SX) (v : SY) : Prop := match u, v with
  | (x_safe, x_at, x_exitLeast, x_exitMost, x_branches, x_faultPlace, x_provedLeast, x_provedMost, x_packetLength, x_executed, x_ops, x_targets, x_sources, x_offsets, x_immediates, x_lengths, x_kinds, x_los, x_his, x_reached, x_branchAt, x_branchSafe, x_branchKinds, x_branchLos, x_branchHis, x_packet, x_registers, x_cells, x_keyWords, x_keyTaken), (y_place, y_least, y_most, y_smallest, y_greatest, y_ways, y_fault, y_base, y_otherKind, y_otherLo, y_otherHi, y_low, y_high, y_bytes, y_steps, y_op, y_first, y_second, y_offset, y_given, y_length, y_there, y_known, y_lo, y_hi, y_at, y_lookups, y_safe, y_met, y_tag, y_word, y_packet, y_keys, y_values, y_many) => (x_ops = y_op ∧ x_targets = y_first ∧ x_sources = y_second ∧ x_offsets = y_offset ∧ x_immediates = y_given ∧ x_lengths = y_length) ∧ PO_ x_ops x_targets x_sources ∧ (∃ n : Nat, n ≤ 40 ∧ x_lengths 2 = nI n) ∧ (x_faultPlace = y_place ∧ x_provedLeast = y_least ∧ x_provedMost = y_most) ∧ PK_ x_packetLength y_bytes x_packet y_packet ∧ x_executed = y_steps ∧ (∃ π, Mp_ π x_keyTaken x_keyWords x_cells y_keys y_values y_many) ∧ TH_ x_ops x_targets x_sources x_offsets x_immediates x_lengths y_there ∧ (∀ j, 16 ≤ j → x_kinds j = 0 ∧ x_los j = 0 ∧ x_his j = 0)
theorem Sf_cong {po pd ps pf pm po' pd' ps' pf' pm' : Nat → Int32} {n i : Nat} {K : Nat → Int32} {L H : Nat → Int64} {S : Int64} (h : ∀ j, j < n → po' j = po j ∧ pd' j = pd j ∧ ps' j = ps j ∧ pf' j = pf j ∧ pm' j = pm j) (s : Sf_ po pd ps pf pm n i K L H S) : Sf_ po' pd' ps' pf' pm' n i K L H S := by
  refine ⟨s.1, fun π rg ce kt kw tg wd ks vs mn b pX pY C hb hp => ?_⟩
  obtain ⟨r, st, π2, rg2, ce2, kt2, kw2, tg2, wd2, ks2, vs2, mn2, M2, X2, Y2⟩ := s.2 π rg ce kt kw tg wd ks vs mn b pX pY C hb hp
  have g : ∀ {A1 A2 A3 A4 A5 : Nat → Int32} {p : Nat}, Pg_ A1 A2 A3 A4 A5 p n po' pd' ps' pf' pm' → Pg_ A1 A2 A3 A4 A5 p n po pd ps pf pm := by
    intro A1 A2 A3 A4 A5 p G j hj
    obtain ⟨q1, q2, q3, q4, q5⟩ := G j hj
    obtain ⟨h1, h2, h3, h4, h5⟩ := h j hj
    exact ⟨q1.trans h1, q2.trans h2, q3.trans h3, q4.trans h4, q5.trans h5⟩
  refine ⟨r, st, π2, rg2, ce2, kt2, kw2, tg2, wd2, ks2, vs2, mn2, M2, ?_, ?_⟩
  · intro x_safe x_at x_exitLeast x_exitMost x_branches x_faultPlace x_provedLeast x_provedMost x_packetLength x_executed x_ops x_targets x_sources x_offsets x_immediates x_lengths x_kinds x_los x_his x_reached x_branchAt x_branchSafe x_branchKinds x_branchLos x_branchHis x_packet x_registers x_cells x_keyWords x_keyTaken p t fu post h2 G el ht hf P
    exact X2 x_safe x_at x_exitLeast x_exitMost x_branches x_faultPlace x_provedLeast x_provedMost x_packetLength x_executed x_ops x_targets x_sources x_offsets x_immediates x_lengths x_kinds x_los x_his x_reached x_branchAt x_branchSafe x_branchKinds x_branchLos x_branchHis x_packet x_registers x_cells x_keyWords x_keyTaken p t fu post h2 (g G) el ht hf P
  · intro y_place y_least y_most y_smallest y_greatest y_ways y_fault y_base y_otherKind y_otherLo y_otherHi y_low y_high y_bytes y_steps y_op y_first y_second y_offset y_given y_length y_there y_known y_lo y_hi y_at y_lookups y_safe y_met y_tag y_word y_packet y_keys y_values y_many p fu post h2 G hf P
    exact Y2 y_place y_least y_most y_smallest y_greatest y_ways y_fault y_base y_otherKind y_otherLo y_otherHi y_low y_high y_bytes y_steps y_op y_first y_second y_offset y_given y_length y_there y_known y_lo y_hi y_at y_lookups y_safe y_met y_tag y_word y_packet y_keys y_values y_many p fu post h2 (g G) hf P
theorem ok_n {o : Int32} (h : ok_ o) : ∃ c : Nat, c < 128 ∧ o = nI c := by
  rcases h with ⟨f, h6, h | h⟩ | h | ⟨f, -, h4, h | h⟩ | (h | h | h) | (h | h | h) | h
  · exact ⟨f, by omega, h⟩
  · exact ⟨10 + f, by omega, h⟩
  · exact ⟨20, by omega, h⟩
  · exact ⟨20 + f, by omega, h⟩
  · exact ⟨30 + f, by omega, h⟩
  · exact ⟨40, by omega, h⟩
  · exact ⟨41, by omega, h⟩
  · exact ⟨42, by omega, h⟩
  · exact ⟨50, by omega, h⟩
  · exact ⟨51, by omega, h⟩
  · exact ⟨52, by omega, h⟩
  · exact ⟨60, by omega, h⟩
theorem po_b {ops tgt src : Nat → Int32} (h : PO_ ops tgt src) : by_ ops ∧ by_ tgt ∧ by_ src := by
  refine ⟨fun j => ?_, fun j => ?_, fun j => ?_⟩
  · obtain ⟨c, hc, e⟩ := ok_n (h j).1
    rw [e]; exact xb_vb hc
  · obtain ⟨c, hc, e⟩ := (h j).2.1
    rw [e]; exact xb_vb (by omega)
  · obtain ⟨c, hc, e⟩ := (h j).2.2
    rw [e]; exact xb_vb (by omega)
theorem po_cp {ops tgt src : Nat → Int32} {p n : Nat} (h : PO_ ops tgt src) : PO_ (cp_ ops p n) (cp_ tgt p n) (cp_ src p n) := by
  intro j
  unfold cp_
  split <;> exact h _
theorem th_keep {ops tgt src off imm len there : Nat → Int32} {p n : Nat} (hp : p < 2) (hn : n ≤ 40) (T : TH_ ops tgt src off imm len there) (s : Sf_ (fun j => ops (80 + j)) (fun j => tgt (80 + j)) (fun j => src (80 + j)) (fun j => off (80 + j)) (fun j => imm (80 + j)) n 0 K0_ (fun _ => 0) (fun _ => 0) 0) : TH_ (cp_ ops p n) (cp_ tgt p n) (cp_ src p n) (cp_ off p n) (cp_ imm p n) (upd len p (nI n)) (upd there p 1) := by
  intro p2 hp2
  by_cases z : p2 = p
  · subst z
    right
    have n1 : 0 < n := s.1
    refine ⟨by rw [pk_us]; decide, n, n1, hn, pk_us, Sf_cong (fun j hj => ?_) s⟩
    have e : ∀ A : Nat → Int32, cp_ A p2 n (40 * p2 + j) = A (80 + j) := by
      intro A; unfold cp_; rw [if_pos (by omega)]; congr 2; omega
    exact ⟨e _, e _, e _, e _, e _⟩
  · rw [pk_un z, pk_un z]
    rcases T p2 hp2 with t | ⟨t, m, m1, m2, m3, m4⟩
    · exact Or.inl t
    · refine Or.inr ⟨t, m, m1, m2, m3, Sf_cong (fun j hj => ?_) m4⟩
      have e : ∀ A : Nat → Int32, cp_ A p n (40 * p2 + j) = A (40 * p2 + j) := by
        intro A; unfold cp_; rw [if_neg (by omega)]
      exact ⟨e _, e _, e _, e _, e _⟩
theorem sur_u {ops : Nat → Int32} {n m m' : Nat} (h1 : m < n) (c1 : cd_ (ops (80 + m))) (e1 : cj_ ops n m = 10) (h2 : m' < n) (c2 : cd_ (ops (80 + m'))) (e2 : cj_ ops n m' = 10) : m' = m := by
  have a := cj_t h1 c1
  have b := cj_t h2 c2
  by_cases z : m < m'
  · have := cj_mono (ops := ops) (n := n) (show m + 1 ≤ m' by omega)
    omega
  · by_cases y : m' < m
    · have := cj_mono (ops := ops) (n := n) (show m' + 1 ≤ m by omega)
      omega
    · omega
theorem sur_n {ops : Nat → Int32} {n m : Nat} (h1 : m < n) (c1 : cd_ (ops (80 + m))) (e1 : cj_ ops n m = 10) : ¬ cj_ ops n n ≤ 10 := by
  have a := cj_t h1 c1
  have := cj_mono (ops := ops) (n := n) (show m + 1 ≤ n by omega)
  omega
theorem un_u {A : Nat → Int32} {m m' : Nat} (e1 : A m = 0) (n1 : ∀ j, j < m → ¬ A j = 0) (e2 : A m' = 0) (n2 : ∀ j, j < m' → ¬ A j = 0) : m' = m := by
  by_cases z : m < m'
  · exact absurd e1 (n2 m z)
  · by_cases y : m' < m
    · exact absurd e2 (n1 m' y)
    · omega
theorem i_up {k : Nat} {u : SX} {v : SY} (h : i_Rel k u v) : i_Rel (k + 6) u v := h
section
variable {x_safe : Int64} {x_at : Int32} {x_exitLeast : Int64} {x_exitMost : Int64} {x_branches : Int32} {x_faultPlace : Int32} {x_provedLeast : Int64} {x_provedMost : Int64} {x_packetLength : Int32} {x_executed : Int32} {x_ops : Nat → Int32} {x_targets : Nat → Int32} {x_sources : Nat → Int32} {x_offsets : Nat → Int32} {x_immediates : Nat → Int32} {x_lengths : Nat → Int32} {x_kinds : Nat → Int32} {x_los : Nat → Int64} {x_his : Nat → Int64} {x_reached : Nat → Int32} {x_branchAt : Nat → Int32} {x_branchSafe : Nat → Int64} {x_branchKinds : Nat → Int32} {x_branchLos : Nat → Int64} {x_branchHis : Nat → Int64} {x_packet : Nat → Int32} {x_registers : Nat → Int64} {x_cells : Nat → Int64} {x_keyWords : Nat → Int64} {x_keyTaken : Nat → Int32} {y_place : Int32} {y_least : Int64} {y_most : Int64} {y_smallest : Int64} {y_greatest : Int64} {y_ways : Int32} {y_fault : Int32} {y_base : Int32} {y_otherKind : Int32} {y_otherLo : Int64} {y_otherHi : Int64} {y_low : Int64} {y_high : Int64} {y_bytes : Int32} {y_steps : Int32} {y_op : Nat → Int32} {y_first : Nat → Int32} {y_second : Nat → Int32} {y_offset : Nat → Int32} {y_given : Nat → Int32} {y_length : Nat → Int32} {y_there : Nat → Int32} {y_known : Nat → Int32} {y_lo : Nat → Int64} {y_hi : Nat → Int64} {y_at : Nat → Int32} {y_lookups : Nat → Int32} {y_safe : Nat → Int32} {y_met : Nat → Int32} {y_tag : Nat → Int32} {y_word : Nat → Int64} {y_packet : Nat → Int32} {y_keys : Nat → Int64} {y_values : Nat → Int64} {y_many : Nat → Int32}
/-- verify of a program 0 or 1, the draft's rows alike -/
theorem vc_verify {k p n : Nat} (I : i_Rel k (x_safe, x_at, x_exitLeast, x_exitMost, x_branches, x_faultPlace, x_provedLeast, x_provedMost, x_packetLength, x_executed, x_ops, x_targets, x_sources, x_offsets, x_immediates, x_lengths, x_kinds, x_los, x_his, x_reached, x_branchAt, x_branchSafe, x_branchKinds, x_branchLos, x_branchHis, x_packet, x_registers, x_cells, x_keyWords, x_keyTaken) (y_place, y_least, y_most, y_smallest, y_greatest, y_ways, y_fault, y_base, y_otherKind, y_otherLo, y_otherHi, y_low, y_high, y_bytes, y_steps, y_op, y_first, y_second, y_offset, y_given, y_length, y_there, y_known, y_lo, y_hi, y_at, y_lookups, y_safe, y_met, y_tag, y_word, y_packet, y_keys, y_values, y_many)) (hp : p < 2) (hn : n ≤ 40) (hl : x_lengths 2 = nI n) : wpX_verify (fun r u' => wpY_verify (fun r' v' => r' = r ∧ i_Rel (k + 6) u' v') (y_place, y_least, y_most, y_smallest, y_greatest, y_ways, y_fault, y_base, y_otherKind, y_otherLo, y_otherHi, y_low, y_high, y_bytes, y_steps, y_op, y_first, y_second, y_offset, y_given, y_length, y_there, y_known, y_lo, y_hi, y_at, y_lookups, y_safe, y_met, y_tag, y_word, y_packet, y_keys, y_values, y_many) (nI p)) (x_safe, x_at, x_exitLeast, x_exitMost, x_branches, x_faultPlace, x_provedLeast, x_provedMost, x_packetLength, x_executed, x_ops, x_targets, x_sources, x_offsets, x_immediates, x_lengths, x_kinds, x_los, x_his, x_reached, x_branchAt, x_branchSafe, x_branchKinds, x_branchLos, x_branchHis, x_packet, x_registers, x_cells, x_keyWords, x_keyTaken) (nI p) := by
  obtain ⟨⟨rfl, rfl, rfl, rfl, rfl, rfl⟩, ho, hl', ⟨rfl, rfl, rfl⟩, pk, rfl, mm, th, z16⟩ := I
  obtain ⟨b1, b2, b3⟩ := po_b ho
  have hok : ∀ j, ok_ (x_ops j) := fun j => (ho j).1
  have htd : ∀ j, x_targets (80 + j) = nI ((x_targets (80 + j)).toNatClampNeg) ∧ (x_targets (80 + j)).toNatClampNeg < 8 := by
    intro j
    obtain ⟨d, hd, e⟩ := (ho (80 + j)).2.1
    rw [e, nI_clamp (by omega)]; exact ⟨rfl, hd⟩
  have hts : ∀ j, x_sources (80 + j) = nI ((x_sources (80 + j)).toNatClampNeg) ∧ (x_sources (80 + j)).toNatClampNeg < 9 := by
    intro j
    obtain ⟨d, hd, e⟩ := (ho (80 + j)).2.2
    rw [e, nI_clamp (by omega)]; exact ⟨rfl, hd⟩
  -- Y's way to wY_verify_97
  have Y1 : ∀ post : Int32 → SY → Prop, (∀ m met', m < n → cd_ (x_ops (80 + m)) → cj_ x_ops n m = 10 → wY_verify_97 post (nI p) (nI n) (nI m) x_provedLeast x_provedMost (-1) (-1) y_ways 5 y_base y_otherKind y_otherLo y_otherHi y_low y_high y_bytes x_executed x_ops x_targets x_sources x_offsets x_immediates x_lengths y_there y_known y_lo y_hi y_at y_lookups y_safe met' y_tag y_word y_packet y_keys y_values y_many) → (cj_ x_ops n n ≤ 10 → ∀ met', (∀ j, j < n → met' j = 0) → wY_verify_97 post (nI p) (nI n) x_faultPlace x_provedLeast x_provedMost (-1) (-1) y_ways 0 y_base y_otherKind y_otherLo y_otherHi y_low y_high y_bytes x_executed x_ops x_targets x_sources x_offsets x_immediates x_lengths y_there y_known y_lo y_hi y_at y_lookups y_safe met' y_tag y_word y_packet y_keys y_values y_many) → wpY_verify post (x_faultPlace, x_provedLeast, x_provedMost, y_smallest, y_greatest, y_ways, y_fault, y_base, y_otherKind, y_otherLo, y_otherHi, y_low, y_high, y_bytes, x_executed, x_ops, x_targets, x_sources, x_offsets, x_immediates, x_lengths, y_there, y_known, y_lo, y_hi, y_at, y_lookups, y_safe, y_met, y_tag, y_word, y_packet, y_keys, y_values, y_many) (nI p) := by
    intro post A B
    refine br_f (xb_lt0 (by omega)) (br_t (by rw [xb_ge1 (by omega)]; omega) (nm_r hl ⟨n + 2, ?_⟩))
    exact ys_surL (y_smallest := -1) (y_greatest := -1) (y_fault := 0) hn rfl A B n 0 0 y_met (by omega) rfl (by omega) (fun i hi => absurd hi (by omega))
  refine br_f (xb_lt0 (by omega)) (br_t (by rw [xb_lt2 (by omega)]; exact hp) ?_)
  refine xs_sur hn hl hok (fun m h1 c1 e1 => ?_) (fun h10 => ?_)
  · refine br_f (xb_lt0 (by omega)) (br_f (by decide) (br_f (by decide) ?_))
    refine Y1 _ (fun m' met' h2 c2 e2 => ?_) (fun z => absurd z (sur_n h1 c1 e1))
    rw [sur_u h1 c1 e1 h2 c2 e2]
    exact ys_97F (y_fault := 5) (by decide) ⟨rfl, ⟨rfl, rfl, rfl, rfl, rfl, rfl⟩, ho, hl', ⟨rfl, rfl, rfl⟩, pk, rfl, mm, th, z16⟩
  · have p0 : pl_ n 0 = 0 := by unfold pl_; split <;> omega
    have D := dfs (x_faultPlace := x_faultPlace) (x_provedLeast := x_provedLeast) (x_provedMost := x_provedMost) (x_packetLength := x_packetLength) (x_executed := x_executed) (x_packet := x_packet) (x_registers := x_registers) (x_cells := x_cells) (x_keyWords := x_keyWords) (x_keyTaken := x_keyTaken) (x_offsets := x_offsets) (x_immediates := x_immediates) (y_place := x_faultPlace) (y_least := x_provedLeast) (y_most := x_provedMost) (y_bytes := y_bytes) (y_steps := x_executed) (y_there := y_there) (y_tag := y_tag) (y_word := y_word) (y_packet := y_packet) (y_keys := y_keys) (y_values := y_values) (y_many := y_many) hn hl h10 hok htd hts 41984 0 0 0 (fun _ => 0) (fun _ => 0) (fun _ => 0) 0 4294967295 0 K0_ (fun _ => 0) (fun _ => 0) (ze_ x_reached 40) x_branchAt x_branchSafe x_branchKinds x_branchLos x_branchHis WF_0 (by omega) (by omega) (fun j hj => absurd hj (by omega)) (by rw [p0]; show (41 - 0) * 2 ^ (10 - 0) + 0 ≤ 41984; decide) (by omega) (by rw [p0]; exact fun s _ => s)
    rw [p0] at D
    obtain ⟨e, z_safe, z_at, z_exitLeast, z_exitMost, z_branches, z_kinds, z_los, z_his, z_reached, z_branchAt, z_branchSafe, z_branchKinds, z_branchLos, z_branchHis, zz, zs, XW, YW⟩ := D
    -- Y's paths
    have Y2 : ∀ post : Int32 → SY → Prop, (∀ (v_place : Int32) (v_smallest v_greatest : Int64) (v_ways v_fault v_base v_otherKind : Int32) (v_otherLo v_otherHi v_low v_high : Int64) (v_known : Nat → Int32) (v_lo v_hi : Nat → Int64) (v_at v_lookups v_safe v_met : Nat → Int32), ((¬ e = 0 ∧ v_fault = e ∧ v_place = z_at) ∨ (e = 0 ∧ v_fault = 0 ∧ v_place = x_faultPlace ∧ v_smallest = z_exitLeast ∧ v_greatest = z_exitMost ∧ ∀ j, j < n → z_reached j = v_met j)) → ∃ n111, wY_verify_111 post (nI p) (nI n) n111 0 v_place x_provedLeast x_provedMost v_smallest v_greatest v_ways v_fault v_base v_otherKind v_otherLo v_otherHi v_low v_high y_bytes x_executed x_ops x_targets x_sources x_offsets x_immediates x_lengths y_there v_known v_lo v_hi v_at v_lookups v_safe v_met y_tag y_word y_packet y_keys y_values y_many) → wpY_verify post (x_faultPlace, x_provedLeast, x_provedMost, y_smallest, y_greatest, y_ways, y_fault, y_base, y_otherKind, y_otherLo, y_otherHi, y_low, y_high, y_bytes, x_executed, x_ops, x_targets, x_sources, x_offsets, x_immediates, x_lengths, y_there, y_known, y_lo, y_hi, y_at, y_lookups, y_safe, y_met, y_tag, y_word, y_packet, y_keys, y_values, y_many) (nI p) := by
      intro post P
      refine Y1 post (fun m met' h1 c1 e1 => absurd h10 (sur_n h1 c1 e1)) (fun _ met' hm => br_t rfl ?_)
      refine ys_follow (fun kn lo hi Fr => ⟨41984 + 2, ?_⟩)
      refine YW (-1) (-1) (nI 0) y_otherKind y_otherLo y_otherHi y_low y_high kn lo hi (upd y_at 0 0) (upd y_lookups 0 0) (upd y_safe 0 0) met' ⟨pk_us, ?_, by rw [pk_us]; rfl, by rw [pk_us]; rfl⟩ (fun j hj => absurd hj (by omega)) (Or.inl ⟨rfl, rfl, rfl, rfl⟩) (fun j hj => ?_) _ P
      · rw [pk_us]; exact Fr
      · rw [hm j hj]; unfold ze_; rw [if_pos (by omega)]
    refine br_t (by decide) ?_
    refine xv_begin (fun j h => (z16 j h).1) (fun j h => (z16 j h).2.1) (fun j h => (z16 j h).2.2) ⟨41984 + 1, XW _ ?_⟩
    by_cases e0 : e = 0
    · have S0 := zs e0
      refine br_t e0 ?_
      refine xs_unr hn hl (fun m h1 r1 r2 => ?_) (fun ra => ?_)
      · refine br_f (xb_lt0 (by omega)) (br_f (by decide) ?_)
        refine Y2 _ (fun v_place v_smallest v_greatest v_ways v_fault v_base v_otherKind v_otherLo v_otherHi v_low v_high v_known v_lo v_hi v_at v_lookups v_safe v_met cond => ?_)
        rcases cond with c | ⟨-, c1, c2, c3, c4, c5⟩
        · exact absurd e0 c.1
        · refine ⟨n + 2, ys_unrL hn c1 (fun m' h2 s1 s2 => ?_) (fun ra => absurd r1 (by rw [c5 m h1]; exact ra m h1)) n 0 (by omega) (fun i hi => absurd hi (by omega))⟩
          have : m' = m := un_u (A := v_met) (by rw [← c5 m h1]; exact r1) (fun j hj => by rw [← c5 j (by omega)]; exact r2 j hj) s1 s2
          rw [this]
          exact ⟨rfl, ⟨rfl, rfl, rfl, rfl, rfl, rfl⟩, ho, hl', ⟨rfl, rfl, rfl⟩, pk, rfl, mm, th, zz⟩
      · refine br_t (by decide) (br_t rfl ?_)
        refine xv_keep hp hn hl ?_
        refine Y2 _ (fun v_place v_smallest v_greatest v_ways v_fault v_base v_otherKind v_otherLo v_otherHi v_low v_high v_known v_lo v_hi v_at v_lookups v_safe v_met cond => ?_)
        rcases cond with c | ⟨-, c1, c2, c3, c4, c5⟩
        · exact absurd e0 c.1
        · refine ⟨n + 2, ys_unrL hn c1 (fun m' h2 s1 s2 => absurd s1 (by rw [← c5 m' h2]; exact ra m' h2)) (fun _ => ?_) n 0 (by omega) (fun i hi => absurd hi (by omega))⟩
          refine ys_keep hp hn c1 b1 b2 b3 ?_
          refine ⟨rfl, ⟨rfl, rfl, rfl, rfl, rfl, rfl⟩, po_cp ho, ⟨n, hn, ?_⟩, ⟨rfl, c3.symm, c4.symm⟩, pk, rfl, mm, th_keep hp hn th S0, zz⟩
          rw [pk_un (by omega)]; exact hl
    · refine br_f e0 (br_f e0 ?_)
      refine Y2 _ (fun v_place v_smallest v_greatest v_ways v_fault v_base v_otherKind v_otherLo v_otherHi v_low v_high v_known v_lo v_hi v_at v_lookups v_safe v_met cond => ?_)
      rcases cond with ⟨-, c1, c2⟩ | c
      · have nf : ¬ v_fault = 0 := by rw [c1]; exact e0
        have G : wY_verify_148 (fun r' v' => r' = e ∧ i_Rel (k + 6) (z_safe, z_at, z_exitLeast, z_exitMost, z_branches, z_at, x_provedLeast, x_provedMost, x_packetLength, x_executed, x_ops, x_targets, x_sources, x_offsets, x_immediates, x_lengths, z_kinds, z_los, z_his, z_reached, z_branchAt, z_branchSafe, z_branchKinds, z_branchLos, z_branchHis, x_packet, x_registers, x_cells, x_keyWords, x_keyTaken) v') (nI p) (nI n) v_place x_provedLeast x_provedMost v_smallest v_greatest v_ways v_fault v_base v_otherKind v_otherLo v_otherHi v_low v_high y_bytes x_executed x_ops x_targets x_sources x_offsets x_immediates x_lengths y_there v_known v_lo v_hi v_at v_lookups v_safe v_met y_tag y_word y_packet y_keys y_values y_many := ys_148F nf ⟨c1, ⟨rfl, rfl, rfl, rfl, rfl, rfl⟩, ho, hl', ⟨c2.symm, rfl, rfl⟩, pk, rfl, mm, th, zz⟩
        exact ⟨1, br_c (fun _ => G) (fun _ => br_f nf G)⟩
      · exact absurd c.1 e0
end
theorem i_vc_verify {k : Nat} {u : SX} {v : SY} (I : i_Rel k u v) (hk : k + 6 ≤ 3072) (v1 : Int32) : wpX_verify (fun r u' => wpY_verify (fun r' v' => r' = r ∧ i_Rel (k + 6) u' v') v v1) u v1 := by
  obtain ⟨x_safe, x_at, x_exitLeast, x_exitMost, x_branches, x_faultPlace, x_provedLeast, x_provedMost, x_packetLength, x_executed, x_ops, x_targets, x_sources, x_offsets, x_immediates, x_lengths, x_kinds, x_los, x_his, x_reached, x_branchAt, x_branchSafe, x_branchKinds, x_branchLos, x_branchHis, x_packet, x_registers, x_cells, x_keyWords, x_keyTaken⟩ := u
  obtain ⟨y_place, y_least, y_most, y_smallest, y_greatest, y_ways, y_fault, y_base, y_otherKind, y_otherLo, y_otherHi, y_low, y_high, y_bytes, y_steps, y_op, y_first, y_second, y_offset, y_given, y_length, y_there, y_known, y_lo, y_hi, y_at, y_lookups, y_safe, y_met, y_tag, y_word, y_packet, y_keys, y_values, y_many⟩ := v
  by_cases z : v1 < 0
  · exact br_t z (br_t z ⟨rfl, I⟩)
  · obtain ⟨p, hp, rfl⟩ := nI_of z
    by_cases h2 : p < 2
    · obtain ⟨n, hn, hl⟩ := I.2.2.1
      exact vc_verify I h2 hn hl
    · exact br_f z (br_f (by rw [xb_lt2 hp]; omega) (br_f z (br_f (by rw [xb_ge1 hp]; omega) ⟨rfl, I⟩)))
