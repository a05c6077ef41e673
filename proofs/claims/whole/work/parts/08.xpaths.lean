def rs_ {α : Type} (o : Nat → α) (b : Nat) (s : Nat → α) (m : Nat) : Nat → α := fun j => if j < m then s (16 * b + j) else o j
theorem rs_0 {α : Type} (o : Nat → α) (b : Nat) (s : Nat → α) : rs_ o b s 0 = o := by funext j; unfold rs_; rw [if_neg (by omega)]
theorem rs_s (o : Nat → Int32) (b : Nat) (s : Nat → Int32) (m : Nat) : upd (rs_ o b s m) m (s (16 * b + m)) = rs_ o b s (m + 1) := by
  funext j; unfold upd rs_
  by_cases h : j = m
  · subst h; rw [if_pos rfl, if_pos (by omega)]
  · rw [if_neg h]
    by_cases z : j < m
    · rw [if_pos z, if_pos (by omega)]
    · rw [if_neg z, if_neg (by omega)]
theorem rs_sL (o : Nat → Int64) (b : Nat) (s : Nat → Int64) (m : Nat) : vp_updL (rs_ o b s m) m (s (16 * b + m)) = rs_ o b s (m + 1) := by
  funext j; unfold vp_updL rs_
  by_cases h : j = m
  · subst h; rw [if_pos rfl, if_pos (by omega)]
  · rw [if_neg h]
    by_cases z : j < m
    · rw [if_pos z, if_pos (by omega)]
    · rw [if_neg z, if_neg (by omega)]
/-- m cells of zero from the start -/
def ze_ (o : Nat → Int32) (m : Nat) : Nat → Int32 := fun j => if j < m then 0 else o j
def zeL (o : Nat → Int64) (m : Nat) : Nat → Int64 := fun j => if j < m then 0 else o j
theorem ze_0 (o : Nat → Int32) : ze_ o 0 = o := by funext j; unfold ze_; rw [if_neg (by omega)]
theorem zeL_0 (o : Nat → Int64) : zeL o 0 = o := by funext j; unfold zeL; rw [if_neg (by omega)]
theorem ze_s (o : Nat → Int32) (m : Nat) : upd (ze_ o m) m 0 = ze_ o (m + 1) := by
  funext j; unfold upd ze_
  by_cases h : j = m
  · subst h; rw [if_pos rfl, if_pos (by omega)]
  · rw [if_neg h]
    by_cases z : j < m
    · rw [if_pos z, if_pos (by omega)]
    · rw [if_neg z, if_neg (by omega)]
theorem zeL_s (o : Nat → Int64) (m : Nat) : vp_updL (zeL o m) m 0 = zeL o (m + 1) := by
  funext j; unfold vp_updL zeL
  by_cases h : j = m
  · subst h; rw [if_pos rfl, if_pos (by omega)]
  · rw [if_neg h]
    by_cases z : j < m
    · rw [if_pos z, if_pos (by omega)]
    · rw [if_neg z, if_neg (by omega)]
/-- the draft's m first rows laid into program p -/
def cp_ (o : Nat → Int32) (p m : Nat) : Nat → Int32 := fun j => if 40 * p ≤ j ∧ j < 40 * p + m then o (80 + (j - 40 * p)) else o j
theorem cp_0 (o : Nat → Int32) (p : Nat) : cp_ o p 0 = o := by funext j; unfold cp_; rw [if_neg (by omega)]
theorem cp_s (o : Nat → Int32) {p m : Nat} (hp : p < 2) (hm : m < 40) : upd (cp_ o p m) (40 * p + m) (cp_ o p m (80 + m)) = cp_ o p (m + 1) := by
  have e : cp_ o p m (80 + m) = o (80 + m) := by unfold cp_; rw [if_neg (by omega)]
  rw [e]
  funext j; unfold upd cp_
  by_cases h : j = 40 * p + m
  · subst h; rw [if_pos rfl, if_pos (by omega)]; congr 2; omega
  · rw [if_neg h]
    by_cases z : 40 * p ≤ j ∧ j < 40 * p + m
    · rw [if_pos z, if_pos (by omega)]
    · rw [if_neg z, if_neg (by omega)]
section
variable {x_safe : Int64} {x_at : Int32} {x_exitLeast : Int64} {x_exitMost : Int64} {x_branches : Int32} {x_faultPlace : Int32} {x_provedLeast : Int64} {x_provedMost : Int64} {x_packetLength : Int32} {x_executed : Int32} {x_ops : Nat → Int32} {x_targets : Nat → Int32} {x_sources : Nat → Int32} {x_offsets : Nat → Int32} {x_immediates : Nat → Int32} {x_lengths : Nat → Int32} {x_kinds : Nat → Int32} {x_los : Nat → Int64} {x_his : Nat → Int64} {x_reached : Nat → Int32} {x_branchAt : Nat → Int32} {x_branchSafe : Nat → Int64} {x_branchKinds : Nat → Int32} {x_branchLos : Nat → Int64} {x_branchHis : Nat → Int64} {x_packet : Nat → Int32} {x_registers : Nat → Int64} {x_cells : Nat → Int64} {x_keyWords : Nat → Int64} {x_keyTaken : Nat → Int32}
theorem xv_takeL {post : SX → Prop} {b : Nat} (hb : b < 10) (H : ∀ x1 : Int32, x1 = 80 + x_at → wpX_secondSlot (fun r_8 u => match u with | (x_safe, x_at, x_exitLeast, x_exitMost, x_branches, x_faultPlace, x_provedLeast, x_provedMost, x_packetLength, x_executed, x_ops, x_targets, x_sources, x_offsets, x_immediates, x_lengths, x_kinds, x_los, x_his, x_reached, x_branchAt, x_branchSafe, x_branchKinds, x_branchLos, x_branchHis, x_packet, x_registers, x_cells, x_keyWords, x_keyTaken) => (vp_in x1 120 ∧ (¬ (10 : Int32) = 0 ∧ (vp_in x1 120 ∧ (wpX_learn (fun u => match u with | (x_safe, x_at, x_exitLeast, x_exitMost, x_branches, x_faultPlace, x_provedLeast, x_provedMost, x_packetLength, x_executed, x_ops, x_targets, x_sources, x_offsets, x_immediates, x_lengths, x_kinds, x_los, x_his, x_reached, x_branchAt, x_branchSafe, x_branchKinds, x_branchLos, x_branchHis, x_packet, x_registers, x_cells, x_keyWords, x_keyTaken) => (wpX_goalOfJump (fun r_73 => (post (x_safe, r_73, x_exitLeast, x_exitMost, x_branches, x_faultPlace, x_provedLeast, x_provedMost, x_packetLength, x_executed, x_ops, x_targets, x_sources, x_offsets, x_immediates, x_lengths, x_kinds, x_los, x_his, x_reached, x_branchAt, x_branchSafe, x_branchKinds, x_branchLos, x_branchHis, x_packet, x_registers, x_cells, x_keyWords, x_keyTaken))) (x_safe, x_at, x_exitLeast, x_exitMost, x_branches, x_faultPlace, x_provedLeast, x_provedMost, x_packetLength, x_executed, x_ops, x_targets, x_sources, x_offsets, x_immediates, x_lengths, x_kinds, x_los, x_his, x_reached, x_branchAt, x_branchSafe, x_branchKinds, x_branchLos, x_branchHis, x_packet, x_registers, x_cells, x_keyWords, x_keyTaken) x1)) (x_safe, x_at, x_exitLeast, x_exitMost, x_branches, x_faultPlace, x_provedLeast, x_provedMost, x_packetLength, x_executed, x_ops, x_targets, x_sources, x_offsets, x_immediates, x_lengths, x_kinds, x_los, x_his, x_reached, x_branchAt, x_branchSafe, x_branchKinds, x_branchLos, x_branchHis, x_packet, x_registers, x_cells, x_keyWords, x_keyTaken) ((x_ops x1.toNatClampNeg) - (x_ops x1.toNatClampNeg) / 10 * 10) (x_targets x1.toNatClampNeg) r_8))))) (x_safe, x_at, x_exitLeast, x_exitMost, nI b, x_faultPlace, x_provedLeast, x_provedMost, x_packetLength, x_executed, x_ops, x_targets, x_sources, x_offsets, x_immediates, x_lengths, rs_ x_kinds b x_branchKinds 16, rs_ x_los b x_branchLos 16, rs_ x_his b x_branchHis 16, x_reached, x_branchAt, x_branchSafe, x_branchKinds, x_branchLos, x_branchHis, x_packet, x_registers, x_cells, x_keyWords, x_keyTaken) x1) : ∀ d m : Nat, m + d = 16 → wX_takeUpBranch_38 post (d + 1) (nI m) x_safe x_at x_exitLeast x_exitMost (nI b) x_faultPlace x_provedLeast x_provedMost x_packetLength x_executed x_ops x_targets x_sources x_offsets x_immediates x_lengths (rs_ x_kinds b x_branchKinds m) (rs_ x_los b x_branchLos m) (rs_ x_his b x_branchHis m) x_reached x_branchAt x_branchSafe x_branchKinds x_branchLos x_branchHis x_packet x_registers x_cells x_keyWords x_keyTaken := by
  intro d
  induction d with
  | zero =>
    intro m hm
    have e : m = 16 := by omega
    subst e
    exact br_t (by decide) H
  | succ d ih =>
    intro m hm
    have h2 : vp_in (nI (16 * b + m)) 160 := vp_in_nI (by omega) (by decide)
    have c2 : (nI (16 * b + m)).toNatClampNeg = 16 * b + m := nI_clamp (by omega)
    refine br_f (by rw [xb_le16 (by omega)]; omega) (nm_r (e' := nI (16 * b + m)) (by rw [xb_mur16, nI_add, Nat.mul_comm]) ⟨h2, h2, h2, (xv_know (by omega)).mpr ?_⟩)
    rw [c2, rs_s, rs_sL, rs_sL]
    exact nm_r (nI_1 m) (ih (m + 1) (by omega))
theorem xv_take {post : SX → Prop} {a b n f g d s : Nat} (hb : b < 10) (ha : a < 40) (hn : n ≤ 40) (hg : g < 2 ^ 31) (h1 : 1 ≤ f) (h4 : f ≤ 4) (hd : d < 16) (hs : s < 16) (hl : x_lengths 2 = nI n) (hof : x_offsets (80 + a) = nI g) (ef : x_ops (80 + a) - x_ops (80 + a) / 10 * 10 = nI f) (ed : x_targets (80 + a) = nI d) (es : x_sources (80 + a) = nI s) (eb : x_branchAt b = nI a) {o : Int32} {w : Int64} (eo : x_ops (80 + a) = o) (ew : (x_immediates (80 + a)).toInt64 &&& 4294967295 = w) {K : Nat → Int32} {L H : Nat → Int64} (eK : K = k9_ o (rs_ x_kinds b x_branchKinds 16)) (eL : L = l9_ o w (rs_ x_los b x_branchLos 16)) (eH : H = l9_ o w (rs_ x_his b x_branchHis 16)) (P : post (ln_S f d (q9_ o s) K L (x_branchSafe b), nI (gl_ n a g), x_exitLeast, x_exitMost, nI b, x_faultPlace, x_provedLeast, x_provedMost, x_packetLength, x_executed, x_ops, x_targets, x_sources, x_offsets, x_immediates, x_lengths, ln_K f d K, ln_L f d (q9_ o s) K L H, ln_H f d (q9_ o s) K L H, x_reached, x_branchAt, x_branchSafe, x_branchKinds, x_branchLos, x_branchHis, x_packet, x_registers, x_cells, x_keyWords, x_keyTaken)) : wpX_takeUpBranch post (x_safe, x_at, x_exitLeast, x_exitMost, nI (b + 1), x_faultPlace, x_provedLeast, x_provedMost, x_packetLength, x_executed, x_ops, x_targets, x_sources, x_offsets, x_immediates, x_lengths, x_kinds, x_los, x_his, x_reached, x_branchAt, x_branchSafe, x_branchKinds, x_branchLos, x_branchHis, x_packet, x_registers, x_cells, x_keyWords, x_keyTaken) := by
  have h2 : vp_in (nI b) 10 := vp_in_nI hb (by decide)
  have c2 : (nI b).toNatClampNeg = b := nI_clamp (by omega)
  refine nm_r (nI_pred b) ⟨h2, nm_r (e' := nI a) (by rw [c2]; exact eb) ⟨h2, nm_r (e' := x_branchSafe b) (by rw [c2]) ⟨17, ?_⟩⟩⟩
  have T := xv_takeL (post := post) (x_at := nI a) (x_safe := x_branchSafe b) (x_exitLeast := x_exitLeast) (x_exitMost := x_exitMost) (x_faultPlace := x_faultPlace) (x_provedLeast := x_provedLeast) (x_provedMost := x_provedMost) (x_packetLength := x_packetLength) (x_executed := x_executed) (x_ops := x_ops) (x_targets := x_targets) (x_sources := x_sources) (x_offsets := x_offsets) (x_immediates := x_immediates) (x_lengths := x_lengths) (x_kinds := x_kinds) (x_los := x_los) (x_his := x_his) (x_reached := x_reached) (x_branchAt := x_branchAt) (x_branchSafe := x_branchSafe) (x_branchKinds := x_branchKinds) (x_branchLos := x_branchLos) (x_branchHis := x_branchHis) (x_packet := x_packet) (x_registers := x_registers) (x_cells := x_cells) (x_keyWords := x_keyWords) (x_keyTaken := x_keyTaken) hb ?_ 16 0 rfl
  · rw [rs_0, rs_0, rs_0] at T
    exact T
  · refine nm_r (xb_add80 a) ?_
    have hi : 80 + a < 120 := by omega
    have v : vp_in (nI (80 + a)) 120 := vp_in_nI hi (by decide)
    have c3 : (nI (80 + a)).toNatClampNeg = 80 + a := nI_clamp (by omega)
    refine xv_second hi es ?_
    refine ⟨v, by decide, v, ?_⟩
    have hq : q9_ o s < 16 := by unfold q9_; split <;> omega
    rw [c3, ef, ed, eo, ew, ← eK, ← eL, ← eH]
    refine xv_learn h1 h4 hd hq ?_
    exact (xv_goal (a := a) hi hn (by omega) hg hl hof).mpr P
theorem xv_beg64 {post : SX → Prop} (H : post (x_safe, x_at, 4294967295, 0, x_branches, x_faultPlace, x_provedLeast, x_provedMost, x_packetLength, x_executed, x_ops, x_targets, x_sources, x_offsets, x_immediates, x_lengths, x_kinds, x_los, x_his, ze_ x_reached 40, x_branchAt, x_branchSafe, x_branchKinds, x_branchLos, x_branchHis, x_packet, x_registers, x_cells, x_keyWords, x_keyTaken)) : ∀ d m : Nat, m + d = 40 → wX_beginPaths_64 post x_safe x_at x_exitLeast x_exitMost x_branches x_faultPlace x_provedLeast x_provedMost x_packetLength x_executed (d + 1) (nI m) x_ops x_targets x_sources x_offsets x_immediates x_lengths x_kinds x_los x_his (ze_ x_reached m) x_branchAt x_branchSafe x_branchKinds x_branchLos x_branchHis x_packet x_registers x_cells x_keyWords x_keyTaken := by
  intro d
  induction d with
  | zero =>
    intro m hm
    have e : m = 40 := by omega
    subst e
    exact br_t (by decide) H
  | succ d ih =>
    intro m hm
    have c2 : (nI m).toNatClampNeg = m := nI_clamp (by omega)
    exact br_f (by rw [xb_le40 (by omega)]; omega) ⟨vp_in_nI (by omega) (by decide), nm_r (e' := ze_ x_reached (m + 1)) (by rw [c2, xb_bf, ze_s]) (nm_r (nI_1 m) (ih (m + 1) (by omega)))⟩
def K0_ : Nat → Int32 := fun j => if j = 1 then 2 else if j = 2 then 3 else if j = 8 then 4 else 0
theorem xv_begL {post : SX → Prop} (zk : ∀ j, 16 ≤ j → x_kinds j = 0) (zl : ∀ j, 16 ≤ j → x_los j = 0) (zh : ∀ j, 16 ≤ j → x_his j = 0) (H : post (0, 0, 4294967295, 0, 0, x_faultPlace, x_provedLeast, x_provedMost, x_packetLength, x_executed, x_ops, x_targets, x_sources, x_offsets, x_immediates, x_lengths, K0_, fun _ => 0, fun _ => 0, ze_ x_reached 40, x_branchAt, x_branchSafe, x_branchKinds, x_branchLos, x_branchHis, x_packet, x_registers, x_cells, x_keyWords, x_keyTaken)) : ∀ d m : Nat, m + d = 16 → wX_beginPaths_2 post (d + 1) (nI m) x_safe x_at x_exitLeast x_exitMost x_branches x_faultPlace x_provedLeast x_provedMost x_packetLength x_executed x_ops x_targets x_sources x_offsets x_immediates x_lengths (ze_ x_kinds m) (zeL x_los m) (zeL x_his m) x_reached x_branchAt x_branchSafe x_branchKinds x_branchLos x_branchHis x_packet x_registers x_cells x_keyWords x_keyTaken := by
  intro d
  induction d with
  | zero =>
    intro m hm
    have e : m = 16 := by omega
    subst e
    have e1 : upd (upd (upd (ze_ x_kinds 16) 1 2) 2 3) 8 4 = K0_ := by
      funext j; unfold upd ze_ K0_
      by_cases z : j = 8
      · subst z; simp
      · by_cases y : j = 2
        · subst y; simp
        · by_cases x : j = 1
          · subst x; simp
          · simp only [x, y, z, if_false]
            split
            · rfl
            · exact zk j (by omega)
    have e2 : vp_updL (vp_updL (vp_updL (zeL x_los 16) 1 0) 2 0) 8 0 = fun _ => 0 := by
      funext j; unfold vp_updL zeL
      split
      · rfl
      · split
        · rfl
        · split
          · rfl
          · split
            · rfl
            · exact zl j (by omega)
    have e3 : vp_updL (vp_updL (vp_updL (zeL x_his 16) 1 0) 2 0) 8 0 = fun _ => 0 := by
      funext j; unfold vp_updL zeL
      split
      · rfl
      · split
        · rfl
        · split
          · rfl
          · split
            · rfl
            · exact zh j (by omega)
    refine br_t (by decide) (xv_know1.mpr (xv_know2.mpr (xv_know8.mpr ⟨41, ?_⟩)))
    rw [e1, e2, e3]
    have := xv_beg64 (x_exitLeast := x_exitLeast) (x_exitMost := x_exitMost) (x_reached := x_reached) H 40 0 rfl
    rw [ze_0] at this
    exact this
  | succ d ih =>
    intro m hm
    refine br_f (by rw [xb_le16 (by omega)]; omega) ((xv_know (by omega)).mpr ?_)
    rw [ze_s, zeL_s, zeL_s]
    exact nm_r (nI_1 m) (ih (m + 1) (by omega))
theorem xv_begin {post : SX → Prop} (zk : ∀ j, 16 ≤ j → x_kinds j = 0) (zl : ∀ j, 16 ≤ j → x_los j = 0) (zh : ∀ j, 16 ≤ j → x_his j = 0) (H : post (0, 0, 4294967295, 0, 0, x_faultPlace, x_provedLeast, x_provedMost, x_packetLength, x_executed, x_ops, x_targets, x_sources, x_offsets, x_immediates, x_lengths, K0_, fun _ => 0, fun _ => 0, ze_ x_reached 40, x_branchAt, x_branchSafe, x_branchKinds, x_branchLos, x_branchHis, x_packet, x_registers, x_cells, x_keyWords, x_keyTaken)) : wpX_beginPaths post (x_safe, x_at, x_exitLeast, x_exitMost, x_branches, x_faultPlace, x_provedLeast, x_provedMost, x_packetLength, x_executed, x_ops, x_targets, x_sources, x_offsets, x_immediates, x_lengths, x_kinds, x_los, x_his, x_reached, x_branchAt, x_branchSafe, x_branchKinds, x_branchLos, x_branchHis, x_packet, x_registers, x_cells, x_keyWords, x_keyTaken) := by
  refine ⟨17, ?_⟩
  have := xv_begL (x_safe := x_safe) (x_at := x_at) (x_exitLeast := x_exitLeast) (x_exitMost := x_exitMost) (x_branches := x_branches) zk zl zh H 16 0 rfl
  rw [ze_0, zeL_0, zeL_0] at this
  exact this
theorem xv_keepL {post : SX → Prop} {p n : Nat} (hp : p < 2) (hn : n ≤ 40) (hl : x_lengths 2 = nI n) (H : post (x_safe, x_at, x_exitLeast, x_exitMost, x_branches, x_faultPlace, x_exitLeast, x_exitMost, x_packetLength, x_executed, cp_ x_ops p n, cp_ x_targets p n, cp_ x_sources p n, cp_ x_offsets p n, cp_ x_immediates p n, upd x_lengths p (nI n), x_kinds, x_los, x_his, x_reached, x_branchAt, x_branchSafe, x_branchKinds, x_branchLos, x_branchHis, x_packet, x_registers, x_cells, x_keyWords, x_keyTaken)) : ∀ d m : Nat, m + d = n → wX_keepDraft_2 post (nI p) x_safe x_at x_exitLeast x_exitMost x_branches x_faultPlace x_provedLeast x_provedMost x_packetLength x_executed (d + 1) (nI m) (cp_ x_ops p m) (cp_ x_targets p m) (cp_ x_sources p m) (cp_ x_offsets p m) (cp_ x_immediates p m) x_lengths x_kinds x_los x_his x_reached x_branchAt x_branchSafe x_branchKinds x_branchLos x_branchHis x_packet x_registers x_cells x_keyWords x_keyTaken := by
  intro d
  have cp : (nI p).toNatClampNeg = p := nI_clamp (by omega)
  induction d with
  | zero =>
    intro m hm
    have e : m = n := by omega
    subst e
    exact br_t (by rw [hl, nI_leI (by omega) (by omega)]; omega) ⟨vp_in_nI (by omega) (by decide), nm_r (e' := upd x_lengths p (nI m)) (by rw [cp, hl]) H⟩
  | succ d ih =>
    intro m hm
    have v1 : vp_in (nI (80 + m)) 120 := vp_in_nI (by omega) (by decide)
    have v2 : vp_in (nI (40 * p + m)) 120 := vp_in_nI (by omega) (by decide)
    have c1 : (nI (80 + m)).toNatClampNeg = 80 + m := nI_clamp (by omega)
    have c2 : (nI (40 * p + m)).toNatClampNeg = 40 * p + m := nI_clamp (by omega)
    refine br_f (by rw [hl, nI_leI (by omega) (by omega)]; omega) (nm_r (xb_add80 m) (nm_r (e' := nI (40 * p + m)) (by rw [xb_mur40, nI_add, Nat.mul_comm]) ?_))
    refine ⟨v1, v2, nm_r (by rw [c1, c2, cp_s _ hp (by omega)]) ⟨v1, v2, nm_r (by rw [c1, c2, cp_s _ hp (by omega)]) ⟨v1, v2, nm_r (by rw [c1, c2, cp_s _ hp (by omega)]) ⟨v1, v2, nm_r (by rw [c1, c2, cp_s _ hp (by omega)]) ⟨v1, v2, nm_r (by rw [c1, c2, cp_s _ hp (by omega)]) (nm_r (nI_1 m) (ih (m + 1) (by omega)))⟩⟩⟩⟩⟩
theorem xv_keep {post : SX → Prop} {p n : Nat} (hp : p < 2) (hn : n ≤ 40) (hl : x_lengths 2 = nI n) (H : post (x_safe, x_at, x_exitLeast, x_exitMost, x_branches, x_faultPlace, x_exitLeast, x_exitMost, x_packetLength, x_executed, cp_ x_ops p n, cp_ x_targets p n, cp_ x_sources p n, cp_ x_offsets p n, cp_ x_immediates p n, upd x_lengths p (nI n), x_kinds, x_los, x_his, x_reached, x_branchAt, x_branchSafe, x_branchKinds, x_branchLos, x_branchHis, x_packet, x_registers, x_cells, x_keyWords, x_keyTaken)) : wpX_keepDraft post (x_safe, x_at, x_exitLeast, x_exitMost, x_branches, x_faultPlace, x_provedLeast, x_provedMost, x_packetLength, x_executed, x_ops, x_targets, x_sources, x_offsets, x_immediates, x_lengths, x_kinds, x_los, x_his, x_reached, x_branchAt, x_branchSafe, x_branchKinds, x_branchLos, x_branchHis, x_packet, x_registers, x_cells, x_keyWords, x_keyTaken) (nI p) := by
  refine ⟨n + 1, ?_⟩
  have := xv_keepL (x_provedLeast := x_provedLeast) (x_provedMost := x_provedMost) hp hn hl H n 0 (by omega)
  rw [cp_0, cp_0, cp_0, cp_0, cp_0] at this
  exact this
end
