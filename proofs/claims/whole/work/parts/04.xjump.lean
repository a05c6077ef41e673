def gl_ (n a f : Nat) : Nat := if n ≤ a + 1 + f then n else a + 1 + f
def cm_ (f : Nat) (kd kq : Int32) (hq : Int64) : Prop := (kd = 1 ∧ kq = 1) ∨ (kd = 6 ∧ f ≤ 2 ∧ kq = 1 ∧ hq = 0) ∨ (kd = 2 ∧ 3 ≤ f ∧ kq = 3) ∨ (kd = 3 ∧ 3 ≤ f ∧ kq = 2)
def k7_ (k : Int32) : Prop := k = 0 ∨ k = 1 ∨ k = 2 ∨ k = 3 ∨ k = 4 ∨ k = 5 ∨ k = 6
def op_ (f : Nat) : Nat := if f = 1 then 2 else if f = 2 then 1 else if f = 3 then 4 else 3
def mh_ (f : Nat) (l h l2 h2 : Int64) : Prop := if f = 1 then ¬ h2 < l ∧ ¬ h < l2 else if f = 2 then ¬ (l = h2 ∧ l2 = h) else if f = 3 then ¬ h2 ≤ l else ¬ h < l2
def cu_l (f : Nat) (n l h : Int64) : Int64 := if f = 1 then n else if f = 2 then (if l = n then n + 1 else l) else if f = 3 then l else n
def cu_h (f : Nat) (n l h : Int64) : Int64 := if f = 1 then n else if f = 2 then (if h = n then n - 1 else h) else if f = 3 then n - 1 else h
def se_K (K : Nat → Int32) (k : Int32) (m : Nat) : Nat → Int32 := fun j => if j < m ∧ K j = 6 then k else K j
def sv_ {α : Type} (o : Nat → α) (b : Nat) (s : Nat → α) (m : Nat) : Nat → α := fun j => if 16 * b ≤ j ∧ j < 16 * b + m then s (j - 16 * b) else o j
def ra_S (S p : Int64) : Int64 := if p ≤ S then S else p
def ln_K (f d : Nat) (K : Nat → Int32) : Nat → Int32 := if K d = 6 then se_K K (if f = 1 then 1 else 5) 16 else K
def ln_L (f d q : Nat) (K : Nat → Int32) (L H : Nat → Int64) : Nat → Int64 := if K d = 1 ∧ L q = H q then vp_updL L d (cu_l f (L q) (L d) (H d)) else L
def ln_H (f d q : Nat) (K : Nat → Int32) (L H : Nat → Int64) : Nat → Int64 := if K d = 1 ∧ L q = H q then vp_updL H d (cu_h f (L q) (L d) (H d)) else H
def ln_S (f d q : Nat) (K : Nat → Int32) (L : Nat → Int64) (S : Int64) : Int64 := if K d = 2 ∧ f = 3 then ra_S S (L d + 1) else if K d = 3 ∧ f = 4 then ra_S S (L q) else S
theorem sv_0 {α : Type} (o : Nat → α) (b : Nat) (s : Nat → α) : sv_ o b s 0 = o := by
  funext j; unfold sv_; rw [if_neg (by omega)]
theorem sv_s (o : Nat → Int32) (b : Nat) (s : Nat → Int32) (m : Nat) : upd (sv_ o b s m) (16 * b + m) (s m) = sv_ o b s (m + 1) := by
  funext j; unfold upd sv_
  by_cases h : j = 16 * b + m
  · subst h; rw [if_pos rfl, if_pos (by omega)]; congr 1; omega
  · rw [if_neg h]
    by_cases z : 16 * b ≤ j ∧ j < 16 * b + m
    · rw [if_pos z, if_pos (by omega)]
    · rw [if_neg z, if_neg (by omega)]
theorem sv_sL (o : Nat → Int64) (b : Nat) (s : Nat → Int64) (m : Nat) : vp_updL (sv_ o b s m) (16 * b + m) (s m) = sv_ o b s (m + 1) := by
  funext j; unfold vp_updL sv_
  by_cases h : j = 16 * b + m
  · subst h; rw [if_pos rfl, if_pos (by omega)]; congr 1; omega
  · rw [if_neg h]
    by_cases z : 16 * b ≤ j ∧ j < 16 * b + m
    · rw [if_pos z, if_pos (by omega)]
    · rw [if_neg z, if_neg (by omega)]
theorem se_0 (K : Nat → Int32) (k : Int32) : se_K K k 0 = K := by
  funext j; unfold se_K; rw [if_neg (by omega)]
theorem se_t {K : Nat → Int32} {k : Int32} {m : Nat} (h : K m = 6) : upd (se_K K k m) m k = se_K K k (m + 1) := by
  funext j; unfold upd se_K
  by_cases z : j = m
  · subst z; rw [if_pos rfl, if_pos ⟨by omega, h⟩]
  · rw [if_neg z]
    by_cases y : j < m ∧ K j = 6
    · rw [if_pos y, if_pos ⟨by omega, y.2⟩]
    · rw [if_neg y, if_neg (fun w => y ⟨by omega, w.2⟩)]
theorem se_f {K : Nat → Int32} {k : Int32} {m : Nat} (h : ¬ K m = 6) : se_K K k m = se_K K k (m + 1) := by
  funext j; unfold se_K
  by_cases y : j < m ∧ K j = 6
  · rw [if_pos y, if_pos ⟨by omega, y.2⟩]
  · rw [if_neg y, if_neg]
    intro w
    by_cases z : j = m
    · subst z; exact h w.2
    · exact y ⟨by omega, w.2⟩
theorem se_at {K : Nat → Int32} {k : Int32} {m : Nat} : se_K K k m m = K m := by unfold se_K; rw [if_neg (by omega)]
section
variable {x_safe : Int64} {x_at : Int32} {x_exitLeast : Int64} {x_exitMost : Int64} {x_branches : Int32} {x_faultPlace : Int32} {x_provedLeast : Int64} {x_provedMost : Int64} {x_packetLength : Int32} {x_executed : Int32} {x_ops : Nat → Int32} {x_targets : Nat → Int32} {x_sources : Nat → Int32} {x_offsets : Nat → Int32} {x_immediates : Nat → Int32} {x_lengths : Nat → Int32} {x_kinds : Nat → Int32} {x_los : Nat → Int64} {x_his : Nat → Int64} {x_reached : Nat → Int32} {x_branchAt : Nat → Int32} {x_branchSafe : Nat → Int64} {x_branchKinds : Nat → Int32} {x_branchLos : Nat → Int64} {x_branchHis : Nat → Int64} {x_packet : Nat → Int32} {x_registers : Nat → Int64} {x_cells : Nat → Int64} {x_keyWords : Nat → Int64} {x_keyTaken : Nat → Int32}
theorem xv_goal {post : Int32 → Prop} {i n a f : Nat} (hi : i < 120) (hn : n ≤ 40) (ha : a < 1000) (hf : f < 2 ^ 31) (hl : x_lengths 2 = nI n) (ho : x_offsets i = nI f) : wpX_goalOfJump post (x_safe, nI a, x_exitLeast, x_exitMost, x_branches, x_faultPlace, x_provedLeast, x_provedMost, x_packetLength, x_executed, x_ops, x_targets, x_sources, x_offsets, x_immediates, x_lengths, x_kinds, x_los, x_his, x_reached, x_branchAt, x_branchSafe, x_branchKinds, x_branchLos, x_branchHis, x_packet, x_registers, x_cells, x_keyWords, x_keyTaken) (nI i) ↔ post (nI (gl_ n a f)) := by
  simp (disch := omega) only [wpX_goalOfJump, forall_eq, true_and, and_true, true_implies, not_true_eq_false, false_implies, not_false_eq_true, implies_true, and_self, nI_add, nI_1, nI_clamp, vp_in_nI, xb_10, xb_bt, xb_bf, hl, ho, nI_l, lN_1, lN_add, pk_lLE, lN_i]
  unfold gl_
  by_cases z : n ≤ a + 1 + f
  · simp only [z, if_true, forall_eq, true_and, and_true, true_implies, not_true_eq_false, false_implies, not_false_eq_true, implies_true, and_self]
  · simp only [z, if_false, forall_eq, true_and, and_true, true_implies, not_true_eq_false, false_implies, not_false_eq_true, implies_true, and_self]
theorem xv_cmp {post : Int32 → Prop} {f d q : Nat} (h1 : 1 ≤ f) (h4 : f ≤ 4) (hd : d < 16) (hq : q < 16) (hk : k7_ (x_kinds d)) : (cm_ f (x_kinds d) (x_kinds q) (x_his q) → post 1) → (¬ cm_ f (x_kinds d) (x_kinds q) (x_his q) → post 0) → wpX_isComparable post (x_safe, x_at, x_exitLeast, x_exitMost, x_branches, x_faultPlace, x_provedLeast, x_provedMost, x_packetLength, x_executed, x_ops, x_targets, x_sources, x_offsets, x_immediates, x_lengths, x_kinds, x_los, x_his, x_reached, x_branchAt, x_branchSafe, x_branchKinds, x_branchLos, x_branchHis, x_packet, x_registers, x_cells, x_keyWords, x_keyTaken) (nI f) (nI d) (nI q) := by
  intro A B
  have w : ∀ z : Int32, (z = 0 ↔ 3 ≤ f) → wX_isComparable_15 post (nI d) (nI q) z x_safe x_at x_exitLeast x_exitMost x_branches x_faultPlace x_provedLeast x_provedMost x_packetLength x_executed x_ops x_targets x_sources x_offsets x_immediates x_lengths x_kinds x_los x_his x_reached x_branchAt x_branchSafe x_branchKinds x_branchLos x_branchHis x_packet x_registers x_cells x_keyWords x_keyTaken := by
    intro z hz
    simp (disch := omega) only [wX_isComparable_15, forall_eq, true_and, and_true, true_implies, not_true_eq_false, false_implies, not_false_eq_true, implies_true, and_self, nI_add, nI_1, nI_clamp, vp_in_nI, xb_10, xb_bt, xb_bf]
    unfold cm_ at A B
    rcases hk with k | k | k | k | k | k | k
    · simp [k] at A B ⊢; exact B
    · simp [k] at A B ⊢; exact ⟨A, B⟩
    · simp [k, hz] at A B ⊢
      by_cases y : 3 ≤ f
      · have yl : ¬ f < 3 := by omega
        simp [y, yl] at A B ⊢; exact ⟨A, B⟩
      · have yl : f < 3 := by omega
        simp [y, yl] at A B ⊢; exact B
    · simp [k, hz] at A B ⊢
      by_cases y : 3 ≤ f
      · have yl : ¬ f < 3 := by omega
        simp [y, yl] at A B ⊢; exact ⟨A, B⟩
      · have yl : f < 3 := by omega
        simp [y, yl] at A B ⊢; exact B
    · simp [k] at A B ⊢; exact B
    · simp [k] at A B ⊢; exact B
    · simp [k, hz] at A B ⊢
      by_cases y : 3 ≤ f
      · have y' : ¬ f ≤ 2 := by omega
        have yl : ¬ f < 3 := by omega
        simp [y, y', yl] at A B ⊢; exact B
      · have y' : f ≤ 2 := by omega
        have yl : f < 3 := by omega
        simp [y, y', yl] at A B ⊢
        refine ⟨fun a => ⟨fun b => A a b, fun b => B (fun _ => b)⟩, fun a => B (fun b => absurd b a)⟩
  have e : f = 1 ∨ f = 2 ∨ 3 ≤ f := by omega
  rcases e with rfl | rfl | e
  · exact br_t rfl (w 1 (by constructor <;> intro z <;> first | omega | exact absurd z (by decide)))
  · exact br_f (by decide) (br_t rfl (w 1 (by constructor <;> intro z <;> first | omega | exact absurd z (by decide))))
  · refine br_f ?_ (br_f ?_ (w 0 ⟨fun _ => e, fun _ => rfl⟩))
    · rw [xb_eq1 (by omega)]; omega
    · rw [xb_eq2 (by omega)]; omega
theorem xv_opp {post : Int32 → Prop} {f : Nat} (h1 : 1 ≤ f) (h4 : f ≤ 4) : wpX_opposite post (nI f) ↔ post (nI (op_ f)) := by
  have e : f = 1 ∨ f = 2 ∨ f = 3 ∨ f = 4 := by omega
  rcases e with rfl | rfl | rfl | rfl
  · rw [← xb_L1]; simp [wpX_opposite, op_, ← xb_L2]
  · rw [← xb_L2]; simp [wpX_opposite, op_, ← xb_L1]
  · rw [← xb_L3]; simp [wpX_opposite, op_, ← xb_L4]
  · rw [← xb_L4]; simp [wpX_opposite, op_, ← xb_L3]
theorem xv_mayN {post : Int32 → Prop} {f : Int32} {d q : Nat} (hd : d < 16) (h : ¬ x_kinds d = 1) : wpX_mayHold post (x_safe, x_at, x_exitLeast, x_exitMost, x_branches, x_faultPlace, x_provedLeast, x_provedMost, x_packetLength, x_executed, x_ops, x_targets, x_sources, x_offsets, x_immediates, x_lengths, x_kinds, x_los, x_his, x_reached, x_branchAt, x_branchSafe, x_branchKinds, x_branchLos, x_branchHis, x_packet, x_registers, x_cells, x_keyWords, x_keyTaken) f (nI d) (nI q) ↔ post 1 := by
  simp (disch := omega) only [wpX_mayHold, forall_eq, true_and, and_true, true_implies, not_true_eq_false, false_implies, not_false_eq_true, implies_true, and_self, nI_add, nI_1, nI_clamp, vp_in_nI, xb_10, xb_bt, xb_bf, h]
theorem xv_mayS {post : Int32 → Prop} {f d q : Nat} (h1 : 1 ≤ f) (h4 : f ≤ 4) (hd : d < 16) (hq : q < 16) (h : x_kinds d = 1) (A : mh_ f (x_los d) (x_his d) (x_los q) (x_his q) → post 1) (B : ¬ mh_ f (x_los d) (x_his d) (x_los q) (x_his q) → post 0) : wpX_mayHold post (x_safe, x_at, x_exitLeast, x_exitMost, x_branches, x_faultPlace, x_provedLeast, x_provedMost, x_packetLength, x_executed, x_ops, x_targets, x_sources, x_offsets, x_immediates, x_lengths, x_kinds, x_los, x_his, x_reached, x_branchAt, x_branchSafe, x_branchKinds, x_branchLos, x_branchHis, x_packet, x_registers, x_cells, x_keyWords, x_keyTaken) (nI f) (nI d) (nI q) := by
  have e : f = 1 ∨ f = 2 ∨ f = 3 ∨ f = 4 := by omega
  simp (disch := omega) only [wpX_mayHold, forall_eq, true_and, and_true, true_implies, not_true_eq_false, false_implies, not_false_eq_true, implies_true, and_self, nI_add, nI_1, nI_clamp, vp_in_nI, xb_10, xb_bt, xb_bf, h]
  rcases e with rfl | rfl | rfl | rfl
  · rw [← xb_L1]
    unfold mh_ at A B
    simp at A B ⊢
    refine ⟨fun z => B (fun y => absurd z (Int64.not_lt.mpr y)), fun z => ⟨fun y => B (fun _ => y), fun y => A z y⟩⟩
  · rw [← xb_L2]
    unfold mh_ at A B
    simp at A B ⊢
    refine ⟨fun z => ⟨fun y => B z y, fun y => A (fun _ => y)⟩, fun z => A (fun y => absurd y z)⟩
  · rw [← xb_L3]
    unfold mh_ at A B
    simp at A B ⊢
    exact ⟨B, A⟩
  · rw [← xb_L4]
    unfold mh_ at A B
    simp at A B ⊢
    exact ⟨B, A⟩
theorem xv_saveL {post : SX → Prop} {b : Nat} (hb : b < 10) (H : post (x_safe, x_at, x_exitLeast, x_exitMost, nI (b + 1), x_faultPlace, x_provedLeast, x_provedMost, x_packetLength, x_executed, x_ops, x_targets, x_sources, x_offsets, x_immediates, x_lengths, x_kinds, x_los, x_his, x_reached, x_branchAt, x_branchSafe, sv_ x_branchKinds b x_kinds 16, sv_ x_branchLos b x_los 16, sv_ x_branchHis b x_his 16, x_packet, x_registers, x_cells, x_keyWords, x_keyTaken)) : ∀ d m : Nat, m + d = 16 → wX_saveBranch_38 post x_safe x_at x_exitLeast x_exitMost (nI b) x_faultPlace x_provedLeast x_provedMost x_packetLength x_executed (d + 1) (nI m) x_ops x_targets x_sources x_offsets x_immediates x_lengths x_kinds x_los x_his x_reached x_branchAt x_branchSafe (sv_ x_branchKinds b x_kinds m) (sv_ x_branchLos b x_los m) (sv_ x_branchHis b x_his m) x_packet x_registers x_cells x_keyWords x_keyTaken := by
  intro d
  induction d with
  | zero =>
    intro m hm
    have e : m = 16 := by omega
    subst e
    exact br_t (by decide) (nm_r (nI_1 b) H)
  | succ d ih =>
    intro m hm
    refine br_f (by rw [xb_le16 (by omega)]; omega) (nm_r (e' := nI (16 * b + m)) (by rw [xb_mur16, nI_add, Nat.mul_comm]) ?_)
    have h1 : vp_in (nI m) 16 := vp_in_nI (by omega) (by decide)
    have h2 : vp_in (nI (16 * b + m)) 160 := vp_in_nI (by omega) (by decide)
    have c1 : (nI m).toNatClampNeg = m := nI_clamp (by omega)
    have c2 : (nI (16 * b + m)).toNatClampNeg = 16 * b + m := nI_clamp (by omega)
    refine ⟨h1, h2, nm_r (e' := sv_ x_branchKinds b x_kinds (m + 1)) (by rw [c1, c2, sv_s]) ⟨h1, h2, nm_r (e' := sv_ x_branchLos b x_los (m + 1)) (by rw [c1, c2, sv_sL]) ⟨h1, h2, nm_r (e' := sv_ x_branchHis b x_his (m + 1)) (by rw [c1, c2, sv_sL]) (nm_r (nI_1 m) (ih (m + 1) (by omega)))⟩⟩⟩
theorem xv_save {post : SX → Prop} {b : Nat} (hb : b < 10) (H : post (x_safe, x_at, x_exitLeast, x_exitMost, nI (b + 1), x_faultPlace, x_provedLeast, x_provedMost, x_packetLength, x_executed, x_ops, x_targets, x_sources, x_offsets, x_immediates, x_lengths, x_kinds, x_los, x_his, x_reached, upd x_branchAt b x_at, vp_updL x_branchSafe b x_safe, sv_ x_branchKinds b x_kinds 16, sv_ x_branchLos b x_los 16, sv_ x_branchHis b x_his 16, x_packet, x_registers, x_cells, x_keyWords, x_keyTaken)) : wpX_saveBranch post (x_safe, x_at, x_exitLeast, x_exitMost, nI b, x_faultPlace, x_provedLeast, x_provedMost, x_packetLength, x_executed, x_ops, x_targets, x_sources, x_offsets, x_immediates, x_lengths, x_kinds, x_los, x_his, x_reached, x_branchAt, x_branchSafe, x_branchKinds, x_branchLos, x_branchHis, x_packet, x_registers, x_cells, x_keyWords, x_keyTaken) := by
  have h2 : vp_in (nI b) 10 := vp_in_nI hb (by decide)
  have c2 : (nI b).toNatClampNeg = b := nI_clamp (by omega)
  refine br_t ((xb_lt10 (by omega)).mpr hb) ⟨h2, nm_r (e' := upd x_branchAt b x_at) (by rw [c2]) ⟨h2, nm_r (e' := vp_updL x_branchSafe b x_safe) (by rw [c2]) ⟨17, ?_⟩⟩⟩
  have := xv_saveL (x_branchAt := upd x_branchAt b x_at) (x_branchSafe := vp_updL x_branchSafe b x_safe) hb H 16 0 rfl
  rw [sv_0, sv_0, sv_0] at this
  exact this
theorem xv_cut {post : SX → Prop} {f d : Nat} {n : Int64} (h1 : 1 ≤ f) (h4 : f ≤ 4) (hd : d < 16) (H : post (x_safe, x_at, x_exitLeast, x_exitMost, x_branches, x_faultPlace, x_provedLeast, x_provedMost, x_packetLength, x_executed, x_ops, x_targets, x_sources, x_offsets, x_immediates, x_lengths, x_kinds, vp_updL x_los d (cu_l f n (x_los d) (x_his d)), vp_updL x_his d (cu_h f n (x_los d) (x_his d)), x_reached, x_branchAt, x_branchSafe, x_branchKinds, x_branchLos, x_branchHis, x_packet, x_registers, x_cells, x_keyWords, x_keyTaken)) : wpX_cut post (x_safe, x_at, x_exitLeast, x_exitMost, x_branches, x_faultPlace, x_provedLeast, x_provedMost, x_packetLength, x_executed, x_ops, x_targets, x_sources, x_offsets, x_immediates, x_lengths, x_kinds, x_los, x_his, x_reached, x_branchAt, x_branchSafe, x_branchKinds, x_branchLos, x_branchHis, x_packet, x_registers, x_cells, x_keyWords, x_keyTaken) (nI f) (nI d) n := by
  have e : f = 1 ∨ f = 2 ∨ f = 3 ∨ f = 4 := by omega
  simp (disch := omega) only [wpX_cut, forall_eq, true_and, and_true, true_implies, not_true_eq_false, false_implies, not_false_eq_true, implies_true, and_self, nI_add, nI_1, nI_clamp, vp_in_nI, xb_10, xb_bt, xb_bf]
  rcases e with rfl | rfl | rfl | rfl
  · rw [← xb_L1]; simp [cu_l, cu_h] at H ⊢; exact H
  · rw [← xb_L2]; simp (disch := omega) [cu_l, cu_h, wX_cut_73, vp_in_nI, nI_clamp] at H ⊢
    by_cases z : x_los d = n
    · by_cases y : x_his d = n
      · simp [z, y] at H ⊢; exact H
      · simp [z, y] at H ⊢; exact H
    · by_cases y : x_his d = n
      · simp [z, y] at H ⊢; exact H
      · simp [z, y] at H ⊢; exact H
  · rw [← xb_L3]; simp [cu_l, cu_h, xb_updLid] at H ⊢; exact H
  · rw [← xb_L4]; simp [cu_l, cu_h, xb_updLid] at H ⊢; exact H
theorem xv_setL {post : SX → Prop} {k : Int32} (H : post (x_safe, x_at, x_exitLeast, x_exitMost, x_branches, x_faultPlace, x_provedLeast, x_provedMost, x_packetLength, x_executed, x_ops, x_targets, x_sources, x_offsets, x_immediates, x_lengths, se_K x_kinds k 16, x_los, x_his, x_reached, x_branchAt, x_branchSafe, x_branchKinds, x_branchLos, x_branchHis, x_packet, x_registers, x_cells, x_keyWords, x_keyTaken)) : ∀ d m : Nat, m + d = 16 → wX_settleMaybes_2 post k x_safe x_at x_exitLeast x_exitMost x_branches x_faultPlace x_provedLeast x_provedMost x_packetLength x_executed (d + 1) (nI m) x_ops x_targets x_sources x_offsets x_immediates x_lengths (se_K x_kinds k m) x_los x_his x_reached x_branchAt x_branchSafe x_branchKinds x_branchLos x_branchHis x_packet x_registers x_cells x_keyWords x_keyTaken := by
  intro d
  induction d with
  | zero =>
    intro m hm
    have e : m = 16 := by omega
    subst e
    exact br_t (by decide) H
  | succ d ih =>
    intro m hm
    have h1 : vp_in (nI m) 16 := vp_in_nI (by omega) (by decide)
    have c1 : (nI m).toNatClampNeg = m := nI_clamp (by omega)
    refine br_f (by rw [xb_le16 (by omega)]; omega) ⟨h1, ?_⟩
    by_cases z : x_kinds m = 6
    · exact br_t (by rw [c1, se_at]; exact z) ⟨h1, nm_r (e' := se_K x_kinds k (m + 1)) (by rw [c1, se_t z]) (nm_r (nI_1 m) (ih (m + 1) (by omega)))⟩
    · refine br_f (by rw [c1, se_at]; exact z) (nm_r (nI_1 m) ?_)
      rw [se_f z]
      exact ih (m + 1) (by omega)
theorem xv_settle {post : SX → Prop} {k : Int32} (H : post (x_safe, x_at, x_exitLeast, x_exitMost, x_branches, x_faultPlace, x_provedLeast, x_provedMost, x_packetLength, x_executed, x_ops, x_targets, x_sources, x_offsets, x_immediates, x_lengths, se_K x_kinds k 16, x_los, x_his, x_reached, x_branchAt, x_branchSafe, x_branchKinds, x_branchLos, x_branchHis, x_packet, x_registers, x_cells, x_keyWords, x_keyTaken)) : wpX_settleMaybes post (x_safe, x_at, x_exitLeast, x_exitMost, x_branches, x_faultPlace, x_provedLeast, x_provedMost, x_packetLength, x_executed, x_ops, x_targets, x_sources, x_offsets, x_immediates, x_lengths, x_kinds, x_los, x_his, x_reached, x_branchAt, x_branchSafe, x_branchKinds, x_branchLos, x_branchHis, x_packet, x_registers, x_cells, x_keyWords, x_keyTaken) k := by
  refine ⟨17, ?_⟩
  have := xv_setL H 16 0 rfl
  rw [se_0] at this
  exact this
theorem xv_raise {post : SX → Prop} {p : Int64} (H : post (ra_S x_safe p, x_at, x_exitLeast, x_exitMost, x_branches, x_faultPlace, x_provedLeast, x_provedMost, x_packetLength, x_executed, x_ops, x_targets, x_sources, x_offsets, x_immediates, x_lengths, x_kinds, x_los, x_his, x_reached, x_branchAt, x_branchSafe, x_branchKinds, x_branchLos, x_branchHis, x_packet, x_registers, x_cells, x_keyWords, x_keyTaken)) : wpX_raiseSafe post (x_safe, x_at, x_exitLeast, x_exitMost, x_branches, x_faultPlace, x_provedLeast, x_provedMost, x_packetLength, x_executed, x_ops, x_targets, x_sources, x_offsets, x_immediates, x_lengths, x_kinds, x_los, x_his, x_reached, x_branchAt, x_branchSafe, x_branchKinds, x_branchLos, x_branchHis, x_packet, x_registers, x_cells, x_keyWords, x_keyTaken) p := by
  unfold ra_S at H
  by_cases z : p ≤ x_safe
  · rw [if_pos z] at H; exact br_t z H
  · rw [if_neg z] at H; exact br_f z H
theorem xv_learn {post : SX → Prop} {f d q : Nat} (h1 : 1 ≤ f) (h4 : f ≤ 4) (hd : d < 16) (hq : q < 16) (H : post (ln_S f d q x_kinds x_los x_safe, x_at, x_exitLeast, x_exitMost, x_branches, x_faultPlace, x_provedLeast, x_provedMost, x_packetLength, x_executed, x_ops, x_targets, x_sources, x_offsets, x_immediates, x_lengths, ln_K f d x_kinds, ln_L f d q x_kinds x_los x_his, ln_H f d q x_kinds x_los x_his, x_reached, x_branchAt, x_branchSafe, x_branchKinds, x_branchLos, x_branchHis, x_packet, x_registers, x_cells, x_keyWords, x_keyTaken)) : wpX_learn post (x_safe, x_at, x_exitLeast, x_exitMost, x_branches, x_faultPlace, x_provedLeast, x_provedMost, x_packetLength, x_executed, x_ops, x_targets, x_sources, x_offsets, x_immediates, x_lengths, x_kinds, x_los, x_his, x_reached, x_branchAt, x_branchSafe, x_branchKinds, x_branchLos, x_branchHis, x_packet, x_registers, x_cells, x_keyWords, x_keyTaken) (nI f) (nI d) (nI q) := by
  have y : ¬ (6 : Int32) = 1 ∧ ¬ (2 : Int32) = 1 ∧ ¬ (3 : Int32) = 1 ∧ ¬ (2 : Int32) = 6 ∧ ¬ (3 : Int32) = 6 ∧ ¬ (3 : Int32) = 2 ∧ ¬ (1 : Int32) = 6 ∧ ¬ (1 : Int32) = 2 ∧ ¬ (1 : Int32) = 3 ∧ ¬ (6 : Int32) = 2 ∧ ¬ (6 : Int32) = 3 ∧ ¬ (2 : Int32) = 3 := by decide
  simp (disch := omega) only [wpX_learn, wX_learn_99, wX_learn_63, forall_eq, true_and, and_true, true_implies, not_true_eq_false, false_implies, not_false_eq_true, implies_true, and_self, nI_add, nI_1, nI_clamp, vp_in_nI, xb_10, xb_bt, xb_bf, xb_eq1, xb_eq3, xb_eq4]
  unfold ln_S ln_K ln_L ln_H at H
  by_cases k1 : x_kinds d = 1
  · simp only [k1, y, forall_eq, true_and, and_true, true_implies, not_true_eq_false, false_implies, not_false_eq_true, implies_true, and_self, false_and, if_false] at H ⊢
    by_cases z : x_los q = x_his q
    · simp only [z, if_true, forall_eq, true_and, and_true, true_implies, not_true_eq_false, false_implies, not_false_eq_true, implies_true, and_self] at H ⊢
      exact xv_cut h1 h4 hd H
    · simp only [z, if_false, forall_eq, true_and, and_true, true_implies, not_true_eq_false, false_implies, not_false_eq_true, implies_true, and_self] at H ⊢
      exact H
  · by_cases k6 : x_kinds d = 6
    · simp only [k6, y, forall_eq, true_and, and_true, true_implies, not_true_eq_false, false_implies, not_false_eq_true, implies_true, and_self, false_and, if_false, if_true] at H ⊢
      by_cases z : f = 1
      · simp only [z, if_true, forall_eq, true_and, and_true, true_implies, not_true_eq_false, false_implies, not_false_eq_true, implies_true, and_self] at H ⊢
        exact xv_settle H
      · simp only [z, if_false, forall_eq, true_and, and_true, true_implies, not_true_eq_false, false_implies, not_false_eq_true, implies_true, and_self] at H ⊢
        exact xv_settle H
    · by_cases k2 : x_kinds d = 2
      · simp only [k2, y, forall_eq, true_and, and_true, true_implies, not_true_eq_false, false_implies, not_false_eq_true, implies_true, and_self, false_and, if_false, if_true] at H ⊢
        by_cases z : f = 3
        · simp only [z, if_true, forall_eq, true_and, and_true, true_implies, not_true_eq_false, false_implies, not_false_eq_true, implies_true, and_self] at H ⊢
          exact xv_raise H
        · simp only [z, if_false, forall_eq, true_and, and_true, true_implies, not_true_eq_false, false_implies, not_false_eq_true, implies_true, and_self] at H ⊢
          exact H
      · by_cases k3 : x_kinds d = 3
        · simp only [k3, y, forall_eq, true_and, and_true, true_implies, not_true_eq_false, false_implies, not_false_eq_true, implies_true, and_self, false_and, if_false, if_true] at H ⊢
          by_cases z : f = 4
          · simp only [z, if_true, forall_eq, true_and, and_true, true_implies, not_true_eq_false, false_implies, not_false_eq_true, implies_true, and_self] at H ⊢
            exact xv_raise H
          · simp only [z, if_false, forall_eq, true_and, and_true, true_implies, not_true_eq_false, false_implies, not_false_eq_true, implies_true, and_self] at H ⊢
            exact H
        · simp only [k1, k2, k3, k6, forall_eq, true_and, and_true, true_implies, not_true_eq_false, false_implies, not_false_eq_true, implies_true, and_self, false_and, if_false] at H ⊢
          exact H
end
