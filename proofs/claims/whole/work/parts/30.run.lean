def rw_ (f : Nat) (x y : Int64) : Int64 := if f = 1 then x + y else if f = 2 then x - y else if f = 3 then x * y else if f = 4 then x &&& y else if f = 5 then x ||| y else sh_r x y
def rx_ (f : Nat) (x y : Int64) : Int64 := if f = 0 then y else if f ≤ 3 then rw_ f x y &&& 4294967295 else rw_ f x y
def hx_ (f : Nat) (x y : Int64) : Prop := if f = 1 then x = y else if f = 2 then ¬ x = y else if f = 3 then ¬ y ≤ x else ¬ x < y
section
variable {x_safe : Int64} {x_at : Int32} {x_exitLeast : Int64} {x_exitMost : Int64} {x_branches : Int32} {x_faultPlace : Int32} {x_provedLeast : Int64} {x_provedMost : Int64} {x_packetLength : Int32} {x_executed : Int32} {x_ops : Nat → Int32} {x_targets : Nat → Int32} {x_sources : Nat → Int32} {x_offsets : Nat → Int32} {x_immediates : Nat → Int32} {x_lengths : Nat → Int32} {x_kinds : Nat → Int32} {x_los : Nat → Int64} {x_his : Nat → Int64} {x_reached : Nat → Int32} {x_branchAt : Nat → Int32} {x_branchSafe : Nat → Int64} {x_branchKinds : Nat → Int32} {x_branchLos : Nat → Int64} {x_branchHis : Nat → Int64} {x_packet : Nat → Int32} {x_registers : Nat → Int64} {x_cells : Nat → Int64} {x_keyWords : Nat → Int64} {x_keyTaken : Nat → Int32}
theorem xr_result {post : Int64 → Prop} {f : Nat} {x y : Int64} (h6 : f ≤ 6) (H : post (rx_ f x y)) : wpX_result post (nI f) x y := by
  have e : f = 0 ∨ f = 1 ∨ f = 2 ∨ f = 3 ∨ f = 4 ∨ f = 5 ∨ f = 6 := by omega
  rcases e with rfl | rfl | rfl | rfl | rfl | rfl | rfl
  · exact br_f (by decide) (br_f (by decide) (br_t rfl H))
  · exact br_f (by decide) (br_f (by decide) (br_f (by decide) (br_t rfl H)))
  · exact br_f (by decide) (br_f (by decide) (br_f (by decide) (br_f (by decide) (br_t rfl H))))
  · exact br_f (by decide) (br_f (by decide) (br_f (by decide) (br_f (by decide) (br_f (by decide) (br_t rfl H)))))
  · exact br_f (by decide) (br_f (by decide) (br_f (by decide) (br_f (by decide) (br_f (by decide) (br_f (by decide) (br_t rfl H))))))
  · exact br_f (by decide) (br_f (by decide) (br_f (by decide) (br_f (by decide) (br_f (by decide) (br_f (by decide) (br_f (by decide) (br_t rfl H)))))))
  · exact br_f (by decide) (br_t (by decide) H)
theorem xr_holds {post : Int32 → Prop} {f : Nat} {x y : Int64} (h1 : 1 ≤ f) (h4 : f ≤ 4) (A : hx_ f x y → post 1) (B : ¬ hx_ f x y → post 0) : wpX_holds post (nI f) x y := by
  have e : f = 1 ∨ f = 2 ∨ f = 3 ∨ f = 4 := by omega
  rcases e with rfl | rfl | rfl | rfl
  · exact br_f (by decide) (br_f (by decide) (br_t rfl (br_c (fun z => A z) (fun z => B z))))
  · exact br_f (by decide) (br_f (by decide) (br_f (by decide) (br_t rfl (br_c (fun z => B (fun n => n z)) (fun z => A z)))))
  · exact br_f (by decide) (br_f (by decide) (br_f (by decide) (br_f (by decide) (br_t rfl (br_c (fun z => B (fun n => n z)) (fun z => A z))))))
  · exact br_f (by decide) (br_t (by decide) (br_c (fun z => B (fun n => n z)) (fun z => A z)))
/-- perform: into wX_perform_69 -/
theorem xr_69 {post : Int32 → SX → Prop} {i d s : Nat} {o : Int32} {sv : Int64} (hi : i < 120) (hs : s < 9) (eo : x_ops i = o) (ed : x_targets i = nI d) (es : x_sources i = nI s) (ev : sv = if o / 10 = 1 ∨ o / 10 = 3 then x_registers s else (x_immediates i).toInt64 &&& 4294967295) (H : wX_perform_69 post (nI i) o (nI d) (o / 10) sv x_safe x_at x_exitLeast x_exitMost x_branches x_faultPlace x_provedLeast x_provedMost x_packetLength x_executed x_ops x_targets x_sources x_offsets x_immediates x_lengths x_kinds x_los x_his x_reached x_branchAt x_branchSafe x_branchKinds x_branchLos x_branchHis x_packet x_registers x_cells x_keyWords x_keyTaken) : wpX_perform post (x_safe, x_at, x_exitLeast, x_exitMost, x_branches, x_faultPlace, x_provedLeast, x_provedMost, x_packetLength, x_executed, x_ops, x_targets, x_sources, x_offsets, x_immediates, x_lengths, x_kinds, x_los, x_his, x_reached, x_branchAt, x_branchSafe, x_branchKinds, x_branchLos, x_branchHis, x_packet, x_registers, x_cells, x_keyWords, x_keyTaken) (nI i) := by
  have v : vp_in (nI i) 120 := vp_in_nI hi (by decide)
  have c : (nI i).toNatClampNeg = i := nI_clamp (by omega)
  have vs : vp_in (nI s) 9 := vp_in_nI hs (by decide)
  refine ⟨v, nm_r (e' := o) (by rw [c]; exact eo) ⟨v, nm_r (e' := nI d) (by rw [c]; exact ed) ⟨by decide, nm_e ?_⟩⟩⟩
  have yes : o / 10 = 1 ∨ o / 10 = 3 → wX_perform_32 post (nI i) o (nI d) (o / 10) x_safe x_at x_exitLeast x_exitMost x_branches x_faultPlace x_provedLeast x_provedMost x_packetLength x_executed x_ops x_targets x_sources x_offsets x_immediates x_lengths x_kinds x_los x_his x_reached x_branchAt x_branchSafe x_branchKinds x_branchLos x_branchHis x_packet x_registers x_cells x_keyWords x_keyTaken := by
    intro z
    rw [if_pos z] at ev
    refine br_f (by decide) ⟨v, ?_⟩
    rw [c, es]
    refine ⟨vs, ?_⟩
    rw [nI_clamp (by omega), ← ev]
    exact H
  refine br_c (fun z => yes (Or.inl z)) (fun a => br_c (fun z => yes (Or.inr z)) (fun b => br_t rfl ⟨v, ?_⟩))
  rw [if_neg (by rintro (q | q); exact a q; exact b q)] at ev
  rw [c, ← ev]
  exact H
theorem xr_arith {post : Int32 → SX → Prop} {i d f : Nat} {o : Int32} {sv : Int64} (ho : oa_ o f) (hd : d < 9) (H : post 0 (x_safe, x_at, x_exitLeast, x_exitMost, x_branches, x_faultPlace, x_provedLeast, x_provedMost, x_packetLength, x_executed, x_ops, x_targets, x_sources, x_offsets, x_immediates, x_lengths, x_kinds, x_los, x_his, x_reached, x_branchAt, x_branchSafe, x_branchKinds, x_branchLos, x_branchHis, x_packet, vp_updL x_registers d (rx_ f (x_registers d) sv), x_cells, x_keyWords, x_keyTaken)) : wX_perform_69 post (nI i) o (nI d) (o / 10) sv x_safe x_at x_exitLeast x_exitMost x_branches x_faultPlace x_provedLeast x_provedMost x_packetLength x_executed x_ops x_targets x_sources x_offsets x_immediates x_lengths x_kinds x_los x_his x_reached x_branchAt x_branchSafe x_branchKinds x_branchLos x_branchHis x_packet x_registers x_cells x_keyWords x_keyTaken := by
  obtain ⟨-, -, -, -, f5, f6⟩ := oa_f ho
  have vd : vp_in (nI d) 9 := vp_in_nI hd (by decide)
  have w : wX_perform_108 post o (nI d) sv x_safe x_at x_exitLeast x_exitMost x_branches x_faultPlace x_provedLeast x_provedMost x_packetLength x_executed x_ops x_targets x_sources x_offsets x_immediates x_lengths x_kinds x_los x_his x_reached x_branchAt x_branchSafe x_branchKinds x_branchLos x_branchHis x_packet x_registers x_cells x_keyWords x_keyTaken := by
    refine ⟨by decide, vd, ?_⟩
    rw [f5, nI_clamp (by omega)]
    exact xr_result ho.1 ⟨vd, nm_e H⟩
  rcases f6 with ⟨-, -, t⟩ | ⟨-, -, t⟩
  · rw [t]; exact br_f (by decide) (br_f (by decide) (br_f (by decide) (br_t rfl w)))
  · rw [t]; exact br_f (by decide) (br_f (by decide) (br_t rfl w))
theorem xr_ja {post : Int32 → SX → Prop} {i : Nat} {d : Int32} {sv : Int64} (H : post 1 (x_safe, x_at, x_exitLeast, x_exitMost, x_branches, x_faultPlace, x_provedLeast, x_provedMost, x_packetLength, x_executed, x_ops, x_targets, x_sources, x_offsets, x_immediates, x_lengths, x_kinds, x_los, x_his, x_reached, x_branchAt, x_branchSafe, x_branchKinds, x_branchLos, x_branchHis, x_packet, x_registers, x_cells, x_keyWords, x_keyTaken)) : wX_perform_69 post (nI i) 20 d (20 / 10) sv x_safe x_at x_exitLeast x_exitMost x_branches x_faultPlace x_provedLeast x_provedMost x_packetLength x_executed x_ops x_targets x_sources x_offsets x_immediates x_lengths x_kinds x_los x_his x_reached x_branchAt x_branchSafe x_branchKinds x_branchLos x_branchHis x_packet x_registers x_cells x_keyWords x_keyTaken :=
  br_f (by decide) (br_f (by decide) (br_f (by decide) (br_f (by decide) (br_t (by decide) (br_t rfl H)))))
theorem xr_jump {post : Int32 → SX → Prop} {i d f : Nat} {o : Int32} {sv : Int64} (ho : oj_ o f) (hd : d < 9) (A : hx_ f (x_registers d) sv → post 1 (x_safe, x_at, x_exitLeast, x_exitMost, x_branches, x_faultPlace, x_provedLeast, x_provedMost, x_packetLength, x_executed, x_ops, x_targets, x_sources, x_offsets, x_immediates, x_lengths, x_kinds, x_los, x_his, x_reached, x_branchAt, x_branchSafe, x_branchKinds, x_branchLos, x_branchHis, x_packet, x_registers, x_cells, x_keyWords, x_keyTaken)) (B : ¬ hx_ f (x_registers d) sv → post 0 (x_safe, x_at, x_exitLeast, x_exitMost, x_branches, x_faultPlace, x_provedLeast, x_provedMost, x_packetLength, x_executed, x_ops, x_targets, x_sources, x_offsets, x_immediates, x_lengths, x_kinds, x_los, x_his, x_reached, x_branchAt, x_branchSafe, x_branchKinds, x_branchLos, x_branchHis, x_packet, x_registers, x_cells, x_keyWords, x_keyTaken)) : wX_perform_69 post (nI i) o (nI d) (o / 10) sv x_safe x_at x_exitLeast x_exitMost x_branches x_faultPlace x_provedLeast x_provedMost x_packetLength x_executed x_ops x_targets x_sources x_offsets x_immediates x_lengths x_kinds x_los x_his x_reached x_branchAt x_branchSafe x_branchKinds x_branchLos x_branchHis x_packet x_registers x_cells x_keyWords x_keyTaken := by
  obtain ⟨-, -, f3, f4, f5⟩ := oj_f ho
  have vd : vp_in (nI d) 9 := vp_in_nI hd (by decide)
  have w : wX_perform_131 post o (nI d) sv x_safe x_at x_exitLeast x_exitMost x_branches x_faultPlace x_provedLeast x_provedMost x_packetLength x_executed x_ops x_targets x_sources x_offsets x_immediates x_lengths x_kinds x_los x_his x_reached x_branchAt x_branchSafe x_branchKinds x_branchLos x_branchHis x_packet x_registers x_cells x_keyWords x_keyTaken := by
    refine br_f f3 ⟨by decide, vd, ?_⟩
    rw [f4, nI_clamp (by omega)]
    exact xr_holds ho.1 ho.2.1 (fun z => br_f (by decide) (A z)) (fun z => br_t rfl (B z))
  rcases f5 with ⟨-, -, t⟩ | ⟨-, -, t⟩
  · rw [t]; exact br_f (by decide) (br_f (by decide) (br_f (by decide) (br_f (by decide) (br_f (by decide) (br_t rfl w)))))
  · rw [t]; exact br_f (by decide) (br_f (by decide) (br_f (by decide) (br_f (by decide) (br_t rfl w))))
theorem xr_mem {post : Int32 → SX → Prop} {i d s p k : Nat} {o : Int32} {sv : Int64} (ho : o = 40 ∨ o = 41 ∨ o = 42) (hi : i < 120) (hp : p < 9) (eo : x_ops i = o) (ed : x_targets i = nI d) (es : x_sources i = nI s) (ep : p = if o = 41 then d else s) (ek : (x_registers p).toInt32 + x_offsets i = nI k) (hk : k < 2 ^ 31) (H : wX_performMemory_71 (fun u => match u with | (x_safe, x_at, x_exitLeast, x_exitMost, x_branches, x_faultPlace, x_provedLeast, x_provedMost, x_packetLength, x_executed, x_ops, x_targets, x_sources, x_offsets, x_immediates, x_lengths, x_kinds, x_los, x_his, x_reached, x_branchAt, x_branchSafe, x_branchKinds, x_branchLos, x_branchHis, x_packet, x_registers, x_cells, x_keyWords, x_keyTaken) => post 0 (x_safe, x_at, x_exitLeast, x_exitMost, x_branches, x_faultPlace, x_provedLeast, x_provedMost, x_packetLength, x_executed, x_ops, x_targets, x_sources, x_offsets, x_immediates, x_lengths, x_kinds, x_los, x_his, x_reached, x_branchAt, x_branchSafe, x_branchKinds, x_branchLos, x_branchHis, x_packet, x_registers, x_cells, x_keyWords, x_keyTaken)) o (nI d) (nI s) (nI k) (if o = 42 then x_packetLength else 22) (nI k) x_safe x_at x_exitLeast x_exitMost x_branches x_faultPlace x_provedLeast x_provedMost x_packetLength x_executed x_ops x_targets x_sources x_offsets x_immediates x_lengths x_kinds x_los x_his x_reached x_branchAt x_branchSafe x_branchKinds x_branchLos x_branchHis x_packet x_registers x_cells x_keyWords x_keyTaken) : wX_perform_69 post (nI i) o (nI d) (o / 10) sv x_safe x_at x_exitLeast x_exitMost x_branches x_faultPlace x_provedLeast x_provedMost x_packetLength x_executed x_ops x_targets x_sources x_offsets x_immediates x_lengths x_kinds x_los x_his x_reached x_branchAt x_branchSafe x_branchKinds x_branchLos x_branchHis x_packet x_registers x_cells x_keyWords x_keyTaken := by
  have t : o / 10 = 4 := by rcases ho with rfl | rfl | rfl <;> decide
  rw [t]
  have v : vp_in (nI i) 120 := vp_in_nI hi (by decide)
  have c : (nI i).toNatClampNeg = i := nI_clamp (by omega)
  have w38 : wX_performMemory_38 (fun u => match u with | (x_safe, x_at, x_exitLeast, x_exitMost, x_branches, x_faultPlace, x_provedLeast, x_provedMost, x_packetLength, x_executed, x_ops, x_targets, x_sources, x_offsets, x_immediates, x_lengths, x_kinds, x_los, x_his, x_reached, x_branchAt, x_branchSafe, x_branchKinds, x_branchLos, x_branchHis, x_packet, x_registers, x_cells, x_keyWords, x_keyTaken) => post 0 (x_safe, x_at, x_exitLeast, x_exitMost, x_branches, x_faultPlace, x_provedLeast, x_provedMost, x_packetLength, x_executed, x_ops, x_targets, x_sources, x_offsets, x_immediates, x_lengths, x_kinds, x_los, x_his, x_reached, x_branchAt, x_branchSafe, x_branchKinds, x_branchLos, x_branchHis, x_packet, x_registers, x_cells, x_keyWords, x_keyTaken)) (nI i) o (nI d) (nI s) (nI p) x_safe x_at x_exitLeast x_exitMost x_branches x_faultPlace x_provedLeast x_provedMost x_packetLength x_executed x_ops x_targets x_sources x_offsets x_immediates x_lengths x_kinds x_los x_his x_reached x_branchAt x_branchSafe x_branchKinds x_branchLos x_branchHis x_packet x_registers x_cells x_keyWords x_keyTaken := by
    refine ⟨vp_in_nI hp (by decide), v, nm_r (e' := nI k) (by rw [nI_clamp (n := p) (by omega), c]; exact ek) (br_f (xb_lt0 hk) ?_)⟩
    by_cases z : o = 42
    · rw [if_pos z] at H; exact br_t z H
    · rw [if_neg z] at H; exact br_f z H
  have w : wpX_performMemory (fun u => match u with | (x_safe, x_at, x_exitLeast, x_exitMost, x_branches, x_faultPlace, x_provedLeast, x_provedMost, x_packetLength, x_executed, x_ops, x_targets, x_sources, x_offsets, x_immediates, x_lengths, x_kinds, x_los, x_his, x_reached, x_branchAt, x_branchSafe, x_branchKinds, x_branchLos, x_branchHis, x_packet, x_registers, x_cells, x_keyWords, x_keyTaken) => post 0 (x_safe, x_at, x_exitLeast, x_exitMost, x_branches, x_faultPlace, x_provedLeast, x_provedMost, x_packetLength, x_executed, x_ops, x_targets, x_sources, x_offsets, x_immediates, x_lengths, x_kinds, x_los, x_his, x_reached, x_branchAt, x_branchSafe, x_branchKinds, x_branchLos, x_branchHis, x_packet, x_registers, x_cells, x_keyWords, x_keyTaken)) (x_safe, x_at, x_exitLeast, x_exitMost, x_branches, x_faultPlace, x_provedLeast, x_provedMost, x_packetLength, x_executed, x_ops, x_targets, x_sources, x_offsets, x_immediates, x_lengths, x_kinds, x_los, x_his, x_reached, x_branchAt, x_branchSafe, x_branchKinds, x_branchLos, x_branchHis, x_packet, x_registers, x_cells, x_keyWords, x_keyTaken) (nI i) := by
    refine ⟨v, nm_r (e' := o) (by rw [c]; exact eo) ⟨v, nm_r (e' := nI d) (by rw [c]; exact ed) ⟨v, nm_r (e' := nI s) (by rw [c]; exact es) ?_⟩⟩⟩
    by_cases z : o = 41
    · rw [if_pos z] at ep; subst ep; exact br_t z w38
    · rw [if_neg z] at ep; subst ep; exact br_f z w38
  exact br_f (by decide) (br_f (by decide) (br_f (by decide) (br_f (by decide) (br_f (by decide) (br_f (by decide) (br_t rfl w))))))
theorem xr_byte {post : SX → Prop} {d s k b : Nat} (hk : k < b) (hb : b ≤ 24) (hd : d < 9) (H : post (x_safe, x_at, x_exitLeast, x_exitMost, x_branches, x_faultPlace, x_provedLeast, x_provedMost, nI b, x_executed, x_ops, x_targets, x_sources, x_offsets, x_immediates, x_lengths, x_kinds, x_los, x_his, x_reached, x_branchAt, x_branchSafe, x_branchKinds, x_branchLos, x_branchHis, x_packet, vp_updL x_registers d (x_packet k).toInt64, x_cells, x_keyWords, x_keyTaken)) : wX_performMemory_71 post 42 (nI d) (nI s) (nI k) (nI b) (nI k) x_safe x_at x_exitLeast x_exitMost x_branches x_faultPlace x_provedLeast x_provedMost (nI b) x_executed x_ops x_targets x_sources x_offsets x_immediates x_lengths x_kinds x_los x_his x_reached x_branchAt x_branchSafe x_branchKinds x_branchLos x_branchHis x_packet x_registers x_cells x_keyWords x_keyTaken := by
  refine br_t (by rw [nI_ltI (by omega) (by omega)]; exact hk) (br_t rfl ⟨vp_in_nI (by omega) (by decide), vp_in_nI hd (by decide), nm_r ?_ H⟩)
  rw [nI_clamp (by omega), nI_clamp (by omega)]
theorem xr_load {post : SX → Prop} {d s k : Nat} (hk : k < 22) (hd : d < 9) (H : post (x_safe, x_at, x_exitLeast, x_exitMost, x_branches, x_faultPlace, x_provedLeast, x_provedMost, x_packetLength, x_executed, x_ops, x_targets, x_sources, x_offsets, x_immediates, x_lengths, x_kinds, x_los, x_his, x_reached, x_branchAt, x_branchSafe, x_branchKinds, x_branchLos, x_branchHis, x_packet, vp_updL x_registers d (x_cells k), x_cells, x_keyWords, x_keyTaken)) : wX_performMemory_71 post 40 (nI d) (nI s) (nI k) 22 (nI k) x_safe x_at x_exitLeast x_exitMost x_branches x_faultPlace x_provedLeast x_provedMost x_packetLength x_executed x_ops x_targets x_sources x_offsets x_immediates x_lengths x_kinds x_los x_his x_reached x_branchAt x_branchSafe x_branchKinds x_branchLos x_branchHis x_packet x_registers x_cells x_keyWords x_keyTaken := by
  refine br_t (by rw [xb_lt22 (by omega)]; exact hk) (br_f (by decide) (br_t rfl ⟨vp_in_nI hk (by decide), vp_in_nI hd (by decide), nm_r ?_ H⟩))
  rw [nI_clamp (by omega), nI_clamp (by omega)]
theorem xr_store {post : SX → Prop} {d s k : Nat} (hk : k < 22) (hs : s < 9) (H : post (x_safe, x_at, x_exitLeast, x_exitMost, x_branches, x_faultPlace, x_provedLeast, x_provedMost, x_packetLength, x_executed, x_ops, x_targets, x_sources, x_offsets, x_immediates, x_lengths, x_kinds, x_los, x_his, x_reached, x_branchAt, x_branchSafe, x_branchKinds, x_branchLos, x_branchHis, x_packet, x_registers, vp_updL x_cells k (x_registers s), x_keyWords, x_keyTaken)) : wX_performMemory_71 post 41 (nI d) (nI s) (nI k) 22 (nI k) x_safe x_at x_exitLeast x_exitMost x_branches x_faultPlace x_provedLeast x_provedMost x_packetLength x_executed x_ops x_targets x_sources x_offsets x_immediates x_lengths x_kinds x_los x_his x_reached x_branchAt x_branchSafe x_branchKinds x_branchLos x_branchHis x_packet x_registers x_cells x_keyWords x_keyTaken := by
  refine br_t (by rw [xb_lt22 (by omega)]; exact hk) (br_f (by decide) (br_f (by decide) ⟨vp_in_nI hs (by decide), vp_in_nI hk (by decide), nm_r ?_ H⟩))
  rw [nI_clamp (by omega), nI_clamp (by omega)]
theorem xr_map {post : Int32 → SX → Prop} {i : Nat} {o d : Int32} {sv : Int64} (ho : o = 50 ∨ o = 51 ∨ o = 52) (hi : i < 120) (H : wpX_performMapCall (fun u => match u with | (x_safe, x_at, x_exitLeast, x_exitMost, x_branches, x_faultPlace, x_provedLeast, x_provedMost, x_packetLength, x_executed, x_ops, x_targets, x_sources, x_offsets, x_immediates, x_lengths, x_kinds, x_los, x_his, x_reached, x_branchAt, x_branchSafe, x_branchKinds, x_branchLos, x_branchHis, x_packet, x_registers, x_cells, x_keyWords, x_keyTaken) => post 0 (x_safe, x_at, x_exitLeast, x_exitMost, x_branches, x_faultPlace, x_provedLeast, x_provedMost, x_packetLength, x_executed, x_ops, x_targets, x_sources, x_offsets, x_immediates, x_lengths, x_kinds, x_los, x_his, x_reached, x_branchAt, x_branchSafe, x_branchKinds, x_branchLos, x_branchHis, x_packet, x_registers, x_cells, x_keyWords, x_keyTaken)) (x_safe, x_at, x_exitLeast, x_exitMost, x_branches, x_faultPlace, x_provedLeast, x_provedMost, x_packetLength, x_executed, x_ops, x_targets, x_sources, x_offsets, x_immediates, x_lengths, x_kinds, x_los, x_his, x_reached, x_branchAt, x_branchSafe, x_branchKinds, x_branchLos, x_branchHis, x_packet, x_registers, x_cells, x_keyWords, x_keyTaken) o (x_immediates i)) : wX_perform_69 post (nI i) o d (o / 10) sv x_safe x_at x_exitLeast x_exitMost x_branches x_faultPlace x_provedLeast x_provedMost x_packetLength x_executed x_ops x_targets x_sources x_offsets x_immediates x_lengths x_kinds x_los x_his x_reached x_branchAt x_branchSafe x_branchKinds x_branchLos x_branchHis x_packet x_registers x_cells x_keyWords x_keyTaken := by
  have t : o / 10 = 5 := by rcases ho with rfl | rfl | rfl <;> decide
  rw [t]
  refine br_f (by decide) (br_t (by decide) ⟨vp_in_nI hi (by decide), ?_⟩)
  rw [nI_clamp (by omega)]
  exact H
end
section
variable {y_place : Int32} {y_least : Int64} {y_most : Int64} {y_smallest : Int64} {y_greatest : Int64} {y_ways : Int32} {y_fault : Int32} {y_base : Int32} {y_otherKind : Int32} {y_otherLo : Int64} {y_otherHi : Int64} {y_low : Int64} {y_high : Int64} {y_bytes : Int32} {y_steps : Int32} {y_op : Nat → Int32} {y_first : Nat → Int32} {y_second : Nat → Int32} {y_offset : Nat → Int32} {y_given : Nat → Int32} {y_length : Nat → Int32} {y_there : Nat → Int32} {y_known : Nat → Int32} {y_lo : Nat → Int64} {y_hi : Nat → Int64} {y_at : Nat → Int32} {y_lookups : Nat → Int32} {y_safe : Nat → Int32} {y_met : Nat → Int32} {y_tag : Nat → Int32} {y_word : Nat → Int64} {y_packet : Nat → Int32} {y_keys : Nat → Int64} {y_values : Nat → Int64} {y_many : Nat → Int32}
theorem yr_hold {post : SY → Prop} {r : Nat} {t : Int32} {v : Int64} (hr : r < 14) (ht : k7_ t) : wpY_hold post (y_place, y_least, y_most, y_smallest, y_greatest, y_ways, y_fault, y_base, y_otherKind, y_otherLo, y_otherHi, y_low, y_high, y_bytes, y_steps, y_op, y_first, y_second, y_offset, y_given, y_length, y_there, y_known, y_lo, y_hi, y_at, y_lookups, y_safe, y_met, y_tag, y_word, y_packet, y_keys, y_values, y_many) (nI r) t v ↔ post (y_place, y_least, y_most, y_smallest, y_greatest, y_ways, y_fault, y_base, y_otherKind, y_otherLo, y_otherHi, y_low, y_high, y_bytes, y_steps, y_op, y_first, y_second, y_offset, y_given, y_length, y_there, y_known, y_lo, y_hi, y_at, y_lookups, y_safe, y_met, upd y_tag r t, vp_updL y_word r v, y_packet, y_keys, y_values, y_many) := by
  simp (disch := omega) only [wpY_hold, forall_eq, true_and, and_true, true_implies, not_true_eq_false, false_implies, not_false_eq_true, implies_true, and_self, nI_add, nI_1, nI_clamp, vp_in_nI, xb_10, xb_bt, xb_bf, ys_k7 ht]
theorem yr_hold0 {post : SY → Prop} {t : Int32} {v : Int64} (ht : k7_ t) : wpY_hold post (y_place, y_least, y_most, y_smallest, y_greatest, y_ways, y_fault, y_base, y_otherKind, y_otherLo, y_otherHi, y_low, y_high, y_bytes, y_steps, y_op, y_first, y_second, y_offset, y_given, y_length, y_there, y_known, y_lo, y_hi, y_at, y_lookups, y_safe, y_met, y_tag, y_word, y_packet, y_keys, y_values, y_many) 0 t v ↔ post (y_place, y_least, y_most, y_smallest, y_greatest, y_ways, y_fault, y_base, y_otherKind, y_otherLo, y_otherHi, y_low, y_high, y_bytes, y_steps, y_op, y_first, y_second, y_offset, y_given, y_length, y_there, y_known, y_lo, y_hi, y_at, y_lookups, y_safe, y_met, upd y_tag 0 t, vp_updL y_word 0 v, y_packet, y_keys, y_values, y_many) := yr_hold (r := 0) (by decide) ht
theorem yr_119 {post : SY → Prop} {d : Nat} {x : Int64} (hd : d < 14) (H : post (y_place, y_least, y_most, y_smallest, y_greatest, y_ways, y_fault, y_base, y_otherKind, y_otherLo, y_otherHi, y_low, y_high, y_bytes, y_steps, y_op, y_first, y_second, y_offset, y_given, y_length, y_there, y_known, y_lo, y_hi, y_at, y_lookups, y_safe, y_met, y_tag, vp_updL y_word d (if y_tag d = 1 then x &&& 4294967295 else x), y_packet, y_keys, y_values, y_many)) : wY_calculate_119 post (nI d) x y_place y_least y_most y_smallest y_greatest y_ways y_fault y_base y_otherKind y_otherLo y_otherHi y_low y_high y_bytes y_steps y_op y_first y_second y_offset y_given y_length y_there y_known y_lo y_hi y_at y_lookups y_safe y_met y_tag y_word y_packet y_keys y_values y_many := by
  have v : vp_in (nI d) 14 := vp_in_nI hd (by decide)
  have c : (nI d).toNatClampNeg = d := nI_clamp (by omega)
  refine ⟨v, ?_⟩
  rw [c]
  by_cases z : y_tag d = 1
  · rw [if_pos z] at H; exact br_t z ⟨v, nm_e H⟩
  · rw [if_neg z] at H; exact br_f z ⟨v, nm_e H⟩
theorem yr_calc0 {post : SY → Prop} {d : Nat} {t : Int32} {v : Int64} (hd : d < 14) (ht : k7_ t) (H : post (y_place, y_least, y_most, y_smallest, y_greatest, y_ways, y_fault, y_base, y_otherKind, y_otherLo, y_otherHi, y_low, y_high, y_bytes, y_steps, y_op, y_first, y_second, y_offset, y_given, y_length, y_there, y_known, y_lo, y_hi, y_at, y_lookups, y_safe, y_met, upd y_tag d t, vp_updL y_word d v, y_packet, y_keys, y_values, y_many)) : wpY_calculate post (y_place, y_least, y_most, y_smallest, y_greatest, y_ways, y_fault, y_base, y_otherKind, y_otherLo, y_otherHi, y_low, y_high, y_bytes, y_steps, y_op, y_first, y_second, y_offset, y_given, y_length, y_there, y_known, y_lo, y_hi, y_at, y_lookups, y_safe, y_met, y_tag, y_word, y_packet, y_keys, y_values, y_many) (nI 0) (nI d) t v :=
  ⟨vp_in_nI hd (by decide), nm_e (br_f (by decide) (br_f (by decide) (br_t rfl ((yr_hold hd ht).mpr H))))⟩
theorem yr_calc {post : SY → Prop} {d f : Nat} {t : Int32} {v : Int64} (hd : d < 14) (h1 : 1 ≤ f) (h6 : f ≤ 6) (H : post (y_place, y_least, y_most, y_smallest, y_greatest, y_ways, y_fault, y_base, y_otherKind, y_otherLo, y_otherHi, y_low, y_high, y_bytes, y_steps, y_op, y_first, y_second, y_offset, y_given, y_length, y_there, y_known, y_lo, y_hi, y_at, y_lookups, y_safe, y_met, y_tag, vp_updL y_word d (if y_tag d = 1 then rw_ f (y_word d) v &&& 4294967295 else rw_ f (y_word d) v), y_packet, y_keys, y_values, y_many)) : wpY_calculate post (y_place, y_least, y_most, y_smallest, y_greatest, y_ways, y_fault, y_base, y_otherKind, y_otherLo, y_otherHi, y_low, y_high, y_bytes, y_steps, y_op, y_first, y_second, y_offset, y_given, y_length, y_there, y_known, y_lo, y_hi, y_at, y_lookups, y_safe, y_met, y_tag, y_word, y_packet, y_keys, y_values, y_many) (nI f) (nI d) t v := by
  have e : f = 1 ∨ f = 2 ∨ f = 3 ∨ f = 4 ∨ f = 5 ∨ f = 6 := by omega
  have c : (nI d).toNatClampNeg = d := nI_clamp (by omega)
  refine ⟨vp_in_nI hd (by decide), nm_r (e' := y_word d) (by rw [c]) ?_⟩
  have w := yr_119 hd H
  rcases e with rfl | rfl | rfl | rfl | rfl | rfl
  · exact br_f (by decide) (br_f (by decide) (br_f (by decide) (br_t rfl (nm_e w))))
  · exact br_f (by decide) (br_f (by decide) (br_f (by decide) (br_f (by decide) (br_t rfl (nm_e w)))))
  · exact br_f (by decide) (br_f (by decide) (br_f (by decide) (br_f (by decide) (br_f (by decide) (br_t rfl (nm_e w))))))
  · exact br_f (by decide) (br_f (by decide) (br_f (by decide) (br_f (by decide) (br_f (by decide) (br_f (by decide) (br_t rfl (nm_e w)))))))
  · exact br_f (by decide) (br_f (by decide) (br_f (by decide) (br_f (by decide) (br_f (by decide) (br_f (by decide) (br_f (by decide) (br_t rfl (nm_e w))))))))
  · exact br_f (by decide) (br_t (by decide) (nm_e w))
theorem yr_taken {post : Int32 → Prop} {f : Nat} {x y : Int64} (h1 : 1 ≤ f) (h4 : f ≤ 4) (A : hx_ f x y → post 1) (B : ¬ hx_ f x y → post 0) : wpY_taken post (nI f) x y := by
  have e : f = 1 ∨ f = 2 ∨ f = 3 ∨ f = 4 := by omega
  rcases e with rfl | rfl | rfl | rfl
  · exact br_t rfl (br_c (fun z => A z) (fun z => B z))
  · exact br_f (by decide) (br_t rfl (br_c (fun z => B (fun n => n z)) (fun z => A z)))
  · exact br_f (by decide) (br_f (by decide) (br_t rfl (br_c (fun z => B (fun n => n z)) (fun z => A z))))
  · exact br_f (by decide) (br_f (by decide) (br_f (by decide) (br_c (fun z => B (fun n => n z)) (fun z => A z))))
/-- step: into wY_step_114 -/
theorem yr_114 {post : Int32 → SY → Prop} {i d s : Nat} {o a t : Int32} {v : Int64} (hi : i < 120) (hs : s < 9) (eo : y_op i = o) (e1 : y_first i = nI d) (e2 : y_second i = nI s) {rg : Prop} (er : rg ↔ (¬ o < 10 ∧ o < 20) ∨ ¬ o ≤ 30) (ev : (¬ rg ∧ t = 1 ∧ v = (y_given i).toInt64 &&& 4294967295) ∨ (rg ∧ s = 8 ∧ t = 4 ∧ v = 0) ∨ (rg ∧ ¬ s = 8 ∧ t = y_tag s ∧ v = y_word s)) (H : wY_step_114 post (nI i) a o (nI d) t v y_place y_least y_most y_smallest y_greatest y_ways y_fault y_base y_otherKind y_otherLo y_otherHi y_low y_high y_bytes y_steps y_op y_first y_second y_offset y_given y_length y_there y_known y_lo y_hi y_at y_lookups y_safe y_met y_tag y_word y_packet y_keys y_values y_many) : wpY_step post (y_place, y_least, y_most, y_smallest, y_greatest, y_ways, y_fault, y_base, y_otherKind, y_otherLo, y_otherHi, y_low, y_high, y_bytes, y_steps, y_op, y_first, y_second, y_offset, y_given, y_length, y_there, y_known, y_lo, y_hi, y_at, y_lookups, y_safe, y_met, y_tag, y_word, y_packet, y_keys, y_values, y_many) (nI i) a := by
  have vi : vp_in (nI i) 120 := vp_in_nI hi (by decide)
  have c : (nI i).toNatClampNeg = i := nI_clamp (by omega)
  have vs : vp_in (nI s) 14 := vp_in_nI (by omega) (by decide)
  have cs : (nI s).toNatClampNeg = s := nI_clamp (by omega)
  have yes : rg → wY_step_41 post (nI i) a o (nI d) (nI s) y_place y_least y_most y_smallest y_greatest y_ways y_fault y_base y_otherKind y_otherLo y_otherHi y_low y_high y_bytes y_steps y_op y_first y_second y_offset y_given y_length y_there y_known y_lo y_hi y_at y_lookups y_safe y_met y_tag y_word y_packet y_keys y_values y_many := by
    intro r
    rcases ev with ev | ⟨-, ev⟩ | ⟨-, ev⟩
    · exact absurd r ev.1
    · obtain ⟨z, q1, q2⟩ := ev
      subst q1 q2
      have z8 : nI s = 8 := by rw [z]; rfl
      exact br_f (by decide) (br_t z8 (br_f (by decide) (br_t z8 H)))
    · obtain ⟨z, q1, q2⟩ := ev
      have z8 : ¬ nI s = 8 := by rw [xb_eq8 (by omega)]; exact z
      refine br_f (by decide) (br_f z8 ⟨vs, br_f (by decide) (br_f z8 ⟨vs, ?_⟩)⟩)
      rw [cs, ← q1, ← q2]
      exact H
  have no : ¬ rg → wY_step_46 post (nI i) a o (nI d) (nI s) 0 y_place y_least y_most y_smallest y_greatest y_ways y_fault y_base y_otherKind y_otherLo y_otherHi y_low y_high y_bytes y_steps y_op y_first y_second y_offset y_given y_length y_there y_known y_lo y_hi y_at y_lookups y_safe y_met y_tag y_word y_packet y_keys y_values y_many := by
    intro r
    rcases ev with ⟨-, q1, q2⟩ | ev | ev
    · refine br_t rfl (br_t rfl ⟨vi, ?_⟩)
      rw [c, ← q1, ← q2]
      exact H
    · exact absurd ev.1 r
    · exact absurd ev.1 r
  have w35 : ¬ (¬ o < 10 ∧ o < 20) → wY_step_35 post (nI i) a o (nI d) (nI s) y_place y_least y_most y_smallest y_greatest y_ways y_fault y_base y_otherKind y_otherLo y_otherHi y_low y_high y_bytes y_steps y_op y_first y_second y_offset y_given y_length y_there y_known y_lo y_hi y_at y_lookups y_safe y_met y_tag y_word y_packet y_keys y_values y_many := by
    intro n
    refine br_c (fun z => no ?_) (fun z => yes (er.mpr (Or.inr z)))
    rw [er]; rintro (q | q)
    · exact n q
    · exact q z
  refine ⟨vi, nm_r (e' := o) (by rw [c]; exact eo) ⟨vi, nm_r (e' := nI d) (by rw [c]; exact e1) ⟨vi, nm_r (e' := nI s) (by rw [c]; exact e2) (br_c (fun z => w35 (fun n => n.1 z)) (fun z => br_c (fun y => yes (er.mpr (Or.inl ⟨z, y⟩))) (fun y => w35 (fun n => y n.2))))⟩⟩⟩
theorem yr_arith0 {post : Int32 → SY → Prop} {i d a : Nat} {o t : Int32} {v : Int64} (ho : oa_ o 0) (hd : d < 14) (ht : k7_ t) (H : post (nI (a + 1)) (y_place, y_least, y_most, y_smallest, y_greatest, y_ways, y_fault, y_base, y_otherKind, y_otherLo, y_otherHi, y_low, y_high, y_bytes, y_steps, y_op, y_first, y_second, y_offset, y_given, y_length, y_there, y_known, y_lo, y_hi, y_at, y_lookups, y_safe, y_met, upd y_tag d t, vp_updL y_word d v, y_packet, y_keys, y_values, y_many)) : wY_step_114 post (nI i) (nI a) o (nI d) t v y_place y_least y_most y_smallest y_greatest y_ways y_fault y_base y_otherKind y_otherLo y_otherHi y_low y_high y_bytes y_steps y_op y_first y_second y_offset y_given y_length y_there y_known y_lo y_hi y_at y_lookups y_safe y_met y_tag y_word y_packet y_keys y_values y_many := by
  obtain ⟨f1, -, -, -, f5, -⟩ := oa_f ho
  refine br_f (Int32.not_le.mpr f1) ⟨by decide, ?_⟩
  rw [f5, nI_1]
  exact yr_calc0 hd ht H
theorem yr_arith {post : Int32 → SY → Prop} {i d a f : Nat} {o t : Int32} {v : Int64} (ho : oa_ o f) (h1 : 1 ≤ f) (hd : d < 14) (H : post (nI (a + 1)) (y_place, y_least, y_most, y_smallest, y_greatest, y_ways, y_fault, y_base, y_otherKind, y_otherLo, y_otherHi, y_low, y_high, y_bytes, y_steps, y_op, y_first, y_second, y_offset, y_given, y_length, y_there, y_known, y_lo, y_hi, y_at, y_lookups, y_safe, y_met, y_tag, vp_updL y_word d (if y_tag d = 1 then rw_ f (y_word d) v &&& 4294967295 else rw_ f (y_word d) v), y_packet, y_keys, y_values, y_many)) : wY_step_114 post (nI i) (nI a) o (nI d) t v y_place y_least y_most y_smallest y_greatest y_ways y_fault y_base y_otherKind y_otherLo y_otherHi y_low y_high y_bytes y_steps y_op y_first y_second y_offset y_given y_length y_there y_known y_lo y_hi y_at y_lookups y_safe y_met y_tag y_word y_packet y_keys y_values y_many := by
  obtain ⟨f1, -, -, -, f5, -⟩ := oa_f ho
  refine br_f (Int32.not_le.mpr f1) ⟨by decide, ?_⟩
  rw [f5, nI_1]
  exact yr_calc hd h1 ho.1 H
theorem yr_ja {post : Int32 → SY → Prop} {i a g : Nat} {d t : Int32} {v : Int64} (hi : i < 120) (eo : y_offset i = nI g) (H : post (nI (a + 1 + g)) (y_place, y_least, y_most, y_smallest, y_greatest, y_ways, y_fault, y_base, y_otherKind, y_otherLo, y_otherHi, y_low, y_high, y_bytes, y_steps, y_op, y_first, y_second, y_offset, y_given, y_length, y_there, y_known, y_lo, y_hi, y_at, y_lookups, y_safe, y_met, y_tag, y_word, y_packet, y_keys, y_values, y_many)) : wY_step_114 post (nI i) (nI a) 20 d t v y_place y_least y_most y_smallest y_greatest y_ways y_fault y_base y_otherKind y_otherLo y_otherHi y_low y_high y_bytes y_steps y_op y_first y_second y_offset y_given y_length y_there y_known y_lo y_hi y_at y_lookups y_safe y_met y_tag y_word y_packet y_keys y_values y_many := by
  refine br_t (by decide) (br_t rfl ⟨vp_in_nI hi (by decide), ?_⟩)
  rw [nI_clamp (by omega), eo, nI_1, nI_add]
  exact H
theorem yr_jump {post : Int32 → SY → Prop} {i d a f g : Nat} {o t : Int32} {v : Int64} (hi : i < 120) (ho : oj_ o f) (hd : d < 14) (eo : y_offset i = nI g) (A : hx_ f (y_word d) v → post (nI (a + 1 + g)) (y_place, y_least, y_most, y_smallest, y_greatest, y_ways, y_fault, y_base, y_otherKind, y_otherLo, y_otherHi, y_low, y_high, y_bytes, y_steps, y_op, y_first, y_second, y_offset, y_given, y_length, y_there, y_known, y_lo, y_hi, y_at, y_lookups, y_safe, y_met, y_tag, y_word, y_packet, y_keys, y_values, y_many)) (B : ¬ hx_ f (y_word d) v → post (nI (a + 1)) (y_place, y_least, y_most, y_smallest, y_greatest, y_ways, y_fault, y_base, y_otherKind, y_otherLo, y_otherHi, y_low, y_high, y_bytes, y_steps, y_op, y_first, y_second, y_offset, y_given, y_length, y_there, y_known, y_lo, y_hi, y_at, y_lookups, y_safe, y_met, y_tag, y_word, y_packet, y_keys, y_values, y_many)) : wY_step_114 post (nI i) (nI a) o (nI d) t v y_place y_least y_most y_smallest y_greatest y_ways y_fault y_base y_otherKind y_otherLo y_otherHi y_low y_high y_bytes y_steps y_op y_first y_second y_offset y_given y_length y_there y_known y_lo y_hi y_at y_lookups y_safe y_met y_tag y_word y_packet y_keys y_values y_many := by
  obtain ⟨f1, f2, f3, f4, -⟩ := oj_f ho
  refine br_t (Int32.not_lt.mp f1) (br_f f3 (br_f f2 ⟨by decide, vp_in_nI hd (by decide), ?_⟩))
  rw [f4, nI_clamp (n := d) (by omega)]
  refine yr_taken ho.1 ho.2.1 (fun z => br_f (by decide) ⟨vp_in_nI hi (by decide), ?_⟩) (fun z => br_t rfl ?_)
  · rw [nI_clamp (n := i) (by omega), eo, nI_1, nI_add]
    exact A z
  · rw [nI_1]; exact B z
end
