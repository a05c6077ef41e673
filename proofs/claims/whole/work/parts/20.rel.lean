/-- X's slot of Y's slot r -/
def g_ (r : Nat) : Nat := if r < 8 then r else r + 2
theorem g_lo {r : Nat} (h : r < 8) : g_ r = r := by unfold g_; rw [if_pos h]
theorem g_hi (c : Nat) : g_ (8 + c) = 10 + c := by unfold g_; rw [if_neg (by omega)]; omega
theorem g_16 {r : Nat} (h : r < 14) : g_ r < 16 := by unfold g_; split <;> omega
theorem g_8 (r : Nat) : ¬ g_ r = 8 := by unfold g_; split <;> omega
theorem g_9 (r : Nat) : ¬ g_ r = 9 := by unfold g_; split <;> omega
theorem g_inj {r t : Nat} (h : g_ r = g_ t) : r = t := by unfold g_ at h; split at h <;> split at h <;> omega
/-- what Y knows of a slot, against what X knows -/
def T_ (k : Int32) (l h : Int64) (k' : Int32) (l' h' : Int64) (m : Int32) : Prop := k' = k ∧ (k = 1 ∨ k = 2 → l' = l ∧ h' = h) ∧ (k = 4 ∨ k = 5 → l' = l) ∧ (k = 6 → l' = m.toInt64)
def Fr_ (K : Nat → Int32) (L H : Nat → Int64) (kn : Nat → Int32) (lo hi : Nat → Int64) (B : Nat) (m : Int32) : Prop := ∀ r, r < 14 → T_ (K (g_ r)) (L (g_ r)) (H (g_ r)) (kn (B + r)) (lo (B + r)) (hi (B + r)) m
def WF_ (K : Nat → Int32) (L H : Nat → Int64) (S : Int64) : Prop := (∀ j, j < 16 → wf1_ (K j) (L j) (H j)) ∧ K 8 = 4 ∧ L 8 = 0 ∧ (∀ j, 16 ≤ j → K j = 0 ∧ L j = 0 ∧ H j = 0) ∧ ∃ sn : Nat, sn ≤ 256 ∧ S = lN sn
theorem T_k {k k' m : Int32} {l h l' h' : Int64} (t : T_ k l h k' l' h' m) : k' = k := t.1
theorem T_1 {l h : Int64} {m : Int32} : T_ 1 l h 1 l h m := ⟨rfl, fun _ => ⟨rfl, rfl⟩, fun z => absurd z (by decide), fun z => absurd z (by decide)⟩
theorem T_2 {l h : Int64} {m : Int32} : T_ 2 l h 2 l h m := ⟨rfl, fun _ => ⟨rfl, rfl⟩, fun z => absurd z (by decide), fun z => absurd z (by decide)⟩
theorem T_0 {l h l' h' : Int64} {m : Int32} : T_ 0 l h 0 l' h' m := ⟨rfl, fun z => absurd z (by decide), fun z => absurd z (by decide), fun z => absurd z (by decide)⟩
theorem T_45 {k : Int32} {l h h' : Int64} {m : Int32} (e : k = 4 ∨ k = 5) : T_ k l h k l h' m := by
  refine ⟨rfl, fun z => ?_, fun _ => rfl, fun z => ?_⟩
  · rcases e with rfl | rfl <;> exact absurd z (by decide)
  · rcases e with rfl | rfl <;> exact absurd z (by decide)
theorem T_6 {l h h' : Int64} {m : Int32} : T_ 6 l h 6 m.toInt64 h' m := ⟨rfl, fun z => absurd z (by decide), fun z => absurd z (by decide), fun _ => rfl⟩
theorem wf_0 {l h : Int64} : wf1_ 0 l h := ⟨Or.inl rfl, fun z => absurd z (by decide), fun z => absurd z (by decide), fun z => absurd z (by decide)⟩
theorem wf_1 {l h : Int64} (e : iv_ l h (2 ^ 32)) : wf1_ 1 l h := ⟨Or.inr (Or.inl rfl), fun _ => e, fun z => absurd z (by decide), fun z => absurd z (by decide)⟩
theorem wf_2 {l h : Int64} (e : iv_ l h 256) : wf1_ 2 l h := ⟨by unfold k7_; simp, fun z => absurd z (by decide), fun _ => e, fun z => absurd z (by decide)⟩
theorem wf_45 {k : Int32} {l h : Int64} (e : k = 4 ∨ k = 5) : wf1_ k l h := by
  refine ⟨by unfold k7_; rcases e with rfl | rfl <;> simp, fun z => ?_, fun z => ?_, fun z => ?_⟩ <;> rcases e with rfl | rfl <;> exact absurd z (by decide)
theorem wf_6 : wf1_ 6 0 0 := ⟨by unfold k7_; simp, fun z => absurd z (by decide), fun z => absurd z (by decide), fun _ => ⟨rfl, rfl⟩⟩
theorem Fr_upd {K : Nat → Int32} {L H : Nat → Int64} {kn : Nat → Int32} {lo hi : Nat → Int64} {B r : Nat} {m k k' : Int32} {l h l' h' : Int64} (F : Fr_ K L H kn lo hi B m) (t : T_ k l h k' l' h' m) : Fr_ (upd K (g_ r) k) (vp_updL L (g_ r) l) (vp_updL H (g_ r) h) (upd kn (B + r) k') (vp_updL lo (B + r) l') (vp_updL hi (B + r) h') B m := by
  intro j hj
  by_cases e : j = r
  · subst e
    rw [pk_us, pk_us, pk_uLs, pk_uLs, pk_uLs, pk_uLs]; exact t
  · have n1 : ¬ g_ j = g_ r := fun z => e (g_inj z)
    have n2 : ¬ B + j = B + r := by omega
    rw [pk_un n1, pk_un n2, pk_uLn n1, pk_uLn n1, pk_uLn n2, pk_uLn n2]; exact F j hj
theorem Fr_9 {K : Nat → Int32} {L H : Nat → Int64} {kn : Nat → Int32} {lo hi : Nat → Int64} {B : Nat} {m k : Int32} {l h : Int64} (F : Fr_ K L H kn lo hi B m) : Fr_ (upd K 9 k) (vp_updL L 9 l) (vp_updL H 9 h) kn lo hi B m := by
  intro j hj
  rw [pk_un (g_9 j), pk_uLn (g_9 j), pk_uLn (g_9 j)]; exact F j hj
theorem WF_upd {K : Nat → Int32} {L H : Nat → Int64} {S : Int64} {j : Nat} {k : Int32} {l h : Int64} (W : WF_ K L H S) (hj : j < 16) (h8 : ¬ j = 8) (w : wf1_ k l h) : WF_ (upd K j k) (vp_updL L j l) (vp_updL H j h) S := by
  obtain ⟨a, b, c, d, e⟩ := W
  refine ⟨fun i hi => ?_, by rw [pk_un (fun z => h8 z.symm)]; exact b, by rw [pk_uLn (fun z => h8 z.symm)]; exact c, fun i hi => ?_, e⟩
  · by_cases q : i = j
    · subst q; rw [pk_us, pk_uLs, pk_uLs]; exact w
    · rw [pk_un q, pk_uLn q, pk_uLn q]; exact a i hi
  · rw [pk_un (by omega), pk_uLn (by omega), pk_uLn (by omega)]; exact d i hi
theorem iv_w (x : Int32) : iv_ (x.toInt64 &&& 4294967295) (x.toInt64 &&& 4294967295) (2 ^ 32) := by
  obtain ⟨m, hm, e⟩ := pf_andw x.toInt64
  rw [e]; exact ⟨m, m, Nat.le_refl _, hm, rfl, rfl⟩
theorem WF_k9 {K : Nat → Int32} {L H : Nat → Int64} {S : Int64} {o x : Int32} (W : WF_ K L H S) : WF_ (k9_ o K) (l9_ o (x.toInt64 &&& 4294967295) L) (l9_ o (x.toInt64 &&& 4294967295) H) S := by
  by_cases r : rg_ o
  · rw [k9_t r, l9_t r, l9_t r]; exact W
  · rw [k9_f r, l9_f r, l9_f r]; exact WF_upd W (by decide) (by decide) (wf_1 (iv_w x))
theorem Fr_k9 {K : Nat → Int32} {L H : Nat → Int64} {kn : Nat → Int32} {lo hi : Nat → Int64} {B : Nat} {m o : Int32} {w : Int64} (F : Fr_ K L H kn lo hi B m) : Fr_ (k9_ o K) (l9_ o w L) (l9_ o w H) kn lo hi B m := by
  by_cases r : rg_ o
  · rw [k9_t r, l9_t r, l9_t r]; exact F
  · rw [k9_f r, l9_f r, l9_f r]; exact Fr_9 F
def nine_ (o : Int32) (w : Int64) (K : Nat → Int32) (L H : Nat → Int64) : Prop := ¬ rg_ o → K 9 = 1 ∧ L 9 = w ∧ H 9 = w
theorem nine_k9 {o : Int32} {w : Int64} {K : Nat → Int32} {L H : Nat → Int64} : nine_ o w (k9_ o K) (l9_ o w L) (l9_ o w H) := by
  intro r
  rw [k9_f r, l9_f r, l9_f r, pk_us, pk_uLs, pk_uLs]
  exact ⟨rfl, rfl, rfl⟩
theorem q9_16 {o : Int32} {s : Nat} (h : s < 9) : q9_ o s < 16 := by unfold q9_; split <;> omega
section
variable {y_place : Int32} {y_least : Int64} {y_most : Int64} {y_smallest : Int64} {y_greatest : Int64} {y_ways : Int32} {y_fault : Int32} {y_base : Int32} {y_otherKind : Int32} {y_otherLo : Int64} {y_otherHi : Int64} {y_low : Int64} {y_high : Int64} {y_bytes : Int32} {y_steps : Int32} {y_op : Nat → Int32} {y_first : Nat → Int32} {y_second : Nat → Int32} {y_offset : Nat → Int32} {y_given : Nat → Int32} {y_length : Nat → Int32} {y_there : Nat → Int32} {y_known : Nat → Int32} {y_lo : Nat → Int64} {y_hi : Nat → Int64} {y_at : Nat → Int32} {y_lookups : Nat → Int32} {y_safe : Nat → Int32} {y_met : Nat → Int32} {y_tag : Nat → Int32} {y_word : Nat → Int64} {y_packet : Nat → Int32} {y_keys : Nat → Int64} {y_values : Nat → Int64} {y_many : Nat → Int32}
-- Y's second operand against X's second slot
theorem yo_ex {K : Nat → Int32} {L H : Nat → Int64} {B i s : Nat} {m o r imm : Int32} (hi : i < 120) (hB : B + 14 ≤ 168) (hs : s < 9) (es : y_second i = nI s) (eg : y_given i = imm) (F : Fr_ K L H y_known y_lo y_hi B m) (k8 : K 8 = 4) (l8 : L 8 = 0) (n9 : nine_ o (imm.toInt64 &&& 4294967295) K L H) (hr : (rg_ o ∧ r = 1) ∨ (¬ rg_ o ∧ r = 0)) : ∃ k2 l2 h2, T_ (K (q9_ o s)) (L (q9_ o s)) (H (q9_ o s)) k2 l2 h2 m ∧ ∀ post : SY → Prop, post (y_place, y_least, y_most, y_smallest, y_greatest, y_ways, y_fault, nI B, k2, l2, h2, y_low, y_high, y_bytes, y_steps, y_op, y_first, y_second, y_offset, y_given, y_length, y_there, y_known, y_lo, y_hi, y_at, y_lookups, y_safe, y_met, y_tag, y_word, y_packet, y_keys, y_values, y_many) → wpY_other post (y_place, y_least, y_most, y_smallest, y_greatest, y_ways, y_fault, nI B, y_otherKind, y_otherLo, y_otherHi, y_low, y_high, y_bytes, y_steps, y_op, y_first, y_second, y_offset, y_given, y_length, y_there, y_known, y_lo, y_hi, y_at, y_lookups, y_safe, y_met, y_tag, y_word, y_packet, y_keys, y_values, y_many) (nI i) r := by
  rcases hr with ⟨q, rfl⟩ | ⟨q, rfl⟩
  · rw [q9_t q]
    by_cases z : s = 8
    · subst z
      refine ⟨4, 0, 0, ?_, fun post P => yv_otherF hi es P⟩
      rw [k8, l8]; exact T_45 (Or.inl rfl)
    · have t := F s (by omega)
      rw [g_lo (by omega)] at t
      exact ⟨_, _, _, t, fun post P => yv_otherR hi (by omega) z es P⟩
  · obtain ⟨a, b, c⟩ := n9 q
    rw [q9_f q, a, b, c, ← eg]
    exact ⟨1, _, _, T_1, fun post P => yv_otherI hi es P⟩
end
