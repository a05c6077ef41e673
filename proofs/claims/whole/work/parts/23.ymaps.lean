section
variable {o off imm : Int32} {d s : Nat} {K : Nat → Int32} {L H : Nat → Int64} {S : Int64}
def uk_ (o : Int32) (K : Nat → Int32) : Prop := K 1 = 0 ∨ (o = 51 ∧ (K 2 = 0 ∨ K 3 = 0))
def sk_ (o : Int32) (K : Nat → Int32) : Prop := K 1 = 1 ∧ (o = 51 → K 2 = 1 ∧ K 3 = 1)
theorem ol_f (h : o = 50 ∨ o = 51 ∨ o = 52) : ¬ o < 20 ∧ 40 ≤ o ∧ ¬ o = 60 ∧ ¬ o < 50 := by rcases h with rfl | rfl | rfl <;> decide
theorem uk_iff {y_known : Nat → Int32} {y_lo y_hi : Nat → Int64} {B e : Nat} {m : Int32} (F : Fr_ K L H y_known y_lo y_hi B m) (ee : e = if o = 51 then 3 else 1) : ¬ uk_ o K ↔ (∀ r, 1 ≤ r → r ≤ e → ¬ y_known (B + r) = 0) := by
  have t : ∀ r, r < 8 → y_known (B + r) = K r := fun r hr => by have t := F r (by omega); rw [g_lo hr] at t; exact t.1
  unfold uk_
  constructor
  · intro h r a b
    have : r < 8 := by rw [ee] at b; split at b <;> omega
    rw [t r this]
    intro k
    apply h
    by_cases z : o = 51
    · rw [if_pos z] at ee
      have : r = 1 ∨ r = 2 ∨ r = 3 := by omega
      rcases this with rfl | rfl | rfl
      · exact Or.inl k
      · exact Or.inr ⟨z, Or.inl k⟩
      · exact Or.inr ⟨z, Or.inr k⟩
    · rw [if_neg z] at ee
      have : r = 1 := by omega
      subst this; exact Or.inl k
  · rintro h (k | ⟨z, k | k⟩)
    · exact h 1 (by omega) (by rw [ee]; split <;> omega) ((t 1 (by omega)).trans k)
    · rw [if_pos z] at ee
      exact h 2 (by omega) (by omega) ((t 2 (by omega)).trans k)
    · rw [if_pos z] at ee
      exact h 3 (by omega) (by omega) ((t 3 (by omega)).trans k)
theorem sk_iff {y_known : Nat → Int32} {y_lo y_hi : Nat → Int64} {B e : Nat} {m : Int32} (F : Fr_ K L H y_known y_lo y_hi B m) (ee : e = if o = 51 then 3 else 1) : sk_ o K ↔ (∀ r, 1 ≤ r → r ≤ e → y_known (B + r) = 1) := by
  have t : ∀ r, r < 8 → y_known (B + r) = K r := fun r hr => by have t := F r (by omega); rw [g_lo hr] at t; exact t.1
  unfold sk_
  constructor
  · rintro ⟨k1, k2⟩ r a b
    have : r < 8 := by rw [ee] at b; split at b <;> omega
    rw [t r this]
    by_cases z : o = 51
    · rw [if_pos z] at ee
      have : r = 1 ∨ r = 2 ∨ r = 3 := by omega
      rcases this with rfl | rfl | rfl
      · exact k1
      · exact (k2 z).1
      · exact (k2 z).2
    · rw [if_neg z] at ee
      have : r = 1 := by omega
      subst this; exact k1
  · intro h
    refine ⟨(t 1 (by omega)).symm.trans (h 1 (by omega) (by rw [ee]; split <;> omega)), fun z => ?_⟩
    rw [if_pos z] at ee
    exact ⟨(t 2 (by omega)).symm.trans (h 2 (by omega) (by omega)), (t 3 (by omega)).symm.trans (h 3 (by omega) (by omega))⟩
theorem yp_l1 {K' : Nat → Int32} {L' H' : Nat → Int64} (ho : o = 50 ∨ o = 51 ∨ o = 52) (g : imm < 0 ∨ ¬ imm < 2) : YP_ o d s off imm K L H S 1 K' L' H' := by
  intro y_place y_least y_most y_smallest y_greatest y_ways y_fault y_base y_otherKind y_otherLo y_otherHi y_low y_high y_bytes y_steps y_op y_first y_second y_offset y_given y_length y_there y_known y_lo y_hi y_at y_lookups y_safe y_met y_tag y_word y_packet y_keys y_values y_many i a w post hi ha hw eo e1 e2 eof eg eat F eS hl hE hO
  obtain ⟨f1, f2, f3, f4⟩ := ol_f ho
  rw [← eg] at g
  refine yv_inL hi eo f1 f2 f3 f4 ?_
  refine yv_look hi (by omega) hw rfl (fun _ => ?_) (fun n => absurd g n) (fun n => absurd g n) (fun n => absurd g n)
  exact yv_78 hw (by omega) eat (hE (by decide) _ _ _ _ _ _ _ _ _ _)
theorem yp_l2 {K' : Nat → Int32} {L' H' : Nat → Int64} (ho : o = 50 ∨ o = 51 ∨ o = 52) (g : ¬ (imm < 0 ∨ ¬ imm < 2)) (u : uk_ o K) : YP_ o d s off imm K L H S 2 K' L' H' := by
  intro y_place y_least y_most y_smallest y_greatest y_ways y_fault y_base y_otherKind y_otherLo y_otherHi y_low y_high y_bytes y_steps y_op y_first y_second y_offset y_given y_length y_there y_known y_lo y_hi y_at y_lookups y_safe y_met y_tag y_word y_packet y_keys y_values y_many i a w post hi ha hw eo e1 e2 eof eg eat F eS hl hE hO
  obtain ⟨f1, f2, f3, f4⟩ := ol_f ho
  rw [← eg] at g
  have q : ∀ e, (e = if o = 51 then 3 else 1) → ¬ (∀ r, 1 ≤ r → r ≤ e → ¬ y_known (14 * w + r) = 0) := fun e ee n => (uk_iff F ee).mpr n u
  refine yv_inL hi eo f1 f2 f3 f4 ?_
  refine yv_look hi (by omega) hw rfl (fun n => absurd n g) (fun _ _ => ?_) (fun _ n => absurd n (q _ rfl)) (fun _ n => ?_)
  · exact yv_78 hw (by omega) eat (hE (by decide) _ _ _ _ _ _ _ _ _ _)
  · exact absurd (fun r a b z => absurd ((n r a b).symm.trans z) (by decide)) (q _ rfl)
theorem yp_l3 {K' : Nat → Int32} {L' H' : Nat → Int64} (ho : o = 50 ∨ o = 51 ∨ o = 52) (g : ¬ (imm < 0 ∨ ¬ imm < 2)) (u : ¬ uk_ o K) (k : ¬ sk_ o K) : YP_ o d s off imm K L H S 3 K' L' H' := by
  intro y_place y_least y_most y_smallest y_greatest y_ways y_fault y_base y_otherKind y_otherLo y_otherHi y_low y_high y_bytes y_steps y_op y_first y_second y_offset y_given y_length y_there y_known y_lo y_hi y_at y_lookups y_safe y_met y_tag y_word y_packet y_keys y_values y_many i a w post hi ha hw eo e1 e2 eof eg eat F eS hl hE hO
  obtain ⟨f1, f2, f3, f4⟩ := ol_f ho
  rw [← eg] at g
  refine yv_inL hi eo f1 f2 f3 f4 ?_
  refine yv_look hi (by omega) hw rfl (fun n => absurd n g) (fun _ n => absurd ((uk_iff F rfl).mp u) n) (fun _ _ _ => ?_) (fun _ n => absurd ((sk_iff F rfl).mpr n) k)
  exact yv_78 hw (by omega) eat (hE (by decide) _ _ _ _ _ _ _ _ _ _)
theorem yp_l0 (ho : o = 50 ∨ o = 51 ∨ o = 52) (g : ¬ (imm < 0 ∨ ¬ imm < 2)) (u : ¬ uk_ o K) (k : sk_ o K) : YP_ o d s off imm K L H S 0 (upd (mK_ K 16) 0 (if o = 50 then 6 else 1)) (vp_updL (mL_ K L 16) 0 0) (vp_updL (mL_ K H 16) 0 (if o = 50 then 0 else 1)) := by
  intro y_place y_least y_most y_smallest y_greatest y_ways y_fault y_base y_otherKind y_otherLo y_otherHi y_low y_high y_bytes y_steps y_op y_first y_second y_offset y_given y_length y_there y_known y_lo y_hi y_at y_lookups y_safe y_met y_tag y_word y_packet y_keys y_values y_many i a w post hi ha hw eo e1 e2 eof eg eat F eS hl hE hO
  obtain ⟨f1, f2, f3, f4⟩ := ol_f ho
  rw [← eg] at g
  refine yv_inL hi eo f1 f2 f3 f4 ?_
  refine yv_look hi (by omega) hw rfl (fun n => absurd n g) (fun _ n => absurd ((uk_iff F rfl).mp u) n) (fun _ _ n => absurd ((sk_iff F rfl).mp k) n) (fun _ _ lk l h50 hn => ?_)
  refine yv_78 hw (by omega) eat ?_
  refine hO rfl _ _ _ _ _ _ _ _ _ ?_ (fun j hj => ⟨?_, pk_uLn (by omega), pk_uLn (by omega)⟩) (fun j hj => ?_) ?_
  · have M : Fr_ (mK_ K 16) (mL_ K L 16) (mL_ K H 16) (yw_ y_known (14 * w) 14) y_lo y_hi (14 * w) (lk w) := by
      intro r hr
      have t := F r hr
      have g16 := g_16 hr
      by_cases z : wi_ K 16 (g_ r)
      · have e1 : mK_ K 16 (g_ r) = 0 := by unfold mK_; exact if_pos z
        have e2 : yw_ y_known (14 * w) 14 (14 * w + r) = 0 := by
          unfold yw_
          refine if_pos ⟨by omega, by omega, ?_⟩
          rcases z.2 with z | z | z
          · unfold g_ at z; split at z <;> omega
          · exact Or.inr (Or.inl (t.1.trans z))
          · exact Or.inr (Or.inr (t.1.trans z))
        rw [e1, e2]; exact T_0
      · have e1 : mK_ K 16 (g_ r) = K (g_ r) := by unfold mK_; exact if_neg z
        have e3 : mL_ K L 16 (g_ r) = L (g_ r) := by unfold mL_; exact if_neg z
        have e4 : mL_ K H 16 (g_ r) = H (g_ r) := by unfold mL_; exact if_neg z
        have e2 : yw_ y_known (14 * w) 14 (14 * w + r) = y_known (14 * w + r) := by
          unfold yw_
          refine if_neg (fun y => z ⟨g16, ?_⟩)
          rcases y.2.2 with y | y | y
          · left; rw [g_lo (by omega)]; omega
          · exact Or.inr (Or.inl (t.1.symm.trans y))
          · exact Or.inr (Or.inr (t.1.symm.trans y))
        rw [e1, e2, e3, e4]
        exact T_m t (fun n => z ⟨g16, Or.inr (Or.inr n)⟩)
    have tt : T_ (if o = 50 then 6 else 1) 0 (if o = 50 then 0 else 1) (if o = 50 then 6 else 1) l (if o = 50 then 0 else 1) (lk w) := by
      by_cases z : o = 50
      · obtain ⟨q1, q2⟩ := h50 z
        simp only [z, if_true]
        rw [q2, q1, pk_us]; exact T_6
      · obtain ⟨q1, q2⟩ := hn z
        simp only [z, if_false]
        rw [q2]; exact T_1
    exact Fr_upd (r := 0) M tt
  · rw [pk_un (by omega)]
    unfold yw_; exact if_neg (fun z => absurd z.1 (by omega))
  · by_cases z : o = 50
    · rw [(h50 z).1, pk_un (by omega)]
    · rw [(hn z).1]
  · by_cases z : o = 50
    · rw [(h50 z).1, pk_us, ys_bb]
    · rw [(hn z).1]; exact hl
end
