theorem pf_lI {a : Nat} (h : a < 2 ^ 63) : (lN a).toInt = (a : Int) := lg_ofNat_toInt h
theorem pf_shr {a d : Nat} {D : Int64} (hD : (D.toBitVec.smod 64).toNat = d) (h : a < 2 ^ 62) : lN a >>> D = lN (a / 2 ^ d) := by
  have hd : a / 2 ^ d ≤ a := Nat.div_le_self _ _
  apply Int64.toInt_inj.mp
  have e : (lN a >>> D).toInt = (lN a).toInt >>> d := by
    rw [← hD]
    exact BitVec.toInt_sshiftRight ..
  rw [e, Int.shiftRight_eq_div_pow, pf_lI (by omega), pf_lI (by omega)]
  rfl
theorem pf_andw (x : Int64) : ∃ m, m < 2 ^ 32 ∧ x &&& 4294967295 = lN m := ⟨x.toBitVec.toNat % 2 ^ 32, Nat.mod_lt _ (by decide), Int64.toBitVec_inj.mp (BitVec.eq_of_toNat_eq (by
  show (x.toBitVec &&& 4294967295#64).toNat = (BitVec.ofNat 64 (x.toBitVec.toNat % 2 ^ 32)).toNat
  rw [BitVec.toNat_and, show (4294967295#64).toNat = 2 ^ 32 - 1 from by decide, Nat.and_two_pow_sub_one_eq_mod, BitVec.toNat_ofNat]
  omega))⟩
theorem wb_tb (n : Nat) : (lN n).toBitVec = BitVec.ofNat 64 n := rfl
theorem wb_inj {a b : Int64} (h : a.toBitVec = b.toBitVec) : a = b := Int64.toBitVec_inj.mp h
theorem wb_tn {n : Nat} (h : n < 2 ^ 64) : (lN n).toBitVec.toNat = n := by rw [wb_tb, BitVec.toNat_ofNat, Nat.mod_eq_of_lt h]
theorem wb_lt2 {a b : Nat} (h : a < b) : 2 ^ a < 2 ^ b := Nat.pow_lt_pow_right (by decide) h
theorem wb_and {a b : Nat} (ha : a < 2 ^ 64) (hb : b < 2 ^ 64) : lN a &&& lN b = lN (a &&& b) := by
  apply wb_inj
  rw [Int64.toBitVec_and, wb_tb, wb_tb, wb_tb]
  apply BitVec.eq_of_toNat_eq
  rw [BitVec.toNat_and, BitVec.toNat_ofNat, BitVec.toNat_ofNat, BitVec.toNat_ofNat, Nat.mod_eq_of_lt ha, Nat.mod_eq_of_lt hb, Nat.mod_eq_of_lt (Nat.and_lt_two_pow _ hb)]
theorem wb_or {a b : Nat} (ha : a < 2 ^ 64) (hb : b < 2 ^ 64) : lN a ||| lN b = lN (a ||| b) := by
  apply wb_inj
  rw [Int64.toBitVec_or, wb_tb, wb_tb, wb_tb]
  apply BitVec.eq_of_toNat_eq
  rw [BitVec.toNat_or, BitVec.toNat_ofNat, BitVec.toNat_ofNat, BitVec.toNat_ofNat, Nat.mod_eq_of_lt ha, Nat.mod_eq_of_lt hb, Nat.mod_eq_of_lt (Nat.or_lt_two_pow ha hb)]
theorem wb_mask {n k : Nat} (hn : n < 2 ^ 64) (hk : k < 64) : lN n &&& lN (2 ^ k - 1) = lN (n % 2 ^ k) := by
  rw [wb_and hn (by have := wb_lt2 hk; omega), Nat.and_two_pow_sub_one_eq_mod]
theorem pu_M : (4294967295 : Int64) = lN 4294967295 := by rfl
theorem pu_0 : (0 : Int64) = lN 0 := by rfl
theorem pu_ok {x y : Nat} (hx : x < 2 ^ 63) (hy : y < 2 ^ 63) : ab_ok (lN x) (lN y) ↔ x ≤ 4294967295 ∧ y ≤ 4294967295 := by
  unfold ab_ok
  rw [pu_M, pu_0, pk_lLT hx (by omega), pk_lLT (by omega) hx, pk_lLT hy (by omega), pk_lLT (by omega) hy]
  omega
theorem pu_subI {a e : Nat} (ha : a < 2 ^ 32) (he : e < 2 ^ 32) : (lN a - lN e).toInt = (a : Int) - e := by
  rw [Int64.toInt_sub, pk_lT (by omega), pk_lT (by omega), Int.bmod_eq_of_le (by omega) (by omega)]
theorem pu_lt0 {x : Int64} : x < 0 ↔ x.toInt < 0 := by rw [Int64.lt_iff_toInt_lt]; rfl
theorem pu_sub0 {a e : Nat} (ha : a < 2 ^ 32) (he : e < 2 ^ 32) : lN a - lN e < 0 ↔ a < e := by
  rw [pu_lt0, pu_subI ha he]; omega
theorem on_fix {w : Int64} : ∀ (n : Nat) {x : Int64}, w ≤ x → on_it w n x = x
  | 0, _, _ => rfl
  | n + 1, x, h => by rw [on_it, if_pos h]; exact on_fix n h
theorem on_run {w : Nat} (hw : w < 2 ^ 32) : ∀ d k : Nat, k + d = 32 → ∃ m, m ≤ 32 ∧ k ≤ m ∧ on_it (lN w) d (lN (2 ^ k - 1)) = lN (2 ^ m - 1) ∧ w < 2 ^ m
  | 0, k, h => ⟨32, by omega, by omega, by have : k = 32 := by omega
                                           subst this; rfl, hw⟩
  | d + 1, k, h => by
    have pk : 2 ^ k ≤ 2 ^ 32 := Nat.pow_le_pow_right (by decide) (by omega)
    have p0 : 0 < 2 ^ k := Nat.pow_pos (by decide)
    by_cases z : w < 2 ^ k
    · refine ⟨k, by omega, Nat.le_refl _, ?_, z⟩
      exact on_fix _ ((pk_lLE (by omega) (by omega)).mpr (by omega))
    · obtain ⟨m, h1, h2, h3, h4⟩ := on_run hw d (k + 1) (by omega)
      refine ⟨m, h1, by omega, ?_, h4⟩
      rw [on_it, if_neg (by rw [pk_lLE (by omega) (by omega)]; omega), ← h3]
      congr 1
      have : lN (2 ^ k - 1) * 2 + 1 = lN ((2 ^ k - 1) * 2 + 1) := by rw [← lN_add, ← lN_mul]; rfl
      rw [this, Nat.pow_succ]
      congr 1; omega
theorem on_ex {w : Nat} (hw : w < 2 ^ 32) : ∃ m, m ≤ 32 ∧ on_it (lN w) 32 0 = lN (2 ^ m - 1) ∧ w < 2 ^ m := by
  obtain ⟨m, h1, _, h3, h4⟩ := on_run hw 32 0 rfl
  exact ⟨m, h1, h3, h4⟩
theorem pu_or {b e : Nat} (hb : b < 2 ^ 32) (he : e < 2 ^ 32) : lN b ||| lN e = lN (b ||| e) := wb_or (by omega) (by omega)
theorem pu_orlt {b e : Nat} (hb : b < 2 ^ 32) (he : e < 2 ^ 32) : b ||| e < 2 ^ 32 := Nat.or_lt_two_pow hb he
/-- a shift by any count, of a word -/
theorem pu_sh (y : Int64) : ∃ d : Nat, ∀ a : Nat, a < 2 ^ 32 → sh_r (lN a) y = lN (a / 2 ^ d) := ⟨_, fun _ ha => pf_shr rfl (by omega)⟩
/-- what is known of a SCALAR or a PACKET stands in order -/
def iv_ (l h : Int64) (N : Nat) : Prop := ∃ a b : Nat, a ≤ b ∧ b < N ∧ l = lN a ∧ h = lN b
def wf1_ (k : Int32) (l h : Int64) : Prop := k7_ k ∧ (k = 1 → iv_ l h (2 ^ 32)) ∧ (k = 2 → iv_ l h 256) ∧ (k = 6 → l = 0 ∧ h = 0)
theorem cb_1 {l h l2 h2 : Int64} : cb_l (nI 1) l h l2 h2 = l + l2 ∧ cb_h (nI 1) l h l2 h2 = h + h2 := ⟨by simp [cb_l, ← xb_L1], by simp [cb_h, ← xb_L1]⟩
theorem cb_2 {l h l2 h2 : Int64} : cb_l (nI 2) l h l2 h2 = l - h2 ∧ cb_h (nI 2) l h l2 h2 = h - l2 := ⟨by simp [cb_l, ← xb_L2], by simp [cb_h, ← xb_L2]⟩
theorem cb_3 {l h l2 h2 : Int64} : cb_l (nI 3) l h l2 h2 = l * l2 ∧ cb_h (nI 3) l h l2 h2 = h * h2 := ⟨by simp [cb_l, ← xb_L3], by simp [cb_h, ← xb_L3]⟩
theorem cb_4 {l h l2 h2 : Int64} : cb_l (nI 4) l h l2 h2 = 0 ∧ cb_h (nI 4) l h l2 h2 = (if h2 ≤ h then h2 else h) := ⟨by simp [cb_l, ← xb_L4], by simp [cb_h, ← xb_L4]⟩
theorem cb_5 {l h l2 h2 : Int64} : cb_l (nI 5) l h l2 h2 = (if l ≤ l2 then l2 else l) ∧ cb_h (nI 5) l h l2 h2 = on_it (h ||| h2) 32 0 := ⟨by simp [cb_l, ← xb_L5], by simp [cb_h, ← xb_L5]⟩
theorem cb_6 {l h l2 h2 : Int64} : cb_l (nI 6) l h l2 h2 = (if l2 = h2 then sh_r l l2 else 0) ∧ cb_h (nI 6) l h l2 h2 = (if l2 = h2 then sh_r h l2 else h) := ⟨by simp [cb_l, ← xb_L6], by simp [cb_h, ← xb_L6]⟩
theorem cb_mulN {b e : Nat} (hb : b < 2 ^ 32) (he : e < 2 ^ 32) : b * e < 2 ^ 64 := by
  have : b * e ≤ (2 ^ 32 - 1) * (2 ^ 32 - 1) := Nat.mul_le_mul (by omega) (by omega)
  omega
theorem cb_big {x : Nat} (h : x < 2 ^ 64) (h2 : 2 ^ 63 ≤ x) : lN x < 0 := by
  rw [pu_lt0]
  have : (lN x).toInt = (x : Int).bmod (2 ^ 64) := Int64.toInt_ofNat
  rw [this, Int.bmod_def]
  omega
theorem cb_le {f a b c e : Nat} (h1 : 1 ≤ f) (h6 : f ≤ 6) (ab : a ≤ b) (hb : b < 2 ^ 32) (ce : c ≤ e) (he : e < 2 ^ 32) (z : ab_ok (cb_l (nI f) (lN a) (lN b) (lN c) (lN e)) (cb_h (nI f) (lN a) (lN b) (lN c) (lN e))) : iv_ (cb_l (nI f) (lN a) (lN b) (lN c) (lN e)) (cb_h (nI f) (lN a) (lN b) (lN c) (lN e)) (2 ^ 32) := by
  have ef : f = 1 ∨ f = 2 ∨ f = 3 ∨ f = 4 ∨ f = 5 ∨ f = 6 := by omega
  rcases ef with rfl | rfl | rfl | rfl | rfl | rfl
  · rw [cb_1.1, cb_1.2, lN_add, lN_add] at z ⊢
    rw [pu_ok (by omega) (by omega)] at z
    exact ⟨a + c, b + e, by omega, by omega, rfl, rfl⟩
  · rw [cb_2.1, cb_2.2] at z ⊢
    have h := z.1
    rw [pu_sub0 (by omega) (by omega)] at h
    rw [lN_sub (by omega), lN_sub (by omega)]
    exact ⟨a - e, b - c, by omega, by omega, rfl, rfl⟩
  · rw [cb_3.1, cb_3.2, lN_mul, lN_mul] at z ⊢
    have m1 := cb_mulN hb he
    have m2 : a * c ≤ b * e := Nat.mul_le_mul ab ce
    have h3 : b * e < 2 ^ 63 := by
      apply Classical.byContradiction
      intro n
      exact z.2.2.1 (cb_big m1 (by omega))
    rw [pu_ok (by omega) h3] at z
    exact ⟨a * c, b * e, m2, by omega, rfl, rfl⟩
  · rw [cb_4.1, cb_4.2]
    split
    · exact ⟨0, e, by omega, he, rfl, rfl⟩
    · exact ⟨0, b, by omega, hb, rfl, rfl⟩
  · rw [cb_5.1, cb_5.2, pu_or hb he]
    obtain ⟨m, h1, h2, h3⟩ := on_ex (pu_orlt hb he)
    rw [h2]
    have pm : 2 ^ m ≤ 2 ^ 32 := Nat.pow_le_pow_right (by decide) h1
    have l1 : b ≤ b ||| e := Nat.left_le_or
    have l2 : e ≤ b ||| e := Nat.right_le_or
    split
    · exact ⟨c, 2 ^ m - 1, by omega, by omega, rfl, rfl⟩
    · exact ⟨a, 2 ^ m - 1, by omega, by omega, rfl, rfl⟩
  · rw [cb_6.1, cb_6.2]
    split
    · obtain ⟨d, hd⟩ := pu_sh (lN c)
      rw [hd a (by omega), hd b hb]
      have : b / 2 ^ d ≤ b := Nat.div_le_self _ _
      exact ⟨a / 2 ^ d, b / 2 ^ d, Nat.div_le_div_right ab, by omega, rfl, rfl⟩
    · exact ⟨0, b, by omega, hb, rfl, rfl⟩
theorem ab_iv {l h : Int64} (z : ab_ok l h → iv_ l h (2 ^ 32)) : iv_ (ab_l l h) (ab_h l h) (2 ^ 32) := by
  by_cases y : ab_ok l h
  · rw [ab_l_t y, ab_h_t y]; exact z y
  · rw [ab_l_f y, ab_h_f y]; exact ⟨0, 4294967295, by omega, by omega, rfl, rfl⟩
