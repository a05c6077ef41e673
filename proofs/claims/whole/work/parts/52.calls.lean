theorem pk_div {a d : Nat} (ha : a < 2 ^ 31) (h0 : 0 < d) (hd : d < 2 ^ 31) : nI a / nI d = nI (a / d) := by
  apply Int32.toInt_inj.mp
  rw [lg_idiv_nonneg (by rw [nI_toInt ha]; omega) (by rw [nI_toInt hd]; omega), nI_toInt ha, nI_toInt hd, nI_toInt (Nat.lt_of_le_of_lt (Nat.div_le_self a d) ha)]
  first | rfl | exact (Int.natCast_ediv _ _).symm
theorem pk_rem {a d : Nat} (ha : a < 2 ^ 31) (h0 : 0 < d) (hd : d < 2 ^ 31) : nI a - nI a / nI d * nI d = nI (a % d) := by
  rw [pk_div ha h0 hd, pk_mul, pk_sub (Nat.div_mul_le_self a d)]
  exact congrArg nI (by have := Nat.div_add_mod' a d; omega)
def nj_ (j : Nat) : Prop := ((j / 10 = 0 ∨ j / 10 = 1) ∧ j % 10 ≤ 6) ∨ (j / 10 = 2 ∧ j % 10 ≤ 4) ∨ (j / 10 = 3 ∧ 1 ≤ j % 10 ∧ j % 10 ≤ 4) ∨ ((j / 10 = 4 ∨ j / 10 = 5) ∧ j % 10 ≤ 2) ∨ j = 60
theorem nj_ok {j : Nat} (hj : j < 2 ^ 31) : ok_ (nI j) ↔ nj_ j := by
  have q : ∀ c, c < 128 → (nI j = nI c ↔ j = c) := fun c hc => nI_eq hj (by omega)
  have e20 : (20 : Int32) = nI 20 := rfl
  have e40 : (40 : Int32) = nI 40 := rfl
  have e41 : (41 : Int32) = nI 41 := rfl
  have e42 : (42 : Int32) = nI 42 := rfl
  have e50 : (50 : Int32) = nI 50 := rfl
  have e51 : (51 : Int32) = nI 51 := rfl
  have e52 : (52 : Int32) = nI 52 := rfl
  have e60 : (60 : Int32) = nI 60 := rfl
  unfold ok_ nj_ oa_ oj_
  constructor
  · rintro (⟨f, h6, h | h⟩ | h | ⟨f, h1, h4, h | h⟩ | (h | h | h) | (h | h | h) | h)
    · rw [q _ (by omega)] at h; omega
    · rw [q _ (by omega)] at h; omega
    · rw [e20, q _ (by omega)] at h; omega
    · rw [q _ (by omega)] at h; omega
    · rw [q _ (by omega)] at h; omega
    · rw [e40, q _ (by omega)] at h; omega
    · rw [e41, q _ (by omega)] at h; omega
    · rw [e42, q _ (by omega)] at h; omega
    · rw [e50, q _ (by omega)] at h; omega
    · rw [e51, q _ (by omega)] at h; omega
    · rw [e52, q _ (by omega)] at h; omega
    · rw [e60, q _ (by omega)] at h; omega
  · rintro (⟨h | h, h2⟩ | ⟨h, h2⟩ | ⟨h, h2, h3⟩ | ⟨h | h, h2⟩ | h)
    · exact Or.inl ⟨j, by omega, Or.inl rfl⟩
    · exact Or.inl ⟨j - 10, by omega, Or.inr (by congr 1; omega)⟩
    · by_cases z : j = 20
      · right; left; rw [z]; rfl
      · right; right; left
        exact ⟨j - 20, by omega, by omega, Or.inl (by congr 1; omega)⟩
    · right; right; left
      exact ⟨j - 30, by omega, by omega, Or.inr (by congr 1; omega)⟩
    · right; right; right; left
      have : j = 40 ∨ j = 41 ∨ j = 42 := by omega
      rcases this with z | z | z
      · left; rw [z]; rfl
      · right; left; rw [z]; rfl
      · right; right; rw [z]; rfl
    · right; right; right; right; left
      have : j = 50 ∨ j = 51 ∨ j = 52 := by omega
      rcases this with z | z | z
      · left; rw [z]; rfl
      · right; left; rw [z]; rfl
      · right; right; rw [z]; rfl
    · right; right; right; right; right; rw [h]; rfl
theorem ok_pos {o : Int32} (h : ok_ o) : ¬ o < 0 := by
  obtain ⟨c, hc, e⟩ := ok_n h
  rw [e]; exact xb_lt0 (by omega)
theorem xc_named {post : Int32 → Prop} {o : Int32} (A : ok_ o → post 1) (B : ¬ ok_ o → post 0) : wpX_isNamed post o := by
  by_cases z : o < 0
  · exact br_f (Int32.not_le.mpr z) (B (fun h => ok_pos h z))
  · obtain ⟨j, hj, rfl⟩ := nI_of z
    have e10 : (10 : Int32) = nI 10 := rfl
    have ed : nI j / 10 = nI (j / 10) := pk_div (d := 10) hj (by omega) (by omega)
    have er : nI j - nI j / 10 * 10 = nI (j % 10) := pk_rem (d := 10) hj (by omega) (by omega)
    rw [nj_ok hj] at A B
    have hd : j / 10 < 2 ^ 31 := by omega
    refine br_t (nI_pos' hj) ⟨by decide, nm_r er ⟨by decide, nm_r ed ?_⟩⟩
    unfold nj_ at A B
    have w52 : (j / 10 = 0 ∨ j / 10 = 1) → wX_isNamed_52 post (nI (j % 10)) := by
      intro q
      refine br_c (fun y => B ?_) (fun y => A ?_)
      · rw [xb_gt6 (by omega)] at y; omega
      · rw [xb_gt6 (by omega)] at y; omega
    have w91 : (j / 10 = 4 ∨ j / 10 = 5) → wX_isNamed_91 post (nI (j % 10)) := by
      intro q
      refine br_c (fun y => B ?_) (fun y => A ?_)
      · rw [xb_gt2 (by omega)] at y; omega
      · rw [xb_gt2 (by omega)] at y; omega
    refine br_f (xb_lt0 hd) (br_c (fun y => ?_) (fun y => ?_))
    · rw [xb_gt5 hd] at y
      refine br_c (fun x => A ?_) (fun x => B ?_)
      · rw [xb_eq60 hj] at x; omega
      · rw [xb_eq60 hj] at x; omega
    · rw [xb_gt5 hd] at y
      refine br_c (fun x => w52 ?_) (fun x0 => br_c (fun x => w52 ?_) (fun x1 => br_c (fun x => ?_) (fun x2 => br_c (fun x => ?_) (fun x3 => br_c (fun x => w91 ?_) (fun x4 => br_c (fun x => w91 ?_) (fun x5 => trivial))))))
      · rw [xb_eq0 hd] at x; omega
      · rw [xb_eq1 hd] at x; omega
      · rw [xb_eq2 hd] at x
        refine br_c (fun w => B ?_) (fun w => A ?_)
        · rw [xb_gt4 (by omega)] at w; omega
        · rw [xb_gt4 (by omega)] at w; omega
      · rw [xb_eq3 hd] at x
        refine br_c (fun w => B ?_) (fun w => br_c (fun v => B ?_) (fun v => A ?_))
        · rw [xb_lt1 (by omega)] at w; omega
        · rw [xb_gt4 (by omega)] at v; omega
        · rw [xb_lt1 (by omega)] at w; rw [xb_gt4 (by omega)] at v; omega
      · rw [xb_eq4 hd] at x; omega
      · rw [xb_eq5 hd] at x; omega
section
variable {y_place : Int32} {y_least : Int64} {y_most : Int64} {y_smallest : Int64} {y_greatest : Int64} {y_ways : Int32} {y_fault : Int32} {y_base : Int32} {y_otherKind : Int32} {y_otherLo : Int64} {y_otherHi : Int64} {y_low : Int64} {y_high : Int64} {y_bytes : Int32} {y_steps : Int32} {y_op : Nat → Int32} {y_first : Nat → Int32} {y_second : Nat → Int32} {y_offset : Nat → Int32} {y_given : Nat → Int32} {y_length : Nat → Int32} {y_there : Nat → Int32} {y_known : Nat → Int32} {y_lo : Nat → Int64} {y_hi : Nat → Int64} {y_at : Nat → Int32} {y_lookups : Nat → Int32} {y_safe : Nat → Int32} {y_met : Nat → Int32} {y_tag : Nat → Int32} {y_word : Nat → Int64} {y_packet : Nat → Int32} {y_keys : Nat → Int64} {y_values : Nat → Int64} {y_many : Nat → Int32}
theorem yc_named {post : Int32 → SY → Prop} {o p1 p2 p3 p4 : Int32} (A : ok_ o → wY_code_81 post o p1 p2 p3 p4 1 y_place y_least y_most y_smallest y_greatest y_ways y_fault y_base y_otherKind y_otherLo y_otherHi y_low y_high y_bytes y_steps y_op y_first y_second y_offset y_given y_length y_there y_known y_lo y_hi y_at y_lookups y_safe y_met y_tag y_word y_packet y_keys y_values y_many) (B : ¬ ok_ o → wY_code_81 post o p1 p2 p3 p4 0 y_place y_least y_most y_smallest y_greatest y_ways y_fault y_base y_otherKind y_otherLo y_otherHi y_low y_high y_bytes y_steps y_op y_first y_second y_offset y_given y_length y_there y_known y_lo y_hi y_at y_lookups y_safe y_met y_tag y_word y_packet y_keys y_values y_many) : wpY_code post (y_place, y_least, y_most, y_smallest, y_greatest, y_ways, y_fault, y_base, y_otherKind, y_otherLo, y_otherHi, y_low, y_high, y_bytes, y_steps, y_op, y_first, y_second, y_offset, y_given, y_length, y_there, y_known, y_lo, y_hi, y_at, y_lookups, y_safe, y_met, y_tag, y_word, y_packet, y_keys, y_values, y_many) o p1 p2 p3 p4 := by
  by_cases z : o < 0
  · have n : ¬ ok_ o := fun h => ok_pos h z
    have lt : ∀ c : Int32, 0 ≤ c → o < c := fun c hc => Int32.lt_of_lt_of_le z hc
    exact br_t z (br_t (lt 10 (by decide)) (br_t (lt 20 (by decide)) (br_t (lt 31 (by decide)) (br_t (lt 40 (by decide)) (br_t (lt 50 (by decide)) (br_f (fun e => by rw [e] at z; exact absurd z (by decide)) (B n)))))))
  · obtain ⟨j, hj, rfl⟩ := nI_of z
    rw [nj_ok hj] at A B
    unfold nj_ at A B
    have e16 : ∀ c : Nat, c < 128 → (nI j ≤ nI c ↔ j ≤ c) := fun c hc => nI_leI hj (by omega)
    have l16 : ∀ c : Nat, c < 128 → (nI j < nI c ↔ j < c) := fun c hc => nI_ltI hj (by omega)
    have w70 : ¬ (j < 60 ∧ nj_ j) → wY_code_70 post (nI j) p1 p2 p3 p4 y_place y_least y_most y_smallest y_greatest y_ways y_fault y_base y_otherKind y_otherLo y_otherHi y_low y_high y_bytes y_steps y_op y_first y_second y_offset y_given y_length y_there y_known y_lo y_hi y_at y_lookups y_safe y_met y_tag y_word y_packet y_keys y_values y_many := by
      intro n
      unfold nj_ at n
      refine br_c (fun x => A ?_) (fun x => B ?_)
      · rw [xb_eq60 hj] at x; omega
      · rw [xb_eq60 hj] at x; omega
    have w58 : ¬ (j < 50 ∧ nj_ j) → wY_code_58 post (nI j) p1 p2 p3 p4 y_place y_least y_most y_smallest y_greatest y_ways y_fault y_base y_otherKind y_otherLo y_otherHi y_low y_high y_bytes y_steps y_op y_first y_second y_offset y_given y_length y_there y_known y_lo y_hi y_at y_lookups y_safe y_met y_tag y_word y_packet y_keys y_values y_many := by
      intro n
      unfold nj_ at n
      refine br_c (fun x => w70 ?_) (fun x => br_c (fun y => A ?_) (fun y => w70 ?_))
      · have x' := (l16 50 (by omega)).mp x; unfold nj_; omega
      · have x' : ¬ j < 50 := fun q => x ((l16 50 (by omega)).mpr q)
        have y' := (e16 52 (by omega)).mp y; omega
      · have x' : ¬ j < 50 := fun q => x ((l16 50 (by omega)).mpr q)
        have y' : ¬ j ≤ 52 := fun q => y ((e16 52 (by omega)).mpr q)
        unfold nj_; omega
    have w46 : ¬ (j < 40 ∧ nj_ j) → wY_code_46 post (nI j) p1 p2 p3 p4 y_place y_least y_most y_smallest y_greatest y_ways y_fault y_base y_otherKind y_otherLo y_otherHi y_low y_high y_bytes y_steps y_op y_first y_second y_offset y_given y_length y_there y_known y_lo y_hi y_at y_lookups y_safe y_met y_tag y_word y_packet y_keys y_values y_many := by
      intro n
      unfold nj_ at n
      refine br_c (fun x => w58 ?_) (fun x => br_c (fun y => A ?_) (fun y => w58 ?_))
      · have x' := (l16 40 (by omega)).mp x; unfold nj_; omega
      · have x' : ¬ j < 40 := fun q => x ((l16 40 (by omega)).mpr q)
        have y' := (e16 42 (by omega)).mp y; omega
      · have x' : ¬ j < 40 := fun q => x ((l16 40 (by omega)).mpr q)
        have y' : ¬ j ≤ 42 := fun q => y ((e16 42 (by omega)).mpr q)
        unfold nj_; omega
    have w34 : ¬ (j < 31 ∧ nj_ j) → wY_code_34 post (nI j) p1 p2 p3 p4 y_place y_least y_most y_smallest y_greatest y_ways y_fault y_base y_otherKind y_otherLo y_otherHi y_low y_high y_bytes y_steps y_op y_first y_second y_offset y_given y_length y_there y_known y_lo y_hi y_at y_lookups y_safe y_met y_tag y_word y_packet y_keys y_values y_many := by
      intro n
      unfold nj_ at n
      refine br_c (fun x => w46 ?_) (fun x => br_c (fun y => A ?_) (fun y => w46 ?_))
      · have x' := (l16 31 (by omega)).mp x; unfold nj_; omega
      · have x' : ¬ j < 31 := fun q => x ((l16 31 (by omega)).mpr q)
        have y' := (e16 34 (by omega)).mp y; omega
      · have x' : ¬ j < 31 := fun q => x ((l16 31 (by omega)).mpr q)
        have y' : ¬ j ≤ 34 := fun q => y ((e16 34 (by omega)).mpr q)
        unfold nj_; omega
    have w22 : ¬ (j < 20 ∧ nj_ j) → wY_code_22 post (nI j) p1 p2 p3 p4 y_place y_least y_most y_smallest y_greatest y_ways y_fault y_base y_otherKind y_otherLo y_otherHi y_low y_high y_bytes y_steps y_op y_first y_second y_offset y_given y_length y_there y_known y_lo y_hi y_at y_lookups y_safe y_met y_tag y_word y_packet y_keys y_values y_many := by
      intro n
      unfold nj_ at n
      refine br_c (fun x => w34 ?_) (fun x => br_c (fun y => A ?_) (fun y => w34 ?_))
      · have x' := (l16 20 (by omega)).mp x; unfold nj_; omega
      · have x' : ¬ j < 20 := fun q => x ((l16 20 (by omega)).mpr q)
        have y' := (e16 24 (by omega)).mp y; omega
      · have x' : ¬ j < 20 := fun q => x ((l16 20 (by omega)).mpr q)
        have y' : ¬ j ≤ 24 := fun q => y ((e16 24 (by omega)).mpr q)
        unfold nj_; omega
    have w10 : ¬ (j < 10 ∧ nj_ j) → wY_code_10 post (nI j) p1 p2 p3 p4 y_place y_least y_most y_smallest y_greatest y_ways y_fault y_base y_otherKind y_otherLo y_otherHi y_low y_high y_bytes y_steps y_op y_first y_second y_offset y_given y_length y_there y_known y_lo y_hi y_at y_lookups y_safe y_met y_tag y_word y_packet y_keys y_values y_many := by
      intro n
      unfold nj_ at n
      refine br_c (fun x => w22 ?_) (fun x => br_c (fun y => A ?_) (fun y => w22 ?_))
      · have x' := (l16 10 (by omega)).mp x; unfold nj_; omega
      · have x' : ¬ j < 10 := fun q => x ((l16 10 (by omega)).mpr q)
        have y' := (e16 16 (by omega)).mp y; omega
      · have x' : ¬ j < 10 := fun q => x ((l16 10 (by omega)).mpr q)
        have y' : ¬ j ≤ 16 := fun q => y ((e16 16 (by omega)).mpr q)
        unfold nj_; omega
    refine br_f z (br_c (fun y => A ?_) (fun y => w10 ?_))
    · have y' := (e16 6 (by omega)).mp y; omega
    · have y' : ¬ j ≤ 6 := fun q => y ((e16 6 (by omega)).mpr q)
      unfold nj_; omega
end
theorem th_code {ops tgt src off imm len there : Nat → Int32} {n : Nat} {a b c d e l : Int32} (T : TH_ ops tgt src off imm len there) : TH_ (upd ops (80 + n) a) (upd tgt (80 + n) b) (upd src (80 + n) c) (upd off (80 + n) d) (upd imm (80 + n) e) (upd len 2 l) there := by
  intro p hp
  rw [pk_un (f := len) (by omega)]
  rcases T p hp with t | ⟨t, m, m1, m2, m3, m4⟩
  · exact Or.inl t
  · refine Or.inr ⟨t, m, m1, m2, m3, Sf_cong (fun j hj => ?_) m4⟩
    exact ⟨pk_un (by omega), pk_un (by omega), pk_un (by omega), pk_un (by omega), pk_un (by omega)⟩
theorem po_code {ops tgt src : Nat → Int32} {i d s : Nat} {o : Int32} (h : PO_ ops tgt src) (h1 : ok_ o) (hd : d < 8) (hs : s < 9) : PO_ (upd ops i o) (upd tgt i (nI d)) (upd src i (nI s)) := by
  intro j
  by_cases z : j = i
  · rw [z, pk_us, pk_us, pk_us]; exact ⟨h1, ⟨d, hd, rfl⟩, ⟨s, hs, rfl⟩⟩
  · rw [pk_un z, pk_un z, pk_un z]; exact h j
