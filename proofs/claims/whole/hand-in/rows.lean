section
theorem pk_us {f : Nat → Int32} {k : Nat} {x : Int32} : upd f k x k = x := if_pos rfl
theorem pk_un {f : Nat → Int32} {k j : Nat} {x : Int32} (h : j ≠ k) : upd f k x j = f j := if_neg h
theorem pk_uLs {f : Nat → Int64} {k : Nat} {x : Int64} : vp_updL f k x k = x := if_pos rfl
theorem pk_uLn {f : Nat → Int64} {k j : Nat} {x : Int64} (h : j ≠ k) : vp_updL f k x j = f j := if_neg h
theorem pk_sub {a b : Nat} (h : b ≤ a) : nI a - nI b = nI (a - b) := by
  obtain ⟨c, rfl⟩ : ∃ c, a = c + b := ⟨a - b, by omega⟩
  rw [← nI_add, Int32.add_sub_cancel, Nat.add_sub_cancel]
theorem pk_m1 (n : Nat) : nI (n + 1) + (-1) = nI n := by
  rw [← nI_1, Int32.add_assoc, show (1 : Int32) + (-1) = 0 from rfl, Int32.add_zero]
theorem pk_mul (a b : Nat) : nI a * nI b = nI (a * b) := (Int32.ofNat_mul a b).symm
theorem pk_lT {n : Nat} (h : n < 2 ^ 63) : (lN n).toInt = (n : Int) := lg_ofNat_toInt h
theorem pk_lLT {a b : Nat} (ha : a < 2 ^ 63) (hb : b < 2 ^ 63) : lN a < lN b ↔ a < b := by
  rw [Int64.lt_iff_toInt_lt, pk_lT ha, pk_lT hb]; omega
theorem pk_lLE {a b : Nat} (ha : a < 2 ^ 63) (hb : b < 2 ^ 63) : lN a ≤ lN b ↔ a ≤ b := by
  rw [Int64.le_iff_toInt_le, pk_lT ha, pk_lT hb]; omega
theorem pk_lEQ {a b : Nat} (ha : a < 2 ^ 63) (hb : b < 2 ^ 63) : lN a = lN b ↔ a = b := by
  rw [← Int64.toInt_inj, pk_lT ha, pk_lT hb]; omega
theorem pk_lOf {x : Int64} (h : ¬ x < 0) : ∃ k : Nat, k < 2 ^ 63 ∧ x = lN k := by
  rw [Int64.lt_iff_toInt_lt] at h
  have h0 : (0 : Int64).toInt = 0 := by decide
  have hx := Int64.toInt_lt x
  refine ⟨x.toInt.toNat, by omega, Int64.toInt_inj.mp ?_⟩
  rw [pk_lT (by omega)]
  omega
theorem pk_lDiv {a b : Nat} (ha : a < 2 ^ 63) (h0 : 0 < b) (hb : b < 2 ^ 63) : lN a / lN b = lN (a / b) := by
  apply Int64.toInt_inj.mp
  rw [lg_ldiv_nonneg (by rw [pk_lT ha]; omega) (by rw [pk_lT hb]; omega), pk_lT ha, pk_lT hb, pk_lT (Nat.lt_of_le_of_lt (Nat.div_le_self a b) ha)]
  rfl
theorem pk_lRem {a b : Nat} (ha : a < 2 ^ 63) (h0 : 0 < b) (hb : b < 2 ^ 63) : lN a - lN a / lN b * lN b = lN (a % b) := by
  rw [pk_lDiv ha h0 hb, lN_mul, lN_sub (Nat.div_mul_le_self a b)]
  exact congrArg lN (by have := Nat.div_add_mod' a b; omega)
theorem xb_L1 : (1 : Int32) = nI 1 := by rfl
theorem xb_le1 {n : Nat} (h : n < 2 ^ 31) : (1 : Int32) ≤ nI n ↔ 1 ≤ n := by rw [xb_L1]; exact nI_leI (by decide) h
theorem xb_ge1 {n : Nat} (h : n < 2 ^ 31) : nI n ≤ (1 : Int32) ↔ n ≤ 1 := by rw [xb_L1]; exact nI_leI h (by decide)
theorem xb_lt1 {n : Nat} (h : n < 2 ^ 31) : nI n < (1 : Int32) ↔ n < 1 := by rw [xb_L1]; exact nI_ltI h (by decide)
theorem xb_gt1 {n : Nat} (h : n < 2 ^ 31) : (1 : Int32) < nI n ↔ 1 < n := by rw [xb_L1]; exact nI_ltI (by decide) h
theorem xb_eq1 {n : Nat} (h : n < 2 ^ 31) : nI n = (1 : Int32) ↔ n = 1 := by rw [xb_L1]; exact nI_eq h (by decide)
theorem xb_L2 : (2 : Int32) = nI 2 := by rfl
theorem xb_le2 {n : Nat} (h : n < 2 ^ 31) : (2 : Int32) ≤ nI n ↔ 2 ≤ n := by rw [xb_L2]; exact nI_leI (by decide) h
theorem xb_ge2 {n : Nat} (h : n < 2 ^ 31) : nI n ≤ (2 : Int32) ↔ n ≤ 2 := by rw [xb_L2]; exact nI_leI h (by decide)
theorem xb_lt2 {n : Nat} (h : n < 2 ^ 31) : nI n < (2 : Int32) ↔ n < 2 := by rw [xb_L2]; exact nI_ltI h (by decide)
theorem xb_gt2 {n : Nat} (h : n < 2 ^ 31) : (2 : Int32) < nI n ↔ 2 < n := by rw [xb_L2]; exact nI_ltI (by decide) h
theorem xb_eq2 {n : Nat} (h : n < 2 ^ 31) : nI n = (2 : Int32) ↔ n = 2 := by rw [xb_L2]; exact nI_eq h (by decide)
theorem xb_L3 : (3 : Int32) = nI 3 := by rfl
theorem xb_le3 {n : Nat} (h : n < 2 ^ 31) : (3 : Int32) ≤ nI n ↔ 3 ≤ n := by rw [xb_L3]; exact nI_leI (by decide) h
theorem xb_ge3 {n : Nat} (h : n < 2 ^ 31) : nI n ≤ (3 : Int32) ↔ n ≤ 3 := by rw [xb_L3]; exact nI_leI h (by decide)
theorem xb_lt3 {n : Nat} (h : n < 2 ^ 31) : nI n < (3 : Int32) ↔ n < 3 := by rw [xb_L3]; exact nI_ltI h (by decide)
theorem xb_gt3 {n : Nat} (h : n < 2 ^ 31) : (3 : Int32) < nI n ↔ 3 < n := by rw [xb_L3]; exact nI_ltI (by decide) h
theorem xb_eq3 {n : Nat} (h : n < 2 ^ 31) : nI n = (3 : Int32) ↔ n = 3 := by rw [xb_L3]; exact nI_eq h (by decide)
theorem xb_L4 : (4 : Int32) = nI 4 := by rfl
theorem xb_le4 {n : Nat} (h : n < 2 ^ 31) : (4 : Int32) ≤ nI n ↔ 4 ≤ n := by rw [xb_L4]; exact nI_leI (by decide) h
theorem xb_ge4 {n : Nat} (h : n < 2 ^ 31) : nI n ≤ (4 : Int32) ↔ n ≤ 4 := by rw [xb_L4]; exact nI_leI h (by decide)
theorem xb_lt4 {n : Nat} (h : n < 2 ^ 31) : nI n < (4 : Int32) ↔ n < 4 := by rw [xb_L4]; exact nI_ltI h (by decide)
theorem xb_gt4 {n : Nat} (h : n < 2 ^ 31) : (4 : Int32) < nI n ↔ 4 < n := by rw [xb_L4]; exact nI_ltI (by decide) h
theorem xb_eq4 {n : Nat} (h : n < 2 ^ 31) : nI n = (4 : Int32) ↔ n = 4 := by rw [xb_L4]; exact nI_eq h (by decide)
theorem xb_L5 : (5 : Int32) = nI 5 := by rfl
theorem xb_le5 {n : Nat} (h : n < 2 ^ 31) : (5 : Int32) ≤ nI n ↔ 5 ≤ n := by rw [xb_L5]; exact nI_leI (by decide) h
theorem xb_ge5 {n : Nat} (h : n < 2 ^ 31) : nI n ≤ (5 : Int32) ↔ n ≤ 5 := by rw [xb_L5]; exact nI_leI h (by decide)
theorem xb_lt5 {n : Nat} (h : n < 2 ^ 31) : nI n < (5 : Int32) ↔ n < 5 := by rw [xb_L5]; exact nI_ltI h (by decide)
theorem xb_gt5 {n : Nat} (h : n < 2 ^ 31) : (5 : Int32) < nI n ↔ 5 < n := by rw [xb_L5]; exact nI_ltI (by decide) h
theorem xb_eq5 {n : Nat} (h : n < 2 ^ 31) : nI n = (5 : Int32) ↔ n = 5 := by rw [xb_L5]; exact nI_eq h (by decide)
theorem xb_L6 : (6 : Int32) = nI 6 := by rfl
theorem xb_le6 {n : Nat} (h : n < 2 ^ 31) : (6 : Int32) ≤ nI n ↔ 6 ≤ n := by rw [xb_L6]; exact nI_leI (by decide) h
theorem xb_ge6 {n : Nat} (h : n < 2 ^ 31) : nI n ≤ (6 : Int32) ↔ n ≤ 6 := by rw [xb_L6]; exact nI_leI h (by decide)
theorem xb_lt6 {n : Nat} (h : n < 2 ^ 31) : nI n < (6 : Int32) ↔ n < 6 := by rw [xb_L6]; exact nI_ltI h (by decide)
theorem xb_gt6 {n : Nat} (h : n < 2 ^ 31) : (6 : Int32) < nI n ↔ 6 < n := by rw [xb_L6]; exact nI_ltI (by decide) h
theorem xb_eq6 {n : Nat} (h : n < 2 ^ 31) : nI n = (6 : Int32) ↔ n = 6 := by rw [xb_L6]; exact nI_eq h (by decide)
theorem xb_L7 : (7 : Int32) = nI 7 := by rfl
theorem xb_le7 {n : Nat} (h : n < 2 ^ 31) : (7 : Int32) ≤ nI n ↔ 7 ≤ n := by rw [xb_L7]; exact nI_leI (by decide) h
theorem xb_ge7 {n : Nat} (h : n < 2 ^ 31) : nI n ≤ (7 : Int32) ↔ n ≤ 7 := by rw [xb_L7]; exact nI_leI h (by decide)
theorem xb_lt7 {n : Nat} (h : n < 2 ^ 31) : nI n < (7 : Int32) ↔ n < 7 := by rw [xb_L7]; exact nI_ltI h (by decide)
theorem xb_gt7 {n : Nat} (h : n < 2 ^ 31) : (7 : Int32) < nI n ↔ 7 < n := by rw [xb_L7]; exact nI_ltI (by decide) h
theorem xb_eq7 {n : Nat} (h : n < 2 ^ 31) : nI n = (7 : Int32) ↔ n = 7 := by rw [xb_L7]; exact nI_eq h (by decide)
theorem xb_L8 : (8 : Int32) = nI 8 := by rfl
theorem xb_le8 {n : Nat} (h : n < 2 ^ 31) : (8 : Int32) ≤ nI n ↔ 8 ≤ n := by rw [xb_L8]; exact nI_leI (by decide) h
theorem xb_ge8 {n : Nat} (h : n < 2 ^ 31) : nI n ≤ (8 : Int32) ↔ n ≤ 8 := by rw [xb_L8]; exact nI_leI h (by decide)
theorem xb_lt8 {n : Nat} (h : n < 2 ^ 31) : nI n < (8 : Int32) ↔ n < 8 := by rw [xb_L8]; exact nI_ltI h (by decide)
theorem xb_gt8 {n : Nat} (h : n < 2 ^ 31) : (8 : Int32) < nI n ↔ 8 < n := by rw [xb_L8]; exact nI_ltI (by decide) h
theorem xb_eq8 {n : Nat} (h : n < 2 ^ 31) : nI n = (8 : Int32) ↔ n = 8 := by rw [xb_L8]; exact nI_eq h (by decide)
theorem xb_L10 : (10 : Int32) = nI 10 := by rfl
theorem xb_le10 {n : Nat} (h : n < 2 ^ 31) : (10 : Int32) ≤ nI n ↔ 10 ≤ n := by rw [xb_L10]; exact nI_leI (by decide) h
theorem xb_ge10 {n : Nat} (h : n < 2 ^ 31) : nI n ≤ (10 : Int32) ↔ n ≤ 10 := by rw [xb_L10]; exact nI_leI h (by decide)
theorem xb_lt10 {n : Nat} (h : n < 2 ^ 31) : nI n < (10 : Int32) ↔ n < 10 := by rw [xb_L10]; exact nI_ltI h (by decide)
theorem xb_gt10 {n : Nat} (h : n < 2 ^ 31) : (10 : Int32) < nI n ↔ 10 < n := by rw [xb_L10]; exact nI_ltI (by decide) h
theorem xb_eq10 {n : Nat} (h : n < 2 ^ 31) : nI n = (10 : Int32) ↔ n = 10 := by rw [xb_L10]; exact nI_eq h (by decide)
theorem xb_L12 : (12 : Int32) = nI 12 := by rfl
theorem xb_le12 {n : Nat} (h : n < 2 ^ 31) : (12 : Int32) ≤ nI n ↔ 12 ≤ n := by rw [xb_L12]; exact nI_leI (by decide) h
theorem xb_ge12 {n : Nat} (h : n < 2 ^ 31) : nI n ≤ (12 : Int32) ↔ n ≤ 12 := by rw [xb_L12]; exact nI_leI h (by decide)
theorem xb_lt12 {n : Nat} (h : n < 2 ^ 31) : nI n < (12 : Int32) ↔ n < 12 := by rw [xb_L12]; exact nI_ltI h (by decide)
theorem xb_gt12 {n : Nat} (h : n < 2 ^ 31) : (12 : Int32) < nI n ↔ 12 < n := by rw [xb_L12]; exact nI_ltI (by decide) h
theorem xb_eq12 {n : Nat} (h : n < 2 ^ 31) : nI n = (12 : Int32) ↔ n = 12 := by rw [xb_L12]; exact nI_eq h (by decide)
theorem xb_L14 : (14 : Int32) = nI 14 := by rfl
theorem xb_le14 {n : Nat} (h : n < 2 ^ 31) : (14 : Int32) ≤ nI n ↔ 14 ≤ n := by rw [xb_L14]; exact nI_leI (by decide) h
theorem xb_ge14 {n : Nat} (h : n < 2 ^ 31) : nI n ≤ (14 : Int32) ↔ n ≤ 14 := by rw [xb_L14]; exact nI_leI h (by decide)
theorem xb_lt14 {n : Nat} (h : n < 2 ^ 31) : nI n < (14 : Int32) ↔ n < 14 := by rw [xb_L14]; exact nI_ltI h (by decide)
theorem xb_gt14 {n : Nat} (h : n < 2 ^ 31) : (14 : Int32) < nI n ↔ 14 < n := by rw [xb_L14]; exact nI_ltI (by decide) h
theorem xb_eq14 {n : Nat} (h : n < 2 ^ 31) : nI n = (14 : Int32) ↔ n = 14 := by rw [xb_L14]; exact nI_eq h (by decide)
theorem xb_L16 : (16 : Int32) = nI 16 := by rfl
theorem xb_le16 {n : Nat} (h : n < 2 ^ 31) : (16 : Int32) ≤ nI n ↔ 16 ≤ n := by rw [xb_L16]; exact nI_leI (by decide) h
theorem xb_ge16 {n : Nat} (h : n < 2 ^ 31) : nI n ≤ (16 : Int32) ↔ n ≤ 16 := by rw [xb_L16]; exact nI_leI h (by decide)
theorem xb_lt16 {n : Nat} (h : n < 2 ^ 31) : nI n < (16 : Int32) ↔ n < 16 := by rw [xb_L16]; exact nI_ltI h (by decide)
theorem xb_gt16 {n : Nat} (h : n < 2 ^ 31) : (16 : Int32) < nI n ↔ 16 < n := by rw [xb_L16]; exact nI_ltI (by decide) h
theorem xb_eq16 {n : Nat} (h : n < 2 ^ 31) : nI n = (16 : Int32) ↔ n = 16 := by rw [xb_L16]; exact nI_eq h (by decide)
theorem xb_L20 : (20 : Int32) = nI 20 := by rfl
theorem xb_le20 {n : Nat} (h : n < 2 ^ 31) : (20 : Int32) ≤ nI n ↔ 20 ≤ n := by rw [xb_L20]; exact nI_leI (by decide) h
theorem xb_ge20 {n : Nat} (h : n < 2 ^ 31) : nI n ≤ (20 : Int32) ↔ n ≤ 20 := by rw [xb_L20]; exact nI_leI h (by decide)
theorem xb_lt20 {n : Nat} (h : n < 2 ^ 31) : nI n < (20 : Int32) ↔ n < 20 := by rw [xb_L20]; exact nI_ltI h (by decide)
theorem xb_gt20 {n : Nat} (h : n < 2 ^ 31) : (20 : Int32) < nI n ↔ 20 < n := by rw [xb_L20]; exact nI_ltI (by decide) h
theorem xb_eq20 {n : Nat} (h : n < 2 ^ 31) : nI n = (20 : Int32) ↔ n = 20 := by rw [xb_L20]; exact nI_eq h (by decide)
theorem xb_L22 : (22 : Int32) = nI 22 := by rfl
theorem xb_le22 {n : Nat} (h : n < 2 ^ 31) : (22 : Int32) ≤ nI n ↔ 22 ≤ n := by rw [xb_L22]; exact nI_leI (by decide) h
theorem xb_ge22 {n : Nat} (h : n < 2 ^ 31) : nI n ≤ (22 : Int32) ↔ n ≤ 22 := by rw [xb_L22]; exact nI_leI h (by decide)
theorem xb_lt22 {n : Nat} (h : n < 2 ^ 31) : nI n < (22 : Int32) ↔ n < 22 := by rw [xb_L22]; exact nI_ltI h (by decide)
theorem xb_gt22 {n : Nat} (h : n < 2 ^ 31) : (22 : Int32) < nI n ↔ 22 < n := by rw [xb_L22]; exact nI_ltI (by decide) h
theorem xb_eq22 {n : Nat} (h : n < 2 ^ 31) : nI n = (22 : Int32) ↔ n = 22 := by rw [xb_L22]; exact nI_eq h (by decide)
theorem xb_L24 : (24 : Int32) = nI 24 := by rfl
theorem xb_le24 {n : Nat} (h : n < 2 ^ 31) : (24 : Int32) ≤ nI n ↔ 24 ≤ n := by rw [xb_L24]; exact nI_leI (by decide) h
theorem xb_ge24 {n : Nat} (h : n < 2 ^ 31) : nI n ≤ (24 : Int32) ↔ n ≤ 24 := by rw [xb_L24]; exact nI_leI h (by decide)
theorem xb_lt24 {n : Nat} (h : n < 2 ^ 31) : nI n < (24 : Int32) ↔ n < 24 := by rw [xb_L24]; exact nI_ltI h (by decide)
theorem xb_gt24 {n : Nat} (h : n < 2 ^ 31) : (24 : Int32) < nI n ↔ 24 < n := by rw [xb_L24]; exact nI_ltI (by decide) h
theorem xb_eq24 {n : Nat} (h : n < 2 ^ 31) : nI n = (24 : Int32) ↔ n = 24 := by rw [xb_L24]; exact nI_eq h (by decide)
theorem xb_L30 : (30 : Int32) = nI 30 := by rfl
theorem xb_le30 {n : Nat} (h : n < 2 ^ 31) : (30 : Int32) ≤ nI n ↔ 30 ≤ n := by rw [xb_L30]; exact nI_leI (by decide) h
theorem xb_ge30 {n : Nat} (h : n < 2 ^ 31) : nI n ≤ (30 : Int32) ↔ n ≤ 30 := by rw [xb_L30]; exact nI_leI h (by decide)
theorem xb_lt30 {n : Nat} (h : n < 2 ^ 31) : nI n < (30 : Int32) ↔ n < 30 := by rw [xb_L30]; exact nI_ltI h (by decide)
theorem xb_gt30 {n : Nat} (h : n < 2 ^ 31) : (30 : Int32) < nI n ↔ 30 < n := by rw [xb_L30]; exact nI_ltI (by decide) h
theorem xb_eq30 {n : Nat} (h : n < 2 ^ 31) : nI n = (30 : Int32) ↔ n = 30 := by rw [xb_L30]; exact nI_eq h (by decide)
theorem xb_L31 : (31 : Int32) = nI 31 := by rfl
theorem xb_le31 {n : Nat} (h : n < 2 ^ 31) : (31 : Int32) ≤ nI n ↔ 31 ≤ n := by rw [xb_L31]; exact nI_leI (by decide) h
theorem xb_ge31 {n : Nat} (h : n < 2 ^ 31) : nI n ≤ (31 : Int32) ↔ n ≤ 31 := by rw [xb_L31]; exact nI_leI h (by decide)
theorem xb_lt31 {n : Nat} (h : n < 2 ^ 31) : nI n < (31 : Int32) ↔ n < 31 := by rw [xb_L31]; exact nI_ltI h (by decide)
theorem xb_gt31 {n : Nat} (h : n < 2 ^ 31) : (31 : Int32) < nI n ↔ 31 < n := by rw [xb_L31]; exact nI_ltI (by decide) h
theorem xb_eq31 {n : Nat} (h : n < 2 ^ 31) : nI n = (31 : Int32) ↔ n = 31 := by rw [xb_L31]; exact nI_eq h (by decide)
theorem xb_L32 : (32 : Int32) = nI 32 := by rfl
theorem xb_le32 {n : Nat} (h : n < 2 ^ 31) : (32 : Int32) ≤ nI n ↔ 32 ≤ n := by rw [xb_L32]; exact nI_leI (by decide) h
theorem xb_ge32 {n : Nat} (h : n < 2 ^ 31) : nI n ≤ (32 : Int32) ↔ n ≤ 32 := by rw [xb_L32]; exact nI_leI h (by decide)
theorem xb_lt32 {n : Nat} (h : n < 2 ^ 31) : nI n < (32 : Int32) ↔ n < 32 := by rw [xb_L32]; exact nI_ltI h (by decide)
theorem xb_gt32 {n : Nat} (h : n < 2 ^ 31) : (32 : Int32) < nI n ↔ 32 < n := by rw [xb_L32]; exact nI_ltI (by decide) h
theorem xb_eq32 {n : Nat} (h : n < 2 ^ 31) : nI n = (32 : Int32) ↔ n = 32 := by rw [xb_L32]; exact nI_eq h (by decide)
theorem xb_L39 : (39 : Int32) = nI 39 := by rfl
theorem xb_le39 {n : Nat} (h : n < 2 ^ 31) : (39 : Int32) ≤ nI n ↔ 39 ≤ n := by rw [xb_L39]; exact nI_leI (by decide) h
theorem xb_ge39 {n : Nat} (h : n < 2 ^ 31) : nI n ≤ (39 : Int32) ↔ n ≤ 39 := by rw [xb_L39]; exact nI_leI h (by decide)
theorem xb_lt39 {n : Nat} (h : n < 2 ^ 31) : nI n < (39 : Int32) ↔ n < 39 := by rw [xb_L39]; exact nI_ltI h (by decide)
theorem xb_gt39 {n : Nat} (h : n < 2 ^ 31) : (39 : Int32) < nI n ↔ 39 < n := by rw [xb_L39]; exact nI_ltI (by decide) h
theorem xb_eq39 {n : Nat} (h : n < 2 ^ 31) : nI n = (39 : Int32) ↔ n = 39 := by rw [xb_L39]; exact nI_eq h (by decide)
theorem xb_L40 : (40 : Int32) = nI 40 := by rfl
theorem xb_le40 {n : Nat} (h : n < 2 ^ 31) : (40 : Int32) ≤ nI n ↔ 40 ≤ n := by rw [xb_L40]; exact nI_leI (by decide) h
theorem xb_ge40 {n : Nat} (h : n < 2 ^ 31) : nI n ≤ (40 : Int32) ↔ n ≤ 40 := by rw [xb_L40]; exact nI_leI h (by decide)
theorem xb_lt40 {n : Nat} (h : n < 2 ^ 31) : nI n < (40 : Int32) ↔ n < 40 := by rw [xb_L40]; exact nI_ltI h (by decide)
theorem xb_gt40 {n : Nat} (h : n < 2 ^ 31) : (40 : Int32) < nI n ↔ 40 < n := by rw [xb_L40]; exact nI_ltI (by decide) h
theorem xb_eq40 {n : Nat} (h : n < 2 ^ 31) : nI n = (40 : Int32) ↔ n = 40 := by rw [xb_L40]; exact nI_eq h (by decide)
theorem xb_L42 : (42 : Int32) = nI 42 := by rfl
theorem xb_le42 {n : Nat} (h : n < 2 ^ 31) : (42 : Int32) ≤ nI n ↔ 42 ≤ n := by rw [xb_L42]; exact nI_leI (by decide) h
theorem xb_ge42 {n : Nat} (h : n < 2 ^ 31) : nI n ≤ (42 : Int32) ↔ n ≤ 42 := by rw [xb_L42]; exact nI_leI h (by decide)
theorem xb_lt42 {n : Nat} (h : n < 2 ^ 31) : nI n < (42 : Int32) ↔ n < 42 := by rw [xb_L42]; exact nI_ltI h (by decide)
theorem xb_gt42 {n : Nat} (h : n < 2 ^ 31) : (42 : Int32) < nI n ↔ 42 < n := by rw [xb_L42]; exact nI_ltI (by decide) h
theorem xb_eq42 {n : Nat} (h : n < 2 ^ 31) : nI n = (42 : Int32) ↔ n = 42 := by rw [xb_L42]; exact nI_eq h (by decide)
theorem xb_L50 : (50 : Int32) = nI 50 := by rfl
theorem xb_le50 {n : Nat} (h : n < 2 ^ 31) : (50 : Int32) ≤ nI n ↔ 50 ≤ n := by rw [xb_L50]; exact nI_leI (by decide) h
theorem xb_ge50 {n : Nat} (h : n < 2 ^ 31) : nI n ≤ (50 : Int32) ↔ n ≤ 50 := by rw [xb_L50]; exact nI_leI h (by decide)
theorem xb_lt50 {n : Nat} (h : n < 2 ^ 31) : nI n < (50 : Int32) ↔ n < 50 := by rw [xb_L50]; exact nI_ltI h (by decide)
theorem xb_gt50 {n : Nat} (h : n < 2 ^ 31) : (50 : Int32) < nI n ↔ 50 < n := by rw [xb_L50]; exact nI_ltI (by decide) h
theorem xb_eq50 {n : Nat} (h : n < 2 ^ 31) : nI n = (50 : Int32) ↔ n = 50 := by rw [xb_L50]; exact nI_eq h (by decide)
theorem xb_L52 : (52 : Int32) = nI 52 := by rfl
theorem xb_le52 {n : Nat} (h : n < 2 ^ 31) : (52 : Int32) ≤ nI n ↔ 52 ≤ n := by rw [xb_L52]; exact nI_leI (by decide) h
theorem xb_ge52 {n : Nat} (h : n < 2 ^ 31) : nI n ≤ (52 : Int32) ↔ n ≤ 52 := by rw [xb_L52]; exact nI_leI h (by decide)
theorem xb_lt52 {n : Nat} (h : n < 2 ^ 31) : nI n < (52 : Int32) ↔ n < 52 := by rw [xb_L52]; exact nI_ltI h (by decide)
theorem xb_gt52 {n : Nat} (h : n < 2 ^ 31) : (52 : Int32) < nI n ↔ 52 < n := by rw [xb_L52]; exact nI_ltI (by decide) h
theorem xb_eq52 {n : Nat} (h : n < 2 ^ 31) : nI n = (52 : Int32) ↔ n = 52 := by rw [xb_L52]; exact nI_eq h (by decide)
theorem xb_L60 : (60 : Int32) = nI 60 := by rfl
theorem xb_le60 {n : Nat} (h : n < 2 ^ 31) : (60 : Int32) ≤ nI n ↔ 60 ≤ n := by rw [xb_L60]; exact nI_leI (by decide) h
theorem xb_ge60 {n : Nat} (h : n < 2 ^ 31) : nI n ≤ (60 : Int32) ↔ n ≤ 60 := by rw [xb_L60]; exact nI_leI h (by decide)
theorem xb_lt60 {n : Nat} (h : n < 2 ^ 31) : nI n < (60 : Int32) ↔ n < 60 := by rw [xb_L60]; exact nI_ltI h (by decide)
theorem xb_gt60 {n : Nat} (h : n < 2 ^ 31) : (60 : Int32) < nI n ↔ 60 < n := by rw [xb_L60]; exact nI_ltI (by decide) h
theorem xb_eq60 {n : Nat} (h : n < 2 ^ 31) : nI n = (60 : Int32) ↔ n = 60 := by rw [xb_L60]; exact nI_eq h (by decide)
theorem xb_L120 : (120 : Int32) = nI 120 := by rfl
theorem xb_le120 {n : Nat} (h : n < 2 ^ 31) : (120 : Int32) ≤ nI n ↔ 120 ≤ n := by rw [xb_L120]; exact nI_leI (by decide) h
theorem xb_ge120 {n : Nat} (h : n < 2 ^ 31) : nI n ≤ (120 : Int32) ↔ n ≤ 120 := by rw [xb_L120]; exact nI_leI h (by decide)
theorem xb_lt120 {n : Nat} (h : n < 2 ^ 31) : nI n < (120 : Int32) ↔ n < 120 := by rw [xb_L120]; exact nI_ltI h (by decide)
theorem xb_gt120 {n : Nat} (h : n < 2 ^ 31) : (120 : Int32) < nI n ↔ 120 < n := by rw [xb_L120]; exact nI_ltI (by decide) h
theorem xb_eq120 {n : Nat} (h : n < 2 ^ 31) : nI n = (120 : Int32) ↔ n = 120 := by rw [xb_L120]; exact nI_eq h (by decide)
theorem xb_L1000000 : (1000000 : Int32) = nI 1000000 := by rfl
theorem xb_le1000000 {n : Nat} (h : n < 2 ^ 31) : (1000000 : Int32) ≤ nI n ↔ 1000000 ≤ n := by rw [xb_L1000000]; exact nI_leI (by decide) h
theorem xb_ge1000000 {n : Nat} (h : n < 2 ^ 31) : nI n ≤ (1000000 : Int32) ↔ n ≤ 1000000 := by rw [xb_L1000000]; exact nI_leI h (by decide)
theorem xb_lt1000000 {n : Nat} (h : n < 2 ^ 31) : nI n < (1000000 : Int32) ↔ n < 1000000 := by rw [xb_L1000000]; exact nI_ltI h (by decide)
theorem xb_gt1000000 {n : Nat} (h : n < 2 ^ 31) : (1000000 : Int32) < nI n ↔ 1000000 < n := by rw [xb_L1000000]; exact nI_ltI (by decide) h
theorem xb_eq1000000 {n : Nat} (h : n < 2 ^ 31) : nI n = (1000000 : Int32) ↔ n = 1000000 := by rw [xb_L1000000]; exact nI_eq h (by decide)
theorem xb_add6 (n : Nat) : (6 : Int32) + nI n = nI (6 + n) := nI_add 6 n
theorem xb_adr6 (n : Nat) : nI n + (6 : Int32) = nI (n + 6) := nI_add n 6
theorem xb_add8 (n : Nat) : (8 : Int32) + nI n = nI (8 + n) := nI_add 8 n
theorem xb_adr8 (n : Nat) : nI n + (8 : Int32) = nI (n + 8) := nI_add n 8
theorem xb_add10 (n : Nat) : (10 : Int32) + nI n = nI (10 + n) := nI_add 10 n
theorem xb_adr10 (n : Nat) : nI n + (10 : Int32) = nI (n + 10) := nI_add n 10
theorem xb_add14 (n : Nat) : (14 : Int32) + nI n = nI (14 + n) := nI_add 14 n
theorem xb_adr14 (n : Nat) : nI n + (14 : Int32) = nI (n + 14) := nI_add n 14
theorem xb_add80 (n : Nat) : (80 : Int32) + nI n = nI (80 + n) := nI_add 80 n
theorem xb_adr80 (n : Nat) : nI n + (80 : Int32) = nI (n + 80) := nI_add n 80
theorem xb_mul2 (n : Nat) : (2 : Int32) * nI n = nI (2 * n) := pk_mul 2 n
theorem xb_mur2 (n : Nat) : nI n * (2 : Int32) = nI (n * 2) := pk_mul n 2
theorem xb_mul4 (n : Nat) : (4 : Int32) * nI n = nI (4 * n) := pk_mul 4 n
theorem xb_mur4 (n : Nat) : nI n * (4 : Int32) = nI (n * 4) := pk_mul n 4
theorem xb_mul14 (n : Nat) : (14 : Int32) * nI n = nI (14 * n) := pk_mul 14 n
theorem xb_mur14 (n : Nat) : nI n * (14 : Int32) = nI (n * 14) := pk_mul n 14
theorem xb_mul16 (n : Nat) : (16 : Int32) * nI n = nI (16 * n) := pk_mul 16 n
theorem xb_mur16 (n : Nat) : nI n * (16 : Int32) = nI (n * 16) := pk_mul n 16
theorem xb_mul40 (n : Nat) : (40 : Int32) * nI n = nI (40 * n) := pk_mul 40 n
theorem xb_mur40 (n : Nat) : nI n * (40 : Int32) = nI (n * 40) := pk_mul n 40
theorem xb_lt0 {n : Nat} (h : n < 2 ^ 31) : ¬ nI n < 0 := nI_pos h
theorem xb_ge0 {n : Nat} (h : n < 2 ^ 31) : 0 ≤ nI n := nI_pos' h
theorem xb_eq0 {n : Nat} (h : n < 2 ^ 31) : nI n = 0 ↔ n = 0 := nI_eq (b := 0) h (by decide)
theorem xb_le0 {n : Nat} (h : n < 2 ^ 31) : nI n ≤ 0 ↔ n = 0 := by rw [← nI_0, nI_leI h (by decide)]; omega
theorem xb_s1 {n : Nat} (h : 1 ≤ n) : nI n - 1 = nI (n - 1) := pk_sub (b := 1) h
theorem xb_bt : vp_nar .boolean 1 = 1 := by rfl
theorem xb_bf : vp_nar .boolean 0 = 0 := by rfl
theorem xb_b0 : vp_nar .byte 0 = 0 := by rfl
theorem xb_s0 : vp_nar .short 0 = 0 := by rfl
theorem xb_b1 : vp_nar .byte 1 = 1 := by rfl
theorem xb_b5 : vp_nar .byte 5 = 5 := by rfl
/-- a number that a byte holds -/
theorem xb_nb {n : Nat} (h : n < 128) : (nI n).toInt8.toInt32 = nI n := by
  have e : (nI n).toInt = (n : Int) := nI_toInt (by omega)
  exact lg_i2b_small (by omega) (by omega)
theorem xb_vb {n : Nat} (h : n < 128) : vp_nar .byte (nI n) = nI n := by rw [vp_nar_byte]; exact xb_nb h
theorem xb_ns {n : Nat} (h : n < 32768) : (nI n).toInt16.toInt32 = nI n := by
  have e : (nI n).toInt = (n : Int) := nI_toInt (by omega)
  exact lg_i2s_small (by omega) (by omega)
theorem xb_vs {n : Nat} (h : n < 32768) : vp_nar .short (nI n) = nI n := by rw [vp_nar_short]; exact xb_ns h
theorem xb_10 : ¬ (10 : Int32) = 0 := by decide
theorem xb_100 : ¬ (100 : Int64) = 0 := by decide
theorem xb_updid {f : Nat → Int32} {k : Nat} {x : Int32} (h : f k = x) : upd f k x = f := by
  funext j; unfold upd; split
  · next e => rw [e, h]
  · rfl
theorem xb_updLid {f : Nat → Int64} {k : Nat} {x : Int64} (h : f k = x) : vp_updL f k x = f := by
  funext j; unfold vp_updL; split
  · next e => rw [e, h]
  · rfl
theorem xb_il {c A B : Prop} (h : c) : ((c → A) ∧ (¬ c → B)) ↔ A := ⟨fun z => z.1 h, fun a => ⟨fun _ => a, fun n => absurd h n⟩⟩
theorem xb_ir {c A B : Prop} (h : ¬ c) : ((c → A) ∧ (¬ c → B)) ↔ B := ⟨fun z => z.2 h, fun b => ⟨fun n => absurd n h, fun _ => b⟩⟩
end
section
section
variable {x_safe : Int64} {x_at : Int32} {x_exitLeast : Int64} {x_exitMost : Int64} {x_branches : Int32} {x_faultPlace : Int32} {x_provedLeast : Int64} {x_provedMost : Int64} {x_packetLength : Int32} {x_executed : Int32} {x_ops : Nat → Int32} {x_targets : Nat → Int32} {x_sources : Nat → Int32} {x_offsets : Nat → Int32} {x_immediates : Nat → Int32} {x_lengths : Nat → Int32} {x_kinds : Nat → Int32} {x_los : Nat → Int64} {x_his : Nat → Int64} {x_reached : Nat → Int32} {x_branchAt : Nat → Int32} {x_branchSafe : Nat → Int64} {x_branchKinds : Nat → Int32} {x_branchLos : Nat → Int64} {x_branchHis : Nat → Int64} {x_packet : Nat → Int32} {x_registers : Nat → Int64} {x_cells : Nat → Int64} {x_keyWords : Nat → Int64} {x_keyTaken : Nat → Int32}
theorem xv_isJump {post : Int32 → Prop} {o : Int32} : wpX_isJump post o ↔ post (if o / 10 = 2 ∨ o / 10 = 3 then 1 else 0) := by
  by_cases h2 : o / 10 = 2
  · simp only [wpX_isJump, forall_eq, true_and, and_true, true_implies, not_true_eq_false, false_implies, not_false_eq_true, implies_true, and_self, nI_add, nI_1, nI_clamp, vp_in_nI, xb_10, xb_bt, xb_bf, h2, true_or, if_true]
  · by_cases h3 : o / 10 = 3
    · simp only [wpX_isJump, forall_eq, true_and, and_true, true_implies, not_true_eq_false, false_implies, not_false_eq_true, implies_true, and_self, nI_add, nI_1, nI_clamp, vp_in_nI, xb_10, xb_bt, xb_bf, h3, or_true, if_true]; simp
    · simp only [wpX_isJump, forall_eq, true_and, and_true, true_implies, not_true_eq_false, false_implies, not_false_eq_true, implies_true, and_self, nI_add, nI_1, nI_clamp, vp_in_nI, xb_10, xb_bt, xb_bf, h2, h3, or_self, if_false]
theorem xv_know {post : SX → Prop} {p : Nat} {k : Int32} {l h : Int64} (hp : p < 16) : wpX_know post (x_safe, x_at, x_exitLeast, x_exitMost, x_branches, x_faultPlace, x_provedLeast, x_provedMost, x_packetLength, x_executed, x_ops, x_targets, x_sources, x_offsets, x_immediates, x_lengths, x_kinds, x_los, x_his, x_reached, x_branchAt, x_branchSafe, x_branchKinds, x_branchLos, x_branchHis, x_packet, x_registers, x_cells, x_keyWords, x_keyTaken) (nI p) k l h ↔ post (x_safe, x_at, x_exitLeast, x_exitMost, x_branches, x_faultPlace, x_provedLeast, x_provedMost, x_packetLength, x_executed, x_ops, x_targets, x_sources, x_offsets, x_immediates, x_lengths, upd x_kinds p k, vp_updL x_los p l, vp_updL x_his p h, x_reached, x_branchAt, x_branchSafe, x_branchKinds, x_branchLos, x_branchHis, x_packet, x_registers, x_cells, x_keyWords, x_keyTaken) := by
  simp (disch := omega) only [wpX_know, forall_eq, true_and, and_true, true_implies, not_true_eq_false, false_implies, not_false_eq_true, implies_true, and_self, nI_add, nI_1, nI_clamp, vp_in_nI, xb_10, xb_bt, xb_bf]
theorem xv_know0 {post : SX → Prop} {k : Int32} {l h : Int64} : wpX_know post (x_safe, x_at, x_exitLeast, x_exitMost, x_branches, x_faultPlace, x_provedLeast, x_provedMost, x_packetLength, x_executed, x_ops, x_targets, x_sources, x_offsets, x_immediates, x_lengths, x_kinds, x_los, x_his, x_reached, x_branchAt, x_branchSafe, x_branchKinds, x_branchLos, x_branchHis, x_packet, x_registers, x_cells, x_keyWords, x_keyTaken) 0 k l h ↔ post (x_safe, x_at, x_exitLeast, x_exitMost, x_branches, x_faultPlace, x_provedLeast, x_provedMost, x_packetLength, x_executed, x_ops, x_targets, x_sources, x_offsets, x_immediates, x_lengths, upd x_kinds 0 k, vp_updL x_los 0 l, vp_updL x_his 0 h, x_reached, x_branchAt, x_branchSafe, x_branchKinds, x_branchLos, x_branchHis, x_packet, x_registers, x_cells, x_keyWords, x_keyTaken) := xv_know (p := 0) (by decide)
theorem xv_know1 {post : SX → Prop} {k : Int32} {l h : Int64} : wpX_know post (x_safe, x_at, x_exitLeast, x_exitMost, x_branches, x_faultPlace, x_provedLeast, x_provedMost, x_packetLength, x_executed, x_ops, x_targets, x_sources, x_offsets, x_immediates, x_lengths, x_kinds, x_los, x_his, x_reached, x_branchAt, x_branchSafe, x_branchKinds, x_branchLos, x_branchHis, x_packet, x_registers, x_cells, x_keyWords, x_keyTaken) 1 k l h ↔ post (x_safe, x_at, x_exitLeast, x_exitMost, x_branches, x_faultPlace, x_provedLeast, x_provedMost, x_packetLength, x_executed, x_ops, x_targets, x_sources, x_offsets, x_immediates, x_lengths, upd x_kinds 1 k, vp_updL x_los 1 l, vp_updL x_his 1 h, x_reached, x_branchAt, x_branchSafe, x_branchKinds, x_branchLos, x_branchHis, x_packet, x_registers, x_cells, x_keyWords, x_keyTaken) := xv_know (p := 1) (by decide)
theorem xv_know2 {post : SX → Prop} {k : Int32} {l h : Int64} : wpX_know post (x_safe, x_at, x_exitLeast, x_exitMost, x_branches, x_faultPlace, x_provedLeast, x_provedMost, x_packetLength, x_executed, x_ops, x_targets, x_sources, x_offsets, x_immediates, x_lengths, x_kinds, x_los, x_his, x_reached, x_branchAt, x_branchSafe, x_branchKinds, x_branchLos, x_branchHis, x_packet, x_registers, x_cells, x_keyWords, x_keyTaken) 2 k l h ↔ post (x_safe, x_at, x_exitLeast, x_exitMost, x_branches, x_faultPlace, x_provedLeast, x_provedMost, x_packetLength, x_executed, x_ops, x_targets, x_sources, x_offsets, x_immediates, x_lengths, upd x_kinds 2 k, vp_updL x_los 2 l, vp_updL x_his 2 h, x_reached, x_branchAt, x_branchSafe, x_branchKinds, x_branchLos, x_branchHis, x_packet, x_registers, x_cells, x_keyWords, x_keyTaken) := xv_know (p := 2) (by decide)
theorem xv_know8 {post : SX → Prop} {k : Int32} {l h : Int64} : wpX_know post (x_safe, x_at, x_exitLeast, x_exitMost, x_branches, x_faultPlace, x_provedLeast, x_provedMost, x_packetLength, x_executed, x_ops, x_targets, x_sources, x_offsets, x_immediates, x_lengths, x_kinds, x_los, x_his, x_reached, x_branchAt, x_branchSafe, x_branchKinds, x_branchLos, x_branchHis, x_packet, x_registers, x_cells, x_keyWords, x_keyTaken) 8 k l h ↔ post (x_safe, x_at, x_exitLeast, x_exitMost, x_branches, x_faultPlace, x_provedLeast, x_provedMost, x_packetLength, x_executed, x_ops, x_targets, x_sources, x_offsets, x_immediates, x_lengths, upd x_kinds 8 k, vp_updL x_los 8 l, vp_updL x_his 8 h, x_reached, x_branchAt, x_branchSafe, x_branchKinds, x_branchLos, x_branchHis, x_packet, x_registers, x_cells, x_keyWords, x_keyTaken) := xv_know (p := 8) (by decide)
theorem xv_know9 {post : SX → Prop} {k : Int32} {l h : Int64} : wpX_know post (x_safe, x_at, x_exitLeast, x_exitMost, x_branches, x_faultPlace, x_provedLeast, x_provedMost, x_packetLength, x_executed, x_ops, x_targets, x_sources, x_offsets, x_immediates, x_lengths, x_kinds, x_los, x_his, x_reached, x_branchAt, x_branchSafe, x_branchKinds, x_branchLos, x_branchHis, x_packet, x_registers, x_cells, x_keyWords, x_keyTaken) 9 k l h ↔ post (x_safe, x_at, x_exitLeast, x_exitMost, x_branches, x_faultPlace, x_provedLeast, x_provedMost, x_packetLength, x_executed, x_ops, x_targets, x_sources, x_offsets, x_immediates, x_lengths, upd x_kinds 9 k, vp_updL x_los 9 l, vp_updL x_his 9 h, x_reached, x_branchAt, x_branchSafe, x_branchKinds, x_branchLos, x_branchHis, x_packet, x_registers, x_cells, x_keyWords, x_keyTaken) := xv_know (p := 9) (by decide)
theorem xv_copy {post : SX → Prop} {a b : Nat} (ha : a < 16) (hb : b < 16) : wpX_copyKnown post (x_safe, x_at, x_exitLeast, x_exitMost, x_branches, x_faultPlace, x_provedLeast, x_provedMost, x_packetLength, x_executed, x_ops, x_targets, x_sources, x_offsets, x_immediates, x_lengths, x_kinds, x_los, x_his, x_reached, x_branchAt, x_branchSafe, x_branchKinds, x_branchLos, x_branchHis, x_packet, x_registers, x_cells, x_keyWords, x_keyTaken) (nI a) (nI b) ↔ post (x_safe, x_at, x_exitLeast, x_exitMost, x_branches, x_faultPlace, x_provedLeast, x_provedMost, x_packetLength, x_executed, x_ops, x_targets, x_sources, x_offsets, x_immediates, x_lengths, upd x_kinds a (x_kinds b), vp_updL x_los a (x_los b), vp_updL x_his a (x_his b), x_reached, x_branchAt, x_branchSafe, x_branchKinds, x_branchLos, x_branchHis, x_packet, x_registers, x_cells, x_keyWords, x_keyTaken) := by
  simp (disch := omega) only [wpX_copyKnown, forall_eq, true_and, and_true, true_implies, not_true_eq_false, false_implies, not_false_eq_true, implies_true, and_self, nI_add, nI_1, nI_clamp, vp_in_nI, xb_10, xb_bt, xb_bf]
end
/-- the two ends are words -/
def ab_ok (l h : Int64) : Prop := ¬ l < 0 ∧ ¬ 4294967295 < l ∧ ¬ h < 0 ∧ ¬ 4294967295 < h
noncomputable def ab_l (l h : Int64) : Int64 := @ite _ (ab_ok l h) (Classical.propDecidable _) l 0
noncomputable def ab_h (l h : Int64) : Int64 := @ite _ (ab_ok l h) (Classical.propDecidable _) h 4294967295
theorem ab_l_t {l h : Int64} (z : ab_ok l h) : ab_l l h = l := by unfold ab_l; exact if_pos z
theorem ab_h_t {l h : Int64} (z : ab_ok l h) : ab_h l h = h := by unfold ab_h; exact if_pos z
theorem ab_l_f {l h : Int64} (z : ¬ ab_ok l h) : ab_l l h = 0 := by unfold ab_l; exact if_neg z
theorem ab_h_f {l h : Int64} (z : ¬ ab_ok l h) : ab_h l h = 4294967295 := by unfold ab_h; exact if_neg z
def on_it (w : Int64) : Nat → Int64 → Int64
  | 0, x => x
  | n + 1, x => on_it w n (if w ≤ x then x else x * 2 + 1)
def sh_r (x y : Int64) : Int64 := x >>> (((y &&& 31).toInt32).toInt64 &&& 63)
noncomputable def cb_l (f : Int32) (l h l2 h2 : Int64) : Int64 := if f = 1 then l + l2 else if f = 2 then l - h2 else if f = 3 then l * l2 else if f = 4 then 0 else if f = 5 then (if l ≤ l2 then l2 else l) else (if l2 = h2 then sh_r l l2 else 0)
noncomputable def cb_h (f : Int32) (l h l2 h2 : Int64) : Int64 := if f = 1 then h + h2 else if f = 2 then h - l2 else if f = 3 then h * h2 else if f = 4 then (if h2 ≤ h then h2 else h) else if f = 5 then on_it (h ||| h2) 32 0 else (if l2 = h2 then sh_r h l2 else h)
section
variable {x_safe : Int64} {x_at : Int32} {x_exitLeast : Int64} {x_exitMost : Int64} {x_branches : Int32} {x_faultPlace : Int32} {x_provedLeast : Int64} {x_provedMost : Int64} {x_packetLength : Int32} {x_executed : Int32} {x_ops : Nat → Int32} {x_targets : Nat → Int32} {x_sources : Nat → Int32} {x_offsets : Nat → Int32} {x_immediates : Nat → Int32} {x_lengths : Nat → Int32} {x_kinds : Nat → Int32} {x_los : Nat → Int64} {x_his : Nat → Int64} {x_reached : Nat → Int32} {x_branchAt : Nat → Int32} {x_branchSafe : Nat → Int64} {x_branchKinds : Nat → Int32} {x_branchLos : Nat → Int64} {x_branchHis : Nat → Int64} {x_packet : Nat → Int32} {x_registers : Nat → Int64} {x_cells : Nat → Int64} {x_keyWords : Nat → Int64} {x_keyTaken : Nat → Int32}
theorem xv_words {post : SX → Prop} {p : Nat} {l h : Int64} (hp : p < 16) : wpX_knowWords post (x_safe, x_at, x_exitLeast, x_exitMost, x_branches, x_faultPlace, x_provedLeast, x_provedMost, x_packetLength, x_executed, x_ops, x_targets, x_sources, x_offsets, x_immediates, x_lengths, x_kinds, x_los, x_his, x_reached, x_branchAt, x_branchSafe, x_branchKinds, x_branchLos, x_branchHis, x_packet, x_registers, x_cells, x_keyWords, x_keyTaken) (nI p) l h ↔ post (x_safe, x_at, x_exitLeast, x_exitMost, x_branches, x_faultPlace, x_provedLeast, x_provedMost, x_packetLength, x_executed, x_ops, x_targets, x_sources, x_offsets, x_immediates, x_lengths, x_kinds, vp_updL x_los p (ab_l l h), vp_updL x_his p (ab_h l h), x_reached, x_branchAt, x_branchSafe, x_branchKinds, x_branchLos, x_branchHis, x_packet, x_registers, x_cells, x_keyWords, x_keyTaken) := by
  by_cases z : ab_ok l h
  · rw [ab_l_t z, ab_h_t z]
    obtain ⟨a, b, c, d⟩ := z
    simp (disch := omega) only [wpX_knowWords, wX_knowWords_35, wX_knowWords_52, forall_eq, true_and, and_true, true_implies, not_true_eq_false, false_implies, not_false_eq_true, implies_true, and_self, nI_add, nI_1, nI_clamp, vp_in_nI, xb_10, xb_bt, xb_bf, a, b, c, d]
    simp
  · rw [ab_l_f z, ab_h_f z]
    have w : wX_knowWords_34 post (nI p) l h x_safe x_at x_exitLeast x_exitMost x_branches x_faultPlace x_provedLeast x_provedMost x_packetLength x_executed x_ops x_targets x_sources x_offsets x_immediates x_lengths x_kinds x_los x_his x_reached x_branchAt x_branchSafe x_branchKinds x_branchLos x_branchHis x_packet x_registers x_cells x_keyWords x_keyTaken ↔ post (x_safe, x_at, x_exitLeast, x_exitMost, x_branches, x_faultPlace, x_provedLeast, x_provedMost, x_packetLength, x_executed, x_ops, x_targets, x_sources, x_offsets, x_immediates, x_lengths, x_kinds, vp_updL x_los p 0, vp_updL x_his p 4294967295, x_reached, x_branchAt, x_branchSafe, x_branchKinds, x_branchLos, x_branchHis, x_packet, x_registers, x_cells, x_keyWords, x_keyTaken) := by
      simp (disch := omega) only [wX_knowWords_34, wX_knowWords_35, wX_knowWords_52, forall_eq, true_and, and_true, true_implies, not_true_eq_false, false_implies, not_false_eq_true, implies_true, and_self, nI_add, nI_1, nI_clamp, vp_in_nI, xb_10, xb_bt, xb_bf]
    simp only [wpX_knowWords, w]
    by_cases a : l < 0
    · simp only [a, forall_eq, true_and, and_true, true_implies, not_true_eq_false, false_implies, not_false_eq_true, implies_true, and_self]
    · by_cases b : 4294967295 < l
      · simp only [a, b, forall_eq, true_and, and_true, true_implies, not_true_eq_false, false_implies, not_false_eq_true, implies_true, and_self]
      · by_cases c : h < 0
        · simp only [a, b, c, forall_eq, true_and, and_true, true_implies, not_true_eq_false, false_implies, not_false_eq_true, implies_true, and_self]
        · by_cases d : 4294967295 < h
          · simp only [a, b, c, d, forall_eq, true_and, and_true, true_implies, not_true_eq_false, false_implies, not_false_eq_true, implies_true, and_self]
          · exact absurd ⟨a, b, c, d⟩ z
theorem xv_onesL {post : Int64 → Prop} {w : Int64} : ∀ (d j : Nat) (x : Int64), j + d = 32 → post (on_it w d x) → wX_onesCovering_5 post w (d + 1) x (nI j) := by
  intro d
  induction d with
  | zero =>
    intro j x hj H
    exact br_t ((xb_le32 (by omega)).mpr (by omega)) H
  | succ d ih =>
    intro j x hj H
    refine br_f (by rw [xb_le32 (by omega)]; omega) ?_
    rw [on_it] at H
    by_cases z : w ≤ x
    · rw [if_pos z] at H
      exact br_t z (nm_r (nI_1 j) (ih (j + 1) x (by omega) H))
    · rw [if_neg z] at H
      exact br_f z (nm_e (nm_r (nI_1 j) (ih (j + 1) _ (by omega) H)))
theorem xv_ones {post : Int64 → Prop} {w : Int64} (H : post (on_it w 32 0)) : wpX_onesCovering post w := ⟨33, xv_onesL 32 0 0 rfl H⟩
theorem xv_combine {post : SX → Prop} {f d q : Nat} (h1 : 1 ≤ f) (h6 : f ≤ 6) (hd : d < 16) (hq : q < 16) (H : post (x_safe, x_at, x_exitLeast, x_exitMost, x_branches, x_faultPlace, x_provedLeast, x_provedMost, x_packetLength, x_executed, x_ops, x_targets, x_sources, x_offsets, x_immediates, x_lengths, x_kinds, vp_updL x_los d (ab_l (cb_l (nI f) (x_los d) (x_his d) (x_los q) (x_his q)) (cb_h (nI f) (x_los d) (x_his d) (x_los q) (x_his q))), vp_updL x_his d (ab_h (cb_l (nI f) (x_los d) (x_his d) (x_los q) (x_his q)) (cb_h (nI f) (x_los d) (x_his d) (x_los q) (x_his q))), x_reached, x_branchAt, x_branchSafe, x_branchKinds, x_branchLos, x_branchHis, x_packet, x_registers, x_cells, x_keyWords, x_keyTaken)) : wpX_combine post (x_safe, x_at, x_exitLeast, x_exitMost, x_branches, x_faultPlace, x_provedLeast, x_provedMost, x_packetLength, x_executed, x_ops, x_targets, x_sources, x_offsets, x_immediates, x_lengths, x_kinds, x_los, x_his, x_reached, x_branchAt, x_branchSafe, x_branchKinds, x_branchLos, x_branchHis, x_packet, x_registers, x_cells, x_keyWords, x_keyTaken) (nI f) (nI d) (nI q) := by
  have e : f = 1 ∨ f = 2 ∨ f = 3 ∨ f = 4 ∨ f = 5 ∨ f = 6 := by omega
  simp (disch := omega) only [wpX_combine, forall_eq, true_and, and_true, true_implies, not_true_eq_false, false_implies, not_false_eq_true, implies_true, and_self, nI_add, nI_1, nI_clamp, vp_in_nI, xb_10, xb_bt, xb_bf]
  rcases e with rfl | rfl | rfl | rfl | rfl | rfl
  · rw [← xb_L1] at H ⊢
    simp (disch := omega) [xv_words, cb_l, cb_h] at H ⊢
    exact H
  · rw [← xb_L2] at H ⊢
    simp (disch := omega) [xv_words, cb_l, cb_h] at H ⊢
    exact H
  · rw [← xb_L3] at H ⊢
    simp (disch := omega) [xv_words, cb_l, cb_h] at H ⊢
    exact H
  · rw [← xb_L4] at H ⊢
    simp (disch := omega) [xv_words, cb_l, cb_h, wX_combine_140] at H ⊢
    by_cases z : x_his q ≤ x_his d
    · simp (disch := omega) [z] at H
      exact ⟨fun _ => H, fun y => absurd z (Int64.not_le.mpr y)⟩
    · simp (disch := omega) [z] at H
      exact ⟨fun y => absurd y z, fun _ => H⟩
  · rw [← xb_L5] at H ⊢
    simp (disch := omega) [cb_l, cb_h] at H ⊢
    refine xv_ones ?_
    by_cases z : x_los d ≤ x_los q
    · refine ⟨fun _ => ?_, fun y => absurd z (Int64.not_le.mpr y)⟩
      simp (disch := omega) [z, wX_combine_173, xv_words] at H ⊢
      exact H
    · refine ⟨fun y => absurd y z, fun _ => ?_⟩
      simp (disch := omega) [z, wX_combine_173, xv_words] at H ⊢
      exact H
  · rw [← xb_L6] at H ⊢
    simp (disch := omega) [cb_l, cb_h] at H ⊢
    by_cases z : x_los q = x_his q
    · simp (disch := omega) [z, wX_combine_203, wX_combine_221, wX_combine_236, xv_words, sh_r] at H ⊢
      exact H
    · simp (disch := omega) [z, wX_combine_203, wX_combine_221, wX_combine_236, xv_words, sh_r] at H ⊢
      exact H
end
end
section
section
variable {x_safe : Int64} {x_at : Int32} {x_exitLeast : Int64} {x_exitMost : Int64} {x_branches : Int32} {x_faultPlace : Int32} {x_provedLeast : Int64} {x_provedMost : Int64} {x_packetLength : Int32} {x_executed : Int32} {x_ops : Nat → Int32} {x_targets : Nat → Int32} {x_sources : Nat → Int32} {x_offsets : Nat → Int32} {x_immediates : Nat → Int32} {x_lengths : Nat → Int32} {x_kinds : Nat → Int32} {x_los : Nat → Int64} {x_his : Nat → Int64} {x_reached : Nat → Int32} {x_branchAt : Nat → Int32} {x_branchSafe : Nat → Int64} {x_branchKinds : Nat → Int32} {x_branchLos : Nat → Int64} {x_branchHis : Nat → Int64} {x_packet : Nat → Int32} {x_registers : Nat → Int64} {x_cells : Nat → Int64} {x_keyWords : Nat → Int64} {x_keyTaken : Nat → Int32}
theorem xv_mppT {post : Int32 → SX → Prop} {d q : Nat} (hd : d < 16) (hq : q < 16) (h : x_his d + x_his q ≤ 255) : wpX_movePacketPointer post (x_safe, x_at, x_exitLeast, x_exitMost, x_branches, x_faultPlace, x_provedLeast, x_provedMost, x_packetLength, x_executed, x_ops, x_targets, x_sources, x_offsets, x_immediates, x_lengths, x_kinds, x_los, x_his, x_reached, x_branchAt, x_branchSafe, x_branchKinds, x_branchLos, x_branchHis, x_packet, x_registers, x_cells, x_keyWords, x_keyTaken) 1 (nI d) (nI q) ↔ post 0 (x_safe, x_at, x_exitLeast, x_exitMost, x_branches, x_faultPlace, x_provedLeast, x_provedMost, x_packetLength, x_executed, x_ops, x_targets, x_sources, x_offsets, x_immediates, x_lengths, upd x_kinds d 2, vp_updL x_los d (x_los d + x_los q), vp_updL x_his d (x_his d + x_his q), x_reached, x_branchAt, x_branchSafe, x_branchKinds, x_branchLos, x_branchHis, x_packet, x_registers, x_cells, x_keyWords, x_keyTaken) := by
  simp (disch := omega) only [wpX_movePacketPointer, forall_eq, true_and, and_true, true_implies, not_true_eq_false, false_implies, not_false_eq_true, implies_true, and_self, nI_add, nI_1, nI_clamp, vp_in_nI, xb_10, xb_bt, xb_bf, h, xv_know]
theorem xv_mppF {post : Int32 → SX → Prop} {f : Int32} {d q : Nat} (hd : d < 16) (hq : q < 16) (h : ¬ (f = 1 ∧ x_his d + x_his q ≤ 255)) : wpX_movePacketPointer post (x_safe, x_at, x_exitLeast, x_exitMost, x_branches, x_faultPlace, x_provedLeast, x_provedMost, x_packetLength, x_executed, x_ops, x_targets, x_sources, x_offsets, x_immediates, x_lengths, x_kinds, x_los, x_his, x_reached, x_branchAt, x_branchSafe, x_branchKinds, x_branchLos, x_branchHis, x_packet, x_registers, x_cells, x_keyWords, x_keyTaken) f (nI d) (nI q) ↔ post 3 (x_safe, x_at, x_exitLeast, x_exitMost, x_branches, x_faultPlace, x_provedLeast, x_provedMost, x_packetLength, x_executed, x_ops, x_targets, x_sources, x_offsets, x_immediates, x_lengths, x_kinds, x_los, x_his, x_reached, x_branchAt, x_branchSafe, x_branchKinds, x_branchLos, x_branchHis, x_packet, x_registers, x_cells, x_keyWords, x_keyTaken) := by
  by_cases z : f = 1
  · have h' : ¬ x_his d + x_his q ≤ 255 := fun w => h ⟨z, w⟩
    simp (disch := omega) only [wpX_movePacketPointer, forall_eq, true_and, and_true, true_implies, not_true_eq_false, false_implies, not_false_eq_true, implies_true, and_self, nI_add, nI_1, nI_clamp, vp_in_nI, xb_10, xb_bt, xb_bf, h', z]
  · simp (disch := omega) only [wpX_movePacketPointer, forall_eq, true_and, and_true, true_implies, not_true_eq_false, false_implies, not_false_eq_true, implies_true, and_self, nI_add, nI_1, nI_clamp, vp_in_nI, xb_10, xb_bt, xb_bf, z]
theorem xv_mcpA {post : Int32 → SX → Prop} {d q : Nat} (hd : d < 16) (hq : q < 16) (h : x_los q = x_his q) (h2 : x_los q ≤ 100) : wpX_moveCellPointer post (x_safe, x_at, x_exitLeast, x_exitMost, x_branches, x_faultPlace, x_provedLeast, x_provedMost, x_packetLength, x_executed, x_ops, x_targets, x_sources, x_offsets, x_immediates, x_lengths, x_kinds, x_los, x_his, x_reached, x_branchAt, x_branchSafe, x_branchKinds, x_branchLos, x_branchHis, x_packet, x_registers, x_cells, x_keyWords, x_keyTaken) 1 (nI d) (nI q) ↔ post 0 (x_safe, x_at, x_exitLeast, x_exitMost, x_branches, x_faultPlace, x_provedLeast, x_provedMost, x_packetLength, x_executed, x_ops, x_targets, x_sources, x_offsets, x_immediates, x_lengths, upd x_kinds d (x_kinds d), vp_updL x_los d (x_los d + x_los q), vp_updL x_his d (x_los d + x_los q), x_reached, x_branchAt, x_branchSafe, x_branchKinds, x_branchLos, x_branchHis, x_packet, x_registers, x_cells, x_keyWords, x_keyTaken) := by
  simp (disch := omega) only [wpX_moveCellPointer, wX_moveCellPointer_43, wX_moveCellPointer_69, forall_eq, true_and, and_true, true_implies, not_true_eq_false, false_implies, not_false_eq_true, implies_true, and_self, nI_add, nI_1, nI_clamp, vp_in_nI, xb_10, xb_bt, xb_bf, ← h, h2, xv_know]
theorem xv_mcpS {post : Int32 → SX → Prop} {d q : Nat} (hd : d < 16) (hq : q < 16) (h : x_los q = x_his q) (h2 : x_los q ≤ 100) : wpX_moveCellPointer post (x_safe, x_at, x_exitLeast, x_exitMost, x_branches, x_faultPlace, x_provedLeast, x_provedMost, x_packetLength, x_executed, x_ops, x_targets, x_sources, x_offsets, x_immediates, x_lengths, x_kinds, x_los, x_his, x_reached, x_branchAt, x_branchSafe, x_branchKinds, x_branchLos, x_branchHis, x_packet, x_registers, x_cells, x_keyWords, x_keyTaken) 2 (nI d) (nI q) ↔ post 0 (x_safe, x_at, x_exitLeast, x_exitMost, x_branches, x_faultPlace, x_provedLeast, x_provedMost, x_packetLength, x_executed, x_ops, x_targets, x_sources, x_offsets, x_immediates, x_lengths, upd x_kinds d (x_kinds d), vp_updL x_los d (x_los d - x_los q), vp_updL x_his d (x_los d - x_los q), x_reached, x_branchAt, x_branchSafe, x_branchKinds, x_branchLos, x_branchHis, x_packet, x_registers, x_cells, x_keyWords, x_keyTaken) := by
  have z : ¬ (2 : Int32) = 1 := by decide
  simp (disch := omega) only [wpX_moveCellPointer, wX_moveCellPointer_43, wX_moveCellPointer_69, forall_eq, true_and, and_true, true_implies, not_true_eq_false, false_implies, not_false_eq_true, implies_true, and_self, nI_add, nI_1, nI_clamp, vp_in_nI, xb_10, xb_bt, xb_bf, ← h, h2, xv_know, z]
theorem xv_mcpF {post : Int32 → SX → Prop} {f : Int32} {d q : Nat} (hd : d < 16) (hq : q < 16) (h : ¬ (x_los q = x_his q ∧ x_los q ≤ 100 ∧ (f = 1 ∨ f = 2))) : wpX_moveCellPointer post (x_safe, x_at, x_exitLeast, x_exitMost, x_branches, x_faultPlace, x_provedLeast, x_provedMost, x_packetLength, x_executed, x_ops, x_targets, x_sources, x_offsets, x_immediates, x_lengths, x_kinds, x_los, x_his, x_reached, x_branchAt, x_branchSafe, x_branchKinds, x_branchLos, x_branchHis, x_packet, x_registers, x_cells, x_keyWords, x_keyTaken) f (nI d) (nI q) ↔ post 3 (x_safe, x_at, x_exitLeast, x_exitMost, x_branches, x_faultPlace, x_provedLeast, x_provedMost, x_packetLength, x_executed, x_ops, x_targets, x_sources, x_offsets, x_immediates, x_lengths, x_kinds, x_los, x_his, x_reached, x_branchAt, x_branchSafe, x_branchKinds, x_branchLos, x_branchHis, x_packet, x_registers, x_cells, x_keyWords, x_keyTaken) := by
  by_cases z : x_los q = x_his q
  · by_cases y : x_los q ≤ 100
    · have w : ¬ f = 1 ∧ ¬ f = 2 := ⟨fun e => h ⟨z, y, Or.inl e⟩, fun e => h ⟨z, y, Or.inr e⟩⟩
      simp (disch := omega) only [wpX_moveCellPointer, forall_eq, true_and, and_true, true_implies, not_true_eq_false, false_implies, not_false_eq_true, implies_true, and_self, nI_add, nI_1, nI_clamp, vp_in_nI, xb_10, xb_bt, xb_bf, ← z, y, w.1, w.2]
    · simp (disch := omega) only [wpX_moveCellPointer, forall_eq, true_and, and_true, true_implies, not_true_eq_false, false_implies, not_false_eq_true, implies_true, and_self, nI_add, nI_1, nI_clamp, vp_in_nI, xb_10, xb_bt, xb_bf, ← z, y]
  · simp (disch := omega) only [wpX_moveCellPointer, forall_eq, true_and, and_true, true_implies, not_true_eq_false, false_implies, not_false_eq_true, implies_true, and_self, nI_add, nI_1, nI_clamp, vp_in_nI, xb_10, xb_bt, xb_bf, z]
/-- checkArithmetic, a leaf each -/
theorem xv_arM {post : Int32 → SX → Prop} {d q : Nat} (hd : d < 16) (hq : q < 16) : wpX_checkArithmetic post (x_safe, x_at, x_exitLeast, x_exitMost, x_branches, x_faultPlace, x_provedLeast, x_provedMost, x_packetLength, x_executed, x_ops, x_targets, x_sources, x_offsets, x_immediates, x_lengths, x_kinds, x_los, x_his, x_reached, x_branchAt, x_branchSafe, x_branchKinds, x_branchLos, x_branchHis, x_packet, x_registers, x_cells, x_keyWords, x_keyTaken) 0 (nI d) (nI q) ↔ post 0 (x_safe, x_at, x_exitLeast, x_exitMost, x_branches, x_faultPlace, x_provedLeast, x_provedMost, x_packetLength, x_executed, x_ops, x_targets, x_sources, x_offsets, x_immediates, x_lengths, upd x_kinds d (x_kinds q), vp_updL x_los d (x_los q), vp_updL x_his d (x_his q), x_reached, x_branchAt, x_branchSafe, x_branchKinds, x_branchLos, x_branchHis, x_packet, x_registers, x_cells, x_keyWords, x_keyTaken) := by
  simp (disch := omega) only [wpX_checkArithmetic, forall_eq, true_and, and_true, true_implies, not_true_eq_false, false_implies, not_false_eq_true, implies_true, and_self, nI_add, nI_1, nI_clamp, vp_in_nI, xb_10, xb_bt, xb_bf, xv_copy]
theorem xv_arK {post : Int32 → SX → Prop} {f d q : Nat} (h1 : 1 ≤ f) (h6 : f ≤ 6) (hd : d < 16) (hq : q < 16) (h : ¬ x_kinds q = 1) (H : post 3 (x_safe, x_at, x_exitLeast, x_exitMost, x_branches, x_faultPlace, x_provedLeast, x_provedMost, x_packetLength, x_executed, x_ops, x_targets, x_sources, x_offsets, x_immediates, x_lengths, x_kinds, x_los, x_his, x_reached, x_branchAt, x_branchSafe, x_branchKinds, x_branchLos, x_branchHis, x_packet, x_registers, x_cells, x_keyWords, x_keyTaken)) : wpX_checkArithmetic post (x_safe, x_at, x_exitLeast, x_exitMost, x_branches, x_faultPlace, x_provedLeast, x_provedMost, x_packetLength, x_executed, x_ops, x_targets, x_sources, x_offsets, x_immediates, x_lengths, x_kinds, x_los, x_his, x_reached, x_branchAt, x_branchSafe, x_branchKinds, x_branchLos, x_branchHis, x_packet, x_registers, x_cells, x_keyWords, x_keyTaken) (nI f) (nI d) (nI q) := by
  have z : ¬ nI f = 0 := by rw [xb_eq0 (by omega)]; omega
  simp (disch := omega) only [wpX_checkArithmetic, forall_eq, true_and, and_true, true_implies, not_true_eq_false, false_implies, not_false_eq_true, implies_true, and_self, nI_add, nI_1, nI_clamp, vp_in_nI, xb_10, xb_bt, xb_bf, z, h]
  exact H
theorem xv_arO {post : Int32 → SX → Prop} {f d q : Nat} (h1 : 1 ≤ f) (h6 : f ≤ 6) (hd : d < 16) (hq : q < 16) (h : x_kinds q = 1) (a : ¬ x_kinds d = 1) (b : ¬ x_kinds d = 2) (c : ¬ x_kinds d = 4) (e : ¬ x_kinds d = 5) (H : post 3 (x_safe, x_at, x_exitLeast, x_exitMost, x_branches, x_faultPlace, x_provedLeast, x_provedMost, x_packetLength, x_executed, x_ops, x_targets, x_sources, x_offsets, x_immediates, x_lengths, x_kinds, x_los, x_his, x_reached, x_branchAt, x_branchSafe, x_branchKinds, x_branchLos, x_branchHis, x_packet, x_registers, x_cells, x_keyWords, x_keyTaken)) : wpX_checkArithmetic post (x_safe, x_at, x_exitLeast, x_exitMost, x_branches, x_faultPlace, x_provedLeast, x_provedMost, x_packetLength, x_executed, x_ops, x_targets, x_sources, x_offsets, x_immediates, x_lengths, x_kinds, x_los, x_his, x_reached, x_branchAt, x_branchSafe, x_branchKinds, x_branchLos, x_branchHis, x_packet, x_registers, x_cells, x_keyWords, x_keyTaken) (nI f) (nI d) (nI q) := by
  have z : ¬ nI f = 0 := by rw [xb_eq0 (by omega)]; omega
  simp (disch := omega) only [wpX_checkArithmetic, forall_eq, true_and, and_true, true_implies, not_true_eq_false, false_implies, not_false_eq_true, implies_true, and_self, nI_add, nI_1, nI_clamp, vp_in_nI, xb_10, xb_bt, xb_bf, z, h, a, b, c, e]
  exact H
theorem xv_arS {post : Int32 → SX → Prop} {f d q : Nat} (h1 : 1 ≤ f) (h6 : f ≤ 6) (hd : d < 16) (hq : q < 16) (h : x_kinds q = 1) (a : x_kinds d = 1) (H : post 0 (x_safe, x_at, x_exitLeast, x_exitMost, x_branches, x_faultPlace, x_provedLeast, x_provedMost, x_packetLength, x_executed, x_ops, x_targets, x_sources, x_offsets, x_immediates, x_lengths, x_kinds, vp_updL x_los d (ab_l (cb_l (nI f) (x_los d) (x_his d) (x_los q) (x_his q)) (cb_h (nI f) (x_los d) (x_his d) (x_los q) (x_his q))), vp_updL x_his d (ab_h (cb_l (nI f) (x_los d) (x_his d) (x_los q) (x_his q)) (cb_h (nI f) (x_los d) (x_his d) (x_los q) (x_his q))), x_reached, x_branchAt, x_branchSafe, x_branchKinds, x_branchLos, x_branchHis, x_packet, x_registers, x_cells, x_keyWords, x_keyTaken)) : wpX_checkArithmetic post (x_safe, x_at, x_exitLeast, x_exitMost, x_branches, x_faultPlace, x_provedLeast, x_provedMost, x_packetLength, x_executed, x_ops, x_targets, x_sources, x_offsets, x_immediates, x_lengths, x_kinds, x_los, x_his, x_reached, x_branchAt, x_branchSafe, x_branchKinds, x_branchLos, x_branchHis, x_packet, x_registers, x_cells, x_keyWords, x_keyTaken) (nI f) (nI d) (nI q) := by
  have z : ¬ nI f = 0 := by rw [xb_eq0 (by omega)]; omega
  simp (disch := omega) only [wpX_checkArithmetic, forall_eq, true_and, and_true, true_implies, not_true_eq_false, false_implies, not_false_eq_true, implies_true, and_self, nI_add, nI_1, nI_clamp, vp_in_nI, xb_10, xb_bt, xb_bf, z, h, a]
  exact xv_combine h1 h6 hd hq H
theorem xv_arP {post : Int32 → SX → Prop} {d q : Nat} (hd : d < 16) (hq : q < 16) (h : x_kinds q = 1) (a : x_kinds d = 2) (hh : x_his d + x_his q ≤ 255) (H : post 0 (x_safe, x_at, x_exitLeast, x_exitMost, x_branches, x_faultPlace, x_provedLeast, x_provedMost, x_packetLength, x_executed, x_ops, x_targets, x_sources, x_offsets, x_immediates, x_lengths, upd x_kinds d 2, vp_updL x_los d (x_los d + x_los q), vp_updL x_his d (x_his d + x_his q), x_reached, x_branchAt, x_branchSafe, x_branchKinds, x_branchLos, x_branchHis, x_packet, x_registers, x_cells, x_keyWords, x_keyTaken)) : wpX_checkArithmetic post (x_safe, x_at, x_exitLeast, x_exitMost, x_branches, x_faultPlace, x_provedLeast, x_provedMost, x_packetLength, x_executed, x_ops, x_targets, x_sources, x_offsets, x_immediates, x_lengths, x_kinds, x_los, x_his, x_reached, x_branchAt, x_branchSafe, x_branchKinds, x_branchLos, x_branchHis, x_packet, x_registers, x_cells, x_keyWords, x_keyTaken) (nI 1) (nI d) (nI q) := by
  have z : ¬ nI 1 = 0 := by decide
  have y : ¬ (2 : Int32) = 1 := by decide
  simp (disch := omega) only [wpX_checkArithmetic, forall_eq, true_and, and_true, true_implies, not_true_eq_false, false_implies, not_false_eq_true, implies_true, and_self, nI_add, nI_1, nI_clamp, vp_in_nI, xb_10, xb_bt, xb_bf, z, h, a, y]
  exact (xv_mppT hd hq hh).mpr H
theorem xv_arPf {post : Int32 → SX → Prop} {f d q : Nat} (h1 : 1 ≤ f) (h6 : f ≤ 6) (hd : d < 16) (hq : q < 16) (h : x_kinds q = 1) (a : x_kinds d = 2) (hh : ¬ (f = 1 ∧ x_his d + x_his q ≤ 255)) (H : post 3 (x_safe, x_at, x_exitLeast, x_exitMost, x_branches, x_faultPlace, x_provedLeast, x_provedMost, x_packetLength, x_executed, x_ops, x_targets, x_sources, x_offsets, x_immediates, x_lengths, x_kinds, x_los, x_his, x_reached, x_branchAt, x_branchSafe, x_branchKinds, x_branchLos, x_branchHis, x_packet, x_registers, x_cells, x_keyWords, x_keyTaken)) : wpX_checkArithmetic post (x_safe, x_at, x_exitLeast, x_exitMost, x_branches, x_faultPlace, x_provedLeast, x_provedMost, x_packetLength, x_executed, x_ops, x_targets, x_sources, x_offsets, x_immediates, x_lengths, x_kinds, x_los, x_his, x_reached, x_branchAt, x_branchSafe, x_branchKinds, x_branchLos, x_branchHis, x_packet, x_registers, x_cells, x_keyWords, x_keyTaken) (nI f) (nI d) (nI q) := by
  have z : ¬ nI f = 0 := by rw [xb_eq0 (by omega)]; omega
  have y : ¬ (2 : Int32) = 1 := by decide
  simp (disch := omega) only [wpX_checkArithmetic, forall_eq, true_and, and_true, true_implies, not_true_eq_false, false_implies, not_false_eq_true, implies_true, and_self, nI_add, nI_1, nI_clamp, vp_in_nI, xb_10, xb_bt, xb_bf, z, h, a, y]
  exact (xv_mppF hd hq (by rw [xb_eq1 (by omega)]; exact hh)).mpr H
theorem xv_arC {post : Int32 → SX → Prop} {f d q : Nat} (hf : f = 1 ∨ f = 2) (hd : d < 16) (hq : q < 16) (h : x_kinds q = 1) (a : x_kinds d = 4 ∨ x_kinds d = 5) (h3 : x_los q = x_his q) (h4 : x_los q ≤ 100) (H : post 0 (x_safe, x_at, x_exitLeast, x_exitMost, x_branches, x_faultPlace, x_provedLeast, x_provedMost, x_packetLength, x_executed, x_ops, x_targets, x_sources, x_offsets, x_immediates, x_lengths, upd x_kinds d (x_kinds d), vp_updL x_los d (if f = 1 then x_los d + x_los q else x_los d - x_los q), vp_updL x_his d (if f = 1 then x_los d + x_los q else x_los d - x_los q), x_reached, x_branchAt, x_branchSafe, x_branchKinds, x_branchLos, x_branchHis, x_packet, x_registers, x_cells, x_keyWords, x_keyTaken)) : wpX_checkArithmetic post (x_safe, x_at, x_exitLeast, x_exitMost, x_branches, x_faultPlace, x_provedLeast, x_provedMost, x_packetLength, x_executed, x_ops, x_targets, x_sources, x_offsets, x_immediates, x_lengths, x_kinds, x_los, x_his, x_reached, x_branchAt, x_branchSafe, x_branchKinds, x_branchLos, x_branchHis, x_packet, x_registers, x_cells, x_keyWords, x_keyTaken) (nI f) (nI d) (nI q) := by
  have y : ¬ (4 : Int32) = 1 ∧ ¬ (4 : Int32) = 2 ∧ ¬ (5 : Int32) = 1 ∧ ¬ (5 : Int32) = 2 ∧ ¬ (5 : Int32) = 4 := by decide
  have w : wX_checkArithmetic_81 post (nI f) (nI d) (nI q) x_safe x_at x_exitLeast x_exitMost x_branches x_faultPlace x_provedLeast x_provedMost x_packetLength x_executed x_ops x_targets x_sources x_offsets x_immediates x_lengths x_kinds x_los x_his x_reached x_branchAt x_branchSafe x_branchKinds x_branchLos x_branchHis x_packet x_registers x_cells x_keyWords x_keyTaken := by
    unfold wX_checkArithmetic_81
    rcases hf with rfl | rfl
    · exact (xv_mcpA hd hq h3 h4).mpr H
    · exact (xv_mcpS hd hq h3 h4).mpr H
  have z : ¬ nI f = 0 := by rw [xb_eq0 (by omega)]; omega
  rcases a with a | a
  · simp (disch := omega) only [wpX_checkArithmetic, forall_eq, true_and, and_true, true_implies, not_true_eq_false, false_implies, not_false_eq_true, implies_true, and_self, nI_add, nI_1, nI_clamp, vp_in_nI, xb_10, xb_bt, xb_bf, z, h, a, y]
    exact w
  · simp (disch := omega) only [wpX_checkArithmetic, forall_eq, true_and, and_true, true_implies, not_true_eq_false, false_implies, not_false_eq_true, implies_true, and_self, nI_add, nI_1, nI_clamp, vp_in_nI, xb_10, xb_bt, xb_bf, z, h, a, y]
    exact w
theorem xv_arCf {post : Int32 → SX → Prop} {f d q : Nat} (h1 : 1 ≤ f) (h6 : f ≤ 6) (hd : d < 16) (hq : q < 16) (h : x_kinds q = 1) (a : x_kinds d = 4 ∨ x_kinds d = 5) (hh : ¬ (x_los q = x_his q ∧ x_los q ≤ 100 ∧ (f = 1 ∨ f = 2))) (H : post 3 (x_safe, x_at, x_exitLeast, x_exitMost, x_branches, x_faultPlace, x_provedLeast, x_provedMost, x_packetLength, x_executed, x_ops, x_targets, x_sources, x_offsets, x_immediates, x_lengths, x_kinds, x_los, x_his, x_reached, x_branchAt, x_branchSafe, x_branchKinds, x_branchLos, x_branchHis, x_packet, x_registers, x_cells, x_keyWords, x_keyTaken)) : wpX_checkArithmetic post (x_safe, x_at, x_exitLeast, x_exitMost, x_branches, x_faultPlace, x_provedLeast, x_provedMost, x_packetLength, x_executed, x_ops, x_targets, x_sources, x_offsets, x_immediates, x_lengths, x_kinds, x_los, x_his, x_reached, x_branchAt, x_branchSafe, x_branchKinds, x_branchLos, x_branchHis, x_packet, x_registers, x_cells, x_keyWords, x_keyTaken) (nI f) (nI d) (nI q) := by
  have y : ¬ (4 : Int32) = 1 ∧ ¬ (4 : Int32) = 2 ∧ ¬ (5 : Int32) = 1 ∧ ¬ (5 : Int32) = 2 ∧ ¬ (5 : Int32) = 4 := by decide
  have w : wX_checkArithmetic_81 post (nI f) (nI d) (nI q) x_safe x_at x_exitLeast x_exitMost x_branches x_faultPlace x_provedLeast x_provedMost x_packetLength x_executed x_ops x_targets x_sources x_offsets x_immediates x_lengths x_kinds x_los x_his x_reached x_branchAt x_branchSafe x_branchKinds x_branchLos x_branchHis x_packet x_registers x_cells x_keyWords x_keyTaken := by
    unfold wX_checkArithmetic_81
    exact (xv_mcpF hd hq (by rw [xb_eq1 (by omega), xb_eq2 (by omega)]; exact hh)).mpr H
  have z : ¬ nI f = 0 := by rw [xb_eq0 (by omega)]; omega
  rcases a with a | a
  · simp (disch := omega) only [wpX_checkArithmetic, forall_eq, true_and, and_true, true_implies, not_true_eq_false, false_implies, not_false_eq_true, implies_true, and_self, nI_add, nI_1, nI_clamp, vp_in_nI, xb_10, xb_bt, xb_bf, z, h, a, y]
    exact w
  · simp (disch := omega) only [wpX_checkArithmetic, forall_eq, true_and, and_true, true_implies, not_true_eq_false, false_implies, not_false_eq_true, implies_true, and_self, nI_add, nI_1, nI_clamp, vp_in_nI, xb_10, xb_bt, xb_bf, z, h, a, y]
    exact w
end
end
section
def gl_ (n a f : Nat) : Nat := if n ≤ a + 1 + f then n else a + 1 + f
def cm_ (f : Nat) (kd kq : Int32) (hq : Int64) : Prop := (kd = 1 ∧ kq = 1) ∨ (kd = 6 ∧ f ≤ 2 ∧ kq = 1 ∧ hq = 0) ∨ (kd = 2 ∧ 3 ≤ f ∧ kq = 3) ∨ (kd = 3 ∧ 3 ≤ f ∧ kq = 2)
def k7_ (k : Int32) : Prop := k = 0 ∨ k = 1 ∨ k = 2 ∨ k = 3 ∨ k = 4 ∨ k = 5 ∨ k = 6
def op_ (f : Nat) : Nat := if f = 1 then 2 else if f = 2 then 1 else if f = 3 then 4 else 3
def mh_ (f : Nat) (l h l2 h2 : Int64) : Prop := if f = 1 then ¬ h2 < l ∧ ¬ h < l2 else if f = 2 then ¬ (l = h2 ∧ l2 = h) else if f = 3 then ¬ h2 ≤ l else ¬ h < l2
def cu_l (f : Nat) (n l h : Int64) : Int64 := if f = 1 then n else if f = 2 then (if l = n then n + 1 else l) else if f = 3 then l else n
def cu_h (f : Nat) (n l h : Int64) : Int64 := if f = 1 then n else if f = 2 then (if h = n then n - 1 else h) else if f = 3 then n - 1 else h
def se_K (K : Nat → Int32) (k : Int32) (m : Nat) : Nat → Int32 := fun j => if j < m ∧ K j = 6 then k else K j
def sv_ {α : Type} (o : Nat → α) (b : Nat) (s : Nat → α) (m : Nat) : Nat → α := fun j => if 16 * b ≤ j ∧ j < 16 * b + m then s (j - 16 * b) else o j
def ra_S (S p : Int64) : Int64 := if p ≤ S then S else p
def ln_K (f d : Nat) (K : Nat → Int32) : Nat → Int32 := if K d = 6 then se_K K (if f = 1 then 1 else 5) 16 else K
def ln_L (f d q : Nat) (K : Nat → Int32) (L H : Nat → Int64) : Nat → Int64 := if K d = 1 ∧ L q = H q then vp_updL L d (cu_l f (L q) (L d) (H d)) else L
def ln_H (f d q : Nat) (K : Nat → Int32) (L H : Nat → Int64) : Nat → Int64 := if K d = 1 ∧ L q = H q then vp_updL H d (cu_h f (L q) (L d) (H d)) else H
def ln_S (f d q : Nat) (K : Nat → Int32) (L : Nat → Int64) (S : Int64) : Int64 := if K d = 2 ∧ f = 3 then ra_S S (L d + 1) else if K d = 3 ∧ f = 4 then ra_S S (L q) else S
theorem sv_0 {α : Type} (o : Nat → α) (b : Nat) (s : Nat → α) : sv_ o b s 0 = o := by
  funext j; unfold sv_; rw [if_neg (by omega)]
theorem sv_s (o : Nat → Int32) (b : Nat) (s : Nat → Int32) (m : Nat) : upd (sv_ o b s m) (16 * b + m) (s m) = sv_ o b s (m + 1) := by
  funext j; unfold upd sv_
  by_cases h : j = 16 * b + m
  · subst h; rw [if_pos rfl, if_pos (by omega)]; congr 1; omega
  · rw [if_neg h]
    by_cases z : 16 * b ≤ j ∧ j < 16 * b + m
    · rw [if_pos z, if_pos (by omega)]
    · rw [if_neg z, if_neg (by omega)]
theorem sv_sL (o : Nat → Int64) (b : Nat) (s : Nat → Int64) (m : Nat) : vp_updL (sv_ o b s m) (16 * b + m) (s m) = sv_ o b s (m + 1) := by
  funext j; unfold vp_updL sv_
  by_cases h : j = 16 * b + m
  · subst h; rw [if_pos rfl, if_pos (by omega)]; congr 1; omega
  · rw [if_neg h]
    by_cases z : 16 * b ≤ j ∧ j < 16 * b + m
    · rw [if_pos z, if_pos (by omega)]
    · rw [if_neg z, if_neg (by omega)]
theorem se_0 (K : Nat → Int32) (k : Int32) : se_K K k 0 = K := by
  funext j; unfold se_K; rw [if_neg (by omega)]
theorem se_t {K : Nat → Int32} {k : Int32} {m : Nat} (h : K m = 6) : upd (se_K K k m) m k = se_K K k (m + 1) := by
  funext j; unfold upd se_K
  by_cases z : j = m
  · subst z; rw [if_pos rfl, if_pos ⟨by omega, h⟩]
  · rw [if_neg z]
    by_cases y : j < m ∧ K j = 6
    · rw [if_pos y, if_pos ⟨by omega, y.2⟩]
    · rw [if_neg y, if_neg (fun w => y ⟨by omega, w.2⟩)]
theorem se_f {K : Nat → Int32} {k : Int32} {m : Nat} (h : ¬ K m = 6) : se_K K k m = se_K K k (m + 1) := by
  funext j; unfold se_K
  by_cases y : j < m ∧ K j = 6
  · rw [if_pos y, if_pos ⟨by omega, y.2⟩]
  · rw [if_neg y, if_neg]
    intro w
    by_cases z : j = m
    · subst z; exact h w.2
    · exact y ⟨by omega, w.2⟩
theorem se_at {K : Nat → Int32} {k : Int32} {m : Nat} : se_K K k m m = K m := by unfold se_K; rw [if_neg (by omega)]
section
variable {x_safe : Int64} {x_at : Int32} {x_exitLeast : Int64} {x_exitMost : Int64} {x_branches : Int32} {x_faultPlace : Int32} {x_provedLeast : Int64} {x_provedMost : Int64} {x_packetLength : Int32} {x_executed : Int32} {x_ops : Nat → Int32} {x_targets : Nat → Int32} {x_sources : Nat → Int32} {x_offsets : Nat → Int32} {x_immediates : Nat → Int32} {x_lengths : Nat → Int32} {x_kinds : Nat → Int32} {x_los : Nat → Int64} {x_his : Nat → Int64} {x_reached : Nat → Int32} {x_branchAt : Nat → Int32} {x_branchSafe : Nat → Int64} {x_branchKinds : Nat → Int32} {x_branchLos : Nat → Int64} {x_branchHis : Nat → Int64} {x_packet : Nat → Int32} {x_registers : Nat → Int64} {x_cells : Nat → Int64} {x_keyWords : Nat → Int64} {x_keyTaken : Nat → Int32}
theorem xv_goal {post : Int32 → Prop} {i n a f : Nat} (hi : i < 120) (hn : n ≤ 40) (ha : a < 1000) (hf : f < 2 ^ 31) (hl : x_lengths 2 = nI n) (ho : x_offsets i = nI f) : wpX_goalOfJump post (x_safe, nI a, x_exitLeast, x_exitMost, x_branches, x_faultPlace, x_provedLeast, x_provedMost, x_packetLength, x_executed, x_ops, x_targets, x_sources, x_offsets, x_immediates, x_lengths, x_kinds, x_los, x_his, x_reached, x_branchAt, x_branchSafe, x_branchKinds, x_branchLos, x_branchHis, x_packet, x_registers, x_cells, x_keyWords, x_keyTaken) (nI i) ↔ post (nI (gl_ n a f)) := by
  simp (disch := omega) only [wpX_goalOfJump, forall_eq, true_and, and_true, true_implies, not_true_eq_false, false_implies, not_false_eq_true, implies_true, and_self, nI_add, nI_1, nI_clamp, vp_in_nI, xb_10, xb_bt, xb_bf, hl, ho, nI_l, lN_1, lN_add, pk_lLE, lN_i]
  unfold gl_
  by_cases z : n ≤ a + 1 + f
  · simp only [z, if_true, forall_eq, true_and, and_true, true_implies, not_true_eq_false, false_implies, not_false_eq_true, implies_true, and_self]
  · simp only [z, if_false, forall_eq, true_and, and_true, true_implies, not_true_eq_false, false_implies, not_false_eq_true, implies_true, and_self]
theorem xv_cmp {post : Int32 → Prop} {f d q : Nat} (h1 : 1 ≤ f) (h4 : f ≤ 4) (hd : d < 16) (hq : q < 16) (hk : k7_ (x_kinds d)) : (cm_ f (x_kinds d) (x_kinds q) (x_his q) → post 1) → (¬ cm_ f (x_kinds d) (x_kinds q) (x_his q) → post 0) → wpX_isComparable post (x_safe, x_at, x_exitLeast, x_exitMost, x_branches, x_faultPlace, x_provedLeast, x_provedMost, x_packetLength, x_executed, x_ops, x_targets, x_sources, x_offsets, x_immediates, x_lengths, x_kinds, x_los, x_his, x_reached, x_branchAt, x_branchSafe, x_branchKinds, x_branchLos, x_branchHis, x_packet, x_registers, x_cells, x_keyWords, x_keyTaken) (nI f) (nI d) (nI q) := by
  intro A B
  have w : ∀ z : Int32, (z = 0 ↔ 3 ≤ f) → wX_isComparable_15 post (nI d) (nI q) z x_safe x_at x_exitLeast x_exitMost x_branches x_faultPlace x_provedLeast x_provedMost x_packetLength x_executed x_ops x_targets x_sources x_offsets x_immediates x_lengths x_kinds x_los x_his x_reached x_branchAt x_branchSafe x_branchKinds x_branchLos x_branchHis x_packet x_registers x_cells x_keyWords x_keyTaken := by
    intro z hz
    simp (disch := omega) only [wX_isComparable_15, forall_eq, true_and, and_true, true_implies, not_true_eq_false, false_implies, not_false_eq_true, implies_true, and_self, nI_add, nI_1, nI_clamp, vp_in_nI, xb_10, xb_bt, xb_bf]
    unfold cm_ at A B
    rcases hk with k | k | k | k | k | k | k
    · simp [k] at A B ⊢; exact B
    · simp [k] at A B ⊢; exact ⟨A, B⟩
    · simp [k, hz] at A B ⊢
      by_cases y : 3 ≤ f
      · have yl : ¬ f < 3 := by omega
        simp [y, yl] at A B ⊢; exact ⟨A, B⟩
      · have yl : f < 3 := by omega
        simp [y, yl] at A B ⊢; exact B
    · simp [k, hz] at A B ⊢
      by_cases y : 3 ≤ f
      · have yl : ¬ f < 3 := by omega
        simp [y, yl] at A B ⊢; exact ⟨A, B⟩
      · have yl : f < 3 := by omega
        simp [y, yl] at A B ⊢; exact B
    · simp [k] at A B ⊢; exact B
    · simp [k] at A B ⊢; exact B
    · simp [k, hz] at A B ⊢
      by_cases y : 3 ≤ f
      · have y' : ¬ f ≤ 2 := by omega
        have yl : ¬ f < 3 := by omega
        simp [y, y', yl] at A B ⊢; exact B
      · have y' : f ≤ 2 := by omega
        have yl : f < 3 := by omega
        simp [y, y', yl] at A B ⊢
        refine ⟨fun a => ⟨fun b => A a b, fun b => B (fun _ => b)⟩, fun a => B (fun b => absurd b a)⟩
  have e : f = 1 ∨ f = 2 ∨ 3 ≤ f := by omega
  rcases e with rfl | rfl | e
  · exact br_t rfl (w 1 (by constructor <;> intro z <;> first | omega | exact absurd z (by decide)))
  · exact br_f (by decide) (br_t rfl (w 1 (by constructor <;> intro z <;> first | omega | exact absurd z (by decide))))
  · refine br_f ?_ (br_f ?_ (w 0 ⟨fun _ => e, fun _ => rfl⟩))
    · rw [xb_eq1 (by omega)]; omega
    · rw [xb_eq2 (by omega)]; omega
theorem xv_opp {post : Int32 → Prop} {f : Nat} (h1 : 1 ≤ f) (h4 : f ≤ 4) : wpX_opposite post (nI f) ↔ post (nI (op_ f)) := by
  have e : f = 1 ∨ f = 2 ∨ f = 3 ∨ f = 4 := by omega
  rcases e with rfl | rfl | rfl | rfl
  · rw [← xb_L1]; simp [wpX_opposite, op_, ← xb_L2]
  · rw [← xb_L2]; simp [wpX_opposite, op_, ← xb_L1]
  · rw [← xb_L3]; simp [wpX_opposite, op_, ← xb_L4]
  · rw [← xb_L4]; simp [wpX_opposite, op_, ← xb_L3]
theorem xv_mayN {post : Int32 → Prop} {f : Int32} {d q : Nat} (hd : d < 16) (h : ¬ x_kinds d = 1) : wpX_mayHold post (x_safe, x_at, x_exitLeast, x_exitMost, x_branches, x_faultPlace, x_provedLeast, x_provedMost, x_packetLength, x_executed, x_ops, x_targets, x_sources, x_offsets, x_immediates, x_lengths, x_kinds, x_los, x_his, x_reached, x_branchAt, x_branchSafe, x_branchKinds, x_branchLos, x_branchHis, x_packet, x_registers, x_cells, x_keyWords, x_keyTaken) f (nI d) (nI q) ↔ post 1 := by
  simp (disch := omega) only [wpX_mayHold, forall_eq, true_and, and_true, true_implies, not_true_eq_false, false_implies, not_false_eq_true, implies_true, and_self, nI_add, nI_1, nI_clamp, vp_in_nI, xb_10, xb_bt, xb_bf, h]
theorem xv_mayS {post : Int32 → Prop} {f d q : Nat} (h1 : 1 ≤ f) (h4 : f ≤ 4) (hd : d < 16) (hq : q < 16) (h : x_kinds d = 1) (A : mh_ f (x_los d) (x_his d) (x_los q) (x_his q) → post 1) (B : ¬ mh_ f (x_los d) (x_his d) (x_los q) (x_his q) → post 0) : wpX_mayHold post (x_safe, x_at, x_exitLeast, x_exitMost, x_branches, x_faultPlace, x_provedLeast, x_provedMost, x_packetLength, x_executed, x_ops, x_targets, x_sources, x_offsets, x_immediates, x_lengths, x_kinds, x_los, x_his, x_reached, x_branchAt, x_branchSafe, x_branchKinds, x_branchLos, x_branchHis, x_packet, x_registers, x_cells, x_keyWords, x_keyTaken) (nI f) (nI d) (nI q) := by
  have e : f = 1 ∨ f = 2 ∨ f = 3 ∨ f = 4 := by omega
  simp (disch := omega) only [wpX_mayHold, forall_eq, true_and, and_true, true_implies, not_true_eq_false, false_implies, not_false_eq_true, implies_true, and_self, nI_add, nI_1, nI_clamp, vp_in_nI, xb_10, xb_bt, xb_bf, h]
  rcases e with rfl | rfl | rfl | rfl
  · rw [← xb_L1]
    unfold mh_ at A B
    simp at A B ⊢
    refine ⟨fun z => B (fun y => absurd z (Int64.not_lt.mpr y)), fun z => ⟨fun y => B (fun _ => y), fun y => A z y⟩⟩
  · rw [← xb_L2]
    unfold mh_ at A B
    simp at A B ⊢
    refine ⟨fun z => ⟨fun y => B z y, fun y => A (fun _ => y)⟩, fun z => A (fun y => absurd y z)⟩
  · rw [← xb_L3]
    unfold mh_ at A B
    simp at A B ⊢
    exact ⟨B, A⟩
  · rw [← xb_L4]
    unfold mh_ at A B
    simp at A B ⊢
    exact ⟨B, A⟩
theorem xv_saveL {post : SX → Prop} {b : Nat} (hb : b < 10) (H : post (x_safe, x_at, x_exitLeast, x_exitMost, nI (b + 1), x_faultPlace, x_provedLeast, x_provedMost, x_packetLength, x_executed, x_ops, x_targets, x_sources, x_offsets, x_immediates, x_lengths, x_kinds, x_los, x_his, x_reached, x_branchAt, x_branchSafe, sv_ x_branchKinds b x_kinds 16, sv_ x_branchLos b x_los 16, sv_ x_branchHis b x_his 16, x_packet, x_registers, x_cells, x_keyWords, x_keyTaken)) : ∀ d m : Nat, m + d = 16 → wX_saveBranch_38 post x_safe x_at x_exitLeast x_exitMost (nI b) x_faultPlace x_provedLeast x_provedMost x_packetLength x_executed (d + 1) (nI m) x_ops x_targets x_sources x_offsets x_immediates x_lengths x_kinds x_los x_his x_reached x_branchAt x_branchSafe (sv_ x_branchKinds b x_kinds m) (sv_ x_branchLos b x_los m) (sv_ x_branchHis b x_his m) x_packet x_registers x_cells x_keyWords x_keyTaken := by
  intro d
  induction d with
  | zero =>
    intro m hm
    have e : m = 16 := by omega
    subst e
    exact br_t (by decide) (nm_r (nI_1 b) H)
  | succ d ih =>
    intro m hm
    refine br_f (by rw [xb_le16 (by omega)]; omega) (nm_r (e' := nI (16 * b + m)) (by rw [xb_mur16, nI_add, Nat.mul_comm]) ?_)
    have h1 : vp_in (nI m) 16 := vp_in_nI (by omega) (by decide)
    have h2 : vp_in (nI (16 * b + m)) 160 := vp_in_nI (by omega) (by decide)
    have c1 : (nI m).toNatClampNeg = m := nI_clamp (by omega)
    have c2 : (nI (16 * b + m)).toNatClampNeg = 16 * b + m := nI_clamp (by omega)
    refine ⟨h1, h2, nm_r (e' := sv_ x_branchKinds b x_kinds (m + 1)) (by rw [c1, c2, sv_s]) ⟨h1, h2, nm_r (e' := sv_ x_branchLos b x_los (m + 1)) (by rw [c1, c2, sv_sL]) ⟨h1, h2, nm_r (e' := sv_ x_branchHis b x_his (m + 1)) (by rw [c1, c2, sv_sL]) (nm_r (nI_1 m) (ih (m + 1) (by omega)))⟩⟩⟩
theorem xv_save {post : SX → Prop} {b : Nat} (hb : b < 10) (H : post (x_safe, x_at, x_exitLeast, x_exitMost, nI (b + 1), x_faultPlace, x_provedLeast, x_provedMost, x_packetLength, x_executed, x_ops, x_targets, x_sources, x_offsets, x_immediates, x_lengths, x_kinds, x_los, x_his, x_reached, upd x_branchAt b x_at, vp_updL x_branchSafe b x_safe, sv_ x_branchKinds b x_kinds 16, sv_ x_branchLos b x_los 16, sv_ x_branchHis b x_his 16, x_packet, x_registers, x_cells, x_keyWords, x_keyTaken)) : wpX_saveBranch post (x_safe, x_at, x_exitLeast, x_exitMost, nI b, x_faultPlace, x_provedLeast, x_provedMost, x_packetLength, x_executed, x_ops, x_targets, x_sources, x_offsets, x_immediates, x_lengths, x_kinds, x_los, x_his, x_reached, x_branchAt, x_branchSafe, x_branchKinds, x_branchLos, x_branchHis, x_packet, x_registers, x_cells, x_keyWords, x_keyTaken) := by
  have h2 : vp_in (nI b) 10 := vp_in_nI hb (by decide)
  have c2 : (nI b).toNatClampNeg = b := nI_clamp (by omega)
  refine br_t ((xb_lt10 (by omega)).mpr hb) ⟨h2, nm_r (e' := upd x_branchAt b x_at) (by rw [c2]) ⟨h2, nm_r (e' := vp_updL x_branchSafe b x_safe) (by rw [c2]) ⟨17, ?_⟩⟩⟩
  have := xv_saveL (x_branchAt := upd x_branchAt b x_at) (x_branchSafe := vp_updL x_branchSafe b x_safe) hb H 16 0 rfl
  rw [sv_0, sv_0, sv_0] at this
  exact this
theorem xv_cut {post : SX → Prop} {f d : Nat} {n : Int64} (h1 : 1 ≤ f) (h4 : f ≤ 4) (hd : d < 16) (H : post (x_safe, x_at, x_exitLeast, x_exitMost, x_branches, x_faultPlace, x_provedLeast, x_provedMost, x_packetLength, x_executed, x_ops, x_targets, x_sources, x_offsets, x_immediates, x_lengths, x_kinds, vp_updL x_los d (cu_l f n (x_los d) (x_his d)), vp_updL x_his d (cu_h f n (x_los d) (x_his d)), x_reached, x_branchAt, x_branchSafe, x_branchKinds, x_branchLos, x_branchHis, x_packet, x_registers, x_cells, x_keyWords, x_keyTaken)) : wpX_cut post (x_safe, x_at, x_exitLeast, x_exitMost, x_branches, x_faultPlace, x_provedLeast, x_provedMost, x_packetLength, x_executed, x_ops, x_targets, x_sources, x_offsets, x_immediates, x_lengths, x_kinds, x_los, x_his, x_reached, x_branchAt, x_branchSafe, x_branchKinds, x_branchLos, x_branchHis, x_packet, x_registers, x_cells, x_keyWords, x_keyTaken) (nI f) (nI d) n := by
  have e : f = 1 ∨ f = 2 ∨ f = 3 ∨ f = 4 := by omega
  simp (disch := omega) only [wpX_cut, forall_eq, true_and, and_true, true_implies, not_true_eq_false, false_implies, not_false_eq_true, implies_true, and_self, nI_add, nI_1, nI_clamp, vp_in_nI, xb_10, xb_bt, xb_bf]
  rcases e with rfl | rfl | rfl | rfl
  · rw [← xb_L1]; simp [cu_l, cu_h] at H ⊢; exact H
  · rw [← xb_L2]; simp (disch := omega) [cu_l, cu_h, wX_cut_73, vp_in_nI, nI_clamp] at H ⊢
    by_cases z : x_los d = n
    · by_cases y : x_his d = n
      · simp [z, y] at H ⊢; exact H
      · simp [z, y] at H ⊢; exact H
    · by_cases y : x_his d = n
      · simp [z, y] at H ⊢; exact H
      · simp [z, y] at H ⊢; exact H
  · rw [← xb_L3]; simp [cu_l, cu_h, xb_updLid] at H ⊢; exact H
  · rw [← xb_L4]; simp [cu_l, cu_h, xb_updLid] at H ⊢; exact H
theorem xv_setL {post : SX → Prop} {k : Int32} (H : post (x_safe, x_at, x_exitLeast, x_exitMost, x_branches, x_faultPlace, x_provedLeast, x_provedMost, x_packetLength, x_executed, x_ops, x_targets, x_sources, x_offsets, x_immediates, x_lengths, se_K x_kinds k 16, x_los, x_his, x_reached, x_branchAt, x_branchSafe, x_branchKinds, x_branchLos, x_branchHis, x_packet, x_registers, x_cells, x_keyWords, x_keyTaken)) : ∀ d m : Nat, m + d = 16 → wX_settleMaybes_2 post k x_safe x_at x_exitLeast x_exitMost x_branches x_faultPlace x_provedLeast x_provedMost x_packetLength x_executed (d + 1) (nI m) x_ops x_targets x_sources x_offsets x_immediates x_lengths (se_K x_kinds k m) x_los x_his x_reached x_branchAt x_branchSafe x_branchKinds x_branchLos x_branchHis x_packet x_registers x_cells x_keyWords x_keyTaken := by
  intro d
  induction d with
  | zero =>
    intro m hm
    have e : m = 16 := by omega
    subst e
    exact br_t (by decide) H
  | succ d ih =>
    intro m hm
    have h1 : vp_in (nI m) 16 := vp_in_nI (by omega) (by decide)
    have c1 : (nI m).toNatClampNeg = m := nI_clamp (by omega)
    refine br_f (by rw [xb_le16 (by omega)]; omega) ⟨h1, ?_⟩
    by_cases z : x_kinds m = 6
    · exact br_t (by rw [c1, se_at]; exact z) ⟨h1, nm_r (e' := se_K x_kinds k (m + 1)) (by rw [c1, se_t z]) (nm_r (nI_1 m) (ih (m + 1) (by omega)))⟩
    · refine br_f (by rw [c1, se_at]; exact z) (nm_r (nI_1 m) ?_)
      rw [se_f z]
      exact ih (m + 1) (by omega)
theorem xv_settle {post : SX → Prop} {k : Int32} (H : post (x_safe, x_at, x_exitLeast, x_exitMost, x_branches, x_faultPlace, x_provedLeast, x_provedMost, x_packetLength, x_executed, x_ops, x_targets, x_sources, x_offsets, x_immediates, x_lengths, se_K x_kinds k 16, x_los, x_his, x_reached, x_branchAt, x_branchSafe, x_branchKinds, x_branchLos, x_branchHis, x_packet, x_registers, x_cells, x_keyWords, x_keyTaken)) : wpX_settleMaybes post (x_safe, x_at, x_exitLeast, x_exitMost, x_branches, x_faultPlace, x_provedLeast, x_provedMost, x_packetLength, x_executed, x_ops, x_targets, x_sources, x_offsets, x_immediates, x_lengths, x_kinds, x_los, x_his, x_reached, x_branchAt, x_branchSafe, x_branchKinds, x_branchLos, x_branchHis, x_packet, x_registers, x_cells, x_keyWords, x_keyTaken) k := by
  refine ⟨17, ?_⟩
  have := xv_setL H 16 0 rfl
  rw [se_0] at this
  exact this
theorem xv_raise {post : SX → Prop} {p : Int64} (H : post (ra_S x_safe p, x_at, x_exitLeast, x_exitMost, x_branches, x_faultPlace, x_provedLeast, x_provedMost, x_packetLength, x_executed, x_ops, x_targets, x_sources, x_offsets, x_immediates, x_lengths, x_kinds, x_los, x_his, x_reached, x_branchAt, x_branchSafe, x_branchKinds, x_branchLos, x_branchHis, x_packet, x_registers, x_cells, x_keyWords, x_keyTaken)) : wpX_raiseSafe post (x_safe, x_at, x_exitLeast, x_exitMost, x_branches, x_faultPlace, x_provedLeast, x_provedMost, x_packetLength, x_executed, x_ops, x_targets, x_sources, x_offsets, x_immediates, x_lengths, x_kinds, x_los, x_his, x_reached, x_branchAt, x_branchSafe, x_branchKinds, x_branchLos, x_branchHis, x_packet, x_registers, x_cells, x_keyWords, x_keyTaken) p := by
  unfold ra_S at H
  by_cases z : p ≤ x_safe
  · rw [if_pos z] at H; exact br_t z H
  · rw [if_neg z] at H; exact br_f z H
theorem xv_learn {post : SX → Prop} {f d q : Nat} (h1 : 1 ≤ f) (h4 : f ≤ 4) (hd : d < 16) (hq : q < 16) (H : post (ln_S f d q x_kinds x_los x_safe, x_at, x_exitLeast, x_exitMost, x_branches, x_faultPlace, x_provedLeast, x_provedMost, x_packetLength, x_executed, x_ops, x_targets, x_sources, x_offsets, x_immediates, x_lengths, ln_K f d x_kinds, ln_L f d q x_kinds x_los x_his, ln_H f d q x_kinds x_los x_his, x_reached, x_branchAt, x_branchSafe, x_branchKinds, x_branchLos, x_branchHis, x_packet, x_registers, x_cells, x_keyWords, x_keyTaken)) : wpX_learn post (x_safe, x_at, x_exitLeast, x_exitMost, x_branches, x_faultPlace, x_provedLeast, x_provedMost, x_packetLength, x_executed, x_ops, x_targets, x_sources, x_offsets, x_immediates, x_lengths, x_kinds, x_los, x_his, x_reached, x_branchAt, x_branchSafe, x_branchKinds, x_branchLos, x_branchHis, x_packet, x_registers, x_cells, x_keyWords, x_keyTaken) (nI f) (nI d) (nI q) := by
  have y : ¬ (6 : Int32) = 1 ∧ ¬ (2 : Int32) = 1 ∧ ¬ (3 : Int32) = 1 ∧ ¬ (2 : Int32) = 6 ∧ ¬ (3 : Int32) = 6 ∧ ¬ (3 : Int32) = 2 ∧ ¬ (1 : Int32) = 6 ∧ ¬ (1 : Int32) = 2 ∧ ¬ (1 : Int32) = 3 ∧ ¬ (6 : Int32) = 2 ∧ ¬ (6 : Int32) = 3 ∧ ¬ (2 : Int32) = 3 := by decide
  simp (disch := omega) only [wpX_learn, wX_learn_99, wX_learn_63, forall_eq, true_and, and_true, true_implies, not_true_eq_false, false_implies, not_false_eq_true, implies_true, and_self, nI_add, nI_1, nI_clamp, vp_in_nI, xb_10, xb_bt, xb_bf, xb_eq1, xb_eq3, xb_eq4]
  unfold ln_S ln_K ln_L ln_H at H
  by_cases k1 : x_kinds d = 1
  · simp only [k1, y, forall_eq, true_and, and_true, true_implies, not_true_eq_false, false_implies, not_false_eq_true, implies_true, and_self, false_and, if_false] at H ⊢
    by_cases z : x_los q = x_his q
    · simp only [z, if_true, forall_eq, true_and, and_true, true_implies, not_true_eq_false, false_implies, not_false_eq_true, implies_true, and_self] at H ⊢
      exact xv_cut h1 h4 hd H
    · simp only [z, if_false, forall_eq, true_and, and_true, true_implies, not_true_eq_false, false_implies, not_false_eq_true, implies_true, and_self] at H ⊢
      exact H
  · by_cases k6 : x_kinds d = 6
    · simp only [k6, y, forall_eq, true_and, and_true, true_implies, not_true_eq_false, false_implies, not_false_eq_true, implies_true, and_self, false_and, if_false, if_true] at H ⊢
      by_cases z : f = 1
      · simp only [z, if_true, forall_eq, true_and, and_true, true_implies, not_true_eq_false, false_implies, not_false_eq_true, implies_true, and_self] at H ⊢
        exact xv_settle H
      · simp only [z, if_false, forall_eq, true_and, and_true, true_implies, not_true_eq_false, false_implies, not_false_eq_true, implies_true, and_self] at H ⊢
        exact xv_settle H
    · by_cases k2 : x_kinds d = 2
      · simp only [k2, y, forall_eq, true_and, and_true, true_implies, not_true_eq_false, false_implies, not_false_eq_true, implies_true, and_self, false_and, if_false, if_true] at H ⊢
        by_cases z : f = 3
        · simp only [z, if_true, forall_eq, true_and, and_true, true_implies, not_true_eq_false, false_implies, not_false_eq_true, implies_true, and_self] at H ⊢
          exact xv_raise H
        · simp only [z, if_false, forall_eq, true_and, and_true, true_implies, not_true_eq_false, false_implies, not_false_eq_true, implies_true, and_self] at H ⊢
          exact H
      · by_cases k3 : x_kinds d = 3
        · simp only [k3, y, forall_eq, true_and, and_true, true_implies, not_true_eq_false, false_implies, not_false_eq_true, implies_true, and_self, false_and, if_false, if_true] at H ⊢
          by_cases z : f = 4
          · simp only [z, if_true, forall_eq, true_and, and_true, true_implies, not_true_eq_false, false_implies, not_false_eq_true, implies_true, and_self] at H ⊢
            exact xv_raise H
          · simp only [z, if_false, forall_eq, true_and, and_true, true_implies, not_true_eq_false, false_implies, not_false_eq_true, implies_true, and_self] at H ⊢
            exact H
        · simp only [k1, k2, k3, k6, forall_eq, true_and, and_true, true_implies, not_true_eq_false, false_implies, not_false_eq_true, implies_true, and_self, false_and, if_false] at H ⊢
          exact H
end
end
section
/-- the second operand's slot, and what is known once a constant has been laid into slot 9 -/
def rg_ (o : Int32) : Prop := o / 10 = 1 ∨ o / 10 = 3 ∨ o / 10 = 4
noncomputable def q9_ (o : Int32) (s : Nat) : Nat := @ite _ (rg_ o) (Classical.propDecidable _) s 9
noncomputable def k9_ (o : Int32) (K : Nat → Int32) : Nat → Int32 := @ite _ (rg_ o) (Classical.propDecidable _) K (upd K 9 1)
noncomputable def l9_ (o : Int32) (w : Int64) (L : Nat → Int64) : Nat → Int64 := @ite _ (rg_ o) (Classical.propDecidable _) L (vp_updL L 9 w)
theorem q9_t {o : Int32} {s : Nat} (h : rg_ o) : q9_ o s = s := by unfold q9_; exact if_pos h
theorem q9_f {o : Int32} {s : Nat} (h : ¬ rg_ o) : q9_ o s = 9 := by unfold q9_; exact if_neg h
theorem k9_t {o : Int32} {K : Nat → Int32} (h : rg_ o) : k9_ o K = K := by unfold k9_; exact if_pos h
theorem k9_f {o : Int32} {K : Nat → Int32} (h : ¬ rg_ o) : k9_ o K = upd K 9 1 := by unfold k9_; exact if_neg h
theorem l9_t {o : Int32} {w : Int64} {L : Nat → Int64} (h : rg_ o) : l9_ o w L = L := by unfold l9_; exact if_pos h
theorem l9_f {o : Int32} {w : Int64} {L : Nat → Int64} (h : ¬ rg_ o) : l9_ o w L = vp_updL L 9 w := by unfold l9_; exact if_neg h
def ou_ (o off imm : Int32) : Prop := ((o / 10 = 2 ∨ o / 10 = 3) ∧ ¬ 0 ≤ off) ∨ (o / 10 = 5 ∧ (imm < 0 ∨ ¬ imm < 2))
def un_ (o : Int32) (K : Nat → Int32) (d q : Nat) : Prop := if o = 20 then False else if o = 0 ∨ o = 10 ∨ o = 40 ∨ o = 42 then K q = 0 else if o = 50 ∨ o = 52 then K 1 = 0 else if o = 51 then K 1 = 0 ∨ K 2 = 0 ∨ K 3 = 0 else if o = 60 then K 0 = 0 else K d = 0 ∨ K q = 0
section
variable {x_safe : Int64} {x_at : Int32} {x_exitLeast : Int64} {x_exitMost : Int64} {x_branches : Int32} {x_faultPlace : Int32} {x_provedLeast : Int64} {x_provedMost : Int64} {x_packetLength : Int32} {x_executed : Int32} {x_ops : Nat → Int32} {x_targets : Nat → Int32} {x_sources : Nat → Int32} {x_offsets : Nat → Int32} {x_immediates : Nat → Int32} {x_lengths : Nat → Int32} {x_kinds : Nat → Int32} {x_los : Nat → Int64} {x_his : Nat → Int64} {x_reached : Nat → Int32} {x_branchAt : Nat → Int32} {x_branchSafe : Nat → Int64} {x_branchKinds : Nat → Int32} {x_branchLos : Nat → Int64} {x_branchHis : Nat → Int64} {x_packet : Nat → Int32} {x_registers : Nat → Int64} {x_cells : Nat → Int64} {x_keyWords : Nat → Int64} {x_keyTaken : Nat → Int32}
theorem xv_names {post : Int32 → Prop} {i : Nat} (hi : i < 120) (A : ou_ (x_ops i) (x_offsets i) (x_immediates i) → post 1) (B : ¬ ou_ (x_ops i) (x_offsets i) (x_immediates i) → post 0) : wpX_namesWhatIsNotThere post (x_safe, x_at, x_exitLeast, x_exitMost, x_branches, x_faultPlace, x_provedLeast, x_provedMost, x_packetLength, x_executed, x_ops, x_targets, x_sources, x_offsets, x_immediates, x_lengths, x_kinds, x_los, x_his, x_reached, x_branchAt, x_branchSafe, x_branchKinds, x_branchLos, x_branchHis, x_packet, x_registers, x_cells, x_keyWords, x_keyTaken) (nI i) := by
  simp (disch := omega) only [wpX_namesWhatIsNotThere, forall_eq, true_and, and_true, true_implies, not_true_eq_false, false_implies, not_false_eq_true, implies_true, and_self, nI_add, nI_1, nI_clamp, vp_in_nI, xb_10, xb_bt, xb_bf, xv_isJump]
  unfold ou_ at A B
  by_cases j : x_ops i / 10 = 2 ∨ x_ops i / 10 = 3
  · have n5 : ¬ x_ops i / 10 = 5 := by rcases j with j | j <;> rw [j] <;> decide
    have z10 : ¬ (1 : Int32) = 0 := by decide
    simp only [j, n5, if_true, z10, forall_eq, true_and, and_true, true_implies, not_true_eq_false, false_implies, not_false_eq_true, implies_true, and_self, false_and, or_false] at A B ⊢
    by_cases z : 0 ≤ x_offsets i
    · simp only [z, forall_eq, true_and, and_true, true_implies, not_true_eq_false, false_implies, not_false_eq_true, implies_true, and_self] at A B ⊢; exact B
    · simp only [z, forall_eq, true_and, and_true, true_implies, not_true_eq_false, false_implies, not_false_eq_true, implies_true, and_self] at A B ⊢; exact A
  · simp only [j, if_false, forall_eq, true_and, and_true, true_implies, not_true_eq_false, false_implies, not_false_eq_true, implies_true, and_self, false_and, false_or] at A B ⊢
    by_cases n5 : x_ops i / 10 = 5
    · simp only [n5, forall_eq, true_and, and_true, true_implies, not_true_eq_false, false_implies, not_false_eq_true, implies_true, and_self] at A B ⊢
      by_cases z : x_immediates i < 0
      · simp only [z, forall_eq, true_and, and_true, true_implies, not_true_eq_false, false_implies, not_false_eq_true, implies_true, and_self, true_or] at A B ⊢; exact A
      · by_cases y : x_immediates i < 2
        · simp only [z, y, forall_eq, true_and, and_true, true_implies, not_true_eq_false, false_implies, not_false_eq_true, implies_true, and_self, false_or] at A B ⊢; exact B
        · simp only [z, y, forall_eq, true_and, and_true, true_implies, not_true_eq_false, false_implies, not_false_eq_true, implies_true, and_self, false_or] at A B ⊢; exact A
    · simp only [n5, forall_eq, true_and, and_true, true_implies, not_true_eq_false, false_implies, not_false_eq_true, implies_true, and_self, false_and] at A B ⊢; exact B
theorem xv_second {post : Int32 → SX → Prop} {i s : Nat} (hi : i < 120) (hs : x_sources i = nI s) (H : post (nI (q9_ (x_ops i) s)) (x_safe, x_at, x_exitLeast, x_exitMost, x_branches, x_faultPlace, x_provedLeast, x_provedMost, x_packetLength, x_executed, x_ops, x_targets, x_sources, x_offsets, x_immediates, x_lengths, k9_ (x_ops i) x_kinds, l9_ (x_ops i) ((x_immediates i).toInt64 &&& 4294967295) x_los, l9_ (x_ops i) ((x_immediates i).toInt64 &&& 4294967295) x_his, x_reached, x_branchAt, x_branchSafe, x_branchKinds, x_branchLos, x_branchHis, x_packet, x_registers, x_cells, x_keyWords, x_keyTaken)) : wpX_secondSlot post (x_safe, x_at, x_exitLeast, x_exitMost, x_branches, x_faultPlace, x_provedLeast, x_provedMost, x_packetLength, x_executed, x_ops, x_targets, x_sources, x_offsets, x_immediates, x_lengths, x_kinds, x_los, x_his, x_reached, x_branchAt, x_branchSafe, x_branchKinds, x_branchLos, x_branchHis, x_packet, x_registers, x_cells, x_keyWords, x_keyTaken) (nI i) := by
  simp (disch := omega) only [wpX_secondSlot, forall_eq, true_and, and_true, true_implies, not_true_eq_false, false_implies, not_false_eq_true, implies_true, and_self, nI_add, nI_1, nI_clamp, vp_in_nI, xb_10, xb_bt, xb_bf, hs]
  by_cases r : rg_ (x_ops i)
  · rw [q9_t r, k9_t r, l9_t r, l9_t r] at H
    unfold rg_ at r
    by_cases a : x_ops i / 10 = 1
    · simp only [a, forall_eq, true_and, and_true, true_implies, not_true_eq_false, false_implies, not_false_eq_true, implies_true, and_self]; exact H
    · by_cases b : x_ops i / 10 = 3
      · have z : ¬ (3 : Int32) = 1 := by decide
        simp only [b, z, forall_eq, true_and, and_true, true_implies, not_true_eq_false, false_implies, not_false_eq_true, implies_true, and_self]; exact H
      · have c : x_ops i / 10 = 4 := by rcases r with r | r | r <;> first | exact absurd r a | exact absurd r b | exact r
        have z : ¬ (4 : Int32) = 1 ∧ ¬ (4 : Int32) = 3 := by decide
        simp only [c, z, forall_eq, true_and, and_true, true_implies, not_true_eq_false, false_implies, not_false_eq_true, implies_true, and_self]; exact H
  · rw [q9_f r, k9_f r, l9_f r, l9_f r] at H
    unfold rg_ at r
    have a : ¬ x_ops i / 10 = 1 := fun z => r (Or.inl z)
    have b : ¬ x_ops i / 10 = 3 := fun z => r (Or.inr (Or.inl z))
    have c : ¬ x_ops i / 10 = 4 := fun z => r (Or.inr (Or.inr z))
    simp only [a, b, c, forall_eq, true_and, and_true, true_implies, not_true_eq_false, false_implies, not_false_eq_true, implies_true, and_self, xv_know9]
    exact H
theorem xv_unset {post : Int32 → Prop} {i d q : Nat} (hi : i < 120) (hd : d < 16) (hq : q < 16) (ht : x_targets i = nI d) (A : un_ (x_ops i) x_kinds d q → post 1) (B : ¬ un_ (x_ops i) x_kinds d q → post 0) : wpX_usesUnset post (x_safe, x_at, x_exitLeast, x_exitMost, x_branches, x_faultPlace, x_provedLeast, x_provedMost, x_packetLength, x_executed, x_ops, x_targets, x_sources, x_offsets, x_immediates, x_lengths, x_kinds, x_los, x_his, x_reached, x_branchAt, x_branchSafe, x_branchKinds, x_branchLos, x_branchHis, x_packet, x_registers, x_cells, x_keyWords, x_keyTaken) (nI i) (nI q) := by
  have w90 : ((x_kinds q = 0 → post 1) ∧ (¬ x_kinds q = 0 → post 0)) → wX_usesUnset_90 post (nI q) x_safe x_at x_exitLeast x_exitMost x_branches x_faultPlace x_provedLeast x_provedMost x_packetLength x_executed x_ops x_targets x_sources x_offsets x_immediates x_lengths x_kinds x_los x_his x_reached x_branchAt x_branchSafe x_branchKinds x_branchLos x_branchHis x_packet x_registers x_cells x_keyWords x_keyTaken := by
    intro h
    simp (disch := omega) only [wX_usesUnset_90, forall_eq, true_and, and_true, true_implies, not_true_eq_false, false_implies, not_false_eq_true, implies_true, and_self, nI_add, nI_1, nI_clamp, vp_in_nI, xb_10, xb_bt, xb_bf]
    exact h
  have w1 : ((x_kinds 1 = 0 → post 1) ∧ (¬ x_kinds 1 = 0 → post 0)) → wX_usesUnset_105 post x_safe x_at x_exitLeast x_exitMost x_branches x_faultPlace x_provedLeast x_provedMost x_packetLength x_executed x_ops x_targets x_sources x_offsets x_immediates x_lengths x_kinds x_los x_his x_reached x_branchAt x_branchSafe x_branchKinds x_branchLos x_branchHis x_packet x_registers x_cells x_keyWords x_keyTaken := fun h => h
  simp (disch := omega) only [wpX_usesUnset, forall_eq, true_and, and_true, true_implies, not_true_eq_false, false_implies, not_false_eq_true, implies_true, and_self, nI_add, nI_1, nI_clamp, vp_in_nI, xb_10, xb_bt, xb_bf, ht]
  unfold un_ at A B
  by_cases a : x_ops i = 0
  · simp [a] at A B ⊢; exact w90 ⟨A, B⟩
  · by_cases b : x_ops i = 10
    · simp [b] at A B ⊢; exact w90 ⟨A, B⟩
    · by_cases c : x_ops i = 20
      · simp [c] at A B ⊢; exact B
      · by_cases e : x_ops i = 40
        · simp [e] at A B ⊢; exact w90 ⟨A, B⟩
        · by_cases f : x_ops i = 42
          · simp [f] at A B ⊢; exact w90 ⟨A, B⟩
          · by_cases g : x_ops i = 50
            · simp [g] at A B ⊢; exact w1 ⟨A, B⟩
            · by_cases h : x_ops i = 51
              · simp [h] at A B ⊢
                refine ⟨fun z => A (Or.inl z), fun z => ⟨fun y => A (Or.inr (Or.inl y)), fun y => ⟨fun x => A (Or.inr (Or.inr x)), fun x => B z y x⟩⟩⟩
              · by_cases j : x_ops i = 52
                · simp [j] at A B ⊢; exact w1 ⟨A, B⟩
                · by_cases k : x_ops i = 60
                  · simp [k] at A B ⊢; exact ⟨A, B⟩
                  · simp [a, b, c, e, f, g, h, j, k] at A B ⊢
                    exact ⟨fun z => A (Or.inl z), fun z => ⟨fun y => A (Or.inr y), fun y => B z y⟩⟩
theorem xv_far {post : Int32 → Prop} {f : Int32} (A : f < -100 ∨ ¬ f ≤ 100 → post 1) (B : ¬ (f < -100 ∨ ¬ f ≤ 100) → post 0) : wpX_isFarOffset post f := by
  refine br_c (fun z => A (Or.inl z)) (fun z => br_c (fun y => B ?_) (fun y => A (Or.inr y)))
  rintro (w | w)
  · exact z w
  · exact w y
end
end
section
def far_ (f : Int32) : Prop := f < -100 ∨ ¬ f ≤ 100
def bb_ (l h S : Int64) (f : Int32) : Prop := far_ f ∨ l + f.toInt64 < 0 ∨ ¬ h + f.toInt64 < S
def cc_ (k : Int32) (l : Int64) (f : Int32) : Prop := far_ f ∨ l + f.toInt64 < 0 ∨ ¬ l + f.toInt64 < (if k = 4 then lN 6 else lN 2)
def wi_ (K : Nat → Int32) (m j : Nat) : Prop := j < m ∧ ((1 ≤ j ∧ j ≤ 5) ∨ K j = 5 ∨ K j = 6)
noncomputable def mK_ (K : Nat → Int32) (m : Nat) : Nat → Int32 := fun j => @ite _ (wi_ K m j) (Classical.propDecidable _) 0 (K j)
noncomputable def mL_ (K : Nat → Int32) (L : Nat → Int64) (m : Nat) : Nat → Int64 := fun j => @ite _ (wi_ K m j) (Classical.propDecidable _) 0 (L j)
theorem mK_0 (K : Nat → Int32) : mK_ K 0 = K := by funext j; unfold mK_; exact if_neg (fun h => absurd h.1 (by omega))
theorem mL_0 (K : Nat → Int32) (L : Nat → Int64) : mL_ K L 0 = L := by funext j; unfold mL_; exact if_neg (fun h => absurd h.1 (by omega))
theorem mK_at (K : Nat → Int32) (m : Nat) : mK_ K m m = K m := by unfold mK_; exact if_neg (fun h => absurd h.1 (by omega))
theorem mK_t {K : Nat → Int32} {m : Nat} (h : wi_ K (m + 1) m) : upd (mK_ K m) m 0 = mK_ K (m + 1) := by
  funext j; unfold upd mK_
  by_cases e : j = m
  · subst e; rw [if_pos rfl]; exact (if_pos h).symm
  · rw [if_neg e]
    by_cases w : wi_ K m j
    · rw [if_pos w]; exact (if_pos ⟨by have := w.1; omega, w.2⟩).symm
    · rw [if_neg w]; exact (if_neg (fun z => w ⟨by have := z.1; omega, z.2⟩)).symm
theorem mL_t {K : Nat → Int32} {L : Nat → Int64} {m : Nat} (h : wi_ K (m + 1) m) : vp_updL (mL_ K L m) m 0 = mL_ K L (m + 1) := by
  funext j; unfold vp_updL mL_
  by_cases e : j = m
  · subst e; rw [if_pos rfl]; exact (if_pos h).symm
  · rw [if_neg e]
    by_cases w : wi_ K m j
    · rw [if_pos w]; exact (if_pos ⟨by have := w.1; omega, w.2⟩).symm
    · rw [if_neg w]; exact (if_neg (fun z => w ⟨by have := z.1; omega, z.2⟩)).symm
theorem mK_f {K : Nat → Int32} {m : Nat} (h : ¬ wi_ K (m + 1) m) : mK_ K m = mK_ K (m + 1) := by
  funext j; unfold mK_
  by_cases w : wi_ K m j
  · rw [if_pos w]; exact (if_pos ⟨by have := w.1; omega, w.2⟩).symm
  · rw [if_neg w]
    refine (if_neg (fun z => ?_)).symm
    by_cases e : j = m
    · subst e; exact h z
    · exact w ⟨by have := z.1; omega, z.2⟩
theorem mL_f {K : Nat → Int32} {L : Nat → Int64} {m : Nat} (h : ¬ wi_ K (m + 1) m) : mL_ K L m = mL_ K L (m + 1) := by
  funext j; unfold mL_
  by_cases w : wi_ K m j
  · rw [if_pos w]; exact (if_pos ⟨by have := w.1; omega, w.2⟩).symm
  · rw [if_neg w]
    refine (if_neg (fun z => ?_)).symm
    by_cases e : j = m
    · subst e; exact h z
    · exact w ⟨by have := z.1; omega, z.2⟩
section
variable {x_safe : Int64} {x_at : Int32} {x_exitLeast : Int64} {x_exitMost : Int64} {x_branches : Int32} {x_faultPlace : Int32} {x_provedLeast : Int64} {x_provedMost : Int64} {x_packetLength : Int32} {x_executed : Int32} {x_ops : Nat → Int32} {x_targets : Nat → Int32} {x_sources : Nat → Int32} {x_offsets : Nat → Int32} {x_immediates : Nat → Int32} {x_lengths : Nat → Int32} {x_kinds : Nat → Int32} {x_los : Nat → Int64} {x_his : Nat → Int64} {x_reached : Nat → Int32} {x_branchAt : Nat → Int32} {x_branchSafe : Nat → Int64} {x_branchKinds : Nat → Int32} {x_branchLos : Nat → Int64} {x_branchHis : Nat → Int64} {x_packet : Nat → Int32} {x_registers : Nat → Int64} {x_cells : Nat → Int64} {x_keyWords : Nat → Int64} {x_keyTaken : Nat → Int32}
theorem xv_byteK {post : Int32 → SX → Prop} {i s : Nat} (hi : i < 120) (hs : s < 16) (es : x_sources i = nI s) (k : ¬ x_kinds s = 2) (H : post 3 (x_safe, x_at, x_exitLeast, x_exitMost, x_branches, x_faultPlace, x_provedLeast, x_provedMost, x_packetLength, x_executed, x_ops, x_targets, x_sources, x_offsets, x_immediates, x_lengths, x_kinds, x_los, x_his, x_reached, x_branchAt, x_branchSafe, x_branchKinds, x_branchLos, x_branchHis, x_packet, x_registers, x_cells, x_keyWords, x_keyTaken)) : wpX_checkByte post (x_safe, x_at, x_exitLeast, x_exitMost, x_branches, x_faultPlace, x_provedLeast, x_provedMost, x_packetLength, x_executed, x_ops, x_targets, x_sources, x_offsets, x_immediates, x_lengths, x_kinds, x_los, x_his, x_reached, x_branchAt, x_branchSafe, x_branchKinds, x_branchLos, x_branchHis, x_packet, x_registers, x_cells, x_keyWords, x_keyTaken) (nI i) := by
  simp (disch := omega) only [wpX_checkByte, forall_eq, true_and, and_true, true_implies, not_true_eq_false, false_implies, not_false_eq_true, implies_true, and_self, nI_add, nI_1, nI_clamp, vp_in_nI, xb_10, xb_bt, xb_bf, es, k]
  exact H
theorem xv_byteB {post : Int32 → SX → Prop} {i s : Nat} (hi : i < 120) (hs : s < 16) (es : x_sources i = nI s) (k : x_kinds s = 2) (b : bb_ (x_los s) (x_his s) x_safe (x_offsets i)) (H : post 4 (x_safe, x_at, x_exitLeast, x_exitMost, x_branches, x_faultPlace, x_provedLeast, x_provedMost, x_packetLength, x_executed, x_ops, x_targets, x_sources, x_offsets, x_immediates, x_lengths, x_kinds, x_los, x_his, x_reached, x_branchAt, x_branchSafe, x_branchKinds, x_branchLos, x_branchHis, x_packet, x_registers, x_cells, x_keyWords, x_keyTaken)) : wpX_checkByte post (x_safe, x_at, x_exitLeast, x_exitMost, x_branches, x_faultPlace, x_provedLeast, x_provedMost, x_packetLength, x_executed, x_ops, x_targets, x_sources, x_offsets, x_immediates, x_lengths, x_kinds, x_los, x_his, x_reached, x_branchAt, x_branchSafe, x_branchKinds, x_branchLos, x_branchHis, x_packet, x_registers, x_cells, x_keyWords, x_keyTaken) (nI i) := by
  simp (disch := omega) only [wpX_checkByte, forall_eq, true_and, and_true, true_implies, not_true_eq_false, false_implies, not_false_eq_true, implies_true, and_self, nI_add, nI_1, nI_clamp, vp_in_nI, xb_10, xb_bt, xb_bf, es, k]
  refine xv_far (fun _ => br_f (by decide) H) (fun nf => br_t rfl ?_)
  rcases b with b | b | b
  · exact absurd b nf
  · simp (disch := omega) only [b, forall_eq, true_and, and_true, true_implies, not_true_eq_false, false_implies, not_false_eq_true, implies_true, and_self, nI_add, nI_1, nI_clamp, vp_in_nI, xb_10, xb_bt, xb_bf]; exact H
  · simp (disch := omega) only [b, forall_eq, true_and, and_true, true_implies, not_true_eq_false, false_implies, not_false_eq_true, implies_true, and_self, nI_add, nI_1, nI_clamp, vp_in_nI, xb_10, xb_bt, xb_bf]; exact ⟨fun _ => H, fun _ => H⟩
theorem xv_byteO {post : Int32 → SX → Prop} {i s d : Nat} (hi : i < 120) (hs : s < 16) (hd : d < 16) (es : x_sources i = nI s) (ed : x_targets i = nI d) (k : x_kinds s = 2) (b : ¬ bb_ (x_los s) (x_his s) x_safe (x_offsets i)) (H : post 0 (x_safe, x_at, x_exitLeast, x_exitMost, x_branches, x_faultPlace, x_provedLeast, x_provedMost, x_packetLength, x_executed, x_ops, x_targets, x_sources, x_offsets, x_immediates, x_lengths, upd x_kinds d 1, vp_updL x_los d 0, vp_updL x_his d 255, x_reached, x_branchAt, x_branchSafe, x_branchKinds, x_branchLos, x_branchHis, x_packet, x_registers, x_cells, x_keyWords, x_keyTaken)) : wpX_checkByte post (x_safe, x_at, x_exitLeast, x_exitMost, x_branches, x_faultPlace, x_provedLeast, x_provedMost, x_packetLength, x_executed, x_ops, x_targets, x_sources, x_offsets, x_immediates, x_lengths, x_kinds, x_los, x_his, x_reached, x_branchAt, x_branchSafe, x_branchKinds, x_branchLos, x_branchHis, x_packet, x_registers, x_cells, x_keyWords, x_keyTaken) (nI i) := by
  simp (disch := omega) only [wpX_checkByte, forall_eq, true_and, and_true, true_implies, not_true_eq_false, false_implies, not_false_eq_true, implies_true, and_self, nI_add, nI_1, nI_clamp, vp_in_nI, xb_10, xb_bt, xb_bf, es, ed, k]
  have b1 : ¬ x_los s + (x_offsets i).toInt64 < 0 := fun z => b (Or.inr (Or.inl z))
  have b2 : x_his s + (x_offsets i).toInt64 < x_safe := Classical.byContradiction fun z => b (Or.inr (Or.inr z))
  refine xv_far (fun z => absurd (Or.inl z) b) (fun nf => br_t rfl ?_)
  simp (disch := omega) only [b1, b2, forall_eq, true_and, and_true, true_implies, not_true_eq_false, false_implies, not_false_eq_true, implies_true, and_self, nI_add, nI_1, nI_clamp, vp_in_nI, xb_10, xb_bt, xb_bf, xv_know]
  exact H
theorem xv_cellK {post : Int32 → SX → Prop} {i p : Nat} (hi : i < 120) (hp : p < 16) (ep : (if x_ops i = 41 then x_targets i else x_sources i) = nI p) (k : ¬ x_kinds p = 4 ∧ ¬ x_kinds p = 5) (H : post 3 (x_safe, x_at, x_exitLeast, x_exitMost, x_branches, x_faultPlace, x_provedLeast, x_provedMost, x_packetLength, x_executed, x_ops, x_targets, x_sources, x_offsets, x_immediates, x_lengths, x_kinds, x_los, x_his, x_reached, x_branchAt, x_branchSafe, x_branchKinds, x_branchLos, x_branchHis, x_packet, x_registers, x_cells, x_keyWords, x_keyTaken)) : wpX_checkCell post (x_safe, x_at, x_exitLeast, x_exitMost, x_branches, x_faultPlace, x_provedLeast, x_provedMost, x_packetLength, x_executed, x_ops, x_targets, x_sources, x_offsets, x_immediates, x_lengths, x_kinds, x_los, x_his, x_reached, x_branchAt, x_branchSafe, x_branchKinds, x_branchLos, x_branchHis, x_packet, x_registers, x_cells, x_keyWords, x_keyTaken) (nI i) := by
  have w : wX_checkCell_26 post (nI i) (nI p) x_safe x_at x_exitLeast x_exitMost x_branches x_faultPlace x_provedLeast x_provedMost x_packetLength x_executed x_ops x_targets x_sources x_offsets x_immediates x_lengths x_kinds x_los x_his x_reached x_branchAt x_branchSafe x_branchKinds x_branchLos x_branchHis x_packet x_registers x_cells x_keyWords x_keyTaken := by
    simp (disch := omega) only [wX_checkCell_26, forall_eq, true_and, and_true, true_implies, not_true_eq_false, false_implies, not_false_eq_true, implies_true, and_self, nI_add, nI_1, nI_clamp, vp_in_nI, xb_10, xb_bt, xb_bf, k]
    exact H
  simp (disch := omega) only [wpX_checkCell, forall_eq, true_and, and_true, true_implies, not_true_eq_false, false_implies, not_false_eq_true, implies_true, and_self, nI_add, nI_1, nI_clamp, vp_in_nI, xb_10, xb_bt, xb_bf]
  by_cases z : x_ops i = 41
  · simp only [z, if_true, forall_eq, true_and, and_true, true_implies, not_true_eq_false, false_implies, not_false_eq_true, implies_true, and_self] at ep ⊢; rw [ep]; exact w
  · simp only [z, if_false, forall_eq, true_and, and_true, true_implies, not_true_eq_false, false_implies, not_false_eq_true, implies_true, and_self] at ep ⊢; rw [ep]; exact w
theorem xv_cellG {post : Int32 → SX → Prop} {i p : Nat} (hi : i < 120) (hp : p < 16) (ep : (if x_ops i = 41 then x_targets i else x_sources i) = nI p) (k : x_kinds p = 4 ∨ x_kinds p = 5) (H : wX_checkCell_64 post (nI i) (nI p) (if x_kinds p = 4 then 1 else 0) x_safe x_at x_exitLeast x_exitMost x_branches x_faultPlace x_provedLeast x_provedMost x_packetLength x_executed x_ops x_targets x_sources x_offsets x_immediates x_lengths x_kinds x_los x_his x_reached x_branchAt x_branchSafe x_branchKinds x_branchLos x_branchHis x_packet x_registers x_cells x_keyWords x_keyTaken) : wpX_checkCell post (x_safe, x_at, x_exitLeast, x_exitMost, x_branches, x_faultPlace, x_provedLeast, x_provedMost, x_packetLength, x_executed, x_ops, x_targets, x_sources, x_offsets, x_immediates, x_lengths, x_kinds, x_los, x_his, x_reached, x_branchAt, x_branchSafe, x_branchKinds, x_branchLos, x_branchHis, x_packet, x_registers, x_cells, x_keyWords, x_keyTaken) (nI i) := by
  have w : wX_checkCell_26 post (nI i) (nI p) x_safe x_at x_exitLeast x_exitMost x_branches x_faultPlace x_provedLeast x_provedMost x_packetLength x_executed x_ops x_targets x_sources x_offsets x_immediates x_lengths x_kinds x_los x_his x_reached x_branchAt x_branchSafe x_branchKinds x_branchLos x_branchHis x_packet x_registers x_cells x_keyWords x_keyTaken := by
    have y : ¬ (5 : Int32) = 4 := by decide
    simp (disch := omega) only [wX_checkCell_26, wX_checkCell_49, forall_eq, true_and, and_true, true_implies, not_true_eq_false, false_implies, not_false_eq_true, implies_true, and_self, nI_add, nI_1, nI_clamp, vp_in_nI, xb_10, xb_bt, xb_bf]
    rcases k with k | k
    · simp only [k, if_true, forall_eq, true_and, and_true, true_implies, not_true_eq_false, false_implies, not_false_eq_true, implies_true, and_self] at H ⊢; exact H
    · simp only [k, y, if_false, forall_eq, true_and, and_true, true_implies, not_true_eq_false, false_implies, not_false_eq_true, implies_true, and_self] at H ⊢; exact H
  simp (disch := omega) only [wpX_checkCell, forall_eq, true_and, and_true, true_implies, not_true_eq_false, false_implies, not_false_eq_true, implies_true, and_self, nI_add, nI_1, nI_clamp, vp_in_nI, xb_10, xb_bt, xb_bf]
  by_cases z : x_ops i = 41
  · simp only [z, if_true, forall_eq, true_and, and_true, true_implies, not_true_eq_false, false_implies, not_false_eq_true, implies_true, and_self] at ep ⊢; rw [ep]; exact w
  · simp only [z, if_false, forall_eq, true_and, and_true, true_implies, not_true_eq_false, false_implies, not_false_eq_true, implies_true, and_self] at ep ⊢; rw [ep]; exact w
theorem xv_cellB {post : Int32 → SX → Prop} {i p : Nat} (hi : i < 120) (hp : p < 16) (ep : (if x_ops i = 41 then x_targets i else x_sources i) = nI p) (k : x_kinds p = 4 ∨ x_kinds p = 5) (b : cc_ (x_kinds p) (x_los p) (x_offsets i)) (H : post 4 (x_safe, x_at, x_exitLeast, x_exitMost, x_branches, x_faultPlace, x_provedLeast, x_provedMost, x_packetLength, x_executed, x_ops, x_targets, x_sources, x_offsets, x_immediates, x_lengths, x_kinds, x_los, x_his, x_reached, x_branchAt, x_branchSafe, x_branchKinds, x_branchLos, x_branchHis, x_packet, x_registers, x_cells, x_keyWords, x_keyTaken)) : wpX_checkCell post (x_safe, x_at, x_exitLeast, x_exitMost, x_branches, x_faultPlace, x_provedLeast, x_provedMost, x_packetLength, x_executed, x_ops, x_targets, x_sources, x_offsets, x_immediates, x_lengths, x_kinds, x_los, x_his, x_reached, x_branchAt, x_branchSafe, x_branchKinds, x_branchLos, x_branchHis, x_packet, x_registers, x_cells, x_keyWords, x_keyTaken) (nI i) := by
  refine xv_cellG hi hp ep k ?_
  have e6 : (6 : Int32).toInt64 = lN 6 := by decide
  have e2 : (2 : Int32).toInt64 = lN 2 := by decide
  simp (disch := omega) only [wX_checkCell_64, forall_eq, true_and, and_true, true_implies, not_true_eq_false, false_implies, not_false_eq_true, implies_true, and_self, nI_add, nI_1, nI_clamp, vp_in_nI, xb_10, xb_bt, xb_bf]
  refine xv_far (fun _ => br_f (by decide) H) (fun nf => br_t rfl (br_c (fun _ => H) (fun n0 => ?_)))
  rcases b with b | b | b
  · exact absurd b nf
  · exact absurd b n0
  · by_cases z : x_kinds p = 4
    · simp only [z, if_true] at b ⊢
      refine br_f (by decide) (br_f (by rw [e6]; exact b) H)
    · simp only [z, if_false] at b ⊢
      refine br_t (by trivial) (br_f (by rw [e2]; exact b) H)
theorem xv_cell112 {post : Int32 → SX → Prop} {i p c : Nat} (hi : i < 120) (hp : p < 16) (ep : (if x_ops i = 41 then x_targets i else x_sources i) = nI p) (k : x_kinds p = 4 ∨ x_kinds p = 5) (b : ¬ far_ (x_offsets i)) (ec : x_los p + (x_offsets i).toInt64 = lN c) (hc : c < (if x_kinds p = 4 then 6 else 2)) (H : ∀ x6, x6 = nI (10 + c) → vp_in (nI i) 120 ∧ ((x_ops i = 41 → (((if x_kinds p = 4 then (1 : Int32) else 0) = 0 → (vp_in (nI i) 120 ∧ (wpX_checkValueStore (fun r_87 => (post r_87 (x_safe, x_at, x_exitLeast, x_exitMost, x_branches, x_faultPlace, x_provedLeast, x_provedMost, x_packetLength, x_executed, x_ops, x_targets, x_sources, x_offsets, x_immediates, x_lengths, x_kinds, x_los, x_his, x_reached, x_branchAt, x_branchSafe, x_branchKinds, x_branchLos, x_branchHis, x_packet, x_registers, x_cells, x_keyWords, x_keyTaken))) (x_safe, x_at, x_exitLeast, x_exitMost, x_branches, x_faultPlace, x_provedLeast, x_provedMost, x_packetLength, x_executed, x_ops, x_targets, x_sources, x_offsets, x_immediates, x_lengths, x_kinds, x_los, x_his, x_reached, x_branchAt, x_branchSafe, x_branchKinds, x_branchLos, x_branchHis, x_packet, x_registers, x_cells, x_keyWords, x_keyTaken) (x_sources i)))) ∧ (¬ (if x_kinds p = 4 then (1 : Int32) else 0) = 0 → (vp_in (nI i) 120 ∧ (wpX_checkStackStore post (x_safe, x_at, x_exitLeast, x_exitMost, x_branches, x_faultPlace, x_provedLeast, x_provedMost, x_packetLength, x_executed, x_ops, x_targets, x_sources, x_offsets, x_immediates, x_lengths, x_kinds, x_los, x_his, x_reached, x_branchAt, x_branchSafe, x_branchKinds, x_branchLos, x_branchHis, x_packet, x_registers, x_cells, x_keyWords, x_keyTaken) x6 (x_sources i)))))) ∧ (¬ x_ops i = 41 → (((if x_kinds p = 4 then (1 : Int32) else 0) = 0 → (vp_in (nI i) 120 ∧ (wpX_checkValueLoad post (x_safe, x_at, x_exitLeast, x_exitMost, x_branches, x_faultPlace, x_provedLeast, x_provedMost, x_packetLength, x_executed, x_ops, x_targets, x_sources, x_offsets, x_immediates, x_lengths, x_kinds, x_los, x_his, x_reached, x_branchAt, x_branchSafe, x_branchKinds, x_branchLos, x_branchHis, x_packet, x_registers, x_cells, x_keyWords, x_keyTaken) (x_targets i)))) ∧ (¬ (if x_kinds p = 4 then (1 : Int32) else 0) = 0 → (vp_in (nI i) 120 ∧ (wpX_checkStackLoad post (x_safe, x_at, x_exitLeast, x_exitMost, x_branches, x_faultPlace, x_provedLeast, x_provedMost, x_packetLength, x_executed, x_ops, x_targets, x_sources, x_offsets, x_immediates, x_lengths, x_kinds, x_los, x_his, x_reached, x_branchAt, x_branchSafe, x_branchKinds, x_branchLos, x_branchHis, x_packet, x_registers, x_cells, x_keyWords, x_keyTaken) (x_targets i) x6))))))) : wpX_checkCell post (x_safe, x_at, x_exitLeast, x_exitMost, x_branches, x_faultPlace, x_provedLeast, x_provedMost, x_packetLength, x_executed, x_ops, x_targets, x_sources, x_offsets, x_immediates, x_lengths, x_kinds, x_los, x_his, x_reached, x_branchAt, x_branchSafe, x_branchKinds, x_branchLos, x_branchHis, x_packet, x_registers, x_cells, x_keyWords, x_keyTaken) (nI i) := by
  refine xv_cellG hi hp ep k ?_
  have e6 : (6 : Int32).toInt64 = lN 6 := by decide
  have e2 : (2 : Int32).toInt64 = lN 2 := by decide
  simp (disch := omega) only [wX_checkCell_64, forall_eq, true_and, and_true, true_implies, not_true_eq_false, false_implies, not_false_eq_true, implies_true, and_self, nI_add, nI_1, nI_clamp, vp_in_nI, xb_10, xb_bt, xb_bf]
  have c6 : c < 6 := by split at hc <;> omega
  have n0 : ¬ lN c < 0 := by
    have : ¬ lN c < lN 0 := by rw [pk_lLT (by omega) (by omega)]; omega
    exact this
  refine xv_far (fun z => absurd z b) (fun nf => br_t rfl ?_)
  rw [ec]
  refine br_f n0 ?_
  have G := H (nI (10 + c)) rfl
  by_cases z : x_kinds p = 4
  · simp only [z, if_true] at hc G ⊢
    refine br_f (by decide) (br_t (by rw [e6, pk_lLT (by omega) (by omega)]; exact hc) ?_)
    refine nm_r (e' := nI (10 + c)) (by rw [lN_i, xb_add10]) ?_
    simp (disch := omega) only [forall_eq, true_and, and_true, true_implies, not_true_eq_false, false_implies, not_false_eq_true, implies_true, and_self, nI_add, nI_1, nI_clamp, vp_in_nI, xb_10, xb_bt, xb_bf] at G ⊢
    exact G
  · simp only [z, if_false] at hc G ⊢
    refine br_t (by trivial) (br_t (by rw [e2, pk_lLT (by omega) (by omega)]; exact hc) ?_)
    refine nm_r (e' := nI (10 + c)) (by rw [lN_i, xb_add10]) ?_
    simp (disch := omega) only [forall_eq, true_and, and_true, true_implies, not_true_eq_false, false_implies, not_false_eq_true, implies_true, and_self, nI_add, nI_1, nI_clamp, vp_in_nI, xb_10, xb_bt, xb_bf] at G ⊢
    exact G
theorem xv_cellSS {post : Int32 → SX → Prop} {i p c s : Nat} (hi : i < 120) (hp : p < 16) (hs : s < 16) (o : x_ops i = 41) (ep : x_targets i = nI p) (es : x_sources i = nI s) (k : x_kinds p = 4) (b : ¬ far_ (x_offsets i)) (ec : x_los p + (x_offsets i).toInt64 = lN c) (hc : c < 6) (H : post 0 (x_safe, x_at, x_exitLeast, x_exitMost, x_branches, x_faultPlace, x_provedLeast, x_provedMost, x_packetLength, x_executed, x_ops, x_targets, x_sources, x_offsets, x_immediates, x_lengths, upd x_kinds (10 + c) (x_kinds s), vp_updL x_los (10 + c) (x_los s), vp_updL x_his (10 + c) (x_his s), x_reached, x_branchAt, x_branchSafe, x_branchKinds, x_branchLos, x_branchHis, x_packet, x_registers, x_cells, x_keyWords, x_keyTaken)) : wpX_checkCell post (x_safe, x_at, x_exitLeast, x_exitMost, x_branches, x_faultPlace, x_provedLeast, x_provedMost, x_packetLength, x_executed, x_ops, x_targets, x_sources, x_offsets, x_immediates, x_lengths, x_kinds, x_los, x_his, x_reached, x_branchAt, x_branchSafe, x_branchKinds, x_branchLos, x_branchHis, x_packet, x_registers, x_cells, x_keyWords, x_keyTaken) (nI i) := by
  refine xv_cell112 hi hp (by rw [if_pos o]; exact ep) (Or.inl k) b ec (by rw [if_pos k]; exact hc) (nm_e ?_)
  have z : ¬ (1 : Int32) = 0 := by decide
  simp (disch := omega) only [forall_eq, true_and, and_true, true_implies, not_true_eq_false, false_implies, not_false_eq_true, implies_true, and_self, nI_add, nI_1, nI_clamp, vp_in_nI, xb_10, xb_bt, xb_bf, o, k, z, if_true, es, wpX_checkStackStore, xv_copy]
  exact H
theorem xv_cellVS {post : Int32 → SX → Prop} {i p c s : Nat} (hi : i < 120) (hp : p < 16) (hs : s < 16) (o : x_ops i = 41) (ep : x_targets i = nI p) (es : x_sources i = nI s) (k : x_kinds p = 5) (b : ¬ far_ (x_offsets i)) (ec : x_los p + (x_offsets i).toInt64 = lN c) (hc : c < 2) (A : x_kinds s = 1 → post 0 (x_safe, x_at, x_exitLeast, x_exitMost, x_branches, x_faultPlace, x_provedLeast, x_provedMost, x_packetLength, x_executed, x_ops, x_targets, x_sources, x_offsets, x_immediates, x_lengths, x_kinds, x_los, x_his, x_reached, x_branchAt, x_branchSafe, x_branchKinds, x_branchLos, x_branchHis, x_packet, x_registers, x_cells, x_keyWords, x_keyTaken)) (B : ¬ x_kinds s = 1 → post 3 (x_safe, x_at, x_exitLeast, x_exitMost, x_branches, x_faultPlace, x_provedLeast, x_provedMost, x_packetLength, x_executed, x_ops, x_targets, x_sources, x_offsets, x_immediates, x_lengths, x_kinds, x_los, x_his, x_reached, x_branchAt, x_branchSafe, x_branchKinds, x_branchLos, x_branchHis, x_packet, x_registers, x_cells, x_keyWords, x_keyTaken)) : wpX_checkCell post (x_safe, x_at, x_exitLeast, x_exitMost, x_branches, x_faultPlace, x_provedLeast, x_provedMost, x_packetLength, x_executed, x_ops, x_targets, x_sources, x_offsets, x_immediates, x_lengths, x_kinds, x_los, x_his, x_reached, x_branchAt, x_branchSafe, x_branchKinds, x_branchLos, x_branchHis, x_packet, x_registers, x_cells, x_keyWords, x_keyTaken) (nI i) := by
  have y : ¬ (5 : Int32) = 4 := by decide
  refine xv_cell112 hi hp (by rw [if_pos o]; exact ep) (Or.inr k) b ec (by rw [k, if_neg y]; exact hc) (nm_e ?_)
  simp (disch := omega) only [forall_eq, true_and, and_true, true_implies, not_true_eq_false, false_implies, not_false_eq_true, implies_true, and_self, nI_add, nI_1, nI_clamp, vp_in_nI, xb_10, xb_bt, xb_bf, o, k, y, if_false, es, wpX_checkValueStore]
  exact ⟨A, B⟩
theorem xv_cellSL {post : Int32 → SX → Prop} {i p c d : Nat} (hi : i < 120) (hp : p < 16) (hd : d < 16) (o : ¬ x_ops i = 41) (ep : x_sources i = nI p) (ed : x_targets i = nI d) (k : x_kinds p = 4) (b : ¬ far_ (x_offsets i)) (ec : x_los p + (x_offsets i).toInt64 = lN c) (hc : c < 6) (A : x_kinds (10 + c) = 0 → post 2 (x_safe, x_at, x_exitLeast, x_exitMost, x_branches, x_faultPlace, x_provedLeast, x_provedMost, x_packetLength, x_executed, x_ops, x_targets, x_sources, x_offsets, x_immediates, x_lengths, x_kinds, x_los, x_his, x_reached, x_branchAt, x_branchSafe, x_branchKinds, x_branchLos, x_branchHis, x_packet, x_registers, x_cells, x_keyWords, x_keyTaken)) (B : ¬ x_kinds (10 + c) = 0 → post 0 (x_safe, x_at, x_exitLeast, x_exitMost, x_branches, x_faultPlace, x_provedLeast, x_provedMost, x_packetLength, x_executed, x_ops, x_targets, x_sources, x_offsets, x_immediates, x_lengths, upd x_kinds d (x_kinds (10 + c)), vp_updL x_los d (x_los (10 + c)), vp_updL x_his d (x_his (10 + c)), x_reached, x_branchAt, x_branchSafe, x_branchKinds, x_branchLos, x_branchHis, x_packet, x_registers, x_cells, x_keyWords, x_keyTaken)) : wpX_checkCell post (x_safe, x_at, x_exitLeast, x_exitMost, x_branches, x_faultPlace, x_provedLeast, x_provedMost, x_packetLength, x_executed, x_ops, x_targets, x_sources, x_offsets, x_immediates, x_lengths, x_kinds, x_los, x_his, x_reached, x_branchAt, x_branchSafe, x_branchKinds, x_branchLos, x_branchHis, x_packet, x_registers, x_cells, x_keyWords, x_keyTaken) (nI i) := by
  refine xv_cell112 hi hp (by rw [if_neg o]; exact ep) (Or.inl k) b ec (by rw [if_pos k]; exact hc) (nm_e ?_)
  have z : ¬ (1 : Int32) = 0 := by decide
  simp (disch := omega) only [forall_eq, true_and, and_true, true_implies, not_true_eq_false, false_implies, not_false_eq_true, implies_true, and_self, nI_add, nI_1, nI_clamp, vp_in_nI, xb_10, xb_bt, xb_bf, o, k, z, if_true, ed, wpX_checkStackLoad, xv_copy]
  exact ⟨A, B⟩
theorem xv_cellVL {post : Int32 → SX → Prop} {i p c d : Nat} (hi : i < 120) (hp : p < 16) (hd : d < 16) (o : ¬ x_ops i = 41) (ep : x_sources i = nI p) (ed : x_targets i = nI d) (k : x_kinds p = 5) (b : ¬ far_ (x_offsets i)) (ec : x_los p + (x_offsets i).toInt64 = lN c) (hc : c < 2) (H : post 0 (x_safe, x_at, x_exitLeast, x_exitMost, x_branches, x_faultPlace, x_provedLeast, x_provedMost, x_packetLength, x_executed, x_ops, x_targets, x_sources, x_offsets, x_immediates, x_lengths, upd x_kinds d 1, vp_updL x_los d 0, vp_updL x_his d 4294967295, x_reached, x_branchAt, x_branchSafe, x_branchKinds, x_branchLos, x_branchHis, x_packet, x_registers, x_cells, x_keyWords, x_keyTaken)) : wpX_checkCell post (x_safe, x_at, x_exitLeast, x_exitMost, x_branches, x_faultPlace, x_provedLeast, x_provedMost, x_packetLength, x_executed, x_ops, x_targets, x_sources, x_offsets, x_immediates, x_lengths, x_kinds, x_los, x_his, x_reached, x_branchAt, x_branchSafe, x_branchKinds, x_branchLos, x_branchHis, x_packet, x_registers, x_cells, x_keyWords, x_keyTaken) (nI i) := by
  have y : ¬ (5 : Int32) = 4 := by decide
  refine xv_cell112 hi hp (by rw [if_neg o]; exact ep) (Or.inr k) b ec (by rw [k, if_neg y]; exact hc) (nm_e ?_)
  simp (disch := omega) only [forall_eq, true_and, and_true, true_implies, not_true_eq_false, false_implies, not_false_eq_true, implies_true, and_self, nI_add, nI_1, nI_clamp, vp_in_nI, xb_10, xb_bt, xb_bf, o, k, y, if_false, ed, wpX_checkValueLoad, xv_know]
  exact H
theorem xv_mapL {post : Int32 → SX → Prop} {o : Int32} (H : post 0 (x_safe, x_at, x_exitLeast, x_exitMost, x_branches, x_faultPlace, x_provedLeast, x_provedMost, x_packetLength, x_executed, x_ops, x_targets, x_sources, x_offsets, x_immediates, x_lengths, upd (mK_ x_kinds 16) 0 (if o = 50 then 6 else 1), vp_updL (mL_ x_kinds x_los 16) 0 0, vp_updL (mL_ x_kinds x_his 16) 0 (if o = 50 then 0 else 1), x_reached, x_branchAt, x_branchSafe, x_branchKinds, x_branchLos, x_branchHis, x_packet, x_registers, x_cells, x_keyWords, x_keyTaken)) : ∀ d m : Nat, m + d = 16 → wX_checkMapCall_42 post o (d + 1) (nI m) x_safe x_at x_exitLeast x_exitMost x_branches x_faultPlace x_provedLeast x_provedMost x_packetLength x_executed x_ops x_targets x_sources x_offsets x_immediates x_lengths (mK_ x_kinds m) (mL_ x_kinds x_los m) (mL_ x_kinds x_his m) x_reached x_branchAt x_branchSafe x_branchKinds x_branchLos x_branchHis x_packet x_registers x_cells x_keyWords x_keyTaken := by
  intro d
  induction d with
  | zero =>
    intro m hm
    have e : m = 16 := by omega
    subst e
    refine br_t (by decide) ?_
    by_cases z : o = 50
    · simp only [z, if_true] at H
      exact br_t z (xv_know0.mpr H)
    · simp only [z, if_false] at H
      exact br_f z (xv_know0.mpr H)
  | succ d ih =>
    intro m hm
    have h1 : vp_in (nI m) 16 := vp_in_nI (by omega) (by decide)
    have c1 : (nI m).toNatClampNeg = m := nI_clamp (by omega)
    refine br_f (by rw [xb_le16 (by omega)]; omega) ?_
    have go : wi_ x_kinds (m + 1) m → wX_checkMapCall_89 post (wX_checkMapCall_42 post o (d + 1)) o (nI m) x_safe x_at x_exitLeast x_exitMost x_branches x_faultPlace x_provedLeast x_provedMost x_packetLength x_executed x_ops x_targets x_sources x_offsets x_immediates x_lengths (mK_ x_kinds m) (mL_ x_kinds x_los m) (mL_ x_kinds x_his m) x_reached x_branchAt x_branchSafe x_branchKinds x_branchLos x_branchHis x_packet x_registers x_cells x_keyWords x_keyTaken := by
      intro w
      unfold wX_checkMapCall_89
      refine (xv_know (by omega)).mpr ?_
      rw [mK_t w, mL_t w, mL_t w]
      exact nm_r (nI_1 m) (ih (m + 1) (by omega))
    have no : ¬ wi_ x_kinds (m + 1) m → wX_checkMapCall_42 post o (d + 1) (nI (m + 1)) x_safe x_at x_exitLeast x_exitMost x_branches x_faultPlace x_provedLeast x_provedMost x_packetLength x_executed x_ops x_targets x_sources x_offsets x_immediates x_lengths (mK_ x_kinds m) (mL_ x_kinds x_los m) (mL_ x_kinds x_his m) x_reached x_branchAt x_branchSafe x_branchKinds x_branchLos x_branchHis x_packet x_registers x_cells x_keyWords x_keyTaken := by
      intro w
      rw [mK_f w, mL_f w, mL_f w]
      exact ih (m + 1) (by omega)
    have w62 : ¬ (1 ≤ m ∧ m ≤ 5) → wX_checkMapCall_62 post (wX_checkMapCall_42 post o (d + 1)) o (nI m) x_safe x_at x_exitLeast x_exitMost x_branches x_faultPlace x_provedLeast x_provedMost x_packetLength x_executed x_ops x_targets x_sources x_offsets x_immediates x_lengths (mK_ x_kinds m) (mL_ x_kinds x_los m) (mL_ x_kinds x_his m) x_reached x_branchAt x_branchSafe x_branchKinds x_branchLos x_branchHis x_packet x_registers x_cells x_keyWords x_keyTaken := by
      intro z
      unfold wX_checkMapCall_62 wX_checkMapCall_63
      refine br_t rfl ⟨h1, br_c (fun a => ?_) (fun a => ⟨h1, br_c (fun b => ?_) (fun b => ?_)⟩)⟩
      · rw [c1, mK_at] at a
        exact go ⟨by omega, Or.inr (Or.inl a)⟩
      · rw [c1, mK_at] at b
        exact go ⟨by omega, Or.inr (Or.inr b)⟩
      · rw [c1, mK_at] at a b
        refine nm_r (nI_1 m) (no ?_)
        rintro ⟨-, y | y | y⟩
        · exact z y
        · exact a y
        · exact b y
    refine br_c (fun a => w62 ?_) (fun a => br_c (fun b => w62 ?_) (fun b => ?_))
    · rw [xb_lt1 (by omega)] at a; omega
    · rw [xb_gt5 (by omega)] at b; omega
    · rw [xb_lt1 (by omega)] at a
      rw [xb_gt5 (by omega)] at b
      unfold wX_checkMapCall_63
      exact br_f (by decide) (go ⟨by omega, Or.inl (by omega)⟩)
theorem xv_map {post : Int32 → SX → Prop} {o : Int32} (k1 : x_kinds 1 = 1) (k2 : o = 51 → x_kinds 2 = 1 ∧ x_kinds 3 = 1) (H : post 0 (x_safe, x_at, x_exitLeast, x_exitMost, x_branches, x_faultPlace, x_provedLeast, x_provedMost, x_packetLength, x_executed, x_ops, x_targets, x_sources, x_offsets, x_immediates, x_lengths, upd (mK_ x_kinds 16) 0 (if o = 50 then 6 else 1), vp_updL (mL_ x_kinds x_los 16) 0 0, vp_updL (mL_ x_kinds x_his 16) 0 (if o = 50 then 0 else 1), x_reached, x_branchAt, x_branchSafe, x_branchKinds, x_branchLos, x_branchHis, x_packet, x_registers, x_cells, x_keyWords, x_keyTaken)) : wpX_checkMapCall post (x_safe, x_at, x_exitLeast, x_exitMost, x_branches, x_faultPlace, x_provedLeast, x_provedMost, x_packetLength, x_executed, x_ops, x_targets, x_sources, x_offsets, x_immediates, x_lengths, x_kinds, x_los, x_his, x_reached, x_branchAt, x_branchSafe, x_branchKinds, x_branchLos, x_branchHis, x_packet, x_registers, x_cells, x_keyWords, x_keyTaken) o := by
  have w : ∃ n42 : Nat, wX_checkMapCall_42 post o n42 0 x_safe x_at x_exitLeast x_exitMost x_branches x_faultPlace x_provedLeast x_provedMost x_packetLength x_executed x_ops x_targets x_sources x_offsets x_immediates x_lengths x_kinds x_los x_his x_reached x_branchAt x_branchSafe x_branchKinds x_branchLos x_branchHis x_packet x_registers x_cells x_keyWords x_keyTaken := by
    refine ⟨17, ?_⟩
    have := xv_mapL H 16 0 rfl
    rw [mK_0, mL_0, mL_0] at this
    exact this
  refine br_t k1 (br_c (fun z => br_t (k2 z).1 (br_t (k2 z).2 w)) (fun z => w))
theorem xv_mapK {post : Int32 → SX → Prop} {o : Int32} (k : ¬ (x_kinds 1 = 1 ∧ (o = 51 → x_kinds 2 = 1 ∧ x_kinds 3 = 1))) (H : post 3 (x_safe, x_at, x_exitLeast, x_exitMost, x_branches, x_faultPlace, x_provedLeast, x_provedMost, x_packetLength, x_executed, x_ops, x_targets, x_sources, x_offsets, x_immediates, x_lengths, x_kinds, x_los, x_his, x_reached, x_branchAt, x_branchSafe, x_branchKinds, x_branchLos, x_branchHis, x_packet, x_registers, x_cells, x_keyWords, x_keyTaken)) : wpX_checkMapCall post (x_safe, x_at, x_exitLeast, x_exitMost, x_branches, x_faultPlace, x_provedLeast, x_provedMost, x_packetLength, x_executed, x_ops, x_targets, x_sources, x_offsets, x_immediates, x_lengths, x_kinds, x_los, x_his, x_reached, x_branchAt, x_branchSafe, x_branchKinds, x_branchLos, x_branchHis, x_packet, x_registers, x_cells, x_keyWords, x_keyTaken) o := by
  by_cases a : x_kinds 1 = 1
  · by_cases b : o = 51
    · by_cases c : x_kinds 2 = 1
      · by_cases d : x_kinds 3 = 1
        · exact absurd ⟨a, fun _ => ⟨c, d⟩⟩ k
        · exact br_t a (br_t b (br_t c (br_f d H)))
      · exact br_t a (br_t b (br_f c H))
    · exact absurd ⟨a, fun z => absurd z b⟩ k
  · exact br_f a H
theorem xv_exit {post : Int32 → SX → Prop} (k : x_kinds 0 = 1) (H : post 0 (x_safe, x_at, if x_exitLeast ≤ x_los 0 then x_exitLeast else x_los 0, if x_his 0 ≤ x_exitMost then x_exitMost else x_his 0, x_branches, x_faultPlace, x_provedLeast, x_provedMost, x_packetLength, x_executed, x_ops, x_targets, x_sources, x_offsets, x_immediates, x_lengths, x_kinds, x_los, x_his, x_reached, x_branchAt, x_branchSafe, x_branchKinds, x_branchLos, x_branchHis, x_packet, x_registers, x_cells, x_keyWords, x_keyTaken)) : wpX_checkExit post (x_safe, x_at, x_exitLeast, x_exitMost, x_branches, x_faultPlace, x_provedLeast, x_provedMost, x_packetLength, x_executed, x_ops, x_targets, x_sources, x_offsets, x_immediates, x_lengths, x_kinds, x_los, x_his, x_reached, x_branchAt, x_branchSafe, x_branchKinds, x_branchLos, x_branchHis, x_packet, x_registers, x_cells, x_keyWords, x_keyTaken) := by
  refine br_t k ?_
  by_cases z : x_exitLeast ≤ x_los 0
  · by_cases y : x_his 0 ≤ x_exitMost
    · simp only [z, y, if_true] at H
      exact br_t z (br_t y H)
    · simp only [z, y, if_true, if_false] at H
      exact br_t z (br_f y (nm_e H))
  · by_cases y : x_his 0 ≤ x_exitMost
    · simp only [z, y, if_true, if_false] at H
      exact br_f z (br_t y H)
    · simp only [z, y, if_false] at H
      exact br_f z (br_f y (nm_e H))
theorem xv_exitK {post : Int32 → SX → Prop} (k : ¬ x_kinds 0 = 1) (H : post 3 (x_safe, x_at, x_exitLeast, x_exitMost, x_branches, x_faultPlace, x_provedLeast, x_provedMost, x_packetLength, x_executed, x_ops, x_targets, x_sources, x_offsets, x_immediates, x_lengths, x_kinds, x_los, x_his, x_reached, x_branchAt, x_branchSafe, x_branchKinds, x_branchLos, x_branchHis, x_packet, x_registers, x_cells, x_keyWords, x_keyTaken)) : wpX_checkExit post (x_safe, x_at, x_exitLeast, x_exitMost, x_branches, x_faultPlace, x_provedLeast, x_provedMost, x_packetLength, x_executed, x_ops, x_targets, x_sources, x_offsets, x_immediates, x_lengths, x_kinds, x_los, x_his, x_reached, x_branchAt, x_branchSafe, x_branchKinds, x_branchLos, x_branchHis, x_packet, x_registers, x_cells, x_keyWords, x_keyTaken) := br_f k H
end
end
section
section
variable {x_safe : Int64} {x_at : Int32} {x_exitLeast : Int64} {x_exitMost : Int64} {x_branches : Int32} {x_faultPlace : Int32} {x_provedLeast : Int64} {x_provedMost : Int64} {x_packetLength : Int32} {x_executed : Int32} {x_ops : Nat → Int32} {x_targets : Nat → Int32} {x_sources : Nat → Int32} {x_offsets : Nat → Int32} {x_immediates : Nat → Int32} {x_lengths : Nat → Int32} {x_kinds : Nat → Int32} {x_los : Nat → Int64} {x_his : Nat → Int64} {x_reached : Nat → Int32} {x_branchAt : Nat → Int32} {x_branchSafe : Nat → Int64} {x_branchKinds : Nat → Int32} {x_branchLos : Nat → Int64} {x_branchHis : Nat → Int64} {x_packet : Nat → Int32} {x_registers : Nat → Int64} {x_cells : Nat → Int64} {x_keyWords : Nat → Int64} {x_keyTaken : Nat → Int32}
/-- checkJump, a leaf each -/
theorem xv_jA {post : Int32 → SX → Prop} {i n a f : Nat} {q : Int32} (hi : i < 120) (hn : n ≤ 40) (ha : a < 1000) (hf : f < 2 ^ 31) (hl : x_lengths 2 = nI n) (ho : x_offsets i = nI f) (o : x_ops i = 20) (H : post 0 (x_safe, nI (gl_ n a f), x_exitLeast, x_exitMost, x_branches, x_faultPlace, x_provedLeast, x_provedMost, x_packetLength, x_executed, x_ops, x_targets, x_sources, x_offsets, x_immediates, x_lengths, x_kinds, x_los, x_his, x_reached, x_branchAt, x_branchSafe, x_branchKinds, x_branchLos, x_branchHis, x_packet, x_registers, x_cells, x_keyWords, x_keyTaken)) : wpX_checkJump post (x_safe, nI a, x_exitLeast, x_exitMost, x_branches, x_faultPlace, x_provedLeast, x_provedMost, x_packetLength, x_executed, x_ops, x_targets, x_sources, x_offsets, x_immediates, x_lengths, x_kinds, x_los, x_his, x_reached, x_branchAt, x_branchSafe, x_branchKinds, x_branchLos, x_branchHis, x_packet, x_registers, x_cells, x_keyWords, x_keyTaken) (nI i) q := by
  have g : wpX_goalOfJump (fun r => post 0 (x_safe, r, x_exitLeast, x_exitMost, x_branches, x_faultPlace, x_provedLeast, x_provedMost, x_packetLength, x_executed, x_ops, x_targets, x_sources, x_offsets, x_immediates, x_lengths, x_kinds, x_los, x_his, x_reached, x_branchAt, x_branchSafe, x_branchKinds, x_branchLos, x_branchHis, x_packet, x_registers, x_cells, x_keyWords, x_keyTaken)) (x_safe, nI a, x_exitLeast, x_exitMost, x_branches, x_faultPlace, x_provedLeast, x_provedMost, x_packetLength, x_executed, x_ops, x_targets, x_sources, x_offsets, x_immediates, x_lengths, x_kinds, x_los, x_his, x_reached, x_branchAt, x_branchSafe, x_branchKinds, x_branchLos, x_branchHis, x_packet, x_registers, x_cells, x_keyWords, x_keyTaken) (nI i) := (xv_goal hi hn ha hf hl ho).mpr H
  simp (disch := omega) only [wpX_checkJump, forall_eq, true_and, and_true, true_implies, not_true_eq_false, false_implies, not_false_eq_true, implies_true, and_self, nI_add, nI_1, nI_clamp, vp_in_nI, xb_10, xb_bt, xb_bf, o]
  exact g
theorem xv_jG {post : Int32 → SX → Prop} {i d q f : Nat} (hi : i < 120) (h1 : 1 ≤ f) (h4 : f ≤ 4) (hd : d < 16) (hq : q < 16) (o : ¬ x_ops i = 20) (ef : x_ops i - x_ops i / 10 * 10 = nI f) (ed : x_targets i = nI d) (hk : k7_ (x_kinds d)) (A : ¬ cm_ f (x_kinds d) (x_kinds q) (x_his q) → post 3 (x_safe, x_at, x_exitLeast, x_exitMost, x_branches, x_faultPlace, x_provedLeast, x_provedMost, x_packetLength, x_executed, x_ops, x_targets, x_sources, x_offsets, x_immediates, x_lengths, x_kinds, x_los, x_his, x_reached, x_branchAt, x_branchSafe, x_branchKinds, x_branchLos, x_branchHis, x_packet, x_registers, x_cells, x_keyWords, x_keyTaken)) (B : cm_ f (x_kinds d) (x_kinds q) (x_his q) → wpX_mayHold (fun r_41 => (wpX_mayHold (fun r_72 => (((r_72 = 0 → (wpX_goalOfJump (fun r_168 => (post 0 (x_safe, r_168, x_exitLeast, x_exitMost, x_branches, x_faultPlace, x_provedLeast, x_provedMost, x_packetLength, x_executed, x_ops, x_targets, x_sources, x_offsets, x_immediates, x_lengths, x_kinds, x_los, x_his, x_reached, x_branchAt, x_branchSafe, x_branchKinds, x_branchLos, x_branchHis, x_packet, x_registers, x_cells, x_keyWords, x_keyTaken))) (x_safe, x_at, x_exitLeast, x_exitMost, x_branches, x_faultPlace, x_provedLeast, x_provedMost, x_packetLength, x_executed, x_ops, x_targets, x_sources, x_offsets, x_immediates, x_lengths, x_kinds, x_los, x_his, x_reached, x_branchAt, x_branchSafe, x_branchKinds, x_branchLos, x_branchHis, x_packet, x_registers, x_cells, x_keyWords, x_keyTaken) (nI i))) ∧ (¬ r_72 = 0 → (((r_41 = 0 → (wX_checkJump_114 post x_safe x_at x_exitLeast x_exitMost x_branches x_faultPlace x_provedLeast x_provedMost x_packetLength x_executed x_ops x_targets x_sources x_offsets x_immediates x_lengths x_kinds x_los x_his x_reached x_branchAt x_branchSafe x_branchKinds x_branchLos x_branchHis x_packet x_registers x_cells x_keyWords x_keyTaken)) ∧ (¬ r_41 = 0 → (wpX_saveBranch (fun u => wpX_learn (fun u => match u with | (x_safe, x_at, x_exitLeast, x_exitMost, x_branches, x_faultPlace, x_provedLeast, x_provedMost, x_packetLength, x_executed, x_ops, x_targets, x_sources, x_offsets, x_immediates, x_lengths, x_kinds, x_los, x_his, x_reached, x_branchAt, x_branchSafe, x_branchKinds, x_branchLos, x_branchHis, x_packet, x_registers, x_cells, x_keyWords, x_keyTaken) => (wX_checkJump_114 post x_safe x_at x_exitLeast x_exitMost x_branches x_faultPlace x_provedLeast x_provedMost x_packetLength x_executed x_ops x_targets x_sources x_offsets x_immediates x_lengths x_kinds x_los x_his x_reached x_branchAt x_branchSafe x_branchKinds x_branchLos x_branchHis x_packet x_registers x_cells x_keyWords x_keyTaken)) u (nI (op_ f)) (nI d) (nI q)) (x_safe, x_at, x_exitLeast, x_exitMost, x_branches, x_faultPlace, x_provedLeast, x_provedMost, x_packetLength, x_executed, x_ops, x_targets, x_sources, x_offsets, x_immediates, x_lengths, x_kinds, x_los, x_his, x_reached, x_branchAt, x_branchSafe, x_branchKinds, x_branchLos, x_branchHis, x_packet, x_registers, x_cells, x_keyWords, x_keyTaken))))))))) (x_safe, x_at, x_exitLeast, x_exitMost, x_branches, x_faultPlace, x_provedLeast, x_provedMost, x_packetLength, x_executed, x_ops, x_targets, x_sources, x_offsets, x_immediates, x_lengths, x_kinds, x_los, x_his, x_reached, x_branchAt, x_branchSafe, x_branchKinds, x_branchLos, x_branchHis, x_packet, x_registers, x_cells, x_keyWords, x_keyTaken) (nI (op_ f)) (nI d) (nI q))) (x_safe, x_at, x_exitLeast, x_exitMost, x_branches, x_faultPlace, x_provedLeast, x_provedMost, x_packetLength, x_executed, x_ops, x_targets, x_sources, x_offsets, x_immediates, x_lengths, x_kinds, x_los, x_his, x_reached, x_branchAt, x_branchSafe, x_branchKinds, x_branchLos, x_branchHis, x_packet, x_registers, x_cells, x_keyWords, x_keyTaken) (nI f) (nI d) (nI q)) : wpX_checkJump post (x_safe, x_at, x_exitLeast, x_exitMost, x_branches, x_faultPlace, x_provedLeast, x_provedMost, x_packetLength, x_executed, x_ops, x_targets, x_sources, x_offsets, x_immediates, x_lengths, x_kinds, x_los, x_his, x_reached, x_branchAt, x_branchSafe, x_branchKinds, x_branchLos, x_branchHis, x_packet, x_registers, x_cells, x_keyWords, x_keyTaken) (nI i) (nI q) := by
  simp (disch := omega) only [wpX_checkJump, forall_eq, true_and, and_true, true_implies, not_true_eq_false, false_implies, not_false_eq_true, implies_true, and_self, nI_add, nI_1, nI_clamp, vp_in_nI, xb_10, xb_bt, xb_bf, o, ef, ed]
  refine xv_cmp h1 h4 hd hq hk (fun c => br_f (by decide) ?_) (fun c => br_t rfl (A c))
  refine (xv_opp h1 h4).mpr ?_
  exact B c
theorem op_r {f : Nat} (h1 : 1 ≤ f) (h4 : f ≤ 4) : 1 ≤ op_ f ∧ op_ f ≤ 4 := by
  unfold op_; split
  · omega
  · split
    · omega
    · split <;> omega
theorem xv_jK {post : Int32 → SX → Prop} {i d q f : Nat} (hi : i < 120) (h1 : 1 ≤ f) (h4 : f ≤ 4) (hd : d < 16) (hq : q < 16) (o : ¬ x_ops i = 20) (ef : x_ops i - x_ops i / 10 * 10 = nI f) (ed : x_targets i = nI d) (hk : k7_ (x_kinds d)) (c : ¬ cm_ f (x_kinds d) (x_kinds q) (x_his q)) (H : post 3 (x_safe, x_at, x_exitLeast, x_exitMost, x_branches, x_faultPlace, x_provedLeast, x_provedMost, x_packetLength, x_executed, x_ops, x_targets, x_sources, x_offsets, x_immediates, x_lengths, x_kinds, x_los, x_his, x_reached, x_branchAt, x_branchSafe, x_branchKinds, x_branchLos, x_branchHis, x_packet, x_registers, x_cells, x_keyWords, x_keyTaken)) : wpX_checkJump post (x_safe, x_at, x_exitLeast, x_exitMost, x_branches, x_faultPlace, x_provedLeast, x_provedMost, x_packetLength, x_executed, x_ops, x_targets, x_sources, x_offsets, x_immediates, x_lengths, x_kinds, x_los, x_his, x_reached, x_branchAt, x_branchSafe, x_branchKinds, x_branchLos, x_branchHis, x_packet, x_registers, x_cells, x_keyWords, x_keyTaken) (nI i) (nI q) :=
  xv_jG hi h1 h4 hd hq o ef ed hk (fun _ => H) (fun z => absurd z c)
/-- may relation f hold between the slots d and q -/
def my_ (f d q : Nat) (K : Nat → Int32) (L H : Nat → Int64) : Prop := K d = 1 → mh_ f (L d) (H d) (L q) (H q)
theorem xv_may {post : Int32 → Prop} {f d q : Nat} (h1 : 1 ≤ f) (h4 : f ≤ 4) (hd : d < 16) (hq : q < 16) (A : my_ f d q x_kinds x_los x_his → post 1) (B : ¬ my_ f d q x_kinds x_los x_his → post 0) : wpX_mayHold post (x_safe, x_at, x_exitLeast, x_exitMost, x_branches, x_faultPlace, x_provedLeast, x_provedMost, x_packetLength, x_executed, x_ops, x_targets, x_sources, x_offsets, x_immediates, x_lengths, x_kinds, x_los, x_his, x_reached, x_branchAt, x_branchSafe, x_branchKinds, x_branchLos, x_branchHis, x_packet, x_registers, x_cells, x_keyWords, x_keyTaken) (nI f) (nI d) (nI q) := by
  by_cases k : x_kinds d = 1
  · exact xv_mayS h1 h4 hd hq k (fun z => A (fun _ => z)) (fun z => B (fun y => z (y k)))
  · exact (xv_mayN hd k).mpr (A (fun z => absurd z k))
theorem xv_jO {post : Int32 → SX → Prop} {i d q f n a g : Nat} (hi : i < 120) (h1 : 1 ≤ f) (h4 : f ≤ 4) (hd : d < 16) (hq : q < 16) (hn : n ≤ 40) (ha : a < 1000) (hg : g < 2 ^ 31) (hl : x_lengths 2 = nI n) (hof : x_offsets i = nI g) (o : ¬ x_ops i = 20) (ef : x_ops i - x_ops i / 10 * 10 = nI f) (ed : x_targets i = nI d) (hk : k7_ (x_kinds d)) (c : cm_ f (x_kinds d) (x_kinds q) (x_his q)) (m : ¬ my_ (op_ f) d q x_kinds x_los x_his) (H : post 0 (x_safe, nI (gl_ n a g), x_exitLeast, x_exitMost, x_branches, x_faultPlace, x_provedLeast, x_provedMost, x_packetLength, x_executed, x_ops, x_targets, x_sources, x_offsets, x_immediates, x_lengths, x_kinds, x_los, x_his, x_reached, x_branchAt, x_branchSafe, x_branchKinds, x_branchLos, x_branchHis, x_packet, x_registers, x_cells, x_keyWords, x_keyTaken)) : wpX_checkJump post (x_safe, nI a, x_exitLeast, x_exitMost, x_branches, x_faultPlace, x_provedLeast, x_provedMost, x_packetLength, x_executed, x_ops, x_targets, x_sources, x_offsets, x_immediates, x_lengths, x_kinds, x_los, x_his, x_reached, x_branchAt, x_branchSafe, x_branchKinds, x_branchLos, x_branchHis, x_packet, x_registers, x_cells, x_keyWords, x_keyTaken) (nI i) (nI q) := by
  have G : wpX_goalOfJump (fun r => post 0 (x_safe, r, x_exitLeast, x_exitMost, x_branches, x_faultPlace, x_provedLeast, x_provedMost, x_packetLength, x_executed, x_ops, x_targets, x_sources, x_offsets, x_immediates, x_lengths, x_kinds, x_los, x_his, x_reached, x_branchAt, x_branchSafe, x_branchKinds, x_branchLos, x_branchHis, x_packet, x_registers, x_cells, x_keyWords, x_keyTaken)) (x_safe, nI a, x_exitLeast, x_exitMost, x_branches, x_faultPlace, x_provedLeast, x_provedMost, x_packetLength, x_executed, x_ops, x_targets, x_sources, x_offsets, x_immediates, x_lengths, x_kinds, x_los, x_his, x_reached, x_branchAt, x_branchSafe, x_branchKinds, x_branchLos, x_branchHis, x_packet, x_registers, x_cells, x_keyWords, x_keyTaken) (nI i) := (xv_goal hi hn ha hg hl hof).mpr H
  obtain ⟨o1, o4⟩ := op_r h1 h4
  refine xv_jG hi h1 h4 hd hq o ef ed hk (fun z => absurd c z) (fun _ => ?_)
  refine xv_may h1 h4 hd hq (fun _ => ?_) (fun _ => ?_)
  · exact xv_may o1 o4 hd hq (fun z => absurd z m) (fun _ => br_t rfl G)
  · exact xv_may o1 o4 hd hq (fun z => absurd z m) (fun _ => br_t rfl G)
theorem xv_jP {post : Int32 → SX → Prop} {i d q f a : Nat} (hi : i < 120) (h1 : 1 ≤ f) (h4 : f ≤ 4) (hd : d < 16) (hq : q < 16) (o : ¬ x_ops i = 20) (ef : x_ops i - x_ops i / 10 * 10 = nI f) (ed : x_targets i = nI d) (hk : k7_ (x_kinds d)) (c : cm_ f (x_kinds d) (x_kinds q) (x_his q)) (m : my_ (op_ f) d q x_kinds x_los x_his) (m2 : ¬ my_ f d q x_kinds x_los x_his) (H : post 0 (x_safe, nI (a + 1), x_exitLeast, x_exitMost, x_branches, x_faultPlace, x_provedLeast, x_provedMost, x_packetLength, x_executed, x_ops, x_targets, x_sources, x_offsets, x_immediates, x_lengths, x_kinds, x_los, x_his, x_reached, x_branchAt, x_branchSafe, x_branchKinds, x_branchLos, x_branchHis, x_packet, x_registers, x_cells, x_keyWords, x_keyTaken)) : wpX_checkJump post (x_safe, nI a, x_exitLeast, x_exitMost, x_branches, x_faultPlace, x_provedLeast, x_provedMost, x_packetLength, x_executed, x_ops, x_targets, x_sources, x_offsets, x_immediates, x_lengths, x_kinds, x_los, x_his, x_reached, x_branchAt, x_branchSafe, x_branchKinds, x_branchLos, x_branchHis, x_packet, x_registers, x_cells, x_keyWords, x_keyTaken) (nI i) (nI q) := by
  obtain ⟨o1, o4⟩ := op_r h1 h4
  refine xv_jG hi h1 h4 hd hq o ef ed hk (fun z => absurd c z) (fun _ => ?_)
  refine xv_may h1 h4 hd hq (fun z => absurd z m2) (fun _ => ?_)
  refine xv_may o1 o4 hd hq (fun _ => br_f (by decide) (br_t rfl ?_)) (fun z => absurd m z)
  exact nm_r (nI_1 a) H
theorem xv_jB {post : Int32 → SX → Prop} {i d q f a b : Nat} (hi : i < 120) (h1 : 1 ≤ f) (h4 : f ≤ 4) (hd : d < 16) (hq : q < 16) (hb : b < 10) (o : ¬ x_ops i = 20) (ef : x_ops i - x_ops i / 10 * 10 = nI f) (ed : x_targets i = nI d) (hk : k7_ (x_kinds d)) (c : cm_ f (x_kinds d) (x_kinds q) (x_his q)) (m : my_ (op_ f) d q x_kinds x_los x_his) (m2 : my_ f d q x_kinds x_los x_his) (H : post 0 (ln_S (op_ f) d q x_kinds x_los x_safe, nI (a + 1), x_exitLeast, x_exitMost, nI (b + 1), x_faultPlace, x_provedLeast, x_provedMost, x_packetLength, x_executed, x_ops, x_targets, x_sources, x_offsets, x_immediates, x_lengths, ln_K (op_ f) d x_kinds, ln_L (op_ f) d q x_kinds x_los x_his, ln_H (op_ f) d q x_kinds x_los x_his, x_reached, upd x_branchAt b (nI a), vp_updL x_branchSafe b x_safe, sv_ x_branchKinds b x_kinds 16, sv_ x_branchLos b x_los 16, sv_ x_branchHis b x_his 16, x_packet, x_registers, x_cells, x_keyWords, x_keyTaken)) : wpX_checkJump post (x_safe, nI a, x_exitLeast, x_exitMost, nI b, x_faultPlace, x_provedLeast, x_provedMost, x_packetLength, x_executed, x_ops, x_targets, x_sources, x_offsets, x_immediates, x_lengths, x_kinds, x_los, x_his, x_reached, x_branchAt, x_branchSafe, x_branchKinds, x_branchLos, x_branchHis, x_packet, x_registers, x_cells, x_keyWords, x_keyTaken) (nI i) (nI q) := by
  obtain ⟨o1, o4⟩ := op_r h1 h4
  refine xv_jG hi h1 h4 hd hq o ef ed hk (fun z => absurd c z) (fun _ => ?_)
  refine xv_may h1 h4 hd hq (fun _ => ?_) (fun z => absurd m2 z)
  refine xv_may o1 o4 hd hq (fun _ => br_f (by decide) (br_f (by decide) ?_)) (fun z => absurd m z)
  refine xv_save hb ?_
  refine xv_learn o1 o4 hd hq ?_
  exact nm_r (nI_1 a) H
/-- check: what it comes to, by the op's tens -/
theorem xk_out {post : Int32 → SX → Prop} {i : Nat} (hi : i < 120) (h : ou_ (x_ops i) (x_offsets i) (x_immediates i)) (H : post 1 (x_safe, x_at, x_exitLeast, x_exitMost, x_branches, x_faultPlace, x_provedLeast, x_provedMost, x_packetLength, x_executed, x_ops, x_targets, x_sources, x_offsets, x_immediates, x_lengths, x_kinds, x_los, x_his, x_reached, x_branchAt, x_branchSafe, x_branchKinds, x_branchLos, x_branchHis, x_packet, x_registers, x_cells, x_keyWords, x_keyTaken)) : wpX_check post (x_safe, x_at, x_exitLeast, x_exitMost, x_branches, x_faultPlace, x_provedLeast, x_provedMost, x_packetLength, x_executed, x_ops, x_targets, x_sources, x_offsets, x_immediates, x_lengths, x_kinds, x_los, x_his, x_reached, x_branchAt, x_branchSafe, x_branchKinds, x_branchLos, x_branchHis, x_packet, x_registers, x_cells, x_keyWords, x_keyTaken) (nI i) := by
  unfold wpX_check
  exact xv_names hi (fun _ => br_f (by decide) H) (fun z => absurd h z)
theorem xk_go {post : Int32 → SX → Prop} {i s d : Nat} (hi : i < 120) (hs : s < 16) (hd : d < 16) (es : x_sources i = nI s) (ed : x_targets i = nI d) (h : ¬ ou_ (x_ops i) (x_offsets i) (x_immediates i)) (U : un_ (x_ops i) (k9_ (x_ops i) x_kinds) d (q9_ (x_ops i) s) → post 2 (x_safe, x_at, x_exitLeast, x_exitMost, x_branches, x_faultPlace, x_provedLeast, x_provedMost, x_packetLength, x_executed, x_ops, x_targets, x_sources, x_offsets, x_immediates, x_lengths, k9_ (x_ops i) x_kinds, l9_ (x_ops i) ((x_immediates i).toInt64 &&& 4294967295) x_los, l9_ (x_ops i) ((x_immediates i).toInt64 &&& 4294967295) x_his, x_reached, x_branchAt, x_branchSafe, x_branchKinds, x_branchLos, x_branchHis, x_packet, x_registers, x_cells, x_keyWords, x_keyTaken)) (G : ¬ un_ (x_ops i) (k9_ (x_ops i) x_kinds) d (q9_ (x_ops i) s) → ∀ K L H, K = k9_ (x_ops i) x_kinds → L = l9_ (x_ops i) ((x_immediates i).toInt64 &&& 4294967295) x_los → H = l9_ (x_ops i) ((x_immediates i).toInt64 &&& 4294967295) x_his → (((x_ops i / 10 < 0 → (wpX_checkExit post (x_safe, x_at, x_exitLeast, x_exitMost, x_branches, x_faultPlace, x_provedLeast, x_provedMost, x_packetLength, x_executed, x_ops, x_targets, x_sources, x_offsets, x_immediates, x_lengths, K, L, H, x_reached, x_branchAt, x_branchSafe, x_branchKinds, x_branchLos, x_branchHis, x_packet, x_registers, x_cells, x_keyWords, x_keyTaken))) ∧ (¬ x_ops i / 10 < 0 → (((5 < x_ops i / 10 → (wpX_checkExit post (x_safe, x_at, x_exitLeast, x_exitMost, x_branches, x_faultPlace, x_provedLeast, x_provedMost, x_packetLength, x_executed, x_ops, x_targets, x_sources, x_offsets, x_immediates, x_lengths, K, L, H, x_reached, x_branchAt, x_branchSafe, x_branchKinds, x_branchLos, x_branchHis, x_packet, x_registers, x_cells, x_keyWords, x_keyTaken))) ∧ (¬ 5 < x_ops i / 10 → (((x_ops i / 10 = 0 → (wX_check_76 post (nI i) (nI (q9_ (x_ops i) s)) x_safe x_at x_exitLeast x_exitMost x_branches x_faultPlace x_provedLeast x_provedMost x_packetLength x_executed x_ops x_targets x_sources x_offsets x_immediates x_lengths K L H x_reached x_branchAt x_branchSafe x_branchKinds x_branchLos x_branchHis x_packet x_registers x_cells x_keyWords x_keyTaken)) ∧ (¬ x_ops i / 10 = 0 → (((x_ops i / 10 = 1 → (wX_check_76 post (nI i) (nI (q9_ (x_ops i) s)) x_safe x_at x_exitLeast x_exitMost x_branches x_faultPlace x_provedLeast x_provedMost x_packetLength x_executed x_ops x_targets x_sources x_offsets x_immediates x_lengths K L H x_reached x_branchAt x_branchSafe x_branchKinds x_branchLos x_branchHis x_packet x_registers x_cells x_keyWords x_keyTaken)) ∧ (¬ x_ops i / 10 = 1 → (((x_ops i / 10 = 2 → (wX_check_97 post (nI i) (nI (q9_ (x_ops i) s)) x_safe x_at x_exitLeast x_exitMost x_branches x_faultPlace x_provedLeast x_provedMost x_packetLength x_executed x_ops x_targets x_sources x_offsets x_immediates x_lengths K L H x_reached x_branchAt x_branchSafe x_branchKinds x_branchLos x_branchHis x_packet x_registers x_cells x_keyWords x_keyTaken)) ∧ (¬ x_ops i / 10 = 2 → (((x_ops i / 10 = 3 → (wX_check_97 post (nI i) (nI (q9_ (x_ops i) s)) x_safe x_at x_exitLeast x_exitMost x_branches x_faultPlace x_provedLeast x_provedMost x_packetLength x_executed x_ops x_targets x_sources x_offsets x_immediates x_lengths K L H x_reached x_branchAt x_branchSafe x_branchKinds x_branchLos x_branchHis x_packet x_registers x_cells x_keyWords x_keyTaken)) ∧ (¬ x_ops i / 10 = 3 → (((x_ops i / 10 = 4 → (vp_in (nI i) 120 ∧ (((x_ops i = 42 → (wpX_checkByte post (x_safe, x_at, x_exitLeast, x_exitMost, x_branches, x_faultPlace, x_provedLeast, x_provedMost, x_packetLength, x_executed, x_ops, x_targets, x_sources, x_offsets, x_immediates, x_lengths, K, L, H, x_reached, x_branchAt, x_branchSafe, x_branchKinds, x_branchLos, x_branchHis, x_packet, x_registers, x_cells, x_keyWords, x_keyTaken) (nI i))) ∧ (¬ x_ops i = 42 → (wpX_checkCell post (x_safe, x_at, x_exitLeast, x_exitMost, x_branches, x_faultPlace, x_provedLeast, x_provedMost, x_packetLength, x_executed, x_ops, x_targets, x_sources, x_offsets, x_immediates, x_lengths, K, L, H, x_reached, x_branchAt, x_branchSafe, x_branchKinds, x_branchLos, x_branchHis, x_packet, x_registers, x_cells, x_keyWords, x_keyTaken) (nI i))))))) ∧ (¬ x_ops i / 10 = 4 → (((x_ops i / 10 = 5 → (vp_in (nI i) 120 ∧ (wpX_checkMapCall post (x_safe, x_at, x_exitLeast, x_exitMost, x_branches, x_faultPlace, x_provedLeast, x_provedMost, x_packetLength, x_executed, x_ops, x_targets, x_sources, x_offsets, x_immediates, x_lengths, K, L, H, x_reached, x_branchAt, x_branchSafe, x_branchKinds, x_branchLos, x_branchHis, x_packet, x_registers, x_cells, x_keyWords, x_keyTaken) (x_ops i)))) ∧ (¬ x_ops i / 10 = 5 → (True)))))))))))))))))))))))))) : wpX_check post (x_safe, x_at, x_exitLeast, x_exitMost, x_branches, x_faultPlace, x_provedLeast, x_provedMost, x_packetLength, x_executed, x_ops, x_targets, x_sources, x_offsets, x_immediates, x_lengths, x_kinds, x_los, x_his, x_reached, x_branchAt, x_branchSafe, x_branchKinds, x_branchLos, x_branchHis, x_packet, x_registers, x_cells, x_keyWords, x_keyTaken) (nI i) := by
  unfold wpX_check
  refine xv_names hi (fun z => absurd z h) (fun _ => br_t rfl ?_)
  refine xv_second hi es ?_
  have hq : q9_ (x_ops i) s < 16 := by unfold q9_; split <;> omega
  refine xv_unset hi hd hq ed (fun u => br_f (by decide) (U u)) (fun u => br_t rfl ⟨vp_in_nI hi (by decide), by decide, ?_⟩)
  refine nm_r (e' := x_ops i / 10) (by rw [nI_clamp (by omega)]) ?_
  have := G u _ _ _ rfl rfl rfl
  rw [nI_clamp (n := i) (by omega)]
  exact this
end
end
section
def rs_ {α : Type} (o : Nat → α) (b : Nat) (s : Nat → α) (m : Nat) : Nat → α := fun j => if j < m then s (16 * b + j) else o j
theorem rs_0 {α : Type} (o : Nat → α) (b : Nat) (s : Nat → α) : rs_ o b s 0 = o := by funext j; unfold rs_; rw [if_neg (by omega)]
theorem rs_s (o : Nat → Int32) (b : Nat) (s : Nat → Int32) (m : Nat) : upd (rs_ o b s m) m (s (16 * b + m)) = rs_ o b s (m + 1) := by
  funext j; unfold upd rs_
  by_cases h : j = m
  · subst h; rw [if_pos rfl, if_pos (by omega)]
  · rw [if_neg h]
    by_cases z : j < m
    · rw [if_pos z, if_pos (by omega)]
    · rw [if_neg z, if_neg (by omega)]
theorem rs_sL (o : Nat → Int64) (b : Nat) (s : Nat → Int64) (m : Nat) : vp_updL (rs_ o b s m) m (s (16 * b + m)) = rs_ o b s (m + 1) := by
  funext j; unfold vp_updL rs_
  by_cases h : j = m
  · subst h; rw [if_pos rfl, if_pos (by omega)]
  · rw [if_neg h]
    by_cases z : j < m
    · rw [if_pos z, if_pos (by omega)]
    · rw [if_neg z, if_neg (by omega)]
/-- m cells of zero from the start -/
def ze_ (o : Nat → Int32) (m : Nat) : Nat → Int32 := fun j => if j < m then 0 else o j
def zeL (o : Nat → Int64) (m : Nat) : Nat → Int64 := fun j => if j < m then 0 else o j
theorem ze_0 (o : Nat → Int32) : ze_ o 0 = o := by funext j; unfold ze_; rw [if_neg (by omega)]
theorem zeL_0 (o : Nat → Int64) : zeL o 0 = o := by funext j; unfold zeL; rw [if_neg (by omega)]
theorem ze_s (o : Nat → Int32) (m : Nat) : upd (ze_ o m) m 0 = ze_ o (m + 1) := by
  funext j; unfold upd ze_
  by_cases h : j = m
  · subst h; rw [if_pos rfl, if_pos (by omega)]
  · rw [if_neg h]
    by_cases z : j < m
    · rw [if_pos z, if_pos (by omega)]
    · rw [if_neg z, if_neg (by omega)]
theorem zeL_s (o : Nat → Int64) (m : Nat) : vp_updL (zeL o m) m 0 = zeL o (m + 1) := by
  funext j; unfold vp_updL zeL
  by_cases h : j = m
  · subst h; rw [if_pos rfl, if_pos (by omega)]
  · rw [if_neg h]
    by_cases z : j < m
    · rw [if_pos z, if_pos (by omega)]
    · rw [if_neg z, if_neg (by omega)]
/-- the draft's m first rows laid into program p -/
def cp_ (o : Nat → Int32) (p m : Nat) : Nat → Int32 := fun j => if 40 * p ≤ j ∧ j < 40 * p + m then o (80 + (j - 40 * p)) else o j
theorem cp_0 (o : Nat → Int32) (p : Nat) : cp_ o p 0 = o := by funext j; unfold cp_; rw [if_neg (by omega)]
theorem cp_s (o : Nat → Int32) {p m : Nat} (hp : p < 2) (hm : m < 40) : upd (cp_ o p m) (40 * p + m) (cp_ o p m (80 + m)) = cp_ o p (m + 1) := by
  have e : cp_ o p m (80 + m) = o (80 + m) := by unfold cp_; rw [if_neg (by omega)]
  rw [e]
  funext j; unfold upd cp_
  by_cases h : j = 40 * p + m
  · subst h; rw [if_pos rfl, if_pos (by omega)]; congr 2; omega
  · rw [if_neg h]
    by_cases z : 40 * p ≤ j ∧ j < 40 * p + m
    · rw [if_pos z, if_pos (by omega)]
    · rw [if_neg z, if_neg (by omega)]
section
variable {x_safe : Int64} {x_at : Int32} {x_exitLeast : Int64} {x_exitMost : Int64} {x_branches : Int32} {x_faultPlace : Int32} {x_provedLeast : Int64} {x_provedMost : Int64} {x_packetLength : Int32} {x_executed : Int32} {x_ops : Nat → Int32} {x_targets : Nat → Int32} {x_sources : Nat → Int32} {x_offsets : Nat → Int32} {x_immediates : Nat → Int32} {x_lengths : Nat → Int32} {x_kinds : Nat → Int32} {x_los : Nat → Int64} {x_his : Nat → Int64} {x_reached : Nat → Int32} {x_branchAt : Nat → Int32} {x_branchSafe : Nat → Int64} {x_branchKinds : Nat → Int32} {x_branchLos : Nat → Int64} {x_branchHis : Nat → Int64} {x_packet : Nat → Int32} {x_registers : Nat → Int64} {x_cells : Nat → Int64} {x_keyWords : Nat → Int64} {x_keyTaken : Nat → Int32}
theorem xv_takeL {post : SX → Prop} {b : Nat} (hb : b < 10) (H : ∀ x1 : Int32, x1 = 80 + x_at → wpX_secondSlot (fun r_8 u => match u with | (x_safe, x_at, x_exitLeast, x_exitMost, x_branches, x_faultPlace, x_provedLeast, x_provedMost, x_packetLength, x_executed, x_ops, x_targets, x_sources, x_offsets, x_immediates, x_lengths, x_kinds, x_los, x_his, x_reached, x_branchAt, x_branchSafe, x_branchKinds, x_branchLos, x_branchHis, x_packet, x_registers, x_cells, x_keyWords, x_keyTaken) => (vp_in x1 120 ∧ (¬ (10 : Int32) = 0 ∧ (vp_in x1 120 ∧ (wpX_learn (fun u => match u with | (x_safe, x_at, x_exitLeast, x_exitMost, x_branches, x_faultPlace, x_provedLeast, x_provedMost, x_packetLength, x_executed, x_ops, x_targets, x_sources, x_offsets, x_immediates, x_lengths, x_kinds, x_los, x_his, x_reached, x_branchAt, x_branchSafe, x_branchKinds, x_branchLos, x_branchHis, x_packet, x_registers, x_cells, x_keyWords, x_keyTaken) => (wpX_goalOfJump (fun r_73 => (post (x_safe, r_73, x_exitLeast, x_exitMost, x_branches, x_faultPlace, x_provedLeast, x_provedMost, x_packetLength, x_executed, x_ops, x_targets, x_sources, x_offsets, x_immediates, x_lengths, x_kinds, x_los, x_his, x_reached, x_branchAt, x_branchSafe, x_branchKinds, x_branchLos, x_branchHis, x_packet, x_registers, x_cells, x_keyWords, x_keyTaken))) (x_safe, x_at, x_exitLeast, x_exitMost, x_branches, x_faultPlace, x_provedLeast, x_provedMost, x_packetLength, x_executed, x_ops, x_targets, x_sources, x_offsets, x_immediates, x_lengths, x_kinds, x_los, x_his, x_reached, x_branchAt, x_branchSafe, x_branchKinds, x_branchLos, x_branchHis, x_packet, x_registers, x_cells, x_keyWords, x_keyTaken) x1)) (x_safe, x_at, x_exitLeast, x_exitMost, x_branches, x_faultPlace, x_provedLeast, x_provedMost, x_packetLength, x_executed, x_ops, x_targets, x_sources, x_offsets, x_immediates, x_lengths, x_kinds, x_los, x_his, x_reached, x_branchAt, x_branchSafe, x_branchKinds, x_branchLos, x_branchHis, x_packet, x_registers, x_cells, x_keyWords, x_keyTaken) ((x_ops x1.toNatClampNeg) - (x_ops x1.toNatClampNeg) / 10 * 10) (x_targets x1.toNatClampNeg) r_8))))) (x_safe, x_at, x_exitLeast, x_exitMost, nI b, x_faultPlace, x_provedLeast, x_provedMost, x_packetLength, x_executed, x_ops, x_targets, x_sources, x_offsets, x_immediates, x_lengths, rs_ x_kinds b x_branchKinds 16, rs_ x_los b x_branchLos 16, rs_ x_his b x_branchHis 16, x_reached, x_branchAt, x_branchSafe, x_branchKinds, x_branchLos, x_branchHis, x_packet, x_registers, x_cells, x_keyWords, x_keyTaken) x1) : ∀ d m : Nat, m + d = 16 → wX_takeUpBranch_38 post (d + 1) (nI m) x_safe x_at x_exitLeast x_exitMost (nI b) x_faultPlace x_provedLeast x_provedMost x_packetLength x_executed x_ops x_targets x_sources x_offsets x_immediates x_lengths (rs_ x_kinds b x_branchKinds m) (rs_ x_los b x_branchLos m) (rs_ x_his b x_branchHis m) x_reached x_branchAt x_branchSafe x_branchKinds x_branchLos x_branchHis x_packet x_registers x_cells x_keyWords x_keyTaken := by
  intro d
  induction d with
  | zero =>
    intro m hm
    have e : m = 16 := by omega
    subst e
    exact br_t (by decide) H
  | succ d ih =>
    intro m hm
    have h2 : vp_in (nI (16 * b + m)) 160 := vp_in_nI (by omega) (by decide)
    have c2 : (nI (16 * b + m)).toNatClampNeg = 16 * b + m := nI_clamp (by omega)
    refine br_f (by rw [xb_le16 (by omega)]; omega) (nm_r (e' := nI (16 * b + m)) (by rw [xb_mur16, nI_add, Nat.mul_comm]) ⟨h2, h2, h2, (xv_know (by omega)).mpr ?_⟩)
    rw [c2, rs_s, rs_sL, rs_sL]
    exact nm_r (nI_1 m) (ih (m + 1) (by omega))
theorem xv_take {post : SX → Prop} {a b n f g d s : Nat} (hb : b < 10) (ha : a < 40) (hn : n ≤ 40) (hg : g < 2 ^ 31) (h1 : 1 ≤ f) (h4 : f ≤ 4) (hd : d < 16) (hs : s < 16) (hl : x_lengths 2 = nI n) (hof : x_offsets (80 + a) = nI g) (ef : x_ops (80 + a) - x_ops (80 + a) / 10 * 10 = nI f) (ed : x_targets (80 + a) = nI d) (es : x_sources (80 + a) = nI s) (eb : x_branchAt b = nI a) {o : Int32} {w : Int64} (eo : x_ops (80 + a) = o) (ew : (x_immediates (80 + a)).toInt64 &&& 4294967295 = w) {K : Nat → Int32} {L H : Nat → Int64} (eK : K = k9_ o (rs_ x_kinds b x_branchKinds 16)) (eL : L = l9_ o w (rs_ x_los b x_branchLos 16)) (eH : H = l9_ o w (rs_ x_his b x_branchHis 16)) (P : post (ln_S f d (q9_ o s) K L (x_branchSafe b), nI (gl_ n a g), x_exitLeast, x_exitMost, nI b, x_faultPlace, x_provedLeast, x_provedMost, x_packetLength, x_executed, x_ops, x_targets, x_sources, x_offsets, x_immediates, x_lengths, ln_K f d K, ln_L f d (q9_ o s) K L H, ln_H f d (q9_ o s) K L H, x_reached, x_branchAt, x_branchSafe, x_branchKinds, x_branchLos, x_branchHis, x_packet, x_registers, x_cells, x_keyWords, x_keyTaken)) : wpX_takeUpBranch post (x_safe, x_at, x_exitLeast, x_exitMost, nI (b + 1), x_faultPlace, x_provedLeast, x_provedMost, x_packetLength, x_executed, x_ops, x_targets, x_sources, x_offsets, x_immediates, x_lengths, x_kinds, x_los, x_his, x_reached, x_branchAt, x_branchSafe, x_branchKinds, x_branchLos, x_branchHis, x_packet, x_registers, x_cells, x_keyWords, x_keyTaken) := by
  have h2 : vp_in (nI b) 10 := vp_in_nI hb (by decide)
  have c2 : (nI b).toNatClampNeg = b := nI_clamp (by omega)
  refine nm_r (nI_pred b) ⟨h2, nm_r (e' := nI a) (by rw [c2]; exact eb) ⟨h2, nm_r (e' := x_branchSafe b) (by rw [c2]) ⟨17, ?_⟩⟩⟩
  have T := xv_takeL (post := post) (x_at := nI a) (x_safe := x_branchSafe b) (x_exitLeast := x_exitLeast) (x_exitMost := x_exitMost) (x_faultPlace := x_faultPlace) (x_provedLeast := x_provedLeast) (x_provedMost := x_provedMost) (x_packetLength := x_packetLength) (x_executed := x_executed) (x_ops := x_ops) (x_targets := x_targets) (x_sources := x_sources) (x_offsets := x_offsets) (x_immediates := x_immediates) (x_lengths := x_lengths) (x_kinds := x_kinds) (x_los := x_los) (x_his := x_his) (x_reached := x_reached) (x_branchAt := x_branchAt) (x_branchSafe := x_branchSafe) (x_branchKinds := x_branchKinds) (x_branchLos := x_branchLos) (x_branchHis := x_branchHis) (x_packet := x_packet) (x_registers := x_registers) (x_cells := x_cells) (x_keyWords := x_keyWords) (x_keyTaken := x_keyTaken) hb ?_ 16 0 rfl
  · rw [rs_0, rs_0, rs_0] at T
    exact T
  · refine nm_r (xb_add80 a) ?_
    have hi : 80 + a < 120 := by omega
    have v : vp_in (nI (80 + a)) 120 := vp_in_nI hi (by decide)
    have c3 : (nI (80 + a)).toNatClampNeg = 80 + a := nI_clamp (by omega)
    refine xv_second hi es ?_
    refine ⟨v, by decide, v, ?_⟩
    have hq : q9_ o s < 16 := by unfold q9_; split <;> omega
    rw [c3, ef, ed, eo, ew, ← eK, ← eL, ← eH]
    refine xv_learn h1 h4 hd hq ?_
    exact (xv_goal (a := a) hi hn (by omega) hg hl hof).mpr P
theorem xv_beg64 {post : SX → Prop} (H : post (x_safe, x_at, 4294967295, 0, x_branches, x_faultPlace, x_provedLeast, x_provedMost, x_packetLength, x_executed, x_ops, x_targets, x_sources, x_offsets, x_immediates, x_lengths, x_kinds, x_los, x_his, ze_ x_reached 40, x_branchAt, x_branchSafe, x_branchKinds, x_branchLos, x_branchHis, x_packet, x_registers, x_cells, x_keyWords, x_keyTaken)) : ∀ d m : Nat, m + d = 40 → wX_beginPaths_64 post x_safe x_at x_exitLeast x_exitMost x_branches x_faultPlace x_provedLeast x_provedMost x_packetLength x_executed (d + 1) (nI m) x_ops x_targets x_sources x_offsets x_immediates x_lengths x_kinds x_los x_his (ze_ x_reached m) x_branchAt x_branchSafe x_branchKinds x_branchLos x_branchHis x_packet x_registers x_cells x_keyWords x_keyTaken := by
  intro d
  induction d with
  | zero =>
    intro m hm
    have e : m = 40 := by omega
    subst e
    exact br_t (by decide) H
  | succ d ih =>
    intro m hm
    have c2 : (nI m).toNatClampNeg = m := nI_clamp (by omega)
    exact br_f (by rw [xb_le40 (by omega)]; omega) ⟨vp_in_nI (by omega) (by decide), nm_r (e' := ze_ x_reached (m + 1)) (by rw [c2, xb_bf, ze_s]) (nm_r (nI_1 m) (ih (m + 1) (by omega)))⟩
def K0_ : Nat → Int32 := fun j => if j = 1 then 2 else if j = 2 then 3 else if j = 8 then 4 else 0
theorem xv_begL {post : SX → Prop} (zk : ∀ j, 16 ≤ j → x_kinds j = 0) (zl : ∀ j, 16 ≤ j → x_los j = 0) (zh : ∀ j, 16 ≤ j → x_his j = 0) (H : post (0, 0, 4294967295, 0, 0, x_faultPlace, x_provedLeast, x_provedMost, x_packetLength, x_executed, x_ops, x_targets, x_sources, x_offsets, x_immediates, x_lengths, K0_, fun _ => 0, fun _ => 0, ze_ x_reached 40, x_branchAt, x_branchSafe, x_branchKinds, x_branchLos, x_branchHis, x_packet, x_registers, x_cells, x_keyWords, x_keyTaken)) : ∀ d m : Nat, m + d = 16 → wX_beginPaths_2 post (d + 1) (nI m) x_safe x_at x_exitLeast x_exitMost x_branches x_faultPlace x_provedLeast x_provedMost x_packetLength x_executed x_ops x_targets x_sources x_offsets x_immediates x_lengths (ze_ x_kinds m) (zeL x_los m) (zeL x_his m) x_reached x_branchAt x_branchSafe x_branchKinds x_branchLos x_branchHis x_packet x_registers x_cells x_keyWords x_keyTaken := by
  intro d
  induction d with
  | zero =>
    intro m hm
    have e : m = 16 := by omega
    subst e
    have e1 : upd (upd (upd (ze_ x_kinds 16) 1 2) 2 3) 8 4 = K0_ := by
      funext j; unfold upd ze_ K0_
      by_cases z : j = 8
      · subst z; simp
      · by_cases y : j = 2
        · subst y; simp
        · by_cases x : j = 1
          · subst x; simp
          · simp only [x, y, z, if_false]
            split
            · rfl
            · exact zk j (by omega)
    have e2 : vp_updL (vp_updL (vp_updL (zeL x_los 16) 1 0) 2 0) 8 0 = fun _ => 0 := by
      funext j; unfold vp_updL zeL
      split
      · rfl
      · split
        · rfl
        · split
          · rfl
          · split
            · rfl
            · exact zl j (by omega)
    have e3 : vp_updL (vp_updL (vp_updL (zeL x_his 16) 1 0) 2 0) 8 0 = fun _ => 0 := by
      funext j; unfold vp_updL zeL
      split
      · rfl
      · split
        · rfl
        · split
          · rfl
          · split
            · rfl
            · exact zh j (by omega)
    refine br_t (by decide) (xv_know1.mpr (xv_know2.mpr (xv_know8.mpr ⟨41, ?_⟩)))
    rw [e1, e2, e3]
    have := xv_beg64 (x_exitLeast := x_exitLeast) (x_exitMost := x_exitMost) (x_reached := x_reached) H 40 0 rfl
    rw [ze_0] at this
    exact this
  | succ d ih =>
    intro m hm
    refine br_f (by rw [xb_le16 (by omega)]; omega) ((xv_know (by omega)).mpr ?_)
    rw [ze_s, zeL_s, zeL_s]
    exact nm_r (nI_1 m) (ih (m + 1) (by omega))
theorem xv_begin {post : SX → Prop} (zk : ∀ j, 16 ≤ j → x_kinds j = 0) (zl : ∀ j, 16 ≤ j → x_los j = 0) (zh : ∀ j, 16 ≤ j → x_his j = 0) (H : post (0, 0, 4294967295, 0, 0, x_faultPlace, x_provedLeast, x_provedMost, x_packetLength, x_executed, x_ops, x_targets, x_sources, x_offsets, x_immediates, x_lengths, K0_, fun _ => 0, fun _ => 0, ze_ x_reached 40, x_branchAt, x_branchSafe, x_branchKinds, x_branchLos, x_branchHis, x_packet, x_registers, x_cells, x_keyWords, x_keyTaken)) : wpX_beginPaths post (x_safe, x_at, x_exitLeast, x_exitMost, x_branches, x_faultPlace, x_provedLeast, x_provedMost, x_packetLength, x_executed, x_ops, x_targets, x_sources, x_offsets, x_immediates, x_lengths, x_kinds, x_los, x_his, x_reached, x_branchAt, x_branchSafe, x_branchKinds, x_branchLos, x_branchHis, x_packet, x_registers, x_cells, x_keyWords, x_keyTaken) := by
  refine ⟨17, ?_⟩
  have := xv_begL (x_safe := x_safe) (x_at := x_at) (x_exitLeast := x_exitLeast) (x_exitMost := x_exitMost) (x_branches := x_branches) zk zl zh H 16 0 rfl
  rw [ze_0, zeL_0, zeL_0] at this
  exact this
theorem xv_keepL {post : SX → Prop} {p n : Nat} (hp : p < 2) (hn : n ≤ 40) (hl : x_lengths 2 = nI n) (H : post (x_safe, x_at, x_exitLeast, x_exitMost, x_branches, x_faultPlace, x_exitLeast, x_exitMost, x_packetLength, x_executed, cp_ x_ops p n, cp_ x_targets p n, cp_ x_sources p n, cp_ x_offsets p n, cp_ x_immediates p n, upd x_lengths p (nI n), x_kinds, x_los, x_his, x_reached, x_branchAt, x_branchSafe, x_branchKinds, x_branchLos, x_branchHis, x_packet, x_registers, x_cells, x_keyWords, x_keyTaken)) : ∀ d m : Nat, m + d = n → wX_keepDraft_2 post (nI p) x_safe x_at x_exitLeast x_exitMost x_branches x_faultPlace x_provedLeast x_provedMost x_packetLength x_executed (d + 1) (nI m) (cp_ x_ops p m) (cp_ x_targets p m) (cp_ x_sources p m) (cp_ x_offsets p m) (cp_ x_immediates p m) x_lengths x_kinds x_los x_his x_reached x_branchAt x_branchSafe x_branchKinds x_branchLos x_branchHis x_packet x_registers x_cells x_keyWords x_keyTaken := by
  intro d
  have cp : (nI p).toNatClampNeg = p := nI_clamp (by omega)
  induction d with
  | zero =>
    intro m hm
    have e : m = n := by omega
    subst e
    exact br_t (by rw [hl, nI_leI (by omega) (by omega)]; omega) ⟨vp_in_nI (by omega) (by decide), nm_r (e' := upd x_lengths p (nI m)) (by rw [cp, hl]) H⟩
  | succ d ih =>
    intro m hm
    have v1 : vp_in (nI (80 + m)) 120 := vp_in_nI (by omega) (by decide)
    have v2 : vp_in (nI (40 * p + m)) 120 := vp_in_nI (by omega) (by decide)
    have c1 : (nI (80 + m)).toNatClampNeg = 80 + m := nI_clamp (by omega)
    have c2 : (nI (40 * p + m)).toNatClampNeg = 40 * p + m := nI_clamp (by omega)
    refine br_f (by rw [hl, nI_leI (by omega) (by omega)]; omega) (nm_r (xb_add80 m) (nm_r (e' := nI (40 * p + m)) (by rw [xb_mur40, nI_add, Nat.mul_comm]) ?_))
    refine ⟨v1, v2, nm_r (by rw [c1, c2, cp_s _ hp (by omega)]) ⟨v1, v2, nm_r (by rw [c1, c2, cp_s _ hp (by omega)]) ⟨v1, v2, nm_r (by rw [c1, c2, cp_s _ hp (by omega)]) ⟨v1, v2, nm_r (by rw [c1, c2, cp_s _ hp (by omega)]) ⟨v1, v2, nm_r (by rw [c1, c2, cp_s _ hp (by omega)]) (nm_r (nI_1 m) (ih (m + 1) (by omega)))⟩⟩⟩⟩⟩
theorem xv_keep {post : SX → Prop} {p n : Nat} (hp : p < 2) (hn : n ≤ 40) (hl : x_lengths 2 = nI n) (H : post (x_safe, x_at, x_exitLeast, x_exitMost, x_branches, x_faultPlace, x_exitLeast, x_exitMost, x_packetLength, x_executed, cp_ x_ops p n, cp_ x_targets p n, cp_ x_sources p n, cp_ x_offsets p n, cp_ x_immediates p n, upd x_lengths p (nI n), x_kinds, x_los, x_his, x_reached, x_branchAt, x_branchSafe, x_branchKinds, x_branchLos, x_branchHis, x_packet, x_registers, x_cells, x_keyWords, x_keyTaken)) : wpX_keepDraft post (x_safe, x_at, x_exitLeast, x_exitMost, x_branches, x_faultPlace, x_provedLeast, x_provedMost, x_packetLength, x_executed, x_ops, x_targets, x_sources, x_offsets, x_immediates, x_lengths, x_kinds, x_los, x_his, x_reached, x_branchAt, x_branchSafe, x_branchKinds, x_branchLos, x_branchHis, x_packet, x_registers, x_cells, x_keyWords, x_keyTaken) (nI p) := by
  refine ⟨n + 1, ?_⟩
  have := xv_keepL (x_provedLeast := x_provedLeast) (x_provedMost := x_provedMost) hp hn hl H n 0 (by omega)
  rw [cp_0, cp_0, cp_0, cp_0, cp_0] at this
  exact this
end
end
section
theorem pf_lI {a : Nat} (h : a < 2 ^ 63) : (lN a).toInt = (a : Int) := lg_ofNat_toInt h
theorem pf_shr {a d : Nat} {D : Int64} (hD : (D.toBitVec.smod 64).toNat = d) (h : a < 2 ^ 62) : lN a >>> D = lN (a / 2 ^ d) := by
  have hd : a / 2 ^ d ≤ a := Nat.div_le_self _ _
  apply Int64.toInt_inj.mp
  have e : (lN a >>> D).toInt = (lN a).toInt >>> d := by
    rw [← hD]
    exact BitVec.toInt_sshiftRight ..
  rw [e, Int.shiftRight_eq_div_pow, pf_lI (by omega), pf_lI (by omega)]
  rfl
theorem pf_andw (x : Int64) : ∃ m, m < 2 ^ 32 ∧ x &&& 4294967295 = lN m := ⟨x.toBitVec.toNat % 2 ^ 32, Nat.mod_lt _ (by decide), Int64.toBitVec_inj.mp (BitVec.eq_of_toNat_eq (by
  show (x.toBitVec &&& 4294967295#64).toNat = (BitVec.ofNat 64 (x.toBitVec.toNat % 2 ^ 32)).toNat
  rw [BitVec.toNat_and, show (4294967295#64).toNat = 2 ^ 32 - 1 from by decide, Nat.and_two_pow_sub_one_eq_mod, BitVec.toNat_ofNat]
  omega))⟩
theorem wb_tb (n : Nat) : (lN n).toBitVec = BitVec.ofNat 64 n := rfl
theorem wb_inj {a b : Int64} (h : a.toBitVec = b.toBitVec) : a = b := Int64.toBitVec_inj.mp h
theorem wb_tn {n : Nat} (h : n < 2 ^ 64) : (lN n).toBitVec.toNat = n := by rw [wb_tb, BitVec.toNat_ofNat, Nat.mod_eq_of_lt h]
theorem wb_lt2 {a b : Nat} (h : a < b) : 2 ^ a < 2 ^ b := Nat.pow_lt_pow_right (by decide) h
theorem wb_and {a b : Nat} (ha : a < 2 ^ 64) (hb : b < 2 ^ 64) : lN a &&& lN b = lN (a &&& b) := by
  apply wb_inj
  rw [Int64.toBitVec_and, wb_tb, wb_tb, wb_tb]
  apply BitVec.eq_of_toNat_eq
  rw [BitVec.toNat_and, BitVec.toNat_ofNat, BitVec.toNat_ofNat, BitVec.toNat_ofNat, Nat.mod_eq_of_lt ha, Nat.mod_eq_of_lt hb, Nat.mod_eq_of_lt (Nat.and_lt_two_pow _ hb)]
theorem wb_or {a b : Nat} (ha : a < 2 ^ 64) (hb : b < 2 ^ 64) : lN a ||| lN b = lN (a ||| b) := by
  apply wb_inj
  rw [Int64.toBitVec_or, wb_tb, wb_tb, wb_tb]
  apply BitVec.eq_of_toNat_eq
  rw [BitVec.toNat_or, BitVec.toNat_ofNat, BitVec.toNat_ofNat, BitVec.toNat_ofNat, Nat.mod_eq_of_lt ha, Nat.mod_eq_of_lt hb, Nat.mod_eq_of_lt (Nat.or_lt_two_pow ha hb)]
theorem wb_mask {n k : Nat} (hn : n < 2 ^ 64) (hk : k < 64) : lN n &&& lN (2 ^ k - 1) = lN (n % 2 ^ k) := by
  rw [wb_and hn (by have := wb_lt2 hk; omega), Nat.and_two_pow_sub_one_eq_mod]
theorem pu_M : (4294967295 : Int64) = lN 4294967295 := by rfl
theorem pu_0 : (0 : Int64) = lN 0 := by rfl
theorem pu_ok {x y : Nat} (hx : x < 2 ^ 63) (hy : y < 2 ^ 63) : ab_ok (lN x) (lN y) ↔ x ≤ 4294967295 ∧ y ≤ 4294967295 := by
  unfold ab_ok
  rw [pu_M, pu_0, pk_lLT hx (by omega), pk_lLT (by omega) hx, pk_lLT hy (by omega), pk_lLT (by omega) hy]
  omega
theorem pu_subI {a e : Nat} (ha : a < 2 ^ 32) (he : e < 2 ^ 32) : (lN a - lN e).toInt = (a : Int) - e := by
  rw [Int64.toInt_sub, pk_lT (by omega), pk_lT (by omega), Int.bmod_eq_of_le (by omega) (by omega)]
theorem pu_lt0 {x : Int64} : x < 0 ↔ x.toInt < 0 := by rw [Int64.lt_iff_toInt_lt]; rfl
theorem pu_sub0 {a e : Nat} (ha : a < 2 ^ 32) (he : e < 2 ^ 32) : lN a - lN e < 0 ↔ a < e := by
  rw [pu_lt0, pu_subI ha he]; omega
theorem on_fix {w : Int64} : ∀ (n : Nat) {x : Int64}, w ≤ x → on_it w n x = x
  | 0, _, _ => rfl
  | n + 1, x, h => by rw [on_it, if_pos h]; exact on_fix n h
theorem on_run {w : Nat} (hw : w < 2 ^ 32) : ∀ d k : Nat, k + d = 32 → ∃ m, m ≤ 32 ∧ k ≤ m ∧ on_it (lN w) d (lN (2 ^ k - 1)) = lN (2 ^ m - 1) ∧ w < 2 ^ m
  | 0, k, h => ⟨32, by omega, by omega, by have : k = 32 := by omega
                                           subst this; rfl, hw⟩
  | d + 1, k, h => by
    have pk : 2 ^ k ≤ 2 ^ 32 := Nat.pow_le_pow_right (by decide) (by omega)
    have p0 : 0 < 2 ^ k := Nat.pow_pos (by decide)
    by_cases z : w < 2 ^ k
    · refine ⟨k, by omega, Nat.le_refl _, ?_, z⟩
      exact on_fix _ ((pk_lLE (by omega) (by omega)).mpr (by omega))
    · obtain ⟨m, h1, h2, h3, h4⟩ := on_run hw d (k + 1) (by omega)
      refine ⟨m, h1, by omega, ?_, h4⟩
      rw [on_it, if_neg (by rw [pk_lLE (by omega) (by omega)]; omega), ← h3]
      congr 1
      have : lN (2 ^ k - 1) * 2 + 1 = lN ((2 ^ k - 1) * 2 + 1) := by rw [← lN_add, ← lN_mul]; rfl
      rw [this, Nat.pow_succ]
      congr 1; omega
theorem on_ex {w : Nat} (hw : w < 2 ^ 32) : ∃ m, m ≤ 32 ∧ on_it (lN w) 32 0 = lN (2 ^ m - 1) ∧ w < 2 ^ m := by
  obtain ⟨m, h1, _, h3, h4⟩ := on_run hw 32 0 rfl
  exact ⟨m, h1, h3, h4⟩
theorem pu_or {b e : Nat} (hb : b < 2 ^ 32) (he : e < 2 ^ 32) : lN b ||| lN e = lN (b ||| e) := wb_or (by omega) (by omega)
theorem pu_orlt {b e : Nat} (hb : b < 2 ^ 32) (he : e < 2 ^ 32) : b ||| e < 2 ^ 32 := Nat.or_lt_two_pow hb he
/-- a shift by any count, of a word -/
theorem pu_sh (y : Int64) : ∃ d : Nat, ∀ a : Nat, a < 2 ^ 32 → sh_r (lN a) y = lN (a / 2 ^ d) := ⟨_, fun _ ha => pf_shr rfl (by omega)⟩
/-- what is known of a SCALAR or a PACKET stands in order -/
def iv_ (l h : Int64) (N : Nat) : Prop := ∃ a b : Nat, a ≤ b ∧ b < N ∧ l = lN a ∧ h = lN b
def wf1_ (k : Int32) (l h : Int64) : Prop := k7_ k ∧ (k = 1 → iv_ l h (2 ^ 32)) ∧ (k = 2 → iv_ l h 256) ∧ (k = 6 → l = 0 ∧ h = 0)
theorem cb_1 {l h l2 h2 : Int64} : cb_l (nI 1) l h l2 h2 = l + l2 ∧ cb_h (nI 1) l h l2 h2 = h + h2 := ⟨by simp [cb_l, ← xb_L1], by simp [cb_h, ← xb_L1]⟩
theorem cb_2 {l h l2 h2 : Int64} : cb_l (nI 2) l h l2 h2 = l - h2 ∧ cb_h (nI 2) l h l2 h2 = h - l2 := ⟨by simp [cb_l, ← xb_L2], by simp [cb_h, ← xb_L2]⟩
theorem cb_3 {l h l2 h2 : Int64} : cb_l (nI 3) l h l2 h2 = l * l2 ∧ cb_h (nI 3) l h l2 h2 = h * h2 := ⟨by simp [cb_l, ← xb_L3], by simp [cb_h, ← xb_L3]⟩
theorem cb_4 {l h l2 h2 : Int64} : cb_l (nI 4) l h l2 h2 = 0 ∧ cb_h (nI 4) l h l2 h2 = (if h2 ≤ h then h2 else h) := ⟨by simp [cb_l, ← xb_L4], by simp [cb_h, ← xb_L4]⟩
theorem cb_5 {l h l2 h2 : Int64} : cb_l (nI 5) l h l2 h2 = (if l ≤ l2 then l2 else l) ∧ cb_h (nI 5) l h l2 h2 = on_it (h ||| h2) 32 0 := ⟨by simp [cb_l, ← xb_L5], by simp [cb_h, ← xb_L5]⟩
theorem cb_6 {l h l2 h2 : Int64} : cb_l (nI 6) l h l2 h2 = (if l2 = h2 then sh_r l l2 else 0) ∧ cb_h (nI 6) l h l2 h2 = (if l2 = h2 then sh_r h l2 else h) := ⟨by simp [cb_l, ← xb_L6], by simp [cb_h, ← xb_L6]⟩
theorem cb_mulN {b e : Nat} (hb : b < 2 ^ 32) (he : e < 2 ^ 32) : b * e < 2 ^ 64 := by
  have : b * e ≤ (2 ^ 32 - 1) * (2 ^ 32 - 1) := Nat.mul_le_mul (by omega) (by omega)
  omega
theorem cb_big {x : Nat} (h : x < 2 ^ 64) (h2 : 2 ^ 63 ≤ x) : lN x < 0 := by
  rw [pu_lt0]
  have : (lN x).toInt = (x : Int).bmod (2 ^ 64) := Int64.toInt_ofNat
  rw [this, Int.bmod_def]
  omega
theorem cb_le {f a b c e : Nat} (h1 : 1 ≤ f) (h6 : f ≤ 6) (ab : a ≤ b) (hb : b < 2 ^ 32) (ce : c ≤ e) (he : e < 2 ^ 32) (z : ab_ok (cb_l (nI f) (lN a) (lN b) (lN c) (lN e)) (cb_h (nI f) (lN a) (lN b) (lN c) (lN e))) : iv_ (cb_l (nI f) (lN a) (lN b) (lN c) (lN e)) (cb_h (nI f) (lN a) (lN b) (lN c) (lN e)) (2 ^ 32) := by
  have ef : f = 1 ∨ f = 2 ∨ f = 3 ∨ f = 4 ∨ f = 5 ∨ f = 6 := by omega
  rcases ef with rfl | rfl | rfl | rfl | rfl | rfl
  · rw [cb_1.1, cb_1.2, lN_add, lN_add] at z ⊢
    rw [pu_ok (by omega) (by omega)] at z
    exact ⟨a + c, b + e, by omega, by omega, rfl, rfl⟩
  · rw [cb_2.1, cb_2.2] at z ⊢
    have h := z.1
    rw [pu_sub0 (by omega) (by omega)] at h
    rw [lN_sub (by omega), lN_sub (by omega)]
    exact ⟨a - e, b - c, by omega, by omega, rfl, rfl⟩
  · rw [cb_3.1, cb_3.2, lN_mul, lN_mul] at z ⊢
    have m1 := cb_mulN hb he
    have m2 : a * c ≤ b * e := Nat.mul_le_mul ab ce
    have h3 : b * e < 2 ^ 63 := by
      apply Classical.byContradiction
      intro n
      exact z.2.2.1 (cb_big m1 (by omega))
    rw [pu_ok (by omega) h3] at z
    exact ⟨a * c, b * e, m2, by omega, rfl, rfl⟩
  · rw [cb_4.1, cb_4.2]
    split
    · exact ⟨0, e, by omega, he, rfl, rfl⟩
    · exact ⟨0, b, by omega, hb, rfl, rfl⟩
  · rw [cb_5.1, cb_5.2, pu_or hb he]
    obtain ⟨m, h1, h2, h3⟩ := on_ex (pu_orlt hb he)
    rw [h2]
    have pm : 2 ^ m ≤ 2 ^ 32 := Nat.pow_le_pow_right (by decide) h1
    have l1 : b ≤ b ||| e := Nat.left_le_or
    have l2 : e ≤ b ||| e := Nat.right_le_or
    split
    · exact ⟨c, 2 ^ m - 1, by omega, by omega, rfl, rfl⟩
    · exact ⟨a, 2 ^ m - 1, by omega, by omega, rfl, rfl⟩
  · rw [cb_6.1, cb_6.2]
    split
    · obtain ⟨d, hd⟩ := pu_sh (lN c)
      rw [hd a (by omega), hd b hb]
      have : b / 2 ^ d ≤ b := Nat.div_le_self _ _
      exact ⟨a / 2 ^ d, b / 2 ^ d, Nat.div_le_div_right ab, by omega, rfl, rfl⟩
    · exact ⟨0, b, by omega, hb, rfl, rfl⟩
theorem ab_iv {l h : Int64} (z : ab_ok l h → iv_ l h (2 ^ 32)) : iv_ (ab_l l h) (ab_h l h) (2 ^ 32) := by
  by_cases y : ab_ok l h
  · rw [ab_l_t y, ab_h_t y]; exact z y
  · rw [ab_l_f y, ab_h_f y]; exact ⟨0, 4294967295, by omega, by omega, rfl, rfl⟩
end
section
theorem ys_k7 {k : Int32} (h : k7_ k) : vp_nar .byte k.toInt8.toInt32 = k := by
  rcases h with rfl | rfl | rfl | rfl | rfl | rfl | rfl <;> rfl
theorem ys_k7n {k : Int32} (h : k7_ k) : vp_nar .byte k = k := by
  rcases h with rfl | rfl | rfl | rfl | rfl | rfl | rfl <;> rfl
section
variable {y_place : Int32} {y_least : Int64} {y_most : Int64} {y_smallest : Int64} {y_greatest : Int64} {y_ways : Int32} {y_fault : Int32} {y_base : Int32} {y_otherKind : Int32} {y_otherLo : Int64} {y_otherHi : Int64} {y_low : Int64} {y_high : Int64} {y_bytes : Int32} {y_steps : Int32} {y_op : Nat → Int32} {y_first : Nat → Int32} {y_second : Nat → Int32} {y_offset : Nat → Int32} {y_given : Nat → Int32} {y_length : Nat → Int32} {y_there : Nat → Int32} {y_known : Nat → Int32} {y_lo : Nat → Int64} {y_hi : Nat → Int64} {y_at : Nat → Int32} {y_lookups : Nat → Int32} {y_safe : Nat → Int32} {y_met : Nat → Int32} {y_tag : Nat → Int32} {y_word : Nat → Int64} {y_packet : Nat → Int32} {y_keys : Nat → Int64} {y_values : Nat → Int64} {y_many : Nat → Int32}
theorem yv_set {post : SY → Prop} {B r : Nat} {k : Int32} {l h : Int64} (hr : B + r < 168) (hk : k7_ k) : wpY_set post (y_place, y_least, y_most, y_smallest, y_greatest, y_ways, y_fault, nI B, y_otherKind, y_otherLo, y_otherHi, y_low, y_high, y_bytes, y_steps, y_op, y_first, y_second, y_offset, y_given, y_length, y_there, y_known, y_lo, y_hi, y_at, y_lookups, y_safe, y_met, y_tag, y_word, y_packet, y_keys, y_values, y_many) (nI r) k l h ↔ post (y_place, y_least, y_most, y_smallest, y_greatest, y_ways, y_fault, nI B, y_otherKind, y_otherLo, y_otherHi, y_low, y_high, y_bytes, y_steps, y_op, y_first, y_second, y_offset, y_given, y_length, y_there, upd y_known (B + r) k, vp_updL y_lo (B + r) l, vp_updL y_hi (B + r) h, y_at, y_lookups, y_safe, y_met, y_tag, y_word, y_packet, y_keys, y_values, y_many) := by
  simp (disch := omega) only [wpY_set, forall_eq, true_and, and_true, true_implies, not_true_eq_false, false_implies, not_false_eq_true, implies_true, and_self, nI_add, nI_1, nI_clamp, vp_in_nI, xb_10, xb_bt, xb_bf, ys_k7 hk]
theorem yv_set0 {post : SY → Prop} {B : Nat} {k : Int32} {l h : Int64} (hr : B < 168) (hk : k7_ k) : wpY_set post (y_place, y_least, y_most, y_smallest, y_greatest, y_ways, y_fault, nI B, y_otherKind, y_otherLo, y_otherHi, y_low, y_high, y_bytes, y_steps, y_op, y_first, y_second, y_offset, y_given, y_length, y_there, y_known, y_lo, y_hi, y_at, y_lookups, y_safe, y_met, y_tag, y_word, y_packet, y_keys, y_values, y_many) 0 k l h ↔ post (y_place, y_least, y_most, y_smallest, y_greatest, y_ways, y_fault, nI B, y_otherKind, y_otherLo, y_otherHi, y_low, y_high, y_bytes, y_steps, y_op, y_first, y_second, y_offset, y_given, y_length, y_there, upd y_known B k, vp_updL y_lo B l, vp_updL y_hi B h, y_at, y_lookups, y_safe, y_met, y_tag, y_word, y_packet, y_keys, y_values, y_many) := yv_set (r := 0) (by omega) hk
theorem yv_missN {post : Int32 → SY → Prop} {B r : Nat} {i : Int32} (hr : B + r < 168) (h : r = 8 ∨ ¬ y_known (B + r) = 0) : wpY_missing post (y_place, y_least, y_most, y_smallest, y_greatest, y_ways, y_fault, nI B, y_otherKind, y_otherLo, y_otherHi, y_low, y_high, y_bytes, y_steps, y_op, y_first, y_second, y_offset, y_given, y_length, y_there, y_known, y_lo, y_hi, y_at, y_lookups, y_safe, y_met, y_tag, y_word, y_packet, y_keys, y_values, y_many) (nI r) i ↔ post 0 (y_place, y_least, y_most, y_smallest, y_greatest, y_ways, y_fault, nI B, y_otherKind, y_otherLo, y_otherHi, y_low, y_high, y_bytes, y_steps, y_op, y_first, y_second, y_offset, y_given, y_length, y_there, y_known, y_lo, y_hi, y_at, y_lookups, y_safe, y_met, y_tag, y_word, y_packet, y_keys, y_values, y_many) := by
  simp (disch := omega) only [wpY_missing, forall_eq, true_and, and_true, true_implies, not_true_eq_false, false_implies, not_false_eq_true, implies_true, and_self, nI_add, nI_1, nI_clamp, vp_in_nI, xb_10, xb_bt, xb_bf, xb_eq8]
  by_cases z : r = 8
  · simp only [z, forall_eq, true_and, and_true, true_implies, not_true_eq_false, false_implies, not_false_eq_true, implies_true, and_self]
  · have y : ¬ y_known (B + r) = 0 := by rcases h with h | h <;> first | exact absurd h z | exact h
    simp only [z, y, forall_eq, true_and, and_true, true_implies, not_true_eq_false, false_implies, not_false_eq_true, implies_true, and_self]
theorem yv_missY {post : Int32 → SY → Prop} {B r : Nat} {i : Int32} (hr : B + r < 168) (h8 : ¬ r = 8) (h : y_known (B + r) = 0) : wpY_missing post (y_place, y_least, y_most, y_smallest, y_greatest, y_ways, y_fault, nI B, y_otherKind, y_otherLo, y_otherHi, y_low, y_high, y_bytes, y_steps, y_op, y_first, y_second, y_offset, y_given, y_length, y_there, y_known, y_lo, y_hi, y_at, y_lookups, y_safe, y_met, y_tag, y_word, y_packet, y_keys, y_values, y_many) (nI r) i ↔ post 1 (i, y_least, y_most, y_smallest, y_greatest, y_ways, 2, nI B, y_otherKind, y_otherLo, y_otherHi, y_low, y_high, y_bytes, y_steps, y_op, y_first, y_second, y_offset, y_given, y_length, y_there, y_known, y_lo, y_hi, y_at, y_lookups, y_safe, y_met, y_tag, y_word, y_packet, y_keys, y_values, y_many) := by
  simp (disch := omega) only [wpY_missing, forall_eq, true_and, and_true, true_implies, not_true_eq_false, false_implies, not_false_eq_true, implies_true, and_self, nI_add, nI_1, nI_clamp, vp_in_nI, xb_10, xb_bt, xb_bf, xb_eq8, h8, h, wpY_fail]
/-- the second operand -/
theorem yv_otherI {post : SY → Prop} {i s : Nat} (hi : i < 120) (es : y_second i = nI s) (H : post (y_place, y_least, y_most, y_smallest, y_greatest, y_ways, y_fault, y_base, 1, (y_given i).toInt64 &&& 4294967295, (y_given i).toInt64 &&& 4294967295, y_low, y_high, y_bytes, y_steps, y_op, y_first, y_second, y_offset, y_given, y_length, y_there, y_known, y_lo, y_hi, y_at, y_lookups, y_safe, y_met, y_tag, y_word, y_packet, y_keys, y_values, y_many)) : wpY_other post (y_place, y_least, y_most, y_smallest, y_greatest, y_ways, y_fault, y_base, y_otherKind, y_otherLo, y_otherHi, y_low, y_high, y_bytes, y_steps, y_op, y_first, y_second, y_offset, y_given, y_length, y_there, y_known, y_lo, y_hi, y_at, y_lookups, y_safe, y_met, y_tag, y_word, y_packet, y_keys, y_values, y_many) (nI i) 0 := by
  simp (disch := omega) only [wpY_other, wY_other_18, wY_other_49, wY_other_91, forall_eq, true_and, and_true, true_implies, not_true_eq_false, false_implies, not_false_eq_true, implies_true, and_self, nI_add, nI_1, nI_clamp, vp_in_nI, xb_10, xb_bt, xb_bf, es]
  exact ⟨fun _ => H, fun _ => H⟩
theorem yv_otherR {post : SY → Prop} {i s B : Nat} (hi : i < 120) (hs : B + s < 168) (h8 : ¬ s = 8) (es : y_second i = nI s) (H : post (y_place, y_least, y_most, y_smallest, y_greatest, y_ways, y_fault, nI B, y_known (B + s), y_lo (B + s), y_hi (B + s), y_low, y_high, y_bytes, y_steps, y_op, y_first, y_second, y_offset, y_given, y_length, y_there, y_known, y_lo, y_hi, y_at, y_lookups, y_safe, y_met, y_tag, y_word, y_packet, y_keys, y_values, y_many)) : wpY_other post (y_place, y_least, y_most, y_smallest, y_greatest, y_ways, y_fault, nI B, y_otherKind, y_otherLo, y_otherHi, y_low, y_high, y_bytes, y_steps, y_op, y_first, y_second, y_offset, y_given, y_length, y_there, y_known, y_lo, y_hi, y_at, y_lookups, y_safe, y_met, y_tag, y_word, y_packet, y_keys, y_values, y_many) (nI i) 1 := by
  have z : ¬ (1 : Int32) = 0 := by decide
  have e : ¬ nI s = 8 ∨ 2 ^ 31 ≤ s := by
    by_cases q : s < 2 ^ 31
    · left; rw [xb_eq8 q]; exact h8
    · right; omega
  have e' : ¬ nI s = 8 := by rcases e with e | e; exact e; omega
  simp (disch := omega) only [wpY_other, wY_other_18, wY_other_49, wY_other_91, forall_eq, true_and, and_true, true_implies, not_true_eq_false, false_implies, not_false_eq_true, implies_true, and_self, nI_add, nI_1, nI_clamp, vp_in_nI, xb_10, xb_bt, xb_bf, es, e', z]
  exact H
theorem yv_otherF {post : SY → Prop} {i : Nat} (hi : i < 120) (es : y_second i = nI 8) (H : post (y_place, y_least, y_most, y_smallest, y_greatest, y_ways, y_fault, y_base, 4, 0, 0, y_low, y_high, y_bytes, y_steps, y_op, y_first, y_second, y_offset, y_given, y_length, y_there, y_known, y_lo, y_hi, y_at, y_lookups, y_safe, y_met, y_tag, y_word, y_packet, y_keys, y_values, y_many)) : wpY_other post (y_place, y_least, y_most, y_smallest, y_greatest, y_ways, y_fault, y_base, y_otherKind, y_otherLo, y_otherHi, y_low, y_high, y_bytes, y_steps, y_op, y_first, y_second, y_offset, y_given, y_length, y_there, y_known, y_lo, y_hi, y_at, y_lookups, y_safe, y_met, y_tag, y_word, y_packet, y_keys, y_values, y_many) (nI i) 1 := by
  have z : ¬ (1 : Int32) = 0 := by decide
  have e : nI 8 = 8 := by rfl
  simp (disch := omega) only [wpY_other, wY_other_18, wY_other_49, wY_other_91, forall_eq, true_and, and_true, true_implies, not_true_eq_false, false_implies, not_false_eq_true, implies_true, and_self, nI_add, nI_1, nI_clamp, vp_in_nI, xb_10, xb_bt, xb_bf, es, e, z]
  exact H
/-- interval -/
theorem yv_302 {post : SY → Prop} (c : ¬ y_low < 0 → ¬ 4294967295 < y_high → ¬ y_high < 0 → ¬ 4294967295 < y_low) (H : post (y_place, y_least, y_most, y_smallest, y_greatest, y_ways, y_fault, y_base, y_otherKind, y_otherLo, y_otherHi, ab_l y_low y_high, ab_h y_low y_high, y_bytes, y_steps, y_op, y_first, y_second, y_offset, y_given, y_length, y_there, y_known, y_lo, y_hi, y_at, y_lookups, y_safe, y_met, y_tag, y_word, y_packet, y_keys, y_values, y_many)) : wY_interval_302 post y_place y_least y_most y_smallest y_greatest y_ways y_fault y_base y_otherKind y_otherLo y_otherHi y_low y_high y_bytes y_steps y_op y_first y_second y_offset y_given y_length y_there y_known y_lo y_hi y_at y_lookups y_safe y_met y_tag y_word y_packet y_keys y_values y_many := by
  unfold wY_interval_302
  by_cases z : ab_ok y_low y_high
  · rw [ab_l_t z, ab_h_t z] at H
    exact br_f z.1 (br_f z.2.2.2 (br_t (Int64.not_lt.mp z.2.2.1) H))
  · rw [ab_l_f z, ab_h_f z] at H
    refine br_c (fun _ => H) (fun a => br_c (fun _ => H) (fun b => br_c (fun d => ?_) (fun _ => H)))
    exact absurd ⟨a, c a b (Int64.not_lt.mpr d), Int64.not_lt.mpr d, b⟩ z
theorem iv_c {l h : Int64} (z : ab_ok l h → iv_ l h (2 ^ 32)) (hle : ¬ l < 0 → ¬ 4294967295 < h → ¬ h < 0 → l ≤ h) : ¬ l < 0 → ¬ 4294967295 < h → ¬ h < 0 → ¬ 4294967295 < l := by
  intro a b c d
  have := hle a b c
  exact b (Int64.lt_of_lt_of_le d this)
theorem yv_225 {post : SY → Prop} {b e : Nat} (hb : b < 2 ^ 32) (he : e < 2 ^ 32) (H : wY_interval_302 post y_place y_least y_most y_smallest y_greatest y_ways y_fault y_base y_otherKind y_otherLo (lN e) y_low (on_it (lN (b ||| e)) 32 0) y_bytes y_steps y_op y_first y_second y_offset y_given y_length y_there y_known y_lo y_hi y_at y_lookups y_safe y_met y_tag y_word y_packet y_keys y_values y_many) : ∀ d k : Nat, k + d = 32 → on_it (lN (b ||| e)) d (lN (2 ^ k - 1)) = on_it (lN (b ||| e)) 32 0 → wY_interval_225 post (lN b) y_place y_least y_most y_smallest y_greatest y_ways y_fault y_base y_otherKind y_otherLo (lN e) y_low y_high y_bytes y_steps y_op y_first y_second y_offset y_given y_length y_there y_known y_lo y_hi y_at y_lookups y_safe y_met y_tag y_word y_packet y_keys y_values y_many (d + 1) (lN (2 ^ k - 1)) := by
  have w := pu_orlt hb he
  have l1 : b ≤ b ||| e := Nat.left_le_or
  have l2 : e ≤ b ||| e := Nat.right_le_or
  intro d
  induction d with
  | zero =>
    intro k hk E
    have : k = 32 := by omega
    subst this
    rw [on_it] at E
    refine br_f (by rw [pk_lLT (by omega) (by omega)]; omega) (br_t (by rw [pk_lLE (by omega) (by omega)]; omega) ?_)
    rw [E]
    exact H
  | succ d ih =>
    intro k hk E
    have pk : 2 ^ k ≤ 2 ^ 32 := Nat.pow_le_pow_right (by decide) (by omega)
    have p0 : 0 < 2 ^ k := Nat.pow_pos (by decide)
    have nx : ∀ x : Int64, x = (2 * lN (2 ^ k - 1)) + 1 → x = lN (2 ^ (k + 1) - 1) := by
      intro x ex
      rw [ex]
      have : 2 * lN (2 ^ k - 1) + 1 = lN (2 * (2 ^ k - 1) + 1) := by rw [← lN_add, ← lN_mul]; rfl
      rw [this, Nat.pow_succ]
      congr 1; omega
    by_cases z : b ||| e < 2 ^ k
    · rw [on_fix _ ((pk_lLE (by omega) (by omega)).mpr (by omega))] at E
      refine br_f (by rw [pk_lLT (by omega) (by omega)]; omega) (br_t (by rw [pk_lLE (by omega) (by omega)]; omega) ?_)
      rw [E]
      exact H
    · have E' : on_it (lN (b ||| e)) d (lN (2 ^ (k + 1) - 1)) = on_it (lN (b ||| e)) 32 0 := by
        rw [on_it, if_neg (by rw [pk_lLE (by omega) (by omega)]; omega)] at E
        rw [← E]
        congr 1
        rw [Int64.mul_comm]
        exact (nx _ rfl).symm
      have G := ih (k + 1) (by omega) E'
      by_cases y : b < 2 ^ k
      · have q : ¬ e < 2 ^ k := fun q => z (Nat.or_lt_two_pow y q)
        refine br_f (by rw [pk_lLT (by omega) (by omega)]; omega) (br_f (by rw [pk_lLE (by omega) (by omega)]; omega) ?_)
        intro x ex
        rw [nx x ex]; exact G
      · refine br_t (by rw [pk_lLT (by omega) (by omega)]; omega) ?_
        intro x ex
        rw [nx x ex]; exact G
end
end
section
theorem yi_no {b e : Nat} (hb : b < 2 ^ 32) (he : e < 2 ^ 32) (h : 4294967295 < b * e) (l : Int64) : ¬ ab_ok l (lN (b * e)) := by
  intro z
  have m1 := cb_mulN hb he
  by_cases y : b * e < 2 ^ 63
  · have := z.2.2.2
    rw [pu_M, pk_lLT (by omega) y] at this
    omega
  · exact z.2.2.1 (cb_big m1 (by omega))
theorem yi_m1 : ¬ ab_ok (-1) (-1) := by
  intro z
  exact z.1 (by decide)
section
variable {y_place : Int32} {y_least : Int64} {y_most : Int64} {y_smallest : Int64} {y_greatest : Int64} {y_ways : Int32} {y_fault : Int32} {y_base : Int32} {y_otherKind : Int32} {y_otherLo : Int64} {y_otherHi : Int64} {y_low : Int64} {y_high : Int64} {y_bytes : Int32} {y_steps : Int32} {y_op : Nat → Int32} {y_first : Nat → Int32} {y_second : Nat → Int32} {y_offset : Nat → Int32} {y_given : Nat → Int32} {y_length : Nat → Int32} {y_there : Nat → Int32} {y_known : Nat → Int32} {y_lo : Nat → Int64} {y_hi : Nat → Int64} {y_at : Nat → Int32} {y_lookups : Nat → Int32} {y_safe : Nat → Int32} {y_met : Nat → Int32} {y_tag : Nat → Int32} {y_word : Nat → Int64} {y_packet : Nat → Int32} {y_keys : Nat → Int64} {y_values : Nat → Int64} {y_many : Nat → Int32}
theorem yv_interval {post : SY → Prop} {f a b c e : Nat} {r : Int32} (hr : r = 0 → c = e) (h1 : 1 ≤ f) (h6 : f ≤ 6) (ab : a ≤ b) (hb : b < 2 ^ 32) (ce : c ≤ e) (he : e < 2 ^ 32) (H : post (y_place, y_least, y_most, y_smallest, y_greatest, y_ways, y_fault, y_base, y_otherKind, lN c, lN e, ab_l (cb_l (nI f) (lN a) (lN b) (lN c) (lN e)) (cb_h (nI f) (lN a) (lN b) (lN c) (lN e)), ab_h (cb_l (nI f) (lN a) (lN b) (lN c) (lN e)) (cb_h (nI f) (lN a) (lN b) (lN c) (lN e)), y_bytes, y_steps, y_op, y_first, y_second, y_offset, y_given, y_length, y_there, y_known, y_lo, y_hi, y_at, y_lookups, y_safe, y_met, y_tag, y_word, y_packet, y_keys, y_values, y_many)) : wpY_interval post (y_place, y_least, y_most, y_smallest, y_greatest, y_ways, y_fault, y_base, y_otherKind, lN c, lN e, y_low, y_high, y_bytes, y_steps, y_op, y_first, y_second, y_offset, y_given, y_length, y_there, y_known, y_lo, y_hi, y_at, y_lookups, y_safe, y_met, y_tag, y_word, y_packet, y_keys, y_values, y_many) (nI f) (lN a) (lN b) r := by
  have ef : f = 1 ∨ f = 2 ∨ f = 3 ∨ f = 4 ∨ f = 5 ∨ f = 6 := by omega
  have lc : ∀ {x y : Nat}, x ≤ y → y < 2 ^ 63 → ¬ lN x < 0 → ¬ 4294967295 < lN y → ¬ lN y < 0 → ¬ 4294967295 < lN x := by
    intro x y xy hy _ z _
    rw [pu_M, pk_lLT (by omega) (by omega)] at z ⊢
    omega
  rcases ef with rfl | rfl | rfl | rfl | rfl | rfl
  · rw [cb_1.1, cb_1.2, lN_add, lN_add] at H
    refine nm_e (br_f (by decide) (br_f (by decide) (br_t rfl (nm_r (lN_add a c) (nm_r (lN_add b e) (yv_302 (lc (by omega) (by omega)) H))))))
  · rw [cb_2.1, cb_2.2] at H
    refine nm_e (br_f (by decide) (br_f (by decide) (br_f (by decide) (br_t rfl (nm_e (nm_e (yv_302 ?_ H)))))))
    intro z _ _
    rw [pu_sub0 (by omega) (by omega)] at z
    rw [lN_sub (by omega), pu_M, pk_lLT (by omega) (by omega)]
    omega
  · rw [cb_3.1, cb_3.2, lN_mul, lN_mul] at H
    have m1 := cb_mulN hb he
    have m2 : a * c ≤ b * e := Nat.mul_le_mul ab ce
    have yes : b * e ≤ 4294967295 → wY_interval_125 post (lN a) (lN b) y_place y_least y_most y_smallest y_greatest y_ways y_fault y_base y_otherKind (lN c) (lN e) 0 (lN b) y_bytes y_steps y_op y_first y_second y_offset y_given y_length y_there y_known y_lo y_hi y_at y_lookups y_safe y_met y_tag y_word y_packet y_keys y_values y_many := by
      intro q
      unfold wY_interval_125 wY_interval_130 wY_interval_150 wY_interval_172
      refine br_f (by decide) (br_f (by decide) ?_)
      rw [lN_mul, lN_mul]
      exact yv_302 (lc m2 (by omega)) H
    refine nm_e (br_f (by decide) (br_f (by decide) (br_f (by decide) (br_f (by decide) (br_t rfl (br_c (fun z => ?_) (fun z => ⟨z, br_c (fun y => ?_) (fun y => ?_)⟩)))))))
    · have : b = 0 := (pk_lEQ (b := 0) (by omega) (by omega)).mp z
      subst this
      exact yes (by rw [Nat.zero_mul]; omega)
    · have b0 : 0 < b := Nat.pos_of_ne_zero (fun q => z (by rw [q]; rfl))
      rw [pu_M, pk_lDiv (by omega) b0 (by omega), pk_lLT (Nat.lt_of_le_of_lt (Nat.div_le_self _ _) (by omega)) (by omega)] at y
      have big : 4294967295 < b * e := by
        have := (Nat.div_lt_iff_lt_mul b0).mp y
        rw [Nat.mul_comm] at this; exact this
      rw [ab_l_f (yi_no hb he big _), ab_h_f (yi_no hb he big _)] at H
      unfold wY_interval_130 wY_interval_150 wY_interval_172
      refine br_t rfl (br_t rfl (yv_302 (fun q => absurd (by decide) q) ?_))
      rw [ab_l_f yi_m1, ab_h_f yi_m1]
      exact H
    · have b0 : 0 < b := Nat.pos_of_ne_zero (fun q => z (by rw [q]; rfl))
      rw [pu_M, pk_lDiv (by omega) b0 (by omega), pk_lLT (Nat.lt_of_le_of_lt (Nat.div_le_self _ _) (by omega)) (by omega)] at y
      refine yes ?_
      have : ¬ 4294967295 < e * b := fun q => y ((Nat.div_lt_iff_lt_mul b0).mpr q)
      rw [Nat.mul_comm] at this; omega
  · rw [cb_4.1, cb_4.2] at H
    refine nm_e (br_f (by decide) (br_f (by decide) (br_f (by decide) (br_f (by decide) (br_f (by decide) (br_t rfl (br_c (fun z => ?_) (fun z => ?_))))))))
    · rw [pk_lLE (by omega) (by omega)] at z
      have q : (if lN e ≤ lN b then lN e else lN b) = lN b := by
        split
        · next y => rw [pk_lLE (by omega) (by omega)] at y; congr 1; omega
        · rfl
      rw [q] at H
      exact yv_302 (lc (Nat.zero_le b) (by omega)) H
    · rw [pk_lLE (by omega) (by omega)] at z
      have q : (if lN e ≤ lN b then lN e else lN b) = lN e := if_pos (by rw [pk_lLE (by omega) (by omega)]; omega)
      rw [q] at H
      exact yv_302 (lc (Nat.zero_le e) (by omega)) H
  · rw [cb_5.1, cb_5.2, pu_or hb he] at H
    obtain ⟨m, hm, h2, h3⟩ := on_ex (pu_orlt hb he)
    have pm : 2 ^ m ≤ 2 ^ 32 := Nat.pow_le_pow_right (by decide) hm
    have l1 : b ≤ b ||| e := Nat.left_le_or
    have l2 : e ≤ b ||| e := Nat.right_le_or
    refine nm_e (br_f (by decide) (br_f (by decide) (br_f (by decide) (br_f (by decide) (br_f (by decide) (br_f (by decide) (br_t rfl (br_c (fun z => ⟨33, ?_⟩) (fun z => ⟨33, ?_⟩)))))))))
    · rw [if_pos z] at H
      refine yv_225 hb he ?_ 32 0 rfl rfl
      refine yv_302 ?_ H
      rw [h2]
      exact lc (by omega) (by omega)
    · rw [if_neg z] at H
      refine yv_225 hb he ?_ 32 0 rfl rfl
      refine yv_302 ?_ H
      rw [h2]
      exact lc (by omega) (by omega)
  · rw [cb_6.1, cb_6.2] at H
    have es : (lN c).toInt32 &&& 31 = (lN c &&& 31).toInt32 := by rw [Int64.toInt32_and]; rfl
    have yes : c = e → wY_interval_285 post (lN a) (lN b) ((lN c).toInt32 &&& 31) y_place y_least y_most y_smallest y_greatest y_ways y_fault y_base y_otherKind (lN c) (lN e) 0 (lN b) y_bytes y_steps y_op y_first y_second y_offset y_given y_length y_there y_known y_lo y_hi y_at y_lookups y_safe y_met y_tag y_word y_packet y_keys y_values y_many := by
      intro q
      subst q
      rw [if_pos rfl, if_pos rfl] at H
      unfold wY_interval_285
      rw [es]
      refine nm_e (nm_e (yv_302 ?_ H))
      obtain ⟨d, hd⟩ := pu_sh (lN c)
      have y1 := hd a (by omega)
      have y2 := hd b hb
      unfold sh_r at y1 y2
      rw [y1, y2]
      have : b / 2 ^ d ≤ b := Nat.div_le_self _ _
      exact lc (Nat.div_le_div_right ab) (by omega)
    refine nm_e (br_f (by decide) (br_t (by decide) (br_c (fun z => yes (hr z)) (fun z => br_c (fun y => yes ((pk_lEQ (by omega) (by omega)).mp y)) (fun y => ?_)))))
    rw [if_neg y, if_neg y] at H
    exact yv_302 (lc (Nat.zero_le b) (by omega)) H
end
end
section
section
variable {y_place : Int32} {y_least : Int64} {y_most : Int64} {y_smallest : Int64} {y_greatest : Int64} {y_ways : Int32} {y_fault : Int32} {y_base : Int32} {y_otherKind : Int32} {y_otherLo : Int64} {y_otherHi : Int64} {y_low : Int64} {y_high : Int64} {y_bytes : Int32} {y_steps : Int32} {y_op : Nat → Int32} {y_first : Nat → Int32} {y_second : Nat → Int32} {y_offset : Nat → Int32} {y_given : Nat → Int32} {y_length : Nat → Int32} {y_there : Nat → Int32} {y_known : Nat → Int32} {y_lo : Nat → Int64} {y_hi : Nat → Int64} {y_at : Nat → Int32} {y_lookups : Nat → Int32} {y_safe : Nat → Int32} {y_met : Nat → Int32} {y_tag : Nat → Int32} {y_word : Nat → Int64} {y_packet : Nat → Int32} {y_keys : Nat → Int64} {y_values : Nat → Int64} {y_many : Nat → Int32}
theorem yv_363 {post : SY → Prop} {a : Int32} (H : post (a, y_least, y_most, y_smallest, y_greatest, y_ways, 3, y_base, y_otherKind, y_otherLo, y_otherHi, y_low, y_high, y_bytes, y_steps, y_op, y_first, y_second, y_offset, y_given, y_length, y_there, y_known, y_lo, y_hi, y_at, y_lookups, y_safe, y_met, y_tag, y_word, y_packet, y_keys, y_values, y_many)) : wY_arithmetic_363 post a y_place y_least y_most y_smallest y_greatest y_ways y_fault y_base y_otherKind y_otherLo y_otherHi y_low y_high y_bytes y_steps y_op y_first y_second y_offset y_given y_length y_there y_known y_lo y_hi y_at y_lookups y_safe y_met y_tag y_word y_packet y_keys y_values y_many := H
theorem yv_293f {post : SY → Prop} {a f d k x : Int32} (h : (¬ k = 4 ∧ ¬ k = 5) ∨ 3 ≤ f ∨ x = 0 ∨ 100 < y_otherLo) (H : post (a, y_least, y_most, y_smallest, y_greatest, y_ways, 3, y_base, y_otherKind, y_otherLo, y_otherHi, y_low, y_high, y_bytes, y_steps, y_op, y_first, y_second, y_offset, y_given, y_length, y_there, y_known, y_lo, y_hi, y_at, y_lookups, y_safe, y_met, y_tag, y_word, y_packet, y_keys, y_values, y_many)) : wY_arithmetic_293 post a f d k x y_place y_least y_most y_smallest y_greatest y_ways y_fault y_base y_otherKind y_otherLo y_otherHi y_low y_high y_bytes y_steps y_op y_first y_second y_offset y_given y_length y_there y_known y_lo y_hi y_at y_lookups y_safe y_met y_tag y_word y_packet y_keys y_values y_many := by
  have w : ¬ (¬ k = 4 ∧ ¬ k = 5) → wY_arithmetic_305 post a f d x y_place y_least y_most y_smallest y_greatest y_ways y_fault y_base y_otherKind y_otherLo y_otherHi y_low y_high y_bytes y_steps y_op y_first y_second y_offset y_given y_length y_there y_known y_lo y_hi y_at y_lookups y_safe y_met y_tag y_word y_packet y_keys y_values y_many := by
    intro q
    have h' : 3 ≤ f ∨ x = 0 ∨ 100 < y_otherLo := by rcases h with h | h <;> first | exact absurd h q | exact h
    refine br_c (fun _ => yv_363 H) (fun n1 => br_c (fun _ => yv_363 H) (fun n2 => br_c (fun _ => yv_363 H) (fun n3 => ?_)))
    rcases h' with h' | h' | h'
    · exact absurd h' n1
    · exact absurd h' n2
    · exact absurd h' n3
  refine br_c (fun z => w (fun q => q.1 z)) (fun _ => br_c (fun z => w (fun q => q.2 z)) (fun _ => yv_363 H))
theorem yv_a0 {post : SY → Prop} {i B d : Nat} {a r k2 : Int32} {l2 h2 : Int64} (hd : B + d < 168) (k : k7_ k2) (OP : ∀ post : SY → Prop, post (y_place, y_least, y_most, y_smallest, y_greatest, y_ways, y_fault, nI B, k2, l2, h2, y_low, y_high, y_bytes, y_steps, y_op, y_first, y_second, y_offset, y_given, y_length, y_there, y_known, y_lo, y_hi, y_at, y_lookups, y_safe, y_met, y_tag, y_word, y_packet, y_keys, y_values, y_many) → wpY_other post (y_place, y_least, y_most, y_smallest, y_greatest, y_ways, y_fault, nI B, y_otherKind, y_otherLo, y_otherHi, y_low, y_high, y_bytes, y_steps, y_op, y_first, y_second, y_offset, y_given, y_length, y_there, y_known, y_lo, y_hi, y_at, y_lookups, y_safe, y_met, y_tag, y_word, y_packet, y_keys, y_values, y_many) (nI i) r) (H : post (y_place, y_least, y_most, y_smallest, y_greatest, y_ways, y_fault, nI B, k2, l2, h2, y_low, y_high, y_bytes, y_steps, y_op, y_first, y_second, y_offset, y_given, y_length, y_there, upd y_known (B + d) k2, vp_updL y_lo (B + d) l2, vp_updL y_hi (B + d) h2, y_at, y_lookups, y_safe, y_met, y_tag, y_word, y_packet, y_keys, y_values, y_many)) : wY_arithmetic_66 post (nI i) a r (nI 0) (nI d) y_place y_least y_most y_smallest y_greatest y_ways y_fault (nI B) y_otherKind y_otherLo y_otherHi y_low y_high y_bytes y_steps y_op y_first y_second y_offset y_given y_length y_there y_known y_lo y_hi y_at y_lookups y_safe y_met y_tag y_word y_packet y_keys y_values y_many := by
  unfold wY_arithmetic_66
  refine OP _ (br_t (by decide) ?_)
  exact (yv_set hd k).mpr H
theorem yv_aK {post : SY → Prop} {i B d f : Nat} {a r k2 : Int32} {l2 h2 : Int64} (hd : B + d < 168) (h1 : 1 ≤ f) (h6 : f ≤ 6) (k : ¬ k2 = 1) (OP : ∀ post : SY → Prop, post (y_place, y_least, y_most, y_smallest, y_greatest, y_ways, y_fault, nI B, k2, l2, h2, y_low, y_high, y_bytes, y_steps, y_op, y_first, y_second, y_offset, y_given, y_length, y_there, y_known, y_lo, y_hi, y_at, y_lookups, y_safe, y_met, y_tag, y_word, y_packet, y_keys, y_values, y_many) → wpY_other post (y_place, y_least, y_most, y_smallest, y_greatest, y_ways, y_fault, nI B, y_otherKind, y_otherLo, y_otherHi, y_low, y_high, y_bytes, y_steps, y_op, y_first, y_second, y_offset, y_given, y_length, y_there, y_known, y_lo, y_hi, y_at, y_lookups, y_safe, y_met, y_tag, y_word, y_packet, y_keys, y_values, y_many) (nI i) r) (H : post (a, y_least, y_most, y_smallest, y_greatest, y_ways, 3, nI B, k2, l2, h2, y_low, y_high, y_bytes, y_steps, y_op, y_first, y_second, y_offset, y_given, y_length, y_there, y_known, y_lo, y_hi, y_at, y_lookups, y_safe, y_met, y_tag, y_word, y_packet, y_keys, y_values, y_many)) : wY_arithmetic_66 post (nI i) a r (nI f) (nI d) y_place y_least y_most y_smallest y_greatest y_ways y_fault (nI B) y_otherKind y_otherLo y_otherHi y_low y_high y_bytes y_steps y_op y_first y_second y_offset y_given y_length y_there y_known y_lo y_hi y_at y_lookups y_safe y_met y_tag y_word y_packet y_keys y_values y_many := by
  unfold wY_arithmetic_66
  refine OP _ (br_f (by rw [xb_eq0 (by omega)]; omega) ⟨by rw [nI_add]; exact vp_in_nI hd (by decide), nm_e (br_f k (br_t rfl ?_))⟩)
  unfold wY_arithmetic_147 wY_arithmetic_148
  have w : ∀ kd : Int32, wY_arithmetic_211 post a (nI f) (nI d) kd 0 0 y_place y_least y_most y_smallest y_greatest y_ways y_fault (nI B) k2 l2 h2 y_low y_high y_bytes y_steps y_op y_first y_second y_offset y_given y_length y_there y_known y_lo y_hi y_at y_lookups y_safe y_met y_tag y_word y_packet y_keys y_values y_many := by
    intro kd
    have w2 : wY_arithmetic_293 post a (nI f) (nI d) kd 0 y_place y_least y_most y_smallest y_greatest y_ways y_fault (nI B) k2 l2 h2 y_low y_high y_bytes y_steps y_op y_first y_second y_offset y_given y_length y_there y_known y_lo y_hi y_at y_lookups y_safe y_met y_tag y_word y_packet y_keys y_values y_many := yv_293f (Or.inr (Or.inr (Or.inl rfl))) H
    exact br_c (fun _ => br_c (fun _ => br_t rfl w2) (fun _ => w2)) (fun _ => w2)
  exact br_c (fun _ => br_t rfl (w _)) (fun _ => w _)
/-- the second operand is a SCALAR -/
theorem yv_a1 {post : SY → Prop} {i B d f : Nat} {a r : Int32} {l2 h2 : Int64} (hd : B + d < 168) (h1 : 1 ≤ f) (h6 : f ≤ 6) (OP : ∀ post : SY → Prop, post (y_place, y_least, y_most, y_smallest, y_greatest, y_ways, y_fault, nI B, 1, l2, h2, y_low, y_high, y_bytes, y_steps, y_op, y_first, y_second, y_offset, y_given, y_length, y_there, y_known, y_lo, y_hi, y_at, y_lookups, y_safe, y_met, y_tag, y_word, y_packet, y_keys, y_values, y_many) → wpY_other post (y_place, y_least, y_most, y_smallest, y_greatest, y_ways, y_fault, nI B, y_otherKind, y_otherLo, y_otherHi, y_low, y_high, y_bytes, y_steps, y_op, y_first, y_second, y_offset, y_given, y_length, y_there, y_known, y_lo, y_hi, y_at, y_lookups, y_safe, y_met, y_tag, y_word, y_packet, y_keys, y_values, y_many) (nI i) r) (H : ∀ x : Int32, (l2 = h2 → x = 1) → (¬ l2 = h2 → x = 0) → wY_arithmetic_148 post a r (nI f) (nI d) (y_known (B + d)) 1 x y_place y_least y_most y_smallest y_greatest y_ways y_fault (nI B) 1 l2 h2 y_low y_high y_bytes y_steps y_op y_first y_second y_offset y_given y_length y_there y_known y_lo y_hi y_at y_lookups y_safe y_met y_tag y_word y_packet y_keys y_values y_many) : wY_arithmetic_66 post (nI i) a r (nI f) (nI d) y_place y_least y_most y_smallest y_greatest y_ways y_fault (nI B) y_otherKind y_otherLo y_otherHi y_low y_high y_bytes y_steps y_op y_first y_second y_offset y_given y_length y_there y_known y_lo y_hi y_at y_lookups y_safe y_met y_tag y_word y_packet y_keys y_values y_many := by
  unfold wY_arithmetic_66
  refine OP _ (br_f (by rw [xb_eq0 (by omega)]; omega) ⟨by rw [nI_add]; exact vp_in_nI hd (by decide), nm_r (e' := y_known (B + d)) (by rw [nI_add, nI_clamp (by omega)]) (br_t rfl (br_f (by decide) (br_c (fun z => ?_) (fun z => ?_))))⟩)
  · exact H 1 (fun _ => rfl) (fun n => absurd z n)
  · exact H 0 (fun n => absurd n z) (fun _ => rfl)
theorem yv_aS {post : SY → Prop} {i B d f p b c e : Nat} {a r : Int32} (hd : B + d < 168) (h1 : 1 ≤ f) (h6 : f ≤ 6) (hr : r = 0 → c = e) (pb : p ≤ b) (hb : b < 2 ^ 32) (ce : c ≤ e) (he : e < 2 ^ 32) (kd : y_known (B + d) = 1) (el : y_lo (B + d) = lN p) (eh : y_hi (B + d) = lN b) (OP : ∀ post : SY → Prop, post (y_place, y_least, y_most, y_smallest, y_greatest, y_ways, y_fault, nI B, 1, lN c, lN e, y_low, y_high, y_bytes, y_steps, y_op, y_first, y_second, y_offset, y_given, y_length, y_there, y_known, y_lo, y_hi, y_at, y_lookups, y_safe, y_met, y_tag, y_word, y_packet, y_keys, y_values, y_many) → wpY_other post (y_place, y_least, y_most, y_smallest, y_greatest, y_ways, y_fault, nI B, y_otherKind, y_otherLo, y_otherHi, y_low, y_high, y_bytes, y_steps, y_op, y_first, y_second, y_offset, y_given, y_length, y_there, y_known, y_lo, y_hi, y_at, y_lookups, y_safe, y_met, y_tag, y_word, y_packet, y_keys, y_values, y_many) (nI i) r) {l h : Int64} (ell : l = ab_l (cb_l (nI f) (lN p) (lN b) (lN c) (lN e)) (cb_h (nI f) (lN p) (lN b) (lN c) (lN e))) (ehh : h = ab_h (cb_l (nI f) (lN p) (lN b) (lN c) (lN e)) (cb_h (nI f) (lN p) (lN b) (lN c) (lN e))) (H : post (y_place, y_least, y_most, y_smallest, y_greatest, y_ways, y_fault, nI B, 1, lN c, lN e, l, h, y_bytes, y_steps, y_op, y_first, y_second, y_offset, y_given, y_length, y_there, upd y_known (B + d) 1, vp_updL y_lo (B + d) l, vp_updL y_hi (B + d) h, y_at, y_lookups, y_safe, y_met, y_tag, y_word, y_packet, y_keys, y_values, y_many)) : wY_arithmetic_66 post (nI i) a r (nI f) (nI d) y_place y_least y_most y_smallest y_greatest y_ways y_fault (nI B) y_otherKind y_otherLo y_otherHi y_low y_high y_bytes y_steps y_op y_first y_second y_offset y_given y_length y_there y_known y_lo y_hi y_at y_lookups y_safe y_met y_tag y_word y_packet y_keys y_values y_many := by
  refine yv_a1 hd h1 h6 OP (fun x _ _ => ?_)
  have v : vp_in (nI B + nI d) 168 := by rw [nI_add]; exact vp_in_nI hd (by decide)
  refine br_t kd (br_f (by decide) ⟨v, v, ?_⟩)
  rw [nI_add, nI_clamp (by omega), el, eh]
  refine yv_interval hr h1 h6 pb hb ce he ?_
  rw [← ell, ← ehh]
  exact (yv_set hd (Or.inr (Or.inl rfl))).mpr H
theorem yv_aP {post : SY → Prop} {i B d : Nat} {a r : Int32} {l2 h2 : Int64} (hd : B + d < 168) (kd : y_known (B + d) = 2) (hh : ¬ 255 < y_hi (B + d) + h2) (OP : ∀ post : SY → Prop, post (y_place, y_least, y_most, y_smallest, y_greatest, y_ways, y_fault, nI B, 1, l2, h2, y_low, y_high, y_bytes, y_steps, y_op, y_first, y_second, y_offset, y_given, y_length, y_there, y_known, y_lo, y_hi, y_at, y_lookups, y_safe, y_met, y_tag, y_word, y_packet, y_keys, y_values, y_many) → wpY_other post (y_place, y_least, y_most, y_smallest, y_greatest, y_ways, y_fault, nI B, y_otherKind, y_otherLo, y_otherHi, y_low, y_high, y_bytes, y_steps, y_op, y_first, y_second, y_offset, y_given, y_length, y_there, y_known, y_lo, y_hi, y_at, y_lookups, y_safe, y_met, y_tag, y_word, y_packet, y_keys, y_values, y_many) (nI i) r) (H : post (y_place, y_least, y_most, y_smallest, y_greatest, y_ways, y_fault, nI B, 1, l2, h2, y_low, y_high, y_bytes, y_steps, y_op, y_first, y_second, y_offset, y_given, y_length, y_there, y_known, vp_updL y_lo (B + d) (y_lo (B + d) + l2), vp_updL y_hi (B + d) (y_hi (B + d) + h2), y_at, y_lookups, y_safe, y_met, y_tag, y_word, y_packet, y_keys, y_values, y_many)) : wY_arithmetic_66 post (nI i) a r (nI 1) (nI d) y_place y_least y_most y_smallest y_greatest y_ways y_fault (nI B) y_otherKind y_otherLo y_otherHi y_low y_high y_bytes y_steps y_op y_first y_second y_offset y_given y_length y_there y_known y_lo y_hi y_at y_lookups y_safe y_met y_tag y_word y_packet y_keys y_values y_many := by
  refine yv_a1 hd (by decide) (by decide) OP (fun x _ _ => ?_)
  have v : vp_in (nI B + nI d) 168 := by rw [nI_add]; exact vp_in_nI hd (by decide)
  have c : (nI B + nI d).toNatClampNeg = B + d := by rw [nI_add, nI_clamp (by omega)]
  refine br_f (by rw [kd]; decide) (br_t kd (br_t rfl (br_f (by decide) ⟨v, br_f (by rw [c]; exact hh) ⟨v, v, nm_r (by rw [c]) ⟨v, v, nm_r (by rw [c]) H⟩⟩⟩)))
theorem yv_aPf {post : SY → Prop} {i B d f : Nat} {a r : Int32} {l2 h2 : Int64} (hd : B + d < 168) (h1 : 1 ≤ f) (h6 : f ≤ 6) (kd : y_known (B + d) = 2) (hh : ¬ (f = 1 ∧ ¬ 255 < y_hi (B + d) + h2)) (OP : ∀ post : SY → Prop, post (y_place, y_least, y_most, y_smallest, y_greatest, y_ways, y_fault, nI B, 1, l2, h2, y_low, y_high, y_bytes, y_steps, y_op, y_first, y_second, y_offset, y_given, y_length, y_there, y_known, y_lo, y_hi, y_at, y_lookups, y_safe, y_met, y_tag, y_word, y_packet, y_keys, y_values, y_many) → wpY_other post (y_place, y_least, y_most, y_smallest, y_greatest, y_ways, y_fault, nI B, y_otherKind, y_otherLo, y_otherHi, y_low, y_high, y_bytes, y_steps, y_op, y_first, y_second, y_offset, y_given, y_length, y_there, y_known, y_lo, y_hi, y_at, y_lookups, y_safe, y_met, y_tag, y_word, y_packet, y_keys, y_values, y_many) (nI i) r) (H : post (a, y_least, y_most, y_smallest, y_greatest, y_ways, 3, nI B, 1, l2, h2, y_low, y_high, y_bytes, y_steps, y_op, y_first, y_second, y_offset, y_given, y_length, y_there, y_known, y_lo, y_hi, y_at, y_lookups, y_safe, y_met, y_tag, y_word, y_packet, y_keys, y_values, y_many)) : wY_arithmetic_66 post (nI i) a r (nI f) (nI d) y_place y_least y_most y_smallest y_greatest y_ways y_fault (nI B) y_otherKind y_otherLo y_otherHi y_low y_high y_bytes y_steps y_op y_first y_second y_offset y_given y_length y_there y_known y_lo y_hi y_at y_lookups y_safe y_met y_tag y_word y_packet y_keys y_values y_many := by
  refine yv_a1 hd h1 h6 OP (fun x _ _ => ?_)
  have v : vp_in (nI B + nI d) 168 := by rw [nI_add]; exact vp_in_nI hd (by decide)
  have c : (nI B + nI d).toNatClampNeg = B + d := by rw [nI_add, nI_clamp (by omega)]
  have w2 : wY_arithmetic_293 post a (nI f) (nI d) (y_known (B + d)) x y_place y_least y_most y_smallest y_greatest y_ways y_fault (nI B) 1 l2 h2 y_low y_high y_bytes y_steps y_op y_first y_second y_offset y_given y_length y_there y_known y_lo y_hi y_at y_lookups y_safe y_met y_tag y_word y_packet y_keys y_values y_many := yv_293f (Or.inl (by rw [kd]; decide)) H
  refine br_f (by rw [kd]; decide) (br_t kd (br_c (fun z => br_f (by decide) ⟨v, br_c (fun _ => w2) (fun y => ?_)⟩) (fun _ => w2)))
  rw [c] at y
  rw [xb_eq1 (by omega)] at z
  exact absurd ⟨z, y⟩ hh
theorem yv_aC {post : SY → Prop} {i B d f : Nat} {a r : Int32} {l2 h2 : Int64} (hd : B + d < 168) (hf : f = 1 ∨ f = 2) (kd : y_known (B + d) = 4 ∨ y_known (B + d) = 5) (e : l2 = h2) (hh : ¬ 100 < l2) (OP : ∀ post : SY → Prop, post (y_place, y_least, y_most, y_smallest, y_greatest, y_ways, y_fault, nI B, 1, l2, h2, y_low, y_high, y_bytes, y_steps, y_op, y_first, y_second, y_offset, y_given, y_length, y_there, y_known, y_lo, y_hi, y_at, y_lookups, y_safe, y_met, y_tag, y_word, y_packet, y_keys, y_values, y_many) → wpY_other post (y_place, y_least, y_most, y_smallest, y_greatest, y_ways, y_fault, nI B, y_otherKind, y_otherLo, y_otherHi, y_low, y_high, y_bytes, y_steps, y_op, y_first, y_second, y_offset, y_given, y_length, y_there, y_known, y_lo, y_hi, y_at, y_lookups, y_safe, y_met, y_tag, y_word, y_packet, y_keys, y_values, y_many) (nI i) r) (H : post (y_place, y_least, y_most, y_smallest, y_greatest, y_ways, y_fault, nI B, 1, l2, h2, y_low, y_high, y_bytes, y_steps, y_op, y_first, y_second, y_offset, y_given, y_length, y_there, y_known, vp_updL y_lo (B + d) (if f = 1 then y_lo (B + d) + l2 else y_lo (B + d) - l2), y_hi, y_at, y_lookups, y_safe, y_met, y_tag, y_word, y_packet, y_keys, y_values, y_many)) : wY_arithmetic_66 post (nI i) a r (nI f) (nI d) y_place y_least y_most y_smallest y_greatest y_ways y_fault (nI B) y_otherKind y_otherLo y_otherHi y_low y_high y_bytes y_steps y_op y_first y_second y_offset y_given y_length y_there y_known y_lo y_hi y_at y_lookups y_safe y_met y_tag y_word y_packet y_keys y_values y_many := by
  refine yv_a1 hd (by omega) (by omega) OP (fun x x1 _ => ?_)
  have v : vp_in (nI B + nI d) 168 := by rw [nI_add]; exact vp_in_nI hd (by decide)
  have c : (nI B + nI d).toNatClampNeg = B + d := by rw [nI_add, nI_clamp (by omega)]
  have w : wY_arithmetic_305 post a (nI f) (nI d) x y_place y_least y_most y_smallest y_greatest y_ways y_fault (nI B) 1 l2 h2 y_low y_high y_bytes y_steps y_op y_first y_second y_offset y_given y_length y_there y_known y_lo y_hi y_at y_lookups y_safe y_met y_tag y_word y_packet y_keys y_values y_many := by
    refine br_f (by rw [xb_le3 (by omega)]; omega) (br_f (by rw [x1 e]; decide) (br_f hh ⟨v, ?_⟩))
    rcases hf with rfl | rfl
    · exact br_t rfl ⟨v, nm_r (e' := vp_updL y_lo (B + d) (y_lo (B + d) + l2)) (by rw [c]) H⟩
    · refine br_f (by decide) ⟨v, nm_r (e' := vp_updL y_lo (B + d) (y_lo (B + d) - l2)) (by rw [c, Int64.sub_eq_add_neg]) H⟩
  have w2 : wY_arithmetic_293 post a (nI f) (nI d) (y_known (B + d)) x y_place y_least y_most y_smallest y_greatest y_ways y_fault (nI B) 1 l2 h2 y_low y_high y_bytes y_steps y_op y_first y_second y_offset y_given y_length y_there y_known y_lo y_hi y_at y_lookups y_safe y_met y_tag y_word y_packet y_keys y_values y_many := by
    rcases kd with kd | kd
    · exact br_t kd w
    · exact br_f (by rw [kd]; decide) (br_t kd w)
  refine br_f (by rcases kd with kd | kd <;> rw [kd] <;> decide) (br_f (by rcases kd with kd | kd <;> rw [kd] <;> decide) w2)
theorem yv_aCf {post : SY → Prop} {i B d f : Nat} {a r : Int32} {l2 h2 : Int64} (hd : B + d < 168) (h1 : 1 ≤ f) (h6 : f ≤ 6) (kd : y_known (B + d) = 4 ∨ y_known (B + d) = 5) (hh : ¬ (l2 = h2 ∧ ¬ 100 < l2 ∧ (f = 1 ∨ f = 2))) (OP : ∀ post : SY → Prop, post (y_place, y_least, y_most, y_smallest, y_greatest, y_ways, y_fault, nI B, 1, l2, h2, y_low, y_high, y_bytes, y_steps, y_op, y_first, y_second, y_offset, y_given, y_length, y_there, y_known, y_lo, y_hi, y_at, y_lookups, y_safe, y_met, y_tag, y_word, y_packet, y_keys, y_values, y_many) → wpY_other post (y_place, y_least, y_most, y_smallest, y_greatest, y_ways, y_fault, nI B, y_otherKind, y_otherLo, y_otherHi, y_low, y_high, y_bytes, y_steps, y_op, y_first, y_second, y_offset, y_given, y_length, y_there, y_known, y_lo, y_hi, y_at, y_lookups, y_safe, y_met, y_tag, y_word, y_packet, y_keys, y_values, y_many) (nI i) r) (H : post (a, y_least, y_most, y_smallest, y_greatest, y_ways, 3, nI B, 1, l2, h2, y_low, y_high, y_bytes, y_steps, y_op, y_first, y_second, y_offset, y_given, y_length, y_there, y_known, y_lo, y_hi, y_at, y_lookups, y_safe, y_met, y_tag, y_word, y_packet, y_keys, y_values, y_many)) : wY_arithmetic_66 post (nI i) a r (nI f) (nI d) y_place y_least y_most y_smallest y_greatest y_ways y_fault (nI B) y_otherKind y_otherLo y_otherHi y_low y_high y_bytes y_steps y_op y_first y_second y_offset y_given y_length y_there y_known y_lo y_hi y_at y_lookups y_safe y_met y_tag y_word y_packet y_keys y_values y_many := by
  refine yv_a1 hd h1 h6 OP (fun x x1 x0 => ?_)
  have w2 : wY_arithmetic_293 post a (nI f) (nI d) (y_known (B + d)) x y_place y_least y_most y_smallest y_greatest y_ways y_fault (nI B) 1 l2 h2 y_low y_high y_bytes y_steps y_op y_first y_second y_offset y_given y_length y_there y_known y_lo y_hi y_at y_lookups y_safe y_met y_tag y_word y_packet y_keys y_values y_many := by
    refine yv_293f ?_ H
    by_cases z : 3 ≤ f
    · exact Or.inr (Or.inl (by rw [xb_le3 (by omega)]; exact z))
    · by_cases y : l2 = h2
      · by_cases w : 100 < l2
        · exact Or.inr (Or.inr (Or.inr w))
        · exact absurd ⟨y, w, by omega⟩ hh
      · exact Or.inr (Or.inr (Or.inl (x0 y)))
  refine br_f (by rcases kd with kd | kd <;> rw [kd] <;> decide) (br_f (by rcases kd with kd | kd <;> rw [kd] <;> decide) w2)
theorem yv_aO {post : SY → Prop} {i B d f : Nat} {a r : Int32} {l2 h2 : Int64} (hd : B + d < 168) (h1 : 1 ≤ f) (h6 : f ≤ 6) (k1 : ¬ y_known (B + d) = 1) (k2 : ¬ y_known (B + d) = 2) (k4 : ¬ y_known (B + d) = 4) (k5 : ¬ y_known (B + d) = 5) (OP : ∀ post : SY → Prop, post (y_place, y_least, y_most, y_smallest, y_greatest, y_ways, y_fault, nI B, 1, l2, h2, y_low, y_high, y_bytes, y_steps, y_op, y_first, y_second, y_offset, y_given, y_length, y_there, y_known, y_lo, y_hi, y_at, y_lookups, y_safe, y_met, y_tag, y_word, y_packet, y_keys, y_values, y_many) → wpY_other post (y_place, y_least, y_most, y_smallest, y_greatest, y_ways, y_fault, nI B, y_otherKind, y_otherLo, y_otherHi, y_low, y_high, y_bytes, y_steps, y_op, y_first, y_second, y_offset, y_given, y_length, y_there, y_known, y_lo, y_hi, y_at, y_lookups, y_safe, y_met, y_tag, y_word, y_packet, y_keys, y_values, y_many) (nI i) r) (H : post (a, y_least, y_most, y_smallest, y_greatest, y_ways, 3, nI B, 1, l2, h2, y_low, y_high, y_bytes, y_steps, y_op, y_first, y_second, y_offset, y_given, y_length, y_there, y_known, y_lo, y_hi, y_at, y_lookups, y_safe, y_met, y_tag, y_word, y_packet, y_keys, y_values, y_many)) : wY_arithmetic_66 post (nI i) a r (nI f) (nI d) y_place y_least y_most y_smallest y_greatest y_ways y_fault (nI B) y_otherKind y_otherLo y_otherHi y_low y_high y_bytes y_steps y_op y_first y_second y_offset y_given y_length y_there y_known y_lo y_hi y_at y_lookups y_safe y_met y_tag y_word y_packet y_keys y_values y_many := by
  refine yv_a1 hd h1 h6 OP (fun x x1 x0 => ?_)
  exact br_f k1 (br_f k2 (yv_293f (Or.inl ⟨k4, k5⟩) H))
theorem yv_arG {post : SY → Prop} {i B d s f : Nat} {a o r : Int32} (hi : i < 120) (hd : B + d < 168) (hs : B + s < 168) (hf : f ≤ 6) (ef : o - o / 10 * 10 = nI f) (er : r = if o < 10 then 0 else 1) (e1 : y_first i = nI d) (e2 : y_second i = nI s) (m1 : f = 0 ∨ d = 8 ∨ ¬ y_known (B + d) = 0) (m2 : r = 0 ∨ s = 8 ∨ ¬ y_known (B + s) = 0) (H : wY_arithmetic_66 post (nI i) a r (nI f) (nI d) y_place y_least y_most y_smallest y_greatest y_ways y_fault (nI B) y_otherKind y_otherLo y_otherHi y_low y_high y_bytes y_steps y_op y_first y_second y_offset y_given y_length y_there y_known y_lo y_hi y_at y_lookups y_safe y_met y_tag y_word y_packet y_keys y_values y_many) : wpY_arithmetic post (y_place, y_least, y_most, y_smallest, y_greatest, y_ways, y_fault, nI B, y_otherKind, y_otherLo, y_otherHi, y_low, y_high, y_bytes, y_steps, y_op, y_first, y_second, y_offset, y_given, y_length, y_there, y_known, y_lo, y_hi, y_at, y_lookups, y_safe, y_met, y_tag, y_word, y_packet, y_keys, y_values, y_many) (nI i) a o := by
  have v : vp_in (nI i) 120 := vp_in_nI hi (by decide)
  have w50 : wY_arithmetic_50 post (nI i) a r (nI f) (nI d) (nI s) y_place y_least y_most y_smallest y_greatest y_ways y_fault (nI B) y_otherKind y_otherLo y_otherHi y_low y_high y_bytes y_steps y_op y_first y_second y_offset y_given y_length y_there y_known y_lo y_hi y_at y_lookups y_safe y_met y_tag y_word y_packet y_keys y_values y_many := by
    refine br_c (fun _ => H) (fun z => ?_)
    have m2' : s = 8 ∨ ¬ y_known (B + s) = 0 := by rcases m2 with m | m; exact absurd m z; exact m
    exact (yv_missN hs m2').mpr (br_t rfl H)
  have w11 : wY_arithmetic_11 post (nI i) a o r y_place y_least y_most y_smallest y_greatest y_ways y_fault (nI B) y_otherKind y_otherLo y_otherHi y_low y_high y_bytes y_steps y_op y_first y_second y_offset y_given y_length y_there y_known y_lo y_hi y_at y_lookups y_safe y_met y_tag y_word y_packet y_keys y_values y_many := by
    refine ⟨by decide, nm_r ef ⟨v, nm_r (e' := nI d) (by rw [nI_clamp (by omega)]; exact e1) ⟨v, nm_r (e' := nI s) (by rw [nI_clamp (by omega)]; exact e2) (br_c (fun _ => w50) (fun z => ?_))⟩⟩⟩
    have m1' : d = 8 ∨ ¬ y_known (B + d) = 0 := by
      rcases m1 with m | m
      · subst m; exact absurd rfl z
      · exact m
    exact (yv_missN hd m1').mpr (br_t rfl w50)
  by_cases z : o < 10
  · rw [if_pos z] at er; subst er; exact br_t z w11
  · rw [if_neg z] at er; subst er; exact br_f z w11
theorem yv_arU {post : SY → Prop} {i B d s f : Nat} {a o r : Int32} (hi : i < 120) (hd : B + d < 168) (hs : B + s < 168) (hf : f ≤ 6) (ef : o - o / 10 * 10 = nI f) (er : r = if o < 10 then 0 else 1) (e1 : y_first i = nI d) (e2 : y_second i = nI s) (m : (¬ f = 0 ∧ ¬ d = 8 ∧ y_known (B + d) = 0) ∨ (¬ r = 0 ∧ ¬ s = 8 ∧ y_known (B + s) = 0)) (H : post (a, y_least, y_most, y_smallest, y_greatest, y_ways, 2, nI B, y_otherKind, y_otherLo, y_otherHi, y_low, y_high, y_bytes, y_steps, y_op, y_first, y_second, y_offset, y_given, y_length, y_there, y_known, y_lo, y_hi, y_at, y_lookups, y_safe, y_met, y_tag, y_word, y_packet, y_keys, y_values, y_many)) : wpY_arithmetic post (y_place, y_least, y_most, y_smallest, y_greatest, y_ways, y_fault, nI B, y_otherKind, y_otherLo, y_otherHi, y_low, y_high, y_bytes, y_steps, y_op, y_first, y_second, y_offset, y_given, y_length, y_there, y_known, y_lo, y_hi, y_at, y_lookups, y_safe, y_met, y_tag, y_word, y_packet, y_keys, y_values, y_many) (nI i) a o := by
  have v : vp_in (nI i) 120 := vp_in_nI hi (by decide)
  have w50 : ¬ (¬ f = 0 ∧ ¬ d = 8 ∧ y_known (B + d) = 0) → wY_arithmetic_50 post (nI i) a r (nI f) (nI d) (nI s) y_place y_least y_most y_smallest y_greatest y_ways y_fault (nI B) y_otherKind y_otherLo y_otherHi y_low y_high y_bytes y_steps y_op y_first y_second y_offset y_given y_length y_there y_known y_lo y_hi y_at y_lookups y_safe y_met y_tag y_word y_packet y_keys y_values y_many := by
    intro n
    obtain ⟨z1, z2, z3⟩ : ¬ r = 0 ∧ ¬ s = 8 ∧ y_known (B + s) = 0 := by rcases m with m | m; exact absurd m n; exact m
    refine br_f z1 ((yv_missY hs z2 z3).mpr (br_f (by decide) H))
  have w11 : wY_arithmetic_11 post (nI i) a o r y_place y_least y_most y_smallest y_greatest y_ways y_fault (nI B) y_otherKind y_otherLo y_otherHi y_low y_high y_bytes y_steps y_op y_first y_second y_offset y_given y_length y_there y_known y_lo y_hi y_at y_lookups y_safe y_met y_tag y_word y_packet y_keys y_values y_many := by
    refine ⟨by decide, nm_r ef ⟨v, nm_r (e' := nI d) (by rw [nI_clamp (by omega)]; exact e1) ⟨v, nm_r (e' := nI s) (by rw [nI_clamp (by omega)]; exact e2) (br_c (fun z => w50 ?_) (fun z => ?_))⟩⟩⟩
    · intro n
      rw [xb_eq0 (by omega)] at z
      exact n.1 z
    · by_cases q : d = 8 ∨ ¬ y_known (B + d) = 0
      · refine (yv_missN hd q).mpr (br_t rfl (w50 ?_))
        intro n
        rcases q with q | q
        · exact n.2.1 q
        · exact q n.2.2
      · have q1 : ¬ d = 8 := fun n => q (Or.inl n)
        have q2 : y_known (B + d) = 0 := Classical.byContradiction fun n => q (Or.inr n)
        exact (yv_missY hd q1 q2).mpr (br_f (by decide) H)
  by_cases z : o < 10
  · rw [if_pos z] at er; subst er; exact br_t z w11
  · rw [if_neg z] at er; subst er; exact br_f z w11
/-- at[ways - 1]++ -/
theorem yv_78 {post : SY → Prop} {w a : Nat} (hw : w < 12) (ha : a < 100) (e : y_at w = nI a) (H : post (y_place, y_least, y_most, y_smallest, y_greatest, nI (w + 1), y_fault, y_base, y_otherKind, y_otherLo, y_otherHi, y_low, y_high, y_bytes, y_steps, y_op, y_first, y_second, y_offset, y_given, y_length, y_there, y_known, y_lo, y_hi, upd y_at w (nI (a + 1)), y_lookups, y_safe, y_met, y_tag, y_word, y_packet, y_keys, y_values, y_many)) : wY_instruction_78 post y_place y_least y_most y_smallest y_greatest (nI (w + 1)) y_fault y_base y_otherKind y_otherLo y_otherHi y_low y_high y_bytes y_steps y_op y_first y_second y_offset y_given y_length y_there y_known y_lo y_hi y_at y_lookups y_safe y_met y_tag y_word y_packet y_keys y_values y_many := by
  have v : vp_in (nI (w + 1) - 1) 12 := by rw [nI_pred]; exact vp_in_nI hw (by decide)
  have c : (nI (w + 1) - 1).toNatClampNeg = w := by rw [nI_pred]; exact nI_clamp (by omega)
  refine ⟨v, v, nm_r (e' := upd y_at w (nI (a + 1))) ?_ H⟩
  rw [c, e, nI_1, xb_nb (by omega), xb_vb (by omega)]
end
end
section
theorem ym_far {f : Int32} : far_ f ↔ (f.toInt64 < -100 ∨ ¬ f.toInt64 ≤ 100) := by
  unfold far_
  rw [Int32.lt_iff_toInt_lt, Int32.le_iff_toInt_le, Int64.lt_iff_toInt_lt, Int64.le_iff_toInt_le, Int32.toInt_toInt64]
  exact Iff.rfl
section
variable {y_place : Int32} {y_least : Int64} {y_most : Int64} {y_smallest : Int64} {y_greatest : Int64} {y_ways : Int32} {y_fault : Int32} {y_base : Int32} {y_otherKind : Int32} {y_otherLo : Int64} {y_otherHi : Int64} {y_low : Int64} {y_high : Int64} {y_bytes : Int32} {y_steps : Int32} {y_op : Nat → Int32} {y_first : Nat → Int32} {y_second : Nat → Int32} {y_offset : Nat → Int32} {y_given : Nat → Int32} {y_length : Nat → Int32} {y_there : Nat → Int32} {y_known : Nat → Int32} {y_lo : Nat → Int64} {y_hi : Nat → Int64} {y_at : Nat → Int32} {y_lookups : Nat → Int32} {y_safe : Nat → Int32} {y_met : Nat → Int32} {y_tag : Nat → Int32} {y_word : Nat → Int64} {y_packet : Nat → Int32} {y_keys : Nat → Int64} {y_values : Nat → Int64} {y_many : Nat → Int32}
theorem yv_m288 {post : SY → Prop} {a : Int32} (H : post (a, y_least, y_most, y_smallest, y_greatest, y_ways, 4, y_base, y_otherKind, y_otherLo, y_otherHi, y_low, y_high, y_bytes, y_steps, y_op, y_first, y_second, y_offset, y_given, y_length, y_there, y_known, y_lo, y_hi, y_at, y_lookups, y_safe, y_met, y_tag, y_word, y_packet, y_keys, y_values, y_many)) : wY_memory_288 post a y_place y_least y_most y_smallest y_greatest y_ways y_fault y_base y_otherKind y_otherLo y_otherHi y_low y_high y_bytes y_steps y_op y_first y_second y_offset y_given y_length y_there y_known y_lo y_hi y_at y_lookups y_safe y_met y_tag y_word y_packet y_keys y_values y_many := H
theorem yv_m209 {post : SY → Prop} {a : Int32} (H : post (a, y_least, y_most, y_smallest, y_greatest, y_ways, 4, y_base, y_otherKind, y_otherLo, y_otherHi, y_low, y_high, y_bytes, y_steps, y_op, y_first, y_second, y_offset, y_given, y_length, y_there, y_known, y_lo, y_hi, y_at, y_lookups, y_safe, y_met, y_tag, y_word, y_packet, y_keys, y_values, y_many)) : wY_memory_209 post a y_place y_least y_most y_smallest y_greatest y_ways y_fault y_base y_otherKind y_otherLo y_otherHi y_low y_high y_bytes y_steps y_op y_first y_second y_offset y_given y_length y_there y_known y_lo y_hi y_at y_lookups y_safe y_met y_tag y_word y_packet y_keys y_values y_many := H
theorem yv_meU {post : SY → Prop} {i B d s p : Nat} {a o : Int32} (hi : i < 120) (hp : B + p < 168) (hs : B + s < 168) (e1 : y_first i = nI d) (e2 : y_second i = nI s) (ep : p = if o = 41 then d else s) (m : (¬ p = 8 ∧ y_known (B + p) = 0) ∨ (o = 41 ∧ ¬ s = 8 ∧ y_known (B + s) = 0)) (H : post (a, y_least, y_most, y_smallest, y_greatest, y_ways, 2, nI B, y_otherKind, y_otherLo, y_otherHi, y_low, y_high, y_bytes, y_steps, y_op, y_first, y_second, y_offset, y_given, y_length, y_there, y_known, y_lo, y_hi, y_at, y_lookups, y_safe, y_met, y_tag, y_word, y_packet, y_keys, y_values, y_many)) : wpY_memory post (y_place, y_least, y_most, y_smallest, y_greatest, y_ways, y_fault, nI B, y_otherKind, y_otherLo, y_otherHi, y_low, y_high, y_bytes, y_steps, y_op, y_first, y_second, y_offset, y_given, y_length, y_there, y_known, y_lo, y_hi, y_at, y_lookups, y_safe, y_met, y_tag, y_word, y_packet, y_keys, y_values, y_many) (nI i) a o := by
  have v : vp_in (nI i) 120 := vp_in_nI hi (by decide)
  have w : wY_memory_29 post (nI i) a o (nI d) (nI s) (nI p) y_place y_least y_most y_smallest y_greatest y_ways y_fault (nI B) y_otherKind y_otherLo y_otherHi y_low y_high y_bytes y_steps y_op y_first y_second y_offset y_given y_length y_there y_known y_lo y_hi y_at y_lookups y_safe y_met y_tag y_word y_packet y_keys y_values y_many := by
    unfold wY_memory_29
    by_cases q : p = 8 ∨ ¬ y_known (B + p) = 0
    · refine (yv_missN hp q).mpr (br_t rfl ?_)
      obtain ⟨z1, z2, z3⟩ : o = 41 ∧ ¬ s = 8 ∧ y_known (B + s) = 0 := by
        rcases m with m | m
        · rcases q with q | q
          · exact absurd q m.1
          · exact absurd m.2 q
        · exact m
      exact br_t z1 ((yv_missY hs z2 z3).mpr (br_f (by decide) H))
    · have q1 : ¬ p = 8 := fun n => q (Or.inl n)
      have q2 : y_known (B + p) = 0 := Classical.byContradiction fun n => q (Or.inr n)
      exact (yv_missY hp q1 q2).mpr (br_f (by decide) H)
  refine ⟨v, nm_r (e' := nI d) (by rw [nI_clamp (by omega)]; exact e1) ⟨v, nm_r (e' := nI s) (by rw [nI_clamp (by omega)]; exact e2) ?_⟩⟩
  by_cases z : o = 41
  · rw [if_pos z] at ep; subst ep; exact br_t z w
  · rw [if_neg z] at ep; subst ep; exact br_f z w
theorem yv_meG {post : SY → Prop} {i B d s p : Nat} {a o kp : Int32} {lp : Int64} (hi : i < 120) (hp : B + p < 168) (hs : B + s < 168) (e1 : y_first i = nI d) (e2 : y_second i = nI s) (ep : p = if o = 41 then d else s) (m1 : p = 8 ∨ ¬ y_known (B + p) = 0) (m2 : o = 41 → s = 8 ∨ ¬ y_known (B + s) = 0) (ek : kp = if p = 8 then 4 else y_known (B + p)) (el : lp = if p = 8 then 0 else y_lo (B + p)) (A : far_ (y_offset i) → wY_memory_140 post a o (nI d) (nI s) (nI p) kp lp (y_offset i).toInt64 1 y_place y_least y_most y_smallest y_greatest y_ways y_fault (nI B) y_otherKind y_otherLo y_otherHi y_low y_high y_bytes y_steps y_op y_first y_second y_offset y_given y_length y_there y_known y_lo y_hi y_at y_lookups y_safe y_met y_tag y_word y_packet y_keys y_values y_many) (G : ¬ far_ (y_offset i) → wY_memory_140 post a o (nI d) (nI s) (nI p) kp lp (y_offset i).toInt64 0 y_place y_least y_most y_smallest y_greatest y_ways y_fault (nI B) y_otherKind y_otherLo y_otherHi y_low y_high y_bytes y_steps y_op y_first y_second y_offset y_given y_length y_there y_known y_lo y_hi y_at y_lookups y_safe y_met y_tag y_word y_packet y_keys y_values y_many) : wpY_memory post (y_place, y_least, y_most, y_smallest, y_greatest, y_ways, y_fault, nI B, y_otherKind, y_otherLo, y_otherHi, y_low, y_high, y_bytes, y_steps, y_op, y_first, y_second, y_offset, y_given, y_length, y_there, y_known, y_lo, y_hi, y_at, y_lookups, y_safe, y_met, y_tag, y_word, y_packet, y_keys, y_values, y_many) (nI i) a o := by
  have v : vp_in (nI i) 120 := vp_in_nI hi (by decide)
  have vp : vp_in (nI B + nI p) 168 := by rw [nI_add]; exact vp_in_nI hp (by decide)
  have c : (nI B + nI p).toNatClampNeg = B + p := by rw [nI_add, nI_clamp (by omega)]
  have w106 : wY_memory_106 post (nI i) a o (nI d) (nI s) (nI p) kp lp y_place y_least y_most y_smallest y_greatest y_ways y_fault (nI B) y_otherKind y_otherLo y_otherHi y_low y_high y_bytes y_steps y_op y_first y_second y_offset y_given y_length y_there y_known y_lo y_hi y_at y_lookups y_safe y_met y_tag y_word y_packet y_keys y_values y_many := by
    refine ⟨v, nm_r (e' := (y_offset i).toInt64) (by rw [nI_clamp (by omega)]) (br_c (fun z => A (ym_far.mpr (Or.inl z))) (fun z => br_c (fun y => G ?_) (fun y => A (ym_far.mpr (Or.inr y)))))⟩
    rw [ym_far]
    rintro (n | n)
    · exact z n
    · exact n y
  have w58 : wY_memory_58 post (nI i) a o (nI d) (nI s) (nI p) y_place y_least y_most y_smallest y_greatest y_ways y_fault (nI B) y_otherKind y_otherLo y_otherHi y_low y_high y_bytes y_steps y_op y_first y_second y_offset y_given y_length y_there y_known y_lo y_hi y_at y_lookups y_safe y_met y_tag y_word y_packet y_keys y_values y_many := by
    by_cases z : p = 8
    · rw [if_pos z] at ek el
      subst z
      subst ek el
      exact br_t rfl (br_t rfl w106)
    · rw [if_neg z] at ek el
      have z' : ¬ nI p = 8 := by rw [xb_eq8 (by omega)]; exact z
      refine br_f z' ⟨vp, br_f z' ⟨vp, ?_⟩⟩
      rw [c, ← ek, ← el]
      exact w106
  have w : wY_memory_29 post (nI i) a o (nI d) (nI s) (nI p) y_place y_least y_most y_smallest y_greatest y_ways y_fault (nI B) y_otherKind y_otherLo y_otherHi y_low y_high y_bytes y_steps y_op y_first y_second y_offset y_given y_length y_there y_known y_lo y_hi y_at y_lookups y_safe y_met y_tag y_word y_packet y_keys y_values y_many := by
    refine (yv_missN hp m1).mpr (br_t rfl (br_c (fun z => ?_) (fun _ => w58)))
    exact (yv_missN hs (m2 z)).mpr (br_t rfl w58)
  refine ⟨v, nm_r (e' := nI d) (by rw [nI_clamp (by omega)]; exact e1) ⟨v, nm_r (e' := nI s) (by rw [nI_clamp (by omega)]; exact e2) ?_⟩⟩
  by_cases z : o = 41
  · rw [if_pos z] at ep; subst ep; exact br_t z w
  · rw [if_neg z] at ep; subst ep; exact br_f z w
/-- LOADB from wY_memory_140 -/
theorem yv_mbK {post : SY → Prop} {a d s p kp z : Int32} {lp f : Int64} (k : ¬ kp = 2) (H : post (a, y_least, y_most, y_smallest, y_greatest, y_ways, 3, y_base, y_otherKind, y_otherLo, y_otherHi, y_low, y_high, y_bytes, y_steps, y_op, y_first, y_second, y_offset, y_given, y_length, y_there, y_known, y_lo, y_hi, y_at, y_lookups, y_safe, y_met, y_tag, y_word, y_packet, y_keys, y_values, y_many)) : wY_memory_140 post a 42 d s p kp lp f z y_place y_least y_most y_smallest y_greatest y_ways y_fault y_base y_otherKind y_otherLo y_otherHi y_low y_high y_bytes y_steps y_op y_first y_second y_offset y_given y_length y_there y_known y_lo y_hi y_at y_lookups y_safe y_met y_tag y_word y_packet y_keys y_values y_many := br_t rfl (br_f k H)
theorem yv_mbB {post : SY → Prop} {B p w : Nat} {a d s z : Int32} {lp f : Int64} (hp : B + p < 168) (hw : w < 12) (b : z = 1 ∨ (z = 0 ∧ (lp + f < 0 ∨ ¬ y_hi (B + p) + f < (y_safe w).toInt64))) (H : post (a, y_least, y_most, y_smallest, y_greatest, nI (w + 1), 4, nI B, y_otherKind, y_otherLo, y_otherHi, y_low, y_high, y_bytes, y_steps, y_op, y_first, y_second, y_offset, y_given, y_length, y_there, y_known, y_lo, y_hi, y_at, y_lookups, y_safe, y_met, y_tag, y_word, y_packet, y_keys, y_values, y_many)) : wY_memory_140 post a 42 d s (nI p) 2 lp f z y_place y_least y_most y_smallest y_greatest (nI (w + 1)) y_fault (nI B) y_otherKind y_otherLo y_otherHi y_low y_high y_bytes y_steps y_op y_first y_second y_offset y_given y_length y_there y_known y_lo y_hi y_at y_lookups y_safe y_met y_tag y_word y_packet y_keys y_values y_many := by
  have vp : vp_in (nI B + nI p) 168 := by rw [nI_add]; exact vp_in_nI hp (by decide)
  have c : (nI B + nI p).toNatClampNeg = B + p := by rw [nI_add, nI_clamp (by omega)]
  have vw : vp_in (nI (w + 1) - 1) 12 := by rw [nI_pred]; exact vp_in_nI hw (by decide)
  have cw : (nI (w + 1) - 1).toNatClampNeg = w := by rw [nI_pred]; exact nI_clamp (by omega)
  refine br_t rfl (br_t rfl ?_)
  rcases b with b | ⟨z0, b⟩
  · exact br_f (by rw [b]; decide) H
  · refine br_t z0 (br_c (fun _ => H) (fun n => ⟨vp, vw, ?_⟩))
    rw [c, cw]
    exact br_f (by rcases b with b | b; exact absurd b n; exact b) H
theorem yv_mbO {post : SY → Prop} {B p w d : Nat} {a s : Int32} {lp f : Int64} (hp : B + p < 168) (hd : B + d < 168) (hw : w < 12) (b1 : ¬ lp + f < 0) (b2 : y_hi (B + p) + f < (y_safe w).toInt64) (H : post (y_place, y_least, y_most, y_smallest, y_greatest, nI (w + 1), y_fault, nI B, y_otherKind, y_otherLo, y_otherHi, y_low, y_high, y_bytes, y_steps, y_op, y_first, y_second, y_offset, y_given, y_length, y_there, upd y_known (B + d) 1, vp_updL y_lo (B + d) 0, vp_updL y_hi (B + d) 255, y_at, y_lookups, y_safe, y_met, y_tag, y_word, y_packet, y_keys, y_values, y_many)) : wY_memory_140 post a 42 (nI d) s (nI p) 2 lp f 0 y_place y_least y_most y_smallest y_greatest (nI (w + 1)) y_fault (nI B) y_otherKind y_otherLo y_otherHi y_low y_high y_bytes y_steps y_op y_first y_second y_offset y_given y_length y_there y_known y_lo y_hi y_at y_lookups y_safe y_met y_tag y_word y_packet y_keys y_values y_many := by
  have vp : vp_in (nI B + nI p) 168 := by rw [nI_add]; exact vp_in_nI hp (by decide)
  have c : (nI B + nI p).toNatClampNeg = B + p := by rw [nI_add, nI_clamp (by omega)]
  have vw : vp_in (nI (w + 1) - 1) 12 := by rw [nI_pred]; exact vp_in_nI hw (by decide)
  have cw : (nI (w + 1) - 1).toNatClampNeg = w := by rw [nI_pred]; exact nI_clamp (by omega)
  refine br_t rfl (br_t rfl (br_t rfl (br_f b1 ⟨vp, vw, ?_⟩)))
  rw [c, cw]
  exact br_t b2 ((yv_set hd (Or.inr (Or.inl rfl))).mpr H)
/-- LOAD and STORE from wY_memory_140 -/
theorem yv_mcK {post : SY → Prop} {a o d s p kp z : Int32} {lp f : Int64} (ho : ¬ o = 42) (k : ¬ kp = 4 ∧ ¬ kp = 5) (H : post (a, y_least, y_most, y_smallest, y_greatest, y_ways, 3, y_base, y_otherKind, y_otherLo, y_otherHi, y_low, y_high, y_bytes, y_steps, y_op, y_first, y_second, y_offset, y_given, y_length, y_there, y_known, y_lo, y_hi, y_at, y_lookups, y_safe, y_met, y_tag, y_word, y_packet, y_keys, y_values, y_many)) : wY_memory_140 post a o d s p kp lp f z y_place y_least y_most y_smallest y_greatest y_ways y_fault y_base y_otherKind y_otherLo y_otherHi y_low y_high y_bytes y_steps y_op y_first y_second y_offset y_given y_length y_there y_known y_lo y_hi y_at y_lookups y_safe y_met y_tag y_word y_packet y_keys y_values y_many := br_f ho (nm_e (br_f k.1 (br_f k.2 H)))
theorem yv_mcB {post : SY → Prop} {a o d s p kp z : Int32} {lp f : Int64} (ho : ¬ o = 42) (k : kp = 4 ∨ kp = 5) (b : z = 1 ∨ (z = 0 ∧ (lp + f < 0 ∨ ¬ lp + f < (if kp = 4 then lN 6 else lN 2)))) (H : post (a, y_least, y_most, y_smallest, y_greatest, y_ways, 4, y_base, y_otherKind, y_otherLo, y_otherHi, y_low, y_high, y_bytes, y_steps, y_op, y_first, y_second, y_offset, y_given, y_length, y_there, y_known, y_lo, y_hi, y_at, y_lookups, y_safe, y_met, y_tag, y_word, y_packet, y_keys, y_values, y_many)) : wY_memory_140 post a o d s p kp lp f z y_place y_least y_most y_smallest y_greatest y_ways y_fault y_base y_otherKind y_otherLo y_otherHi y_low y_high y_bytes y_steps y_op y_first y_second y_offset y_given y_length y_there y_known y_lo y_hi y_at y_lookups y_safe y_met y_tag y_word y_packet y_keys y_values y_many := by
  have w : wY_memory_258 post a o d s kp z (lp + f) y_place y_least y_most y_smallest y_greatest y_ways y_fault y_base y_otherKind y_otherLo y_otherHi y_low y_high y_bytes y_steps y_op y_first y_second y_offset y_given y_length y_there y_known y_lo y_hi y_at y_lookups y_safe y_met y_tag y_word y_packet y_keys y_values y_many := by
    rcases b with b | ⟨z0, b⟩
    · exact br_f (by rw [b]; decide) H
    · refine br_t z0 (br_c (fun _ => H) (fun n => ?_))
      have b' : ¬ lp + f < (if kp = 4 then lN 6 else lN 2) := by rcases b with b | b; exact absurd b n; exact b
      obtain ⟨c, hc, ec⟩ := pk_lOf n
      rw [ec] at b' ⊢
      have e5 : (5 : Int32).toInt64 = lN 5 := by decide
      have e1 : (1 : Int32).toInt64 = lN 1 := by decide
      refine br_c (fun q => ?_) (fun q => ?_)
      · rw [if_pos q, pk_lLT (by omega) (by omega)] at b'
        exact br_f (by rw [e5, pk_lLE (by omega) (by omega)]; omega) H
      · rw [if_neg q, pk_lLT (by omega) (by omega)] at b'
        exact br_f (by rw [e1, pk_lLE (by omega) (by omega)]; omega) H
  rcases k with k | k
  · exact br_f ho (nm_e (br_t k w))
  · exact br_f ho (nm_e (br_f (by rw [k]; decide) (br_t k w)))
theorem yv_mcG {post : SY → Prop} {a o d s p kp : Int32} {lp f : Int64} {c : Nat} (ho : ¬ o = 42) (k : kp = 4 ∨ kp = 5) (ec : lp + f = lN c) (hc : c < (if kp = 4 then 6 else 2)) (H : (((o = 41 → (wpY_toCell post (y_place, y_least, y_most, y_smallest, y_greatest, y_ways, y_fault, y_base, y_otherKind, y_otherLo, y_otherHi, y_low, y_high, y_bytes, y_steps, y_op, y_first, y_second, y_offset, y_given, y_length, y_there, y_known, y_lo, y_hi, y_at, y_lookups, y_safe, y_met, y_tag, y_word, y_packet, y_keys, y_values, y_many) s kp (nI c) a)) ∧ (¬ o = 41 → (((kp = 5 → (wpY_set post (y_place, y_least, y_most, y_smallest, y_greatest, y_ways, y_fault, y_base, y_otherKind, y_otherLo, y_otherHi, y_low, y_high, y_bytes, y_steps, y_op, y_first, y_second, y_offset, y_given, y_length, y_there, y_known, y_lo, y_hi, y_at, y_lookups, y_safe, y_met, y_tag, y_word, y_packet, y_keys, y_values, y_many) d 1 0 4294967295)) ∧ (¬ kp = 5 → (wpY_fromStack post (y_place, y_least, y_most, y_smallest, y_greatest, y_ways, y_fault, y_base, y_otherKind, y_otherLo, y_otherHi, y_low, y_high, y_bytes, y_steps, y_op, y_first, y_second, y_offset, y_given, y_length, y_there, y_known, y_lo, y_hi, y_at, y_lookups, y_safe, y_met, y_tag, y_word, y_packet, y_keys, y_values, y_many) d (nI (8 + c)) a)))))))) : wY_memory_140 post a o d s p kp lp f 0 y_place y_least y_most y_smallest y_greatest y_ways y_fault y_base y_otherKind y_otherLo y_otherHi y_low y_high y_bytes y_steps y_op y_first y_second y_offset y_given y_length y_there y_known y_lo y_hi y_at y_lookups y_safe y_met y_tag y_word y_packet y_keys y_values y_many := by
  have c6 : c < 6 := by split at hc <;> omega
  have n0 : ¬ lN c < 0 := by
    have : ¬ lN c < lN 0 := by rw [pk_lLT (by omega) (by omega)]; omega
    exact this
  have e5 : (5 : Int32).toInt64 = lN 5 := by decide
  have e1 : (1 : Int32).toInt64 = lN 1 := by decide
  have G : (((o = 41 → (wpY_toCell post (y_place, y_least, y_most, y_smallest, y_greatest, y_ways, y_fault, y_base, y_otherKind, y_otherLo, y_otherHi, y_low, y_high, y_bytes, y_steps, y_op, y_first, y_second, y_offset, y_given, y_length, y_there, y_known, y_lo, y_hi, y_at, y_lookups, y_safe, y_met, y_tag, y_word, y_packet, y_keys, y_values, y_many) s kp (lN c).toInt32 a)) ∧ (¬ o = 41 → (((kp = 5 → (wpY_set post (y_place, y_least, y_most, y_smallest, y_greatest, y_ways, y_fault, y_base, y_otherKind, y_otherLo, y_otherHi, y_low, y_high, y_bytes, y_steps, y_op, y_first, y_second, y_offset, y_given, y_length, y_there, y_known, y_lo, y_hi, y_at, y_lookups, y_safe, y_met, y_tag, y_word, y_packet, y_keys, y_values, y_many) d 1 0 4294967295)) ∧ (¬ kp = 5 → (wpY_fromStack post (y_place, y_least, y_most, y_smallest, y_greatest, y_ways, y_fault, y_base, y_otherKind, y_otherLo, y_otherHi, y_low, y_high, y_bytes, y_steps, y_op, y_first, y_second, y_offset, y_given, y_length, y_there, y_known, y_lo, y_hi, y_at, y_lookups, y_safe, y_met, y_tag, y_word, y_packet, y_keys, y_values, y_many) d (8 + (lN c).toInt32) a))))))) := by
    rw [lN_i, xb_add8]; exact H
  have w : wY_memory_258 post a o d s kp 0 (lp + f) y_place y_least y_most y_smallest y_greatest y_ways y_fault y_base y_otherKind y_otherLo y_otherHi y_low y_high y_bytes y_steps y_op y_first y_second y_offset y_given y_length y_there y_known y_lo y_hi y_at y_lookups y_safe y_met y_tag y_word y_packet y_keys y_values y_many := by
    rw [ec]
    refine br_t rfl (br_f n0 (br_c (fun q => ?_) (fun q => ?_)))
    · rw [if_pos q] at hc
      exact br_t (by rw [e5, pk_lLE (by omega) (by omega)]; omega) G
    · rw [if_neg q] at hc
      exact br_t (by rw [e1, pk_lLE (by omega) (by omega)]; omega) G
  rcases k with k | k
  · exact br_f ho (nm_e (br_t k w))
  · exact br_f ho (nm_e (br_f (by rw [k]; decide) (br_t k w)))
theorem yv_cellV {post : SY → Prop} {B s : Nat} {c a : Int32} (hs : B + s < 168) (A : (if s = 8 then 4 else y_known (B + s)) = 1 → post (y_place, y_least, y_most, y_smallest, y_greatest, y_ways, y_fault, nI B, y_otherKind, y_otherLo, y_otherHi, y_low, y_high, y_bytes, y_steps, y_op, y_first, y_second, y_offset, y_given, y_length, y_there, y_known, y_lo, y_hi, y_at, y_lookups, y_safe, y_met, y_tag, y_word, y_packet, y_keys, y_values, y_many)) (C : ¬ (if s = 8 then 4 else y_known (B + s)) = 1 → post (a, y_least, y_most, y_smallest, y_greatest, y_ways, 3, nI B, y_otherKind, y_otherLo, y_otherHi, y_low, y_high, y_bytes, y_steps, y_op, y_first, y_second, y_offset, y_given, y_length, y_there, y_known, y_lo, y_hi, y_at, y_lookups, y_safe, y_met, y_tag, y_word, y_packet, y_keys, y_values, y_many)) : wpY_toCell post (y_place, y_least, y_most, y_smallest, y_greatest, y_ways, y_fault, nI B, y_otherKind, y_otherLo, y_otherHi, y_low, y_high, y_bytes, y_steps, y_op, y_first, y_second, y_offset, y_given, y_length, y_there, y_known, y_lo, y_hi, y_at, y_lookups, y_safe, y_met, y_tag, y_word, y_packet, y_keys, y_values, y_many) (nI s) 5 c a := by
  have vs : vp_in (nI B + nI s) 168 := by rw [nI_add]; exact vp_in_nI hs (by decide)
  have cs : (nI B + nI s).toNatClampNeg = B + s := by rw [nI_add, nI_clamp (by omega)]
  by_cases z : s = 8
  · simp only [z, if_true] at A C
    refine br_t (by rw [z]; rfl) (br_t rfl (br_f (by decide) (C (by decide))))
  · simp only [z, if_false] at A C
    refine br_f (by rw [xb_eq8 (by omega)]; exact z) ⟨vs, br_t rfl ?_⟩
    rw [cs]
    exact br_c A C
theorem yv_cellS {post : SY → Prop} {B s c : Nat} {a kk : Int32} {ll hh : Int64} (hs : B + s < 168) (hc : B + (8 + c) < 168) (e : (s = 8 ∧ kk = 4 ∧ ll = 0 ∧ hh = 0) ∨ (¬ s = 8 ∧ kk = y_known (B + s) ∧ ll = y_lo (B + s) ∧ hh = y_hi (B + s))) (k : k7_ kk) (H : post (y_place, y_least, y_most, y_smallest, y_greatest, y_ways, y_fault, nI B, y_otherKind, y_otherLo, y_otherHi, y_low, y_high, y_bytes, y_steps, y_op, y_first, y_second, y_offset, y_given, y_length, y_there, upd y_known (B + (8 + c)) kk, vp_updL y_lo (B + (8 + c)) ll, vp_updL y_hi (B + (8 + c)) hh, y_at, y_lookups, y_safe, y_met, y_tag, y_word, y_packet, y_keys, y_values, y_many)) : wpY_toCell post (y_place, y_least, y_most, y_smallest, y_greatest, y_ways, y_fault, nI B, y_otherKind, y_otherLo, y_otherHi, y_low, y_high, y_bytes, y_steps, y_op, y_first, y_second, y_offset, y_given, y_length, y_there, y_known, y_lo, y_hi, y_at, y_lookups, y_safe, y_met, y_tag, y_word, y_packet, y_keys, y_values, y_many) (nI s) 4 (nI c) a := by
  have vs : vp_in (nI B + nI s) 168 := by rw [nI_add]; exact vp_in_nI hs (by decide)
  have cs : (nI B + nI s).toNatClampNeg = B + s := by rw [nI_add, nI_clamp (by omega)]
  rcases e with ⟨z, rfl, rfl, rfl⟩ | ⟨z, rfl, rfl, rfl⟩
  · have z' : nI s = 8 := by rw [z]; rfl
    refine br_t z' (br_f (by decide) (br_t z' ?_))
    rw [xb_add8]
    exact (yv_set hc k).mpr H
  · have z' : ¬ nI s = 8 := by rw [xb_eq8 (by omega)]; exact z
    refine br_f z' ⟨vs, br_f (by decide) (br_f z' ⟨vs, vs, ?_⟩)⟩
    rw [xb_add8, cs]
    exact (yv_set hc k).mpr H
theorem yv_fromU {post : SY → Prop} {B c : Nat} {a d : Int32} (hc : B + c < 168) (k : y_known (B + c) = 0) (H : post (a, y_least, y_most, y_smallest, y_greatest, y_ways, 2, nI B, y_otherKind, y_otherLo, y_otherHi, y_low, y_high, y_bytes, y_steps, y_op, y_first, y_second, y_offset, y_given, y_length, y_there, y_known, y_lo, y_hi, y_at, y_lookups, y_safe, y_met, y_tag, y_word, y_packet, y_keys, y_values, y_many)) : wpY_fromStack post (y_place, y_least, y_most, y_smallest, y_greatest, y_ways, y_fault, nI B, y_otherKind, y_otherLo, y_otherHi, y_low, y_high, y_bytes, y_steps, y_op, y_first, y_second, y_offset, y_given, y_length, y_there, y_known, y_lo, y_hi, y_at, y_lookups, y_safe, y_met, y_tag, y_word, y_packet, y_keys, y_values, y_many) d (nI c) a := by
  have vs : vp_in (nI B + nI c) 168 := by rw [nI_add]; exact vp_in_nI hc (by decide)
  have cs : (nI B + nI c).toNatClampNeg = B + c := by rw [nI_add, nI_clamp (by omega)]
  refine ⟨vs, br_t (by rw [cs]; exact k) H⟩
theorem yv_fromO {post : SY → Prop} {B c d : Nat} {a : Int32} (hc : B + c < 168) (hd : B + d < 168) (k : ¬ y_known (B + c) = 0) (k7 : k7_ (y_known (B + c))) (H : post (y_place, y_least, y_most, y_smallest, y_greatest, y_ways, y_fault, nI B, y_otherKind, y_otherLo, y_otherHi, y_low, y_high, y_bytes, y_steps, y_op, y_first, y_second, y_offset, y_given, y_length, y_there, upd y_known (B + d) (y_known (B + c)), vp_updL y_lo (B + d) (y_lo (B + c)), vp_updL y_hi (B + d) (y_hi (B + c)), y_at, y_lookups, y_safe, y_met, y_tag, y_word, y_packet, y_keys, y_values, y_many)) : wpY_fromStack post (y_place, y_least, y_most, y_smallest, y_greatest, y_ways, y_fault, nI B, y_otherKind, y_otherLo, y_otherHi, y_low, y_high, y_bytes, y_steps, y_op, y_first, y_second, y_offset, y_given, y_length, y_there, y_known, y_lo, y_hi, y_at, y_lookups, y_safe, y_met, y_tag, y_word, y_packet, y_keys, y_values, y_many) (nI d) (nI c) a := by
  have vs : vp_in (nI B + nI c) 168 := by rw [nI_add]; exact vp_in_nI hc (by decide)
  have cs : (nI B + nI c).toNatClampNeg = B + c := by rw [nI_add, nI_clamp (by omega)]
  refine ⟨vs, br_f (by rw [cs]; exact k) ⟨vs, vs, vs, ?_⟩⟩
  rw [cs]
  exact (yv_set hd k7).mpr H
/-- exit -/
theorem yv_exU {post : SY → Prop} {B : Nat} {a : Int32} (hB : B < 168) (k : y_known B = 0) (H : post (a, y_least, y_most, y_smallest, y_greatest, y_ways, 2, nI B, y_otherKind, y_otherLo, y_otherHi, y_low, y_high, y_bytes, y_steps, y_op, y_first, y_second, y_offset, y_given, y_length, y_there, y_known, y_lo, y_hi, y_at, y_lookups, y_safe, y_met, y_tag, y_word, y_packet, y_keys, y_values, y_many)) : wpY_exit post (y_place, y_least, y_most, y_smallest, y_greatest, y_ways, y_fault, nI B, y_otherKind, y_otherLo, y_otherHi, y_low, y_high, y_bytes, y_steps, y_op, y_first, y_second, y_offset, y_given, y_length, y_there, y_known, y_lo, y_hi, y_at, y_lookups, y_safe, y_met, y_tag, y_word, y_packet, y_keys, y_values, y_many) a := by
  unfold wpY_exit
  refine (yv_missY (r := 0) (by omega) (by decide) k).mpr ?_
  exact br_f (by decide) H
theorem yv_exK {post : SY → Prop} {B : Nat} {a : Int32} (hB : B < 168) (k : ¬ y_known B = 0) (k1 : ¬ y_known B = 1) (H : post (a, y_least, y_most, y_smallest, y_greatest, y_ways, 3, nI B, y_otherKind, y_otherLo, y_otherHi, y_low, y_high, y_bytes, y_steps, y_op, y_first, y_second, y_offset, y_given, y_length, y_there, y_known, y_lo, y_hi, y_at, y_lookups, y_safe, y_met, y_tag, y_word, y_packet, y_keys, y_values, y_many)) : wpY_exit post (y_place, y_least, y_most, y_smallest, y_greatest, y_ways, y_fault, nI B, y_otherKind, y_otherLo, y_otherHi, y_low, y_high, y_bytes, y_steps, y_op, y_first, y_second, y_offset, y_given, y_length, y_there, y_known, y_lo, y_hi, y_at, y_lookups, y_safe, y_met, y_tag, y_word, y_packet, y_keys, y_values, y_many) a := by
  unfold wpY_exit
  refine (yv_missN (r := 0) (by omega) (Or.inr k)).mpr ?_
  refine br_t rfl ⟨vp_in_nI hB (by decide), br_f ?_ H⟩
  rw [nI_clamp (by omega)]; exact k1
theorem yv_exO {post : SY → Prop} {B w : Nat} {a : Int32} (hB : B < 168) (k1 : y_known B = 1) (H : post (y_place, y_least, y_most, if y_smallest < 0 then y_lo B else if y_smallest ≤ y_lo B then y_smallest else y_lo B, if y_hi B ≤ y_greatest then y_greatest else y_hi B, nI w, y_fault, nI B, y_otherKind, y_otherLo, y_otherHi, y_low, y_high, y_bytes, y_steps, y_op, y_first, y_second, y_offset, y_given, y_length, y_there, y_known, y_lo, y_hi, y_at, y_lookups, y_safe, y_met, y_tag, y_word, y_packet, y_keys, y_values, y_many)) : wpY_exit post (y_place, y_least, y_most, y_smallest, y_greatest, nI (w + 1), y_fault, nI B, y_otherKind, y_otherLo, y_otherHi, y_low, y_high, y_bytes, y_steps, y_op, y_first, y_second, y_offset, y_given, y_length, y_there, y_known, y_lo, y_hi, y_at, y_lookups, y_safe, y_met, y_tag, y_word, y_packet, y_keys, y_values, y_many) a := by
  have v : vp_in (nI B) 168 := vp_in_nI hB (by decide)
  have c : (nI B).toNatClampNeg = B := nI_clamp (by omega)
  have w69 : ∀ sm : Int64, sm = (if y_smallest < 0 then y_lo B else if y_smallest ≤ y_lo B then y_smallest else y_lo B) → wY_exit_69 post y_place y_least y_most sm y_greatest (nI (w + 1)) y_fault (nI B) y_otherKind y_otherLo y_otherHi y_low y_high y_bytes y_steps y_op y_first y_second y_offset y_given y_length y_there y_known y_lo y_hi y_at y_lookups y_safe y_met y_tag y_word y_packet y_keys y_values y_many := by
    intro sm es
    rw [← es] at H
    refine ⟨v, ?_⟩
    rw [c]
    by_cases z : y_hi B ≤ y_greatest
    · rw [if_pos z] at H
      exact br_t z (nm_r (nI_pred w) H)
    · rw [if_neg z] at H
      exact br_f z ⟨v, nm_e (nm_r (nI_pred w) H)⟩
  have w56 : y_lo B = (if y_smallest < 0 then y_lo B else if y_smallest ≤ y_lo B then y_smallest else y_lo B) → wY_exit_56 post y_place y_least y_most y_smallest y_greatest (nI (w + 1)) y_fault (nI B) y_otherKind y_otherLo y_otherHi y_low y_high y_bytes y_steps y_op y_first y_second y_offset y_given y_length y_there y_known y_lo y_hi y_at y_lookups y_safe y_met y_tag y_word y_packet y_keys y_values y_many := by
    intro es
    refine ⟨v, nm_r (e' := y_lo B) (by rw [c]) (w69 _ es)⟩
  unfold wpY_exit
  refine (yv_missN (r := 0) (by omega) (Or.inr (fun n => absurd (n.symm.trans k1) (by decide)))).mpr ?_
  refine br_t rfl ⟨v, br_t (by rw [c]; exact k1) ?_⟩
  refine br_c (fun z => w56 (by rw [if_pos z])) (fun z => ⟨v, ?_⟩)
  rw [c]
  refine br_c (fun y => w69 _ (by rw [if_neg z, if_pos y])) (fun y => w56 (by rw [if_neg z, if_neg y]))
end
end
section
def bt (x : Int32) (i : Nat) : Bool := x.toBitVec.getLsbD i
theorem b_ext {x y : Int32} (h : ∀ i, i < 32 → bt x i = bt y i) : x = y := Int32.toBitVec_inj.mp (BitVec.eq_of_getLsbD_eq (fun i hi => h i hi))
theorem b_and (x y : Int32) (i : Nat) : bt (x &&& y) i = (bt x i && bt y i) := by unfold bt; rw [Int32.toBitVec_and, BitVec.getLsbD_and]
theorem bp_b (x : Int32) : x.toInt8.toInt32 &&& 255 = x &&& 255 := by
  apply Int32.toBitVec_inj.mp
  rw [Int32.toBitVec_and, Int32.toBitVec_and, Int8.toBitVec_toInt32, Int32.toBitVec_toInt8]
  apply BitVec.eq_of_getLsbD_eq
  intro i hi
  rw [BitVec.getLsbD_and, BitVec.getLsbD_and]
  have hm : ∀ i < 32, 8 ≤ i → (255 : Int32).toBitVec.getLsbD i = false := by decide
  rcases Nat.lt_or_ge i 8 with z | z
  · rw [BitVec.getLsbD_signExtend, BitVec.getLsbD_signExtend, if_pos z, if_pos hi]
    simp only [z, hi, decide_true, Bool.true_and]
  · rw [hm i hi z]; simp
theorem pk_and (x : Int32) {m : Int32} (k : Nat) (hm : m.toBitVec.toNat = 2 ^ k - 1) : x &&& m = nI (x.toBitVec.toNat % 2 ^ k) := by
  apply Int32.toBitVec_inj.mp
  apply BitVec.eq_of_toNat_eq
  rw [Int32.toBitVec_and, BitVec.toNat_and, hm, Nat.and_two_pow_sub_one_eq_mod]
  show _ = (BitVec.ofNat 32 _).toNat
  rw [BitVec.toNat_ofNat]
  exact (Nat.mod_eq_of_lt (Nat.lt_of_le_of_lt (Nat.mod_le _ _) x.toBitVec.isLt)).symm
theorem pk_andE (x : Int32) {m : Int32} (k : Nat) (hm : m.toBitVec.toNat = 2 ^ k - 1) : ∃ j : Nat, j < 2 ^ k ∧ x &&& m = nI j := ⟨_, Nat.mod_lt _ (Nat.two_pow_pos k), pk_and x k hm⟩
theorem ys_bb (z : Int32) : vp_nar .byte z.toInt8.toInt32 = z.toInt8.toInt32 := by
  rw [vp_nar_byte]; exact lg_i2b_small (lg_i2b_range z).1 (lg_i2b_range z).2
theorem yl_m2 : ∀ i, i < 32 → bt (-2) i = decide (1 ≤ i) := by decide
theorem yl_1 : ∀ i, i < 32 → bt 1 i = decide (i = 0) := by decide
theorem yl_0 : ∀ i, i < 32 → bt 0 i = false := by decide
theorem yl_map (x : Int32) : x &&& (-2) = 0 ↔ ¬ (x < 0 ∨ ¬ x < 2) := by
  constructor
  · intro h
    have e : x &&& 1 = x := by
      apply b_ext
      intro i hi
      rw [b_and, yl_1 i hi]
      by_cases z : i = 0
      · simp [z]
      · have q := congrArg (fun y => bt y i) h
        simp only [b_and, yl_m2 i hi, yl_0 i hi] at q
        have : 1 ≤ i := by omega
        simp [this] at q
        simp [z, q]
    obtain ⟨j, hj, ej⟩ := pk_andE x (m := 1) 1 (by decide)
    rw [e] at ej
    have : j = 0 ∨ j = 1 := by omega
    rcases this with rfl | rfl
    · rw [ej]; decide
    · rw [ej]; decide
  · intro h
    have h0 : ¬ x < 0 := fun z => h (Or.inl z)
    have h2 : x < 2 := Classical.byContradiction fun z => h (Or.inr z)
    obtain ⟨j, hj, rfl⟩ := nI_of h0
    rw [xb_lt2 hj] at h2
    have : j = 0 ∨ j = 1 := by omega
    rcases this with rfl | rfl <;> decide
def yi_ (kn : Nat → Int32) (B m j : Nat) : Prop := B ≤ j ∧ j < B + m ∧ ((B + 1 ≤ j ∧ j ≤ B + 5) ∨ kn j = 5 ∨ kn j = 6)
noncomputable def yw_ (kn : Nat → Int32) (B m : Nat) : Nat → Int32 := fun j => @ite _ (yi_ kn B m j) (Classical.propDecidable _) 0 (kn j)
theorem yw_0 (kn : Nat → Int32) (B : Nat) : yw_ kn B 0 = kn := by funext j; unfold yw_; exact if_neg (fun h => absurd h.2.1 (by have := h.1; omega))
theorem yw_at (kn : Nat → Int32) (B m : Nat) : yw_ kn B m (B + m) = kn (B + m) := by unfold yw_; exact if_neg (fun h => absurd h.2.1 (by omega))
theorem yw_t {kn : Nat → Int32} {B m : Nat} (h : yi_ kn B (m + 1) (B + m)) : upd (yw_ kn B m) (B + m) 0 = yw_ kn B (m + 1) := by
  funext j; unfold upd yw_
  by_cases e : j = B + m
  · subst e; rw [if_pos rfl]; exact (if_pos h).symm
  · rw [if_neg e]
    by_cases w : yi_ kn B m j
    · rw [if_pos w]; exact (if_pos ⟨w.1, by have := w.2.1; omega, w.2.2⟩).symm
    · rw [if_neg w]; exact (if_neg (fun z => w ⟨z.1, by have := z.2.1; omega, z.2.2⟩)).symm
theorem yw_f {kn : Nat → Int32} {B m : Nat} (h : ¬ yi_ kn B (m + 1) (B + m)) : yw_ kn B m = yw_ kn B (m + 1) := by
  funext j; unfold yw_
  by_cases w : yi_ kn B m j
  · rw [if_pos w]; exact (if_pos ⟨w.1, by have := w.2.1; omega, w.2.2⟩).symm
  · rw [if_neg w]
    refine (if_neg (fun z => ?_)).symm
    by_cases e : j = B + m
    · subst e; exact h z
    · exact w ⟨z.1, by have := z.2.1; omega, z.2.2⟩
section
variable {y_place : Int32} {y_least : Int64} {y_most : Int64} {y_smallest : Int64} {y_greatest : Int64} {y_ways : Int32} {y_fault : Int32} {y_base : Int32} {y_otherKind : Int32} {y_otherLo : Int64} {y_otherHi : Int64} {y_low : Int64} {y_high : Int64} {y_bytes : Int32} {y_steps : Int32} {y_op : Nat → Int32} {y_first : Nat → Int32} {y_second : Nat → Int32} {y_offset : Nat → Int32} {y_given : Nat → Int32} {y_length : Nat → Int32} {y_there : Nat → Int32} {y_known : Nat → Int32} {y_lo : Nat → Int64} {y_hi : Nat → Int64} {y_at : Nat → Int32} {y_lookups : Nat → Int32} {y_safe : Nat → Int32} {y_met : Nat → Int32} {y_tag : Nat → Int32} {y_word : Nat → Int64} {y_packet : Nat → Int32} {y_keys : Nat → Int64} {y_values : Nat → Int64} {y_many : Nat → Int32}
theorem yv_l101 {post : SY → Prop} {B w : Nat} {o : Int32} (hB : B + 14 ≤ 168) (hw : w < 12) (H : ∀ lk : Nat → Int32, ∀ l : Int64, (o = 50 → lk = upd y_lookups w ((y_lookups w + 1).toInt8.toInt32) ∧ l = ((y_lookups w + 1).toInt8.toInt32).toInt64) → (¬ o = 50 → lk = y_lookups ∧ l = 0) → post (y_place, y_least, y_most, y_smallest, y_greatest, nI (w + 1), y_fault, nI B, y_otherKind, y_otherLo, y_otherHi, y_low, y_high, y_bytes, y_steps, y_op, y_first, y_second, y_offset, y_given, y_length, y_there, upd (yw_ y_known B 14) B (if o = 50 then 6 else 1), vp_updL y_lo B l, vp_updL y_hi B (if o = 50 then 0 else 1), y_at, lk, y_safe, y_met, y_tag, y_word, y_packet, y_keys, y_values, y_many)) : ∀ d m : Nat, m + d = 14 → wY_lookup_101 post o y_place y_least y_most y_smallest y_greatest (nI (w + 1)) y_fault (nI B) y_otherKind y_otherLo y_otherHi y_low y_high y_bytes y_steps (d + 1) (nI m) y_op y_first y_second y_offset y_given y_length y_there (yw_ y_known B m) y_lo y_hi y_at y_lookups y_safe y_met y_tag y_word y_packet y_keys y_values y_many := by
  intro d
  have vw : vp_in (nI (w + 1) - 1) 12 := by rw [nI_pred]; exact vp_in_nI hw (by decide)
  have cw : (nI (w + 1) - 1).toNatClampNeg = w := by rw [nI_pred]; exact nI_clamp (by omega)
  induction d with
  | zero =>
    intro m hm
    have e : m = 14 := by omega
    subst e
    refine br_t (by decide) (br_c (fun z => ⟨vw, vw, ?_⟩) (fun z => ?_))
    · rw [cw]
      refine nm_r (e' := upd y_lookups w ((y_lookups w + 1).toInt8.toInt32)) ?_ ?_
      · rw [ys_bb]
      · have G := H _ _ (fun _ => ⟨rfl, rfl⟩) (fun n => absurd z n)
        simp only [z, if_true] at G
        exact (yv_set0 (by omega) (by unfold k7_; simp)).mpr G
    · have G := H _ _ (fun n => absurd n z) (fun _ => ⟨rfl, rfl⟩)
      simp only [z, if_false] at G
      exact (yv_set0 (by omega) (by unfold k7_; simp)).mpr G
  | succ d ih =>
    intro m hm
    have v : vp_in (nI B + nI m) 168 := by rw [nI_add]; exact vp_in_nI (by omega) (by decide)
    have c : (nI B + nI m).toNatClampNeg = B + m := by rw [nI_add, nI_clamp (by omega)]
    have go : yi_ y_known B (m + 1) (B + m) → wY_lookup_153 post (wY_lookup_101 post o y_place y_least y_most y_smallest y_greatest (nI (w + 1)) y_fault (nI B) y_otherKind y_otherLo y_otherHi y_low y_high y_bytes y_steps (d + 1)) o (nI m) y_place y_least y_most y_smallest y_greatest (nI (w + 1)) y_fault (nI B) y_otherKind y_otherLo y_otherHi y_low y_high y_bytes y_steps y_op y_first y_second y_offset y_given y_length y_there (yw_ y_known B m) y_lo y_hi y_at y_lookups y_safe y_met y_tag y_word y_packet y_keys y_values y_many := by
      intro q
      refine ⟨v, nm_r (e' := yw_ y_known B (m + 1)) (by rw [c, xb_b0, yw_t q]) (nm_r (nI_1 m) (ih (m + 1) (by omega)))⟩
    have w120 : ¬ (1 ≤ m ∧ m ≤ 5) → wY_lookup_120 post (wY_lookup_101 post o y_place y_least y_most y_smallest y_greatest (nI (w + 1)) y_fault (nI B) y_otherKind y_otherLo y_otherHi y_low y_high y_bytes y_steps (d + 1)) o (nI m) y_place y_least y_most y_smallest y_greatest (nI (w + 1)) y_fault (nI B) y_otherKind y_otherLo y_otherHi y_low y_high y_bytes y_steps y_op y_first y_second y_offset y_given y_length y_there (yw_ y_known B m) y_lo y_hi y_at y_lookups y_safe y_met y_tag y_word y_packet y_keys y_values y_many := by
      intro z
      refine ⟨v, ?_⟩
      rw [c, yw_at]
      refine br_c (fun a => go ⟨by omega, by omega, Or.inr (Or.inl a)⟩) (fun a => ⟨v, br_c (fun b => go ⟨by omega, by omega, Or.inr (Or.inr b)⟩) (fun b => nm_r (nI_1 m) ?_)⟩)
      have n : ¬ yi_ y_known B (m + 1) (B + m) := by
        rintro ⟨-, -, y | y | y⟩
        · omega
        · exact a y
        · exact b y
      rw [yw_f n]
      exact ih (m + 1) (by omega)
    refine br_f (by rw [xb_le14 (by omega)]; omega) (br_c (fun a => w120 ?_) (fun a => br_c (fun b => go ⟨by omega, by omega, Or.inl ?_⟩) (fun b => w120 ?_)))
    · rw [xb_le0 (by omega)] at a; omega
    · rw [xb_le0 (by omega)] at a; rw [xb_lt6 (by omega)] at b; omega
    · rw [xb_lt6 (by omega)] at b; omega
theorem yv_l62 {post : SY → Prop} {B e : Nat} {a o : Int32} (hB : B + 14 ≤ 168) (he : e ≤ 3) (A : (∀ r, 1 ≤ r → r ≤ e → y_known (B + r) = 1) → ∃ n, wY_lookup_101 post o y_place y_least y_most y_smallest y_greatest y_ways y_fault (nI B) y_otherKind y_otherLo y_otherHi y_low y_high y_bytes y_steps n 0 y_op y_first y_second y_offset y_given y_length y_there y_known y_lo y_hi y_at y_lookups y_safe y_met y_tag y_word y_packet y_keys y_values y_many) (F : ¬ (∀ r, 1 ≤ r → r ≤ e → y_known (B + r) = 1) → post (a, y_least, y_most, y_smallest, y_greatest, y_ways, 3, nI B, y_otherKind, y_otherLo, y_otherHi, y_low, y_high, y_bytes, y_steps, y_op, y_first, y_second, y_offset, y_given, y_length, y_there, y_known, y_lo, y_hi, y_at, y_lookups, y_safe, y_met, y_tag, y_word, y_packet, y_keys, y_values, y_many)) : ∀ d m : Nat, m + d = e + 1 → (∀ r, 1 ≤ r → r < m → y_known (B + r) = 1) → 1 ≤ m → wY_lookup_62 post a o (nI e) y_place y_least y_most y_smallest y_greatest y_ways y_fault (nI B) y_otherKind y_otherLo y_otherHi y_low y_high y_bytes y_steps y_op y_first y_second y_offset y_given y_length y_there y_known y_lo y_hi y_at y_lookups y_safe y_met y_tag y_word y_packet y_keys y_values y_many (d + 1) (nI m) := by
  intro d
  induction d with
  | zero =>
    intro m hm hp h1
    exact br_t (by rw [nI_ltI (by omega) (by omega)]; omega) (A (fun r x y => hp r x (by omega)))
  | succ d ih =>
    intro m hm hp h1
    have v : vp_in (nI B + nI m) 168 := by rw [nI_add]; exact vp_in_nI (by omega) (by decide)
    have c : (nI B + nI m).toNatClampNeg = B + m := by rw [nI_add, nI_clamp (by omega)]
    refine br_f (by rw [nI_ltI (by omega) (by omega)]; omega) ⟨v, ?_⟩
    rw [c]
    refine br_c (fun k => nm_r (nI_1 m) (ih (m + 1) (by omega) (fun r x y => ?_) (by omega))) (fun k => F (fun n => k (n m h1 (by omega))))
    by_cases q : r = m
    · rw [q]; exact k
    · exact hp r x (by omega)
theorem yv_l35 {post : SY → Prop} {B e : Nat} {a o : Int32} (hB : B + 14 ≤ 168) (he : e ≤ 3) (A : (∀ r, 1 ≤ r → r ≤ e → ¬ y_known (B + r) = 0) → ∃ n, wY_lookup_62 post a o (nI e) y_place y_least y_most y_smallest y_greatest y_ways y_fault (nI B) y_otherKind y_otherLo y_otherHi y_low y_high y_bytes y_steps y_op y_first y_second y_offset y_given y_length y_there y_known y_lo y_hi y_at y_lookups y_safe y_met y_tag y_word y_packet y_keys y_values y_many n 1) (F : ¬ (∀ r, 1 ≤ r → r ≤ e → ¬ y_known (B + r) = 0) → post (a, y_least, y_most, y_smallest, y_greatest, y_ways, 2, nI B, y_otherKind, y_otherLo, y_otherHi, y_low, y_high, y_bytes, y_steps, y_op, y_first, y_second, y_offset, y_given, y_length, y_there, y_known, y_lo, y_hi, y_at, y_lookups, y_safe, y_met, y_tag, y_word, y_packet, y_keys, y_values, y_many)) : ∀ d m : Nat, m + d = e + 1 → (∀ r, 1 ≤ r → r < m → ¬ y_known (B + r) = 0) → 1 ≤ m → wY_lookup_35 post a o (nI e) (d + 1) (nI m) y_place y_least y_most y_smallest y_greatest y_ways y_fault (nI B) y_otherKind y_otherLo y_otherHi y_low y_high y_bytes y_steps y_op y_first y_second y_offset y_given y_length y_there y_known y_lo y_hi y_at y_lookups y_safe y_met y_tag y_word y_packet y_keys y_values y_many := by
  intro d
  induction d with
  | zero =>
    intro m hm hp h1
    exact br_t (by rw [nI_ltI (by omega) (by omega)]; omega) (A (fun r x y => hp r x (by omega)))
  | succ d ih =>
    intro m hm hp h1
    refine br_f (by rw [nI_ltI (by omega) (by omega)]; omega) ?_
    by_cases k : y_known (B + m) = 0
    · refine (yv_missY (by omega) (by omega) k).mpr ?_
      exact br_f (by decide) (F (fun n => n m h1 (by omega) k))
    · refine (yv_missN (by omega) (Or.inr k)).mpr ?_
      refine br_t rfl (nm_r (nI_1 m) (ih (m + 1) (by omega) (fun r x y => ?_) (by omega)))
      by_cases q : r = m
      · rw [q]; exact k
      · exact hp r x (by omega)
theorem yv_look {post : SY → Prop} {B w i e : Nat} {a o : Int32} (hi : i < 120) (hB : B + 14 ≤ 168) (hw : w < 12) (ee : e = if o = 51 then 3 else 1) (F1 : y_given i < 0 ∨ ¬ y_given i < 2 → post (a, y_least, y_most, y_smallest, y_greatest, nI (w + 1), 1, nI B, y_otherKind, y_otherLo, y_otherHi, y_low, y_high, y_bytes, y_steps, y_op, y_first, y_second, y_offset, y_given, y_length, y_there, y_known, y_lo, y_hi, y_at, y_lookups, y_safe, y_met, y_tag, y_word, y_packet, y_keys, y_values, y_many)) (F2 : ¬ (y_given i < 0 ∨ ¬ y_given i < 2) → ¬ (∀ r, 1 ≤ r → r ≤ e → ¬ y_known (B + r) = 0) → post (a, y_least, y_most, y_smallest, y_greatest, nI (w + 1), 2, nI B, y_otherKind, y_otherLo, y_otherHi, y_low, y_high, y_bytes, y_steps, y_op, y_first, y_second, y_offset, y_given, y_length, y_there, y_known, y_lo, y_hi, y_at, y_lookups, y_safe, y_met, y_tag, y_word, y_packet, y_keys, y_values, y_many)) (F3 : ¬ (y_given i < 0 ∨ ¬ y_given i < 2) → (∀ r, 1 ≤ r → r ≤ e → ¬ y_known (B + r) = 0) → ¬ (∀ r, 1 ≤ r → r ≤ e → y_known (B + r) = 1) → post (a, y_least, y_most, y_smallest, y_greatest, nI (w + 1), 3, nI B, y_otherKind, y_otherLo, y_otherHi, y_low, y_high, y_bytes, y_steps, y_op, y_first, y_second, y_offset, y_given, y_length, y_there, y_known, y_lo, y_hi, y_at, y_lookups, y_safe, y_met, y_tag, y_word, y_packet, y_keys, y_values, y_many)) (H : ¬ (y_given i < 0 ∨ ¬ y_given i < 2) → (∀ r, 1 ≤ r → r ≤ e → y_known (B + r) = 1) → ∀ lk : Nat → Int32, ∀ l : Int64, (o = 50 → lk = upd y_lookups w ((y_lookups w + 1).toInt8.toInt32) ∧ l = ((y_lookups w + 1).toInt8.toInt32).toInt64) → (¬ o = 50 → lk = y_lookups ∧ l = 0) → post (y_place, y_least, y_most, y_smallest, y_greatest, nI (w + 1), y_fault, nI B, y_otherKind, y_otherLo, y_otherHi, y_low, y_high, y_bytes, y_steps, y_op, y_first, y_second, y_offset, y_given, y_length, y_there, upd (yw_ y_known B 14) B (if o = 50 then 6 else 1), vp_updL y_lo B l, vp_updL y_hi B (if o = 50 then 0 else 1), y_at, lk, y_safe, y_met, y_tag, y_word, y_packet, y_keys, y_values, y_many)) : wpY_lookup post (y_place, y_least, y_most, y_smallest, y_greatest, nI (w + 1), y_fault, nI B, y_otherKind, y_otherLo, y_otherHi, y_low, y_high, y_bytes, y_steps, y_op, y_first, y_second, y_offset, y_given, y_length, y_there, y_known, y_lo, y_hi, y_at, y_lookups, y_safe, y_met, y_tag, y_word, y_packet, y_keys, y_values, y_many) (nI i) a o := by
  refine ⟨vp_in_nI hi (by decide), ?_⟩
  rw [nI_clamp (by omega), yl_map]
  refine br_c (fun g => ?_) (fun g => F1 (Classical.byContradiction g))
  have W : ∃ n, wY_lookup_35 post a o (nI e) n (nI 1) y_place y_least y_most y_smallest y_greatest (nI (w + 1)) y_fault (nI B) y_otherKind y_otherLo y_otherHi y_low y_high y_bytes y_steps y_op y_first y_second y_offset y_given y_length y_there y_known y_lo y_hi y_at y_lookups y_safe y_met y_tag y_word y_packet y_keys y_values y_many := by
    have e3 : e ≤ 3 := by rw [ee]; split <;> omega
    have e1 : 1 ≤ e := by rw [ee]; split <;> omega
    refine ⟨e + 1, yv_l35 hB e3 (fun A => ?_) (fun n => F2 g n) e 1 (by omega) (fun r x y => absurd y (by omega)) (by decide)⟩
    refine ⟨e + 1, yv_l62 hB e3 (fun A2 => ?_) (fun n => F3 g A n) e 1 (by omega) (fun r x y => absurd y (by omega)) (by decide)⟩
    refine ⟨15, ?_⟩
    have := yv_l101 (post := post) (o := o) hB hw (H g A2) 14 0 rfl
    rw [yw_0] at this
    exact this
  by_cases z : o = 51
  · rw [if_pos z] at ee; subst ee; exact br_t z W
  · rw [if_neg z] at ee; subst ee; exact br_f z W
end
end
section
/-- the frame at B copied to B + 14, m cells of it -/
def fk_ {α : Type} (o : Nat → α) (B m : Nat) : Nat → α := fun j => if B + 14 ≤ j ∧ j < B + 14 + m then o (j - 14) else o j
theorem fk_0 {α : Type} (o : Nat → α) (B : Nat) : fk_ o B 0 = o := by funext j; unfold fk_; rw [if_neg (by omega)]
theorem fk_lo {α : Type} (o : Nat → α) {B m j : Nat} (h : j < B + 14) : fk_ o B m j = o j := by unfold fk_; rw [if_neg (by omega)]
theorem fk_hi {α : Type} (o : Nat → α) {B m r : Nat} (h : r < m) : fk_ o B m (B + 14 + r) = o (B + r) := by
  unfold fk_; rw [if_pos (by omega)]; congr 1; omega
theorem fk_s (o : Nat → Int32) (B m : Nat) : upd (fk_ o B m) (B + 14 + m) (o (B + m)) = fk_ o B (m + 1) := by
  funext j; unfold upd fk_
  by_cases h : j = B + 14 + m
  · subst h; rw [if_pos rfl, if_pos (by omega)]; congr 1; omega
  · rw [if_neg h]
    by_cases z : B + 14 ≤ j ∧ j < B + 14 + m
    · rw [if_pos z, if_pos (by omega)]
    · rw [if_neg z, if_neg (by omega)]
theorem fk_sL (o : Nat → Int64) (B m : Nat) : vp_updL (fk_ o B m) (B + 14 + m) (o (B + m)) = fk_ o B (m + 1) := by
  funext j; unfold vp_updL fk_
  by_cases h : j = B + 14 + m
  · subst h; rw [if_pos rfl, if_pos (by omega)]; congr 1; omega
  · rw [if_neg h]
    by_cases z : B + 14 ≤ j ∧ j < B + 14 + m
    · rw [if_pos z, if_pos (by omega)]
    · rw [if_neg z, if_neg (by omega)]
def yc_l (f : Nat) (n l h : Int64) : Int64 := if f = 1 then n else if f = 2 then (if l = n then l + 1 else l) else if f = 3 then l else (if n ≤ l then l else n)
def yc_h (f : Nat) (n l h : Int64) : Int64 := if f = 1 then n else if f = 2 then (if h = n then h - 1 else h) else if f = 3 then (if h < n then h else n - 1) else h
section
variable {y_place : Int32} {y_least : Int64} {y_most : Int64} {y_smallest : Int64} {y_greatest : Int64} {y_ways : Int32} {y_fault : Int32} {y_base : Int32} {y_otherKind : Int32} {y_otherLo : Int64} {y_otherHi : Int64} {y_low : Int64} {y_high : Int64} {y_bytes : Int32} {y_steps : Int32} {y_op : Nat → Int32} {y_first : Nat → Int32} {y_second : Nat → Int32} {y_offset : Nat → Int32} {y_given : Nat → Int32} {y_length : Nat → Int32} {y_there : Nat → Int32} {y_known : Nat → Int32} {y_lo : Nat → Int64} {y_hi : Nat → Int64} {y_at : Nat → Int32} {y_lookups : Nat → Int32} {y_safe : Nat → Int32} {y_met : Nat → Int32} {y_tag : Nat → Int32} {y_word : Nat → Int64} {y_packet : Nat → Int32} {y_keys : Nat → Int64} {y_values : Nat → Int64} {y_many : Nat → Int32}
theorem yv_forkL {post : SY → Prop} {w : Nat} {g x : Nat} (hw : w + 1 < 12) (hg : g < 128) (hx : x < 128) (hk : ∀ r, r < 14 → k7_ (y_known (14 * w + r))) (hs : vp_nar .short (y_safe w) = y_safe w) (hl : vp_nar .byte (y_lookups w) = y_lookups w) (H : post (y_place, y_least, y_most, y_smallest, y_greatest, nI (w + 2), y_fault, nI (14 * w), y_otherKind, y_otherLo, y_otherHi, y_low, y_high, y_bytes, y_steps, y_op, y_first, y_second, y_offset, y_given, y_length, y_there, fk_ y_known (14 * w) 14, fk_ y_lo (14 * w) 14, fk_ y_hi (14 * w) 14, upd (upd y_at w (nI g)) (w + 1) (nI x), upd y_lookups (w + 1) (y_lookups w), upd y_safe (w + 1) (y_safe w), y_met, y_tag, y_word, y_packet, y_keys, y_values, y_many)) : ∀ d m : Nat, m + d = 14 → wY_fork_10 post (nI g) (nI x) (nI w) y_place y_least y_most y_smallest y_greatest (nI (w + 1)) y_fault (nI (14 * w)) y_otherKind y_otherLo y_otherHi y_low y_high y_bytes y_steps (d + 1) (nI m) y_op y_first y_second y_offset y_given y_length y_there (fk_ y_known (14 * w) m) (fk_ y_lo (14 * w) m) (fk_ y_hi (14 * w) m) y_at y_lookups y_safe y_met y_tag y_word y_packet y_keys y_values y_many := by
  intro d
  have v1 : vp_in (nI w) 12 := vp_in_nI (by omega) (by decide)
  have v2 : vp_in (nI w + 1) 12 := by rw [nI_1]; exact vp_in_nI (by omega) (by decide)
  have c1 : (nI w).toNatClampNeg = w := nI_clamp (by omega)
  have c2 : (nI w + 1).toNatClampNeg = w + 1 := by rw [nI_1]; exact nI_clamp (by omega)
  induction d with
  | zero =>
    intro m hm
    have e : m = 14 := by omega
    subst e
    refine br_t (by decide) ⟨v1, v2, nm_r (by rw [c1, c2, hs]) ⟨v1, v2, nm_r (by rw [c1, c2, hl]) ⟨v1, nm_r (e' := upd y_at w (nI g)) (by rw [c1, xb_nb hg, xb_vb hg]) ⟨v2, nm_r (e' := upd (upd y_at w (nI g)) (w + 1) (nI x)) (by rw [c2, xb_nb hx, xb_vb hx]) (nm_r (nI_1 (w + 1)) H)⟩⟩⟩⟩
  | succ d ih =>
    intro m hm
    have v3 : vp_in (nI (14 * w) + nI m) 168 := by rw [nI_add]; exact vp_in_nI (by omega) (by decide)
    have v4 : vp_in (nI (14 * w) + 14 + nI m) 168 := by rw [xb_adr14, nI_add]; exact vp_in_nI (by omega) (by decide)
    have c3 : (nI (14 * w) + nI m).toNatClampNeg = 14 * w + m := by rw [nI_add]; exact nI_clamp (by omega)
    have c4 : (nI (14 * w) + 14 + nI m).toNatClampNeg = 14 * w + 14 + m := by rw [xb_adr14, nI_add]; exact nI_clamp (by omega)
    refine br_f (by rw [xb_le14 (by omega)]; omega) ⟨v3, v4, nm_r (e' := fk_ y_known (14 * w) (m + 1)) ?_ ⟨v3, v4, nm_r (e' := fk_ y_lo (14 * w) (m + 1)) ?_ ⟨v3, v4, nm_r (e' := fk_ y_hi (14 * w) (m + 1)) ?_ (nm_r (nI_1 m) (ih (m + 1) (by omega)))⟩⟩⟩
    · rw [c3, c4, fk_lo y_known (by omega), ys_k7n (hk m (by omega)), fk_s]
    · rw [c3, c4, fk_lo y_lo (by omega), fk_sL]
    · rw [c3, c4, fk_lo y_hi (by omega), fk_sL]
theorem yv_fork {post : SY → Prop} {w : Nat} {g x : Nat} (hw : w + 1 < 12) (hg : g < 128) (hx : x < 128) (hk : ∀ r, r < 14 → k7_ (y_known (14 * w + r))) (hs : vp_nar .short (y_safe w) = y_safe w) (hl : vp_nar .byte (y_lookups w) = y_lookups w) (H : post (y_place, y_least, y_most, y_smallest, y_greatest, nI (w + 2), y_fault, nI (14 * w), y_otherKind, y_otherLo, y_otherHi, y_low, y_high, y_bytes, y_steps, y_op, y_first, y_second, y_offset, y_given, y_length, y_there, fk_ y_known (14 * w) 14, fk_ y_lo (14 * w) 14, fk_ y_hi (14 * w) 14, upd (upd y_at w (nI g)) (w + 1) (nI x), upd y_lookups (w + 1) (y_lookups w), upd y_safe (w + 1) (y_safe w), y_met, y_tag, y_word, y_packet, y_keys, y_values, y_many)) : wpY_fork post (y_place, y_least, y_most, y_smallest, y_greatest, nI (w + 1), y_fault, nI (14 * w), y_otherKind, y_otherLo, y_otherHi, y_low, y_high, y_bytes, y_steps, y_op, y_first, y_second, y_offset, y_given, y_length, y_there, y_known, y_lo, y_hi, y_at, y_lookups, y_safe, y_met, y_tag, y_word, y_packet, y_keys, y_values, y_many) (nI g) (nI x) := by
  refine nm_r (nI_pred w) ⟨15, ?_⟩
  have := yv_forkL hw hg hx hk hs hl H 14 0 rfl
  rw [fk_0, fk_0, fk_0] at this
  exact this
theorem yv_cut {post : SY → Prop} {R f : Nat} (hR : R < 168) (h1 : 1 ≤ f) (h4 : f ≤ 4) (H : post (y_place, y_least, y_most, y_smallest, y_greatest, y_ways, y_fault, y_base, y_otherKind, y_otherLo, y_otherHi, y_low, y_high, y_bytes, y_steps, y_op, y_first, y_second, y_offset, y_given, y_length, y_there, y_known, vp_updL y_lo R (yc_l f y_otherLo (y_lo R) (y_hi R)), vp_updL y_hi R (yc_h f y_otherLo (y_lo R) (y_hi R)), y_at, y_lookups, y_safe, y_met, y_tag, y_word, y_packet, y_keys, y_values, y_many)) : wpY_cut post (y_place, y_least, y_most, y_smallest, y_greatest, y_ways, y_fault, y_base, y_otherKind, y_otherLo, y_otherHi, y_low, y_high, y_bytes, y_steps, y_op, y_first, y_second, y_offset, y_given, y_length, y_there, y_known, y_lo, y_hi, y_at, y_lookups, y_safe, y_met, y_tag, y_word, y_packet, y_keys, y_values, y_many) (nI R) (nI f) := by
  have v : vp_in (nI R) 168 := vp_in_nI hR (by decide)
  have c : (nI R).toNatClampNeg = R := nI_clamp (by omega)
  have e : f = 1 ∨ f = 2 ∨ f = 3 ∨ f = 4 := by omega
  rcases e with rfl | rfl | rfl | rfl
  · exact br_t rfl ⟨v, nm_r (by rw [c]; rfl) ⟨v, nm_r (by rw [c]; rfl) H⟩⟩
  · have e1 : yc_l 2 y_otherLo (y_lo R) (y_hi R) = (if y_lo R = y_otherLo then y_lo R + 1 else y_lo R) := by simp [yc_l]
    have e2 : yc_h 2 y_otherLo (y_lo R) (y_hi R) = (if y_hi R = y_otherLo then y_hi R - 1 else y_hi R) := by simp [yc_h]
    rw [e1, e2] at H
    have w57 : ∀ L : Nat → Int64, L = vp_updL y_lo R (if y_lo R = y_otherLo then y_lo R + 1 else y_lo R) → wY_cut_57 post (nI R) y_place y_least y_most y_smallest y_greatest y_ways y_fault y_base y_otherKind y_otherLo y_otherHi y_low y_high y_bytes y_steps y_op y_first y_second y_offset y_given y_length y_there y_known L y_hi y_at y_lookups y_safe y_met y_tag y_word y_packet y_keys y_values y_many := by
      intro L eL
      rw [← eL] at H
      refine ⟨v, ?_⟩
      rw [c]
      by_cases z : y_hi R = y_otherLo
      · rw [if_pos z] at H
        exact br_t z ⟨v, v, nm_e H⟩
      · rw [if_neg z, xb_updLid rfl] at H
        exact br_f z H
    refine br_f (by decide) (br_t rfl ⟨v, ?_⟩)
    rw [c]
    refine br_c (fun z => ⟨v, v, nm_e (w57 _ (by rw [if_pos z]))⟩) (fun z => w57 _ (by rw [if_neg z, xb_updLid rfl]))
  · have e1 : yc_l 3 y_otherLo (y_lo R) (y_hi R) = y_lo R := by simp [yc_l]
    have e2 : yc_h 3 y_otherLo (y_lo R) (y_hi R) = (if y_hi R < y_otherLo then y_hi R else y_otherLo - 1) := by simp [yc_h]
    rw [e1, e2, xb_updLid rfl] at H
    refine br_f (by decide) (br_f (by decide) (br_t rfl ⟨v, ?_⟩))
    rw [c]
    refine br_c (fun z => ?_) (fun z => ⟨v, ?_⟩)
    · rw [if_pos z, xb_updLid rfl] at H; exact H
    · rw [if_neg z] at H; exact nm_e H
  · have e1 : yc_l 4 y_otherLo (y_lo R) (y_hi R) = (if y_otherLo ≤ y_lo R then y_lo R else y_otherLo) := by simp [yc_l]
    have e2 : yc_h 4 y_otherLo (y_lo R) (y_hi R) = y_hi R := by simp [yc_h]
    rw [e1, e2, xb_updLid (f := y_hi) rfl] at H
    refine br_f (by decide) (br_f (by decide) (br_f (by decide) ⟨v, ?_⟩))
    rw [c]
    refine br_c (fun z => ?_) (fun z => ⟨v, ?_⟩)
    · rw [if_pos z, xb_updLid rfl] at H; exact H
    · rw [if_neg z] at H; exact nm_e H
end
/-- goes, stays -/
def yg_ (f : Nat) (a b l2 h2 : Int64) : Prop := if f = 1 then ¬ h2 < a ∧ ¬ b < l2 else if f = 2 then ¬ (a = b ∧ l2 = h2 ∧ a = l2) else if f = 3 then ¬ h2 ≤ a else ¬ b < l2
section
variable {y_place : Int32} {y_least : Int64} {y_most : Int64} {y_smallest : Int64} {y_greatest : Int64} {y_ways : Int32} {y_fault : Int32} {y_base : Int32} {y_otherKind : Int32} {y_otherLo : Int64} {y_otherHi : Int64} {y_low : Int64} {y_high : Int64} {y_bytes : Int32} {y_steps : Int32} {y_op : Nat → Int32} {y_first : Nat → Int32} {y_second : Nat → Int32} {y_offset : Nat → Int32} {y_given : Nat → Int32} {y_length : Nat → Int32} {y_there : Nat → Int32} {y_known : Nat → Int32} {y_lo : Nat → Int64} {y_hi : Nat → Int64} {y_at : Nat → Int32} {y_lookups : Nat → Int32} {y_safe : Nat → Int32} {y_met : Nat → Int32} {y_tag : Nat → Int32} {y_word : Nat → Int64} {y_packet : Nat → Int32} {y_keys : Nat → Int64} {y_values : Nat → Int64} {y_many : Nat → Int32}
theorem yv_sc224 {post : SY → Prop} {d f : Nat} {g x : Int32} (h1 : 1 ≤ f) (h4 : f ≤ 4) {R : Nat} (hR : R < 168) (eR : y_base + nI d = nI R) (H : ∀ go st : Int32, (yg_ f (y_lo R) (y_hi R) y_otherLo y_otherHi → go = 1) → (¬ yg_ f (y_lo R) (y_hi R) y_otherLo y_otherHi → go = 0) → (yg_ (op_ f) (y_lo R) (y_hi R) y_otherLo y_otherHi → st = 1) → (¬ yg_ (op_ f) (y_lo R) (y_hi R) y_otherLo y_otherHi → st = 0) → wY_scalars_224 post (nI d) (nI f) g x go st y_place y_least y_most y_smallest y_greatest y_ways y_fault y_base y_otherKind y_otherLo y_otherHi y_low y_high y_bytes y_steps y_op y_first y_second y_offset y_given y_length y_there y_known y_lo y_hi y_at y_lookups y_safe y_met y_tag y_word y_packet y_keys y_values y_many) : wpY_scalars post (y_place, y_least, y_most, y_smallest, y_greatest, y_ways, y_fault, y_base, y_otherKind, y_otherLo, y_otherHi, y_low, y_high, y_bytes, y_steps, y_op, y_first, y_second, y_offset, y_given, y_length, y_there, y_known, y_lo, y_hi, y_at, y_lookups, y_safe, y_met, y_tag, y_word, y_packet, y_keys, y_values, y_many) (nI d) (nI f) g x := by
  have v : vp_in (y_base + nI d) 168 := by rw [eR]; exact vp_in_nI hR (by decide)
  have c : (y_base + nI d).toNatClampNeg = R := by rw [eR]; exact nI_clamp (by omega)
  have e : f = 1 ∨ f = 2 ∨ f = 3 ∨ f = 4 := by omega
  -- what 88 comes to
  have w88 : ∀ t s : Int32, (¬ y_otherHi < y_lo R ∧ ¬ y_hi R < y_otherLo → t = 1) → (¬ (¬ y_otherHi < y_lo R ∧ ¬ y_hi R < y_otherLo) → t = 0) → (y_lo R = y_hi R ∧ y_otherLo = y_otherHi ∧ y_lo R = y_otherLo → s = 1) → (¬ (y_lo R = y_hi R ∧ y_otherLo = y_otherHi ∧ y_lo R = y_otherLo) → s = 0) → wY_scalars_88 post (nI d) (nI f) g x (y_lo R) (y_hi R) t s y_place y_least y_most y_smallest y_greatest y_ways y_fault y_base y_otherKind y_otherLo y_otherHi y_low y_high y_bytes y_steps y_op y_first y_second y_offset y_given y_length y_there y_known y_lo y_hi y_at y_lookups y_safe y_met y_tag y_word y_packet y_keys y_values y_many := by
    intro t s t1 t0 s1 s0
    have z10 : ¬ (1 : Int32) = 0 := by decide
    rcases e with rfl | rfl | rfl | rfl
    · refine br_t rfl (br_t rfl (br_c (fun q => ?_) (fun q => ?_)))
      · refine H t 1 t1 t0 (fun _ => rfl) (fun n => absurd (fun m => ?_) n)
        have := s1 m; rw [q] at this; exact absurd this (by decide)
      · refine H t 0 t1 t0 (fun n => absurd (s0 n) q) (fun _ => rfl)
    · refine br_f (by decide) (br_t rfl (br_c (fun q => ?_) (fun q => ?_)))
      · refine br_f (by decide) (br_t rfl (H 1 t (fun _ => rfl) (fun n => absurd (fun m => ?_) n) t1 t0))
        have := s1 m; rw [q] at this; exact absurd this (by decide)
      · refine br_f (by decide) (br_t rfl (H 0 t (fun n => absurd (s0 n) q) (fun _ => rfl) t1 t0))
    · refine br_f (by decide) (br_f (by decide) (br_t rfl (br_c (fun q => ?_) (fun q => ?_))))
      · refine br_f (by decide) (br_f (by decide) (br_t rfl (br_c (fun y => H 0 0 (fun n => absurd q n) (fun _ => rfl) (fun n => absurd y n) (fun _ => rfl)) (fun y => H 0 1 (fun n => absurd q n) (fun _ => rfl) (fun _ => rfl) (fun n => absurd y n)))))
      · refine br_f (by decide) (br_f (by decide) (br_t rfl (br_c (fun y => H 1 0 (fun _ => rfl) (fun n => absurd q n) (fun n => absurd y n) (fun _ => rfl)) (fun y => H 1 1 (fun _ => rfl) (fun n => absurd q n) (fun _ => rfl) (fun n => absurd y n)))))
    · refine br_f (by decide) (br_f (by decide) (br_f (by decide) (br_c (fun q => ?_) (fun q => ?_))))
      · refine br_f (by decide) (br_f (by decide) (br_f (by decide) (br_c (fun y => H 0 0 (fun n => absurd q n) (fun _ => rfl) (fun n => absurd y n) (fun _ => rfl)) (fun y => H 0 1 (fun n => absurd q n) (fun _ => rfl) (fun _ => rfl) (fun n => absurd y n)))))
      · refine br_f (by decide) (br_f (by decide) (br_f (by decide) (br_c (fun y => H 1 0 (fun _ => rfl) (fun n => absurd q n) (fun n => absurd y n) (fun _ => rfl)) (fun y => H 1 1 (fun _ => rfl) (fun n => absurd q n) (fun _ => rfl) (fun n => absurd y n)))))
  have w51 : ∀ t : Int32, (¬ y_otherHi < y_lo R ∧ ¬ y_hi R < y_otherLo → t = 1) → (¬ (¬ y_otherHi < y_lo R ∧ ¬ y_hi R < y_otherLo) → t = 0) → wY_scalars_51 post (nI d) (nI f) g x (y_lo R) (y_hi R) t y_place y_least y_most y_smallest y_greatest y_ways y_fault y_base y_otherKind y_otherLo y_otherHi y_low y_high y_bytes y_steps y_op y_first y_second y_offset y_given y_length y_there y_known y_lo y_hi y_at y_lookups y_safe y_met y_tag y_word y_packet y_keys y_values y_many := by
    intro t t1 t0
    refine br_c (fun a => br_c (fun b => br_c (fun c => ?_) (fun c => ?_)) (fun b => ?_)) (fun a => ?_)
    · exact w88 t 1 t1 t0 (fun _ => rfl) (fun n => absurd ⟨a, b, c⟩ n)
    · exact w88 t 0 t1 t0 (fun n => absurd n.2.2 c) (fun _ => rfl)
    · exact w88 t 0 t1 t0 (fun n => absurd n.2.1 b) (fun _ => rfl)
    · exact w88 t 0 t1 t0 (fun n => absurd n.1 a) (fun _ => rfl)
  refine ⟨v, nm_r (e' := y_lo R) (by rw [c]) ⟨v, nm_r (e' := y_hi R) (by rw [c]) (br_c (fun a => ?_) (fun a => br_c (fun b => ?_) (fun b => ?_)))⟩⟩
  · exact w51 0 (fun n => absurd a n.1) (fun _ => rfl)
  · exact w51 0 (fun n => absurd b n.2) (fun _ => rfl)
  · exact w51 1 (fun _ => rfl) (fun n => absurd ⟨a, b⟩ n)
end
end
section
/-- the settled frames: Z to SCALAR 0, N to VALUE 0 -/
noncomputable def mbK (kn : Nat → Int32) (Z N m : Nat) : Nat → Int32 := fun j => if Z ≤ j ∧ j < Z + m ∧ kn j = 6 then 1 else if N ≤ j ∧ j < N + m ∧ kn j = 6 then 5 else kn j
noncomputable def mbL (kn : Nat → Int32) (o : Nat → Int64) (Z N m : Nat) : Nat → Int64 := fun j => if ((Z ≤ j ∧ j < Z + m) ∨ (N ≤ j ∧ j < N + m)) ∧ kn j = 6 then 0 else o j
theorem mbK_0 (kn : Nat → Int32) (Z N : Nat) : mbK kn Z N 0 = kn := by
  funext j; unfold mbK; rw [if_neg (by omega), if_neg (by omega)]
theorem mbL_0 (kn : Nat → Int32) (o : Nat → Int64) (Z N : Nat) : mbL kn o Z N 0 = o := by
  funext j; unfold mbL; rw [if_neg (by omega)]
/-- half a step -/
noncomputable def mhK (kn : Nat → Int32) (Z N m : Nat) : Nat → Int32 := fun j => if Z ≤ j ∧ j < Z + (m + 1) ∧ kn j = 6 then 1 else if N ≤ j ∧ j < N + m ∧ kn j = 6 then 5 else kn j
noncomputable def mhL (kn : Nat → Int32) (o : Nat → Int64) (Z N m : Nat) : Nat → Int64 := fun j => if ((Z ≤ j ∧ j < Z + (m + 1)) ∨ (N ≤ j ∧ j < N + m)) ∧ kn j = 6 then 0 else o j
theorem mb_dj {Z N : Nat} (h : N = Z + 14 ∨ Z = N + 14) {m : Nat} (hm : m < 14) : ¬ (N ≤ Z + m ∧ Z + m < N + m) ∧ ¬ (Z ≤ N + m ∧ N + m < Z + (m + 1)) := by omega
theorem mbK_z {kn : Nat → Int32} {Z N m : Nat} (h : N = Z + 14 ∨ Z = N + 14) (hm : m < 14) : mbK kn Z N m (Z + m) = kn (Z + m) := by
  unfold mbK; rw [if_neg (by omega), if_neg (by omega)]
theorem mbL_z {kn : Nat → Int32} {o : Nat → Int64} {Z N m : Nat} (h : N = Z + 14 ∨ Z = N + 14) (hm : m < 14) : mbL kn o Z N m (Z + m) = o (Z + m) := by
  unfold mbL; rw [if_neg (by omega)]
theorem mhK_n {kn : Nat → Int32} {Z N m : Nat} (h : N = Z + 14 ∨ Z = N + 14) (hm : m < 14) : mhK kn Z N m (N + m) = kn (N + m) := by
  unfold mhK; rw [if_neg (by omega), if_neg (by omega)]
theorem mhL_n {kn : Nat → Int32} {o : Nat → Int64} {Z N m : Nat} (h : N = Z + 14 ∨ Z = N + 14) (hm : m < 14) : mhL kn o Z N m (N + m) = o (N + m) := by
  unfold mhL; rw [if_neg (by omega)]
theorem mb_1t {kn : Nat → Int32} {Z N m : Nat} (h : N = Z + 14 ∨ Z = N + 14) (hm : m < 14) (k : kn (Z + m) = 6) : upd (mbK kn Z N m) (Z + m) 1 = mhK kn Z N m := by
  funext j; unfold upd mbK mhK
  by_cases e : j = Z + m
  · subst e; rw [if_pos rfl, if_pos ⟨by omega, by omega, k⟩]
  · rw [if_neg e]
    by_cases a : Z ≤ j ∧ j < Z + m ∧ kn j = 6
    · rw [if_pos a, if_pos ⟨a.1, by omega, a.2.2⟩]
    · rw [if_neg a, if_neg (c := Z ≤ j ∧ j < Z + (m + 1) ∧ kn j = 6) (fun z => a ⟨z.1, by omega, z.2.2⟩)]
theorem mb_1f {kn : Nat → Int32} {Z N m : Nat} (k : ¬ kn (Z + m) = 6) : mbK kn Z N m = mhK kn Z N m := by
  funext j; unfold mbK mhK
  by_cases a : Z ≤ j ∧ j < Z + m ∧ kn j = 6
  · rw [if_pos a, if_pos ⟨a.1, by omega, a.2.2⟩]
  · rw [if_neg a, if_neg (c := Z ≤ j ∧ j < Z + (m + 1) ∧ kn j = 6)]
    intro z
    by_cases e : j = Z + m
    · subst e; exact k z.2.2
    · exact a ⟨z.1, by omega, z.2.2⟩
theorem mb_1tL {kn : Nat → Int32} {o : Nat → Int64} {Z N m : Nat} (h : N = Z + 14 ∨ Z = N + 14) (hm : m < 14) (k : kn (Z + m) = 6) : vp_updL (mbL kn o Z N m) (Z + m) 0 = mhL kn o Z N m := by
  funext j; unfold vp_updL mbL mhL
  by_cases e : j = Z + m
  · subst e; rw [if_pos rfl, if_pos ⟨by omega, k⟩]
  · rw [if_neg e]
    by_cases a : ((Z ≤ j ∧ j < Z + m) ∨ (N ≤ j ∧ j < N + m)) ∧ kn j = 6
    · rw [if_pos a, if_pos ⟨by omega, a.2⟩]
    · rw [if_neg a, if_neg (fun z => a ⟨by omega, z.2⟩)]
theorem mb_1fL {kn : Nat → Int32} {o : Nat → Int64} {Z N m : Nat} (k : ¬ kn (Z + m) = 6) : mbL kn o Z N m = mhL kn o Z N m := by
  funext j; unfold mbL mhL
  by_cases a : ((Z ≤ j ∧ j < Z + m) ∨ (N ≤ j ∧ j < N + m)) ∧ kn j = 6
  · rw [if_pos a, if_pos ⟨by omega, a.2⟩]
  · rw [if_neg a, if_neg]
    intro z
    by_cases e : j = Z + m
    · subst e; exact k z.2
    · exact a ⟨by omega, z.2⟩
theorem mb_2t {kn : Nat → Int32} {Z N m : Nat} (h : N = Z + 14 ∨ Z = N + 14) (hm : m < 14) (k : kn (N + m) = 6) : upd (mhK kn Z N m) (N + m) 5 = mbK kn Z N (m + 1) := by
  funext j; unfold upd mhK mbK
  by_cases e : j = N + m
  · subst e; rw [if_pos rfl, if_neg (by omega), if_pos ⟨by omega, by omega, k⟩]
  · rw [if_neg e]
    by_cases a : Z ≤ j ∧ j < Z + (m + 1) ∧ kn j = 6
    · rw [if_pos a, if_pos a]
    · rw [if_neg a, if_neg a]
      by_cases b : N ≤ j ∧ j < N + m ∧ kn j = 6
      · rw [if_pos b, if_pos ⟨b.1, by omega, b.2.2⟩]
      · rw [if_neg b, if_neg (fun z => b ⟨z.1, by omega, z.2.2⟩)]
theorem mb_2f {kn : Nat → Int32} {Z N m : Nat} (k : ¬ kn (N + m) = 6) : mhK kn Z N m = mbK kn Z N (m + 1) := by
  funext j; unfold mhK mbK
  by_cases a : Z ≤ j ∧ j < Z + (m + 1) ∧ kn j = 6
  · rw [if_pos a, if_pos a]
  · rw [if_neg a, if_neg a]
    by_cases b : N ≤ j ∧ j < N + m ∧ kn j = 6
    · rw [if_pos b, if_pos ⟨b.1, by omega, b.2.2⟩]
    · rw [if_neg b, if_neg (c := N ≤ j ∧ j < N + (m + 1) ∧ kn j = 6)]
      intro z
      by_cases e : j = N + m
      · subst e; exact k z.2.2
      · exact b ⟨z.1, by omega, z.2.2⟩
theorem mb_2tL {kn : Nat → Int32} {o : Nat → Int64} {Z N m : Nat} (h : N = Z + 14 ∨ Z = N + 14) (hm : m < 14) (k : kn (N + m) = 6) : vp_updL (mhL kn o Z N m) (N + m) 0 = mbL kn o Z N (m + 1) := by
  funext j; unfold vp_updL mhL mbL
  by_cases e : j = N + m
  · subst e; rw [if_pos rfl, if_pos ⟨by omega, k⟩]
  · rw [if_neg e]
    by_cases a : ((Z ≤ j ∧ j < Z + (m + 1)) ∨ (N ≤ j ∧ j < N + m)) ∧ kn j = 6
    · rw [if_pos a, if_pos ⟨by omega, a.2⟩]
    · rw [if_neg a, if_neg (fun z => a ⟨by omega, z.2⟩)]
theorem mb_2fL {kn : Nat → Int32} {o : Nat → Int64} {Z N m : Nat} (k : ¬ kn (N + m) = 6) : mhL kn o Z N m = mbL kn o Z N (m + 1) := by
  funext j; unfold mhL mbL
  by_cases a : ((Z ≤ j ∧ j < Z + (m + 1)) ∨ (N ≤ j ∧ j < N + m)) ∧ kn j = 6
  · rw [if_pos a, if_pos ⟨by omega, a.2⟩]
  · rw [if_neg a, if_neg]
    intro z
    by_cases e : j = N + m
    · subst e; exact k z.2
    · exact a ⟨by omega, z.2⟩
section
variable {y_place : Int32} {y_least : Int64} {y_most : Int64} {y_smallest : Int64} {y_greatest : Int64} {y_ways : Int32} {y_fault : Int32} {y_base : Int32} {y_otherKind : Int32} {y_otherLo : Int64} {y_otherHi : Int64} {y_low : Int64} {y_high : Int64} {y_bytes : Int32} {y_steps : Int32} {y_op : Nat → Int32} {y_first : Nat → Int32} {y_second : Nat → Int32} {y_offset : Nat → Int32} {y_given : Nat → Int32} {y_length : Nat → Int32} {y_there : Nat → Int32} {y_known : Nat → Int32} {y_lo : Nat → Int64} {y_hi : Nat → Int64} {y_at : Nat → Int32} {y_lookups : Nat → Int32} {y_safe : Nat → Int32} {y_met : Nat → Int32} {y_tag : Nat → Int32} {y_word : Nat → Int64} {y_packet : Nat → Int32} {y_keys : Nat → Int64} {y_values : Nat → Int64} {y_many : Nat → Int32}
theorem yv_mbL {post : SY → Prop} {Z N : Nat} {x : Int32} (h : N = Z + 14 ∨ Z = N + 14) (hZ : Z + 14 ≤ 168) (hN : N + 14 ≤ 168) (nz : ∀ r, r < 14 → y_known (Z + r) = 6 → y_lo (Z + r) = x.toInt64) (nn : ∀ r, r < 14 → y_known (N + r) = 6 → y_lo (N + r) = x.toInt64) (H : post (y_place, y_least, y_most, y_smallest, y_greatest, y_ways, y_fault, y_base, y_otherKind, y_otherLo, y_otherHi, y_low, y_high, y_bytes, y_steps, y_op, y_first, y_second, y_offset, y_given, y_length, y_there, mbK y_known Z N 14, mbL y_known y_lo Z N 14, mbL y_known y_hi Z N 14, y_at, y_lookups, y_safe, y_met, y_tag, y_word, y_packet, y_keys, y_values, y_many)) : ∀ d m : Nat, m + d = 14 → wY_maybe_52 post x (nI Z) (nI N) y_place y_least y_most y_smallest y_greatest y_ways y_fault y_base y_otherKind y_otherLo y_otherHi y_low y_high y_bytes y_steps (d + 1) (nI m) y_op y_first y_second y_offset y_given y_length y_there (mbK y_known Z N m) (mbL y_known y_lo Z N m) (mbL y_known y_hi Z N m) y_at y_lookups y_safe y_met y_tag y_word y_packet y_keys y_values y_many := by
  intro d
  induction d with
  | zero =>
    intro m hm
    have e : m = 14 := by omega
    subst e
    exact br_t (by decide) H
  | succ d ih =>
    intro m hm
    have m14 : m < 14 := by omega
    have v1 : vp_in (nI Z + nI m) 168 := by rw [nI_add]; exact vp_in_nI (by omega) (by decide)
    have v2 : vp_in (nI N + nI m) 168 := by rw [nI_add]; exact vp_in_nI (by omega) (by decide)
    have c1 : (nI Z + nI m).toNatClampNeg = Z + m := by rw [nI_add]; exact nI_clamp (by omega)
    have c2 : (nI N + nI m).toNatClampNeg = N + m := by rw [nI_add]; exact nI_clamp (by omega)
    have w123 : wY_maybe_123 post (wY_maybe_52 post x (nI Z) (nI N) y_place y_least y_most y_smallest y_greatest y_ways y_fault y_base y_otherKind y_otherLo y_otherHi y_low y_high y_bytes y_steps (d + 1)) x (nI Z) (nI N) (nI m) y_place y_least y_most y_smallest y_greatest y_ways y_fault y_base y_otherKind y_otherLo y_otherHi y_low y_high y_bytes y_steps y_op y_first y_second y_offset y_given y_length y_there (mhK y_known Z N m) (mhL y_known y_lo Z N m) (mhL y_known y_hi Z N m) y_at y_lookups y_safe y_met y_tag y_word y_packet y_keys y_values y_many := by
      refine ⟨v2, ?_⟩
      rw [c2, mhK_n h m14, mhL_n h m14]
      refine br_c (fun k => ⟨v2, br_t (nn m m14 k) ⟨v2, nm_r (e' := mbK y_known Z N (m + 1)) (by rw [xb_b5, mb_2t h m14 k]) ⟨v2, nm_r (e' := mbL y_known y_lo Z N (m + 1)) (by rw [mb_2tL h m14 k]) ⟨v2, nm_r (e' := mbL y_known y_hi Z N (m + 1)) (by rw [mb_2tL h m14 k]) (nm_r (nI_1 m) (ih (m + 1) (by omega)))⟩⟩⟩⟩) (fun k => nm_r (nI_1 m) ?_)
      rw [mb_2f k, mb_2fL k, mb_2fL k]
      exact ih (m + 1) (by omega)
    refine br_f (by rw [xb_le14 (by omega)]; omega) ⟨v1, ?_⟩
    rw [c1, mbK_z h m14, mbL_z h m14]
    refine br_c (fun k => ⟨v1, br_t (nz m m14 k) ⟨v1, nm_r (e' := mhK y_known Z N m) (by rw [xb_b1, mb_1t h m14 k]) ⟨v1, nm_r (e' := mhL y_known y_lo Z N m) (by rw [mb_1tL h m14 k]) ⟨v1, nm_r (e' := mhL y_known y_hi Z N m) (by rw [mb_1tL h m14 k]) w123⟩⟩⟩⟩) (fun k => ?_)
    rw [mb_1f k, mb_1fL k, mb_1fL k]
    exact w123
theorem yv_maybe {post : SY → Prop} {w g x f Z N : Nat} {num : Int32} (hw : w + 1 < 12) (hg : g < 128) (hx : x < 128) (hf : f < 10) (hk : ∀ r, r < 14 → k7_ (y_known (14 * w + r))) (hs : vp_nar .short (y_safe w) = y_safe w) (hl : vp_nar .byte (y_lookups w) = y_lookups w) (nu : ∀ r, r < 14 → y_known (14 * w + r) = 6 → y_lo (14 * w + r) = num.toInt64) (eZ : Z = if f = 1 then 14 * w else 14 * w + 14) (eN : N = if f = 1 then 14 * w + 14 else 14 * w) (H : post (y_place, y_least, y_most, y_smallest, y_greatest, nI (w + 2), y_fault, nI (14 * w), y_otherKind, y_otherLo, y_otherHi, y_low, y_high, y_bytes, y_steps, y_op, y_first, y_second, y_offset, y_given, y_length, y_there, mbK (fk_ y_known (14 * w) 14) Z N 14, mbL (fk_ y_known (14 * w) 14) (fk_ y_lo (14 * w) 14) Z N 14, mbL (fk_ y_known (14 * w) 14) (fk_ y_hi (14 * w) 14) Z N 14, upd (upd y_at w (nI g)) (w + 1) (nI x), upd y_lookups (w + 1) (y_lookups w), upd y_safe (w + 1) (y_safe w), y_met, y_tag, y_word, y_packet, y_keys, y_values, y_many)) : wpY_maybe post (y_place, y_least, y_most, y_smallest, y_greatest, nI (w + 1), y_fault, nI (14 * w), y_otherKind, y_otherLo, y_otherHi, y_low, y_high, y_bytes, y_steps, y_op, y_first, y_second, y_offset, y_given, y_length, y_there, y_known, y_lo, y_hi, y_at, y_lookups, y_safe, y_met, y_tag, y_word, y_packet, y_keys, y_values, y_many) num (nI f) (nI g) (nI x) := by
  have h : N = Z + 14 ∨ Z = N + 14 := by rw [eZ, eN]; split <;> omega
  have hZ : Z + 14 ≤ 168 := by rw [eZ]; split <;> omega
  have hN : N + 14 ≤ 168 := by rw [eN]; split <;> omega
  have nf : ∀ r, r < 14 → fk_ y_known (14 * w) 14 (14 * w + r) = 6 → fk_ y_lo (14 * w) 14 (14 * w + r) = num.toInt64 := by
    intro r hr; rw [fk_lo _ (by omega), fk_lo _ (by omega)]; exact nu r hr
  have nh : ∀ r, r < 14 → fk_ y_known (14 * w) 14 (14 * w + 14 + r) = 6 → fk_ y_lo (14 * w) 14 (14 * w + 14 + r) = num.toInt64 := by
    intro r hr; rw [fk_hi _ hr, fk_hi _ hr]; exact nu r hr
  have w40 : wY_maybe_40 post num (nI g) (nI x) (nI Z) (nI N) y_place y_least y_most y_smallest y_greatest (nI (w + 1)) y_fault (nI (14 * w)) y_otherKind y_otherLo y_otherHi y_low y_high y_bytes y_steps y_op y_first y_second y_offset y_given y_length y_there y_known y_lo y_hi y_at y_lookups y_safe y_met y_tag y_word y_packet y_keys y_values y_many := by
    refine yv_fork hw hg hx hk hs hl ⟨15, ?_⟩
    have nz : ∀ r, r < 14 → fk_ y_known (14 * w) 14 (Z + r) = 6 → fk_ y_lo (14 * w) 14 (Z + r) = num.toInt64 := by
      rw [eZ]; split
      · exact nf
      · exact nh
    have nn : ∀ r, r < 14 → fk_ y_known (14 * w) 14 (N + r) = 6 → fk_ y_lo (14 * w) 14 (N + r) = num.toInt64 := by
      rw [eN]; split
      · exact nh
      · exact nf
    have := yv_mbL h hZ hN nz nn H 14 0 rfl
    rw [mbK_0, mbL_0, mbL_0] at this
    exact this
  by_cases z : f = 1
  · rw [if_pos z] at eZ eN
    subst eZ eN z
    refine br_t rfl (br_t rfl ?_)
    rw [xb_adr14]; exact w40
  · rw [if_neg z] at eZ eN
    subst eZ eN
    have z' : ¬ nI f = 1 := by rw [xb_eq1 (by omega)]; exact z
    refine br_f z' (br_f z' ?_)
    rw [xb_adr14]; exact w40
theorem yv_bounds {post : SY → Prop} {w g x n sn V : Nat} {at0 : Int32} (hw : w + 1 < 12) (hg : g < 128) (hx : x < 128) (hn : n ≤ 256) (hsn : sn ≤ 256) (hk : ∀ r, r < 14 → k7_ (y_known (14 * w + r))) (es : y_safe w = nI sn) (hl : vp_nar .byte (y_lookups w) = y_lookups w) (eV : V = if at0 = 0 then w + 1 else w) (H : post (y_place, y_least, y_most, y_smallest, y_greatest, nI (w + 2), y_fault, nI (14 * w), y_otherKind, y_otherLo, y_otherHi, y_low, y_high, y_bytes, y_steps, y_op, y_first, y_second, y_offset, y_given, y_length, y_there, fk_ y_known (14 * w) 14, fk_ y_lo (14 * w) 14, fk_ y_hi (14 * w) 14, upd (upd y_at w (nI g)) (w + 1) (nI x), upd y_lookups (w + 1) (y_lookups w), upd (upd y_safe (w + 1) (nI sn)) V (nI (if n ≤ sn then sn else n)), y_met, y_tag, y_word, y_packet, y_keys, y_values, y_many)) : wpY_bounds post (y_place, y_least, y_most, y_smallest, y_greatest, nI (w + 1), y_fault, nI (14 * w), y_otherKind, y_otherLo, y_otherHi, y_low, y_high, y_bytes, y_steps, y_op, y_first, y_second, y_offset, y_given, y_length, y_there, y_known, y_lo, y_hi, y_at, y_lookups, y_safe, y_met, y_tag, y_word, y_packet, y_keys, y_values, y_many) (lN n) at0 (nI g) (nI x) := by
  have sV : upd y_safe (w + 1) (nI sn) V = nI sn := by
    rw [eV]; split
    · exact pk_us
    · rw [pk_un (by omega)]; exact es
  have V12 : V < 12 := by rw [eV]; split <;> omega
  have w29 : wY_bounds_29 post (lN n) (nI V) y_place y_least y_most y_smallest y_greatest (nI (w + 2)) y_fault (nI (14 * w)) y_otherKind y_otherLo y_otherHi y_low y_high y_bytes y_steps y_op y_first y_second y_offset y_given y_length y_there (fk_ y_known (14 * w) 14) (fk_ y_lo (14 * w) 14) (fk_ y_hi (14 * w) 14) (upd (upd y_at w (nI g)) (w + 1) (nI x)) (upd y_lookups (w + 1) (y_lookups w)) (upd y_safe (w + 1) (nI sn)) y_met y_tag y_word y_packet y_keys y_values y_many := by
    have v : vp_in (nI V) 12 := vp_in_nI V12 (by decide)
    have c : (nI V).toNatClampNeg = V := nI_clamp (by omega)
    refine ⟨v, ?_⟩
    rw [c, sV, nI_l (by omega), pk_lLE (by omega) (by omega)]
    refine br_c (fun q => ?_) (fun q => ⟨v, nm_r (e' := upd (upd y_safe (w + 1) (nI sn)) V (nI n)) ?_ ?_⟩)
    · rw [if_pos q, xb_updid sV] at H; exact H
    · rw [lN_i, xb_ns (by omega), xb_vs (by omega)]
    · rw [if_neg q] at H; exact H
  have hs : vp_nar .short (y_safe w) = y_safe w := by rw [es]; exact xb_vs (by omega)
  refine nm_r (nI_pred w) ?_
  refine yv_fork hw hg hx hk hs hl ?_
  rw [es]
  by_cases z : at0 = 0
  · rw [if_pos z] at eV; subst eV
    refine br_t z ?_
    rw [nI_1]; exact w29
  · rw [if_neg z] at eV; subst eV
    exact br_f z w29
/-- scalars: one way open -/
theorem yv_scG {post : SY → Prop} {w d f g : Nat} {x : Int32} (hw : w < 12) (hd : d < 14) (hg : g < 128) (h1 : 1 ≤ f) (h4 : f ≤ 4) (A : yg_ f (y_lo (14 * w + d)) (y_hi (14 * w + d)) y_otherLo y_otherHi) (C : ¬ yg_ (op_ f) (y_lo (14 * w + d)) (y_hi (14 * w + d)) y_otherLo y_otherHi) (no : y_otherLo = y_otherHi → yc_l f y_otherLo (y_lo (14 * w + d)) (y_hi (14 * w + d)) = y_lo (14 * w + d) ∧ yc_h f y_otherLo (y_lo (14 * w + d)) (y_hi (14 * w + d)) = y_hi (14 * w + d)) (H : post (y_place, y_least, y_most, y_smallest, y_greatest, nI (w + 1), y_fault, nI (14 * w), y_otherKind, y_otherLo, y_otherHi, y_low, y_high, y_bytes, y_steps, y_op, y_first, y_second, y_offset, y_given, y_length, y_there, y_known, y_lo, y_hi, upd y_at w (nI g), y_lookups, y_safe, y_met, y_tag, y_word, y_packet, y_keys, y_values, y_many)) : wpY_scalars post (y_place, y_least, y_most, y_smallest, y_greatest, nI (w + 1), y_fault, nI (14 * w), y_otherKind, y_otherLo, y_otherHi, y_low, y_high, y_bytes, y_steps, y_op, y_first, y_second, y_offset, y_given, y_length, y_there, y_known, y_lo, y_hi, y_at, y_lookups, y_safe, y_met, y_tag, y_word, y_packet, y_keys, y_values, y_many) (nI d) (nI f) (nI g) x := by
  refine yv_sc224 h1 h4 (R := 14 * w + d) (by omega) (nI_add _ _) (fun go st g1 _ _ s0 => ?_)
  rw [g1 A, s0 C]
  have v : vp_in (nI w) 12 := vp_in_nI hw (by decide)
  have c : (nI w).toNatClampNeg = w := nI_clamp (by omega)
  have w334 : ∀ z : Int32, wY_scalars_334 post 1 0 (nI (14 * w + d)) z y_place y_least y_most y_smallest y_greatest (nI (w + 1)) y_fault (nI (14 * w)) y_otherKind y_otherLo y_otherHi y_low y_high y_bytes y_steps y_op y_first y_second y_offset y_given y_length y_there y_known y_lo y_hi (upd y_at w (nI g)) y_lookups y_safe y_met y_tag y_word y_packet y_keys y_values y_many := fun z => br_t rfl H
  refine nm_r (nI_pred w) (br_f (by decide) (br_t rfl (br_f (by decide) ⟨v, nm_r (e' := upd y_at w (nI g)) (by rw [c, xb_nb hg, xb_vb hg]) (br_c (fun q => nm_r (nI_add _ _) (br_f (by decide) ?_)) (fun q => H))⟩)))
  refine yv_cut (by omega) h1 h4 ?_
  rw [(no q).1, (no q).2, xb_updLid rfl, xb_updLid rfl]
  exact br_c (fun _ => w334 _) (fun _ => br_c (fun _ => w334 _) (fun _ => br_c (fun _ => w334 _) (fun _ => w334 _)))
theorem yv_scS {post : SY → Prop} {w d f x : Nat} {g : Int32} (hw : w < 12) (hd : d < 14) (hx : x < 128) (h1 : 1 ≤ f) (h4 : f ≤ 4) (A : ¬ yg_ f (y_lo (14 * w + d)) (y_hi (14 * w + d)) y_otherLo y_otherHi) (C : yg_ (op_ f) (y_lo (14 * w + d)) (y_hi (14 * w + d)) y_otherLo y_otherHi) (no : y_otherLo = y_otherHi → yc_l (op_ f) y_otherLo (y_lo (14 * w + d)) (y_hi (14 * w + d)) = y_lo (14 * w + d) ∧ yc_h (op_ f) y_otherLo (y_lo (14 * w + d)) (y_hi (14 * w + d)) = y_hi (14 * w + d)) (H : post (y_place, y_least, y_most, y_smallest, y_greatest, nI (w + 1), y_fault, nI (14 * w), y_otherKind, y_otherLo, y_otherHi, y_low, y_high, y_bytes, y_steps, y_op, y_first, y_second, y_offset, y_given, y_length, y_there, y_known, y_lo, y_hi, upd y_at w (nI x), y_lookups, y_safe, y_met, y_tag, y_word, y_packet, y_keys, y_values, y_many)) : wpY_scalars post (y_place, y_least, y_most, y_smallest, y_greatest, nI (w + 1), y_fault, nI (14 * w), y_otherKind, y_otherLo, y_otherHi, y_low, y_high, y_bytes, y_steps, y_op, y_first, y_second, y_offset, y_given, y_length, y_there, y_known, y_lo, y_hi, y_at, y_lookups, y_safe, y_met, y_tag, y_word, y_packet, y_keys, y_values, y_many) (nI d) (nI f) g (nI x) := by
  refine yv_sc224 h1 h4 (R := 14 * w + d) (by omega) (nI_add _ _) (fun go st _ g0 s1 _ => ?_)
  rw [g0 A, s1 C]
  have v : vp_in (nI w) 12 := vp_in_nI hw (by decide)
  have c : (nI w).toNatClampNeg = w := nI_clamp (by omega)
  obtain ⟨o1, o4⟩ := op_r h1 h4
  refine nm_r (nI_pred w) (br_t rfl (br_t rfl ⟨v, nm_r (e' := upd y_at w (nI x)) (by rw [c, xb_nb hx, xb_vb hx]) (br_c (fun q => nm_r (nI_add _ _) (br_t rfl ?_)) (fun q => H))⟩))
  have w334 : wY_scalars_334 post 0 1 (nI (14 * w + d)) (nI (op_ f)) y_place y_least y_most y_smallest y_greatest (nI (w + 1)) y_fault (nI (14 * w)) y_otherKind y_otherLo y_otherHi y_low y_high y_bytes y_steps y_op y_first y_second y_offset y_given y_length y_there y_known y_lo y_hi (upd y_at w (nI x)) y_lookups y_safe y_met y_tag y_word y_packet y_keys y_values y_many := by
    refine br_f (by decide) (br_t rfl ?_)
    refine yv_cut (by omega) o1 o4 ?_
    rw [(no q).1, (no q).2, xb_updLid rfl, xb_updLid rfl]
    exact H
  have e : f = 1 ∨ f = 2 ∨ f = 3 ∨ f = 4 := by omega
  rcases e with rfl | rfl | rfl | rfl
  · exact br_t rfl w334
  · exact br_f (by decide) (br_t rfl w334)
  · exact br_f (by decide) (br_f (by decide) (br_t rfl w334))
  · exact br_f (by decide) (br_f (by decide) (br_f (by decide) w334))
/-- scalars: both ways -/
theorem yv_scB {post : SY → Prop} {w d f g x : Nat} (hw : w + 1 < 12) (hd : d < 14) (hg : g < 128) (hx : x < 128) (h1 : 1 ≤ f) (h4 : f ≤ 4) (hk : ∀ r, r < 14 → k7_ (y_known (14 * w + r))) (hs : vp_nar .short (y_safe w) = y_safe w) (hl : vp_nar .byte (y_lookups w) = y_lookups w) (A : yg_ f (y_lo (14 * w + d)) (y_hi (14 * w + d)) y_otherLo y_otherHi) (C : yg_ (op_ f) (y_lo (14 * w + d)) (y_hi (14 * w + d)) y_otherLo y_otherHi) {L H : Nat → Int64} (eL : L = if y_otherLo = y_otherHi then vp_updL (vp_updL (fk_ y_lo (14 * w) 14) (14 * w + d) (yc_l f y_otherLo (y_lo (14 * w + d)) (y_hi (14 * w + d)))) (14 * w + 14 + d) (yc_l (op_ f) y_otherLo (y_lo (14 * w + d)) (y_hi (14 * w + d))) else fk_ y_lo (14 * w) 14) (eH : H = if y_otherLo = y_otherHi then vp_updL (vp_updL (fk_ y_hi (14 * w) 14) (14 * w + d) (yc_h f y_otherLo (y_lo (14 * w + d)) (y_hi (14 * w + d)))) (14 * w + 14 + d) (yc_h (op_ f) y_otherLo (y_lo (14 * w + d)) (y_hi (14 * w + d))) else fk_ y_hi (14 * w) 14) (P : post (y_place, y_least, y_most, y_smallest, y_greatest, nI (w + 2), y_fault, nI (14 * w), y_otherKind, y_otherLo, y_otherHi, y_low, y_high, y_bytes, y_steps, y_op, y_first, y_second, y_offset, y_given, y_length, y_there, fk_ y_known (14 * w) 14, L, H, upd (upd y_at w (nI g)) (w + 1) (nI x), upd y_lookups (w + 1) (y_lookups w), upd y_safe (w + 1) (y_safe w), y_met, y_tag, y_word, y_packet, y_keys, y_values, y_many)) : wpY_scalars post (y_place, y_least, y_most, y_smallest, y_greatest, nI (w + 1), y_fault, nI (14 * w), y_otherKind, y_otherLo, y_otherHi, y_low, y_high, y_bytes, y_steps, y_op, y_first, y_second, y_offset, y_given, y_length, y_there, y_known, y_lo, y_hi, y_at, y_lookups, y_safe, y_met, y_tag, y_word, y_packet, y_keys, y_values, y_many) (nI d) (nI f) (nI g) (nI x) := by
  refine yv_sc224 h1 h4 (R := 14 * w + d) (by omega) (nI_add _ _) (fun go st g1 _ s1 _ => ?_)
  rw [g1 A, s1 C]
  obtain ⟨o1, o4⟩ := op_r h1 h4
  refine nm_r (nI_pred w) (br_f (by decide) (br_f (by decide) ?_))
  refine yv_fork hw hg hx hk hs hl ?_
  refine br_c (fun q => nm_r (nI_add _ _) (br_f (by decide) ?_)) (fun q => ?_)
  · rw [if_pos q] at eL eH
    refine yv_cut (by omega) h1 h4 ?_
    rw [fk_lo y_lo (by omega), fk_lo y_hi (by omega)]
    have w334 : wY_scalars_334 post 1 1 (nI (14 * w + d)) (nI (op_ f)) y_place y_least y_most y_smallest y_greatest (nI (w + 2)) y_fault (nI (14 * w)) y_otherKind y_otherLo y_otherHi y_low y_high y_bytes y_steps y_op y_first y_second y_offset y_given y_length y_there (fk_ y_known (14 * w) 14) (vp_updL (fk_ y_lo (14 * w) 14) (14 * w + d) (yc_l f y_otherLo (y_lo (14 * w + d)) (y_hi (14 * w + d)))) (vp_updL (fk_ y_hi (14 * w) 14) (14 * w + d) (yc_h f y_otherLo (y_lo (14 * w + d)) (y_hi (14 * w + d)))) (upd (upd y_at w (nI g)) (w + 1) (nI x)) (upd y_lookups (w + 1) (y_lookups w)) (upd y_safe (w + 1) (y_safe w)) y_met y_tag y_word y_packet y_keys y_values y_many := by
      refine br_f (by decide) (br_f (by decide) ?_)
      rw [xb_adr14, show 14 * w + d + 14 = 14 * w + 14 + d from by omega]
      refine yv_cut (by omega) o1 o4 ?_
      rw [pk_uLn (f := fk_ y_lo (14 * w) 14) (by omega), pk_uLn (f := fk_ y_hi (14 * w) 14) (by omega), fk_hi y_lo hd, fk_hi y_hi hd, ← eL, ← eH]
      exact P
    have e : f = 1 ∨ f = 2 ∨ f = 3 ∨ f = 4 := by omega
    rcases e with rfl | rfl | rfl | rfl
    · exact br_t rfl w334
    · exact br_f (by decide) (br_t rfl w334)
    · exact br_f (by decide) (br_f (by decide) (br_t rfl w334))
    · exact br_f (by decide) (br_f (by decide) (br_f (by decide) w334))
  · rw [if_neg q] at eL eH
    rw [eL, eH] at P
    exact P
end
end
section
def gm_ (a g : Nat) : Nat := if a + 1 + g ≤ 40 then a + 1 + g else 40
section
variable {y_place : Int32} {y_least : Int64} {y_most : Int64} {y_smallest : Int64} {y_greatest : Int64} {y_ways : Int32} {y_fault : Int32} {y_base : Int32} {y_otherKind : Int32} {y_otherLo : Int64} {y_otherHi : Int64} {y_low : Int64} {y_high : Int64} {y_bytes : Int32} {y_steps : Int32} {y_op : Nat → Int32} {y_first : Nat → Int32} {y_second : Nat → Int32} {y_offset : Nat → Int32} {y_given : Nat → Int32} {y_length : Nat → Int32} {y_there : Nat → Int32} {y_known : Nat → Int32} {y_lo : Nat → Int64} {y_hi : Nat → Int64} {y_at : Nat → Int32} {y_lookups : Nat → Int32} {y_safe : Nat → Int32} {y_met : Nat → Int32} {y_tag : Nat → Int32} {y_word : Nat → Int64} {y_packet : Nat → Int32} {y_keys : Nat → Int64} {y_values : Nat → Int64} {y_many : Nat → Int32}
theorem yv_jOut {post : SY → Prop} {i : Nat} {a o : Int32} (hi : i < 120) (n : ¬ 0 ≤ y_offset i) (H : post (a, y_least, y_most, y_smallest, y_greatest, y_ways, 1, y_base, y_otherKind, y_otherLo, y_otherHi, y_low, y_high, y_bytes, y_steps, y_op, y_first, y_second, y_offset, y_given, y_length, y_there, y_known, y_lo, y_hi, y_at, y_lookups, y_safe, y_met, y_tag, y_word, y_packet, y_keys, y_values, y_many)) : wpY_jump post (y_place, y_least, y_most, y_smallest, y_greatest, y_ways, y_fault, y_base, y_otherKind, y_otherLo, y_otherHi, y_low, y_high, y_bytes, y_steps, y_op, y_first, y_second, y_offset, y_given, y_length, y_there, y_known, y_lo, y_hi, y_at, y_lookups, y_safe, y_met, y_tag, y_word, y_packet, y_keys, y_values, y_many) (nI i) a o := by
  have v : vp_in (nI i) 120 := vp_in_nI hi (by decide)
  have c : (nI i).toNatClampNeg = i := nI_clamp (by omega)
  have w31 : ∀ z : Int32, wY_jump_31 post (nI i) a o z y_place y_least y_most y_smallest y_greatest y_ways y_fault y_base y_otherKind y_otherLo y_otherHi y_low y_high y_bytes y_steps y_op y_first y_second y_offset y_given y_length y_there y_known y_lo y_hi y_at y_lookups y_safe y_met y_tag y_word y_packet y_keys y_values y_many := fun z => ⟨v, br_f (by rw [c]; exact n) H⟩
  exact ⟨v, nm_e (br_c (fun _ => w31 _) (fun _ => w31 _))⟩
theorem yv_j31 {post : SY → Prop} {i a g : Nat} {o : Int32} (hi : i < 120) (ha : a < 1000) (hg : g < 2 ^ 31) (eo : y_offset i = nI g) (H : wY_jump_31 post (nI i) (nI a) o (nI (gm_ a g)) y_place y_least y_most y_smallest y_greatest y_ways y_fault y_base y_otherKind y_otherLo y_otherHi y_low y_high y_bytes y_steps y_op y_first y_second y_offset y_given y_length y_there y_known y_lo y_hi y_at y_lookups y_safe y_met y_tag y_word y_packet y_keys y_values y_many) : wpY_jump post (y_place, y_least, y_most, y_smallest, y_greatest, y_ways, y_fault, y_base, y_otherKind, y_otherLo, y_otherHi, y_low, y_high, y_bytes, y_steps, y_op, y_first, y_second, y_offset, y_given, y_length, y_there, y_known, y_lo, y_hi, y_at, y_lookups, y_safe, y_met, y_tag, y_word, y_packet, y_keys, y_values, y_many) (nI i) (nI a) o := by
  have v : vp_in (nI i) 120 := vp_in_nI hi (by decide)
  have c : (nI i).toNatClampNeg = i := nI_clamp (by omega)
  have e40 : (40 : Int64) = lN 40 := by rfl
  refine ⟨v, nm_r (e' := lN (a + 1 + g)) (by rw [c, eo, nI_l (by omega), nI_l hg, lN_1, lN_add]) ?_⟩
  unfold gm_ at H
  refine br_c (fun z => ?_) (fun z => ?_)
  · rw [e40, pk_lLE (by omega) (by omega)] at z
    rw [if_pos z] at H
    rw [lN_i]; exact H
  · rw [e40, pk_lLE (by omega) (by omega)] at z
    rw [if_neg z] at H
    exact H
theorem yv_jA {post : SY → Prop} {i a g w : Nat} (hi : i < 120) (ha : a < 1000) (hg : g < 2 ^ 31) (hw : w < 12) (eo : y_offset i = nI g) (H : post (y_place, y_least, y_most, y_smallest, y_greatest, nI (w + 1), y_fault, y_base, y_otherKind, y_otherLo, y_otherHi, y_low, y_high, y_bytes, y_steps, y_op, y_first, y_second, y_offset, y_given, y_length, y_there, y_known, y_lo, y_hi, upd y_at w (nI (gm_ a g)), y_lookups, y_safe, y_met, y_tag, y_word, y_packet, y_keys, y_values, y_many)) : wpY_jump post (y_place, y_least, y_most, y_smallest, y_greatest, nI (w + 1), y_fault, y_base, y_otherKind, y_otherLo, y_otherHi, y_low, y_high, y_bytes, y_steps, y_op, y_first, y_second, y_offset, y_given, y_length, y_there, y_known, y_lo, y_hi, y_at, y_lookups, y_safe, y_met, y_tag, y_word, y_packet, y_keys, y_values, y_many) (nI i) (nI a) 20 := by
  have g40 : gm_ a g ≤ 40 := by unfold gm_; split <;> omega
  have v : vp_in (nI i) 120 := vp_in_nI hi (by decide)
  have c : (nI i).toNatClampNeg = i := nI_clamp (by omega)
  have vw : vp_in (nI (w + 1) - 1) 12 := by rw [nI_pred]; exact vp_in_nI hw (by decide)
  have cw : (nI (w + 1) - 1).toNatClampNeg = w := by rw [nI_pred]; exact nI_clamp (by omega)
  refine yv_j31 hi ha hg eo ⟨v, br_t (by rw [c, eo]; exact nI_pos' hg) (br_t rfl ⟨vw, nm_r (e' := upd y_at w (nI (gm_ a g))) ?_ H⟩)⟩
  rw [cw, xb_nb (by omega), xb_vb (by omega)]
theorem yv_jU {post : SY → Prop} {i a g B d s : Nat} {o r : Int32} (hi : i < 120) (ha : a < 1000) (hg : g < 2 ^ 31) (hd : B + d < 168) (hs : B + s < 168) (eo : y_offset i = nI g) (o20 : ¬ o = 20) (er : r = if o ≤ 30 then 0 else 1) (e1 : y_first i = nI d) (e2 : y_second i = nI s) (m : (¬ d = 8 ∧ y_known (B + d) = 0) ∨ (¬ r = 0 ∧ ¬ s = 8 ∧ y_known (B + s) = 0)) (H : post (nI a, y_least, y_most, y_smallest, y_greatest, y_ways, 2, nI B, y_otherKind, y_otherLo, y_otherHi, y_low, y_high, y_bytes, y_steps, y_op, y_first, y_second, y_offset, y_given, y_length, y_there, y_known, y_lo, y_hi, y_at, y_lookups, y_safe, y_met, y_tag, y_word, y_packet, y_keys, y_values, y_many)) : wpY_jump post (y_place, y_least, y_most, y_smallest, y_greatest, y_ways, y_fault, nI B, y_otherKind, y_otherLo, y_otherHi, y_low, y_high, y_bytes, y_steps, y_op, y_first, y_second, y_offset, y_given, y_length, y_there, y_known, y_lo, y_hi, y_at, y_lookups, y_safe, y_met, y_tag, y_word, y_packet, y_keys, y_values, y_many) (nI i) (nI a) o := by
  have v : vp_in (nI i) 120 := vp_in_nI hi (by decide)
  have c : (nI i).toNatClampNeg = i := nI_clamp (by omega)
  have w81 : wY_jump_81 post (nI i) (nI a) o (nI (gm_ a g)) r y_place y_least y_most y_smallest y_greatest y_ways y_fault (nI B) y_otherKind y_otherLo y_otherHi y_low y_high y_bytes y_steps y_op y_first y_second y_offset y_given y_length y_there y_known y_lo y_hi y_at y_lookups y_safe y_met y_tag y_word y_packet y_keys y_values y_many := by
    refine ⟨v, nm_r (e' := nI d) (by rw [c]; exact e1) ⟨v, nm_r (e' := nI s) (by rw [c]; exact e2) ?_⟩⟩
    by_cases q : d = 8 ∨ ¬ y_known (B + d) = 0
    · refine (yv_missN hd q).mpr ?_
      obtain ⟨z1, z2, z3⟩ : ¬ r = 0 ∧ ¬ s = 8 ∧ y_known (B + s) = 0 := by
        rcases m with m | m
        · rcases q with q | q
          · exact absurd q m.1
          · exact absurd m.2 q
        · exact m
      refine br_t rfl (br_f z1 ?_)
      exact (yv_missY hs z2 z3).mpr (br_f (by decide) H)
    · have q1 : ¬ d = 8 := fun n => q (Or.inl n)
      have q2 : y_known (B + d) = 0 := Classical.byContradiction fun n => q (Or.inr n)
      exact (yv_missY hd q1 q2).mpr (br_f (by decide) H)
  refine yv_j31 hi ha hg eo ⟨v, br_t (by rw [c, eo]; exact nI_pos' hg) (br_f o20 ?_)⟩
  by_cases z : o ≤ 30
  · rw [if_pos z] at er; subst er; exact br_t z w81
  · rw [if_neg z] at er; subst er; exact br_f z w81
theorem yv_jG {post : SY → Prop} {i a g B d s f : Nat} {o r k2 : Int32} {l2 h2 : Int64} (hi : i < 120) (ha : a < 1000) (hg : g < 2 ^ 31) (hd : B + d < 168) (hs : B + s < 168) (eo : y_offset i = nI g) (o20 : ¬ o = 20) (ef : o - o / 10 * 10 = nI f) (er : r = if o ≤ 30 then 0 else 1) (e1 : y_first i = nI d) (e2 : y_second i = nI s) (m1 : d = 8 ∨ ¬ y_known (B + d) = 0) (m2 : r = 0 ∨ s = 8 ∨ ¬ y_known (B + s) = 0) (OP : ∀ post : SY → Prop, post (y_place, y_least, y_most, y_smallest, y_greatest, y_ways, y_fault, nI B, k2, l2, h2, y_low, y_high, y_bytes, y_steps, y_op, y_first, y_second, y_offset, y_given, y_length, y_there, y_known, y_lo, y_hi, y_at, y_lookups, y_safe, y_met, y_tag, y_word, y_packet, y_keys, y_values, y_many) → wpY_other post (y_place, y_least, y_most, y_smallest, y_greatest, y_ways, y_fault, nI B, y_otherKind, y_otherLo, y_otherHi, y_low, y_high, y_bytes, y_steps, y_op, y_first, y_second, y_offset, y_given, y_length, y_there, y_known, y_lo, y_hi, y_at, y_lookups, y_safe, y_met, y_tag, y_word, y_packet, y_keys, y_values, y_many) (nI i) r) (A : y_known (B + d) = 1 → k2 = 1 → wpY_scalars post (y_place, y_least, y_most, y_smallest, y_greatest, y_ways, y_fault, nI B, k2, l2, h2, y_low, y_high, y_bytes, y_steps, y_op, y_first, y_second, y_offset, y_given, y_length, y_there, y_known, y_lo, y_hi, y_at, y_lookups, y_safe, y_met, y_tag, y_word, y_packet, y_keys, y_values, y_many) (nI d) (nI f) (nI (gm_ a g)) (nI (a + 1))) (C : ¬ (y_known (B + d) = 1 ∧ k2 = 1) → wY_jump_182 post (nI a) (nI (gm_ a g)) (nI d) (y_known (B + d)) (nI f) y_place y_least y_most y_smallest y_greatest y_ways y_fault (nI B) k2 l2 h2 y_low y_high y_bytes y_steps y_op y_first y_second y_offset y_given y_length y_there y_known y_lo y_hi y_at y_lookups y_safe y_met y_tag y_word y_packet y_keys y_values y_many) : wpY_jump post (y_place, y_least, y_most, y_smallest, y_greatest, y_ways, y_fault, nI B, y_otherKind, y_otherLo, y_otherHi, y_low, y_high, y_bytes, y_steps, y_op, y_first, y_second, y_offset, y_given, y_length, y_there, y_known, y_lo, y_hi, y_at, y_lookups, y_safe, y_met, y_tag, y_word, y_packet, y_keys, y_values, y_many) (nI i) (nI a) o := by
  have v : vp_in (nI i) 120 := vp_in_nI hi (by decide)
  have c : (nI i).toNatClampNeg = i := nI_clamp (by omega)
  have w125 : wY_jump_125 post (nI i) (nI a) o (nI (gm_ a g)) r (nI d) y_place y_least y_most y_smallest y_greatest y_ways y_fault (nI B) y_otherKind y_otherLo y_otherHi y_low y_high y_bytes y_steps y_op y_first y_second y_offset y_given y_length y_there y_known y_lo y_hi y_at y_lookups y_safe y_met y_tag y_word y_packet y_keys y_values y_many := by
    have v2 : vp_in (nI B + nI d) 168 := by rw [nI_add]; exact vp_in_nI hd (by decide)
    have c2 : (nI B + nI d).toNatClampNeg = B + d := by rw [nI_add, nI_clamp (by omega)]
    refine OP _ ⟨v2, nm_r (e' := y_known (B + d)) (by rw [c2]) ⟨by decide, nm_r ef (br_c (fun x => br_c (fun y => ?_) (fun y => C (fun n => y n.2))) (fun x => C (fun n => x n.1)))⟩⟩
    rw [nI_1]
    exact A x y
  have w81 : wY_jump_81 post (nI i) (nI a) o (nI (gm_ a g)) r y_place y_least y_most y_smallest y_greatest y_ways y_fault (nI B) y_otherKind y_otherLo y_otherHi y_low y_high y_bytes y_steps y_op y_first y_second y_offset y_given y_length y_there y_known y_lo y_hi y_at y_lookups y_safe y_met y_tag y_word y_packet y_keys y_values y_many := by
    refine ⟨v, nm_r (e' := nI d) (by rw [c]; exact e1) ⟨v, nm_r (e' := nI s) (by rw [c]; exact e2) ?_⟩⟩
    refine (yv_missN hd m1).mpr ?_
    refine br_t rfl (br_c (fun _ => w125) (fun z => ?_))
    have m2' : s = 8 ∨ ¬ y_known (B + s) = 0 := by rcases m2 with q | q; exact absurd q z; exact q
    exact (yv_missN hs m2').mpr (br_t rfl w125)
  refine yv_j31 hi ha hg eo ⟨v, br_t (by rw [c, eo]; exact nI_pos' hg) (br_f o20 ?_)⟩
  by_cases z : o ≤ 30
  · rw [if_pos z] at er; subst er; exact br_t z w81
  · rw [if_neg z] at er; subst er; exact br_f z w81
/-- from wY_jump_182 -/
theorem yv_j182K {post : SY → Prop} {a g d f : Nat} {k : Int32} (h1 : 1 ≤ f) (h4 : f ≤ 4) (n6 : ¬ (k = 6 ∧ f ≤ 2 ∧ y_otherKind = 1 ∧ y_otherHi = 0)) (n2 : ¬ (k = 2 ∧ 3 ≤ f ∧ y_otherKind = 3)) (n3 : ¬ (k = 3 ∧ 3 ≤ f ∧ y_otherKind = 2)) (H : post (nI a, y_least, y_most, y_smallest, y_greatest, y_ways, 3, y_base, y_otherKind, y_otherLo, y_otherHi, y_low, y_high, y_bytes, y_steps, y_op, y_first, y_second, y_offset, y_given, y_length, y_there, y_known, y_lo, y_hi, y_at, y_lookups, y_safe, y_met, y_tag, y_word, y_packet, y_keys, y_values, y_many)) : wY_jump_182 post (nI a) (nI g) (nI d) k (nI f) y_place y_least y_most y_smallest y_greatest y_ways y_fault y_base y_otherKind y_otherLo y_otherHi y_low y_high y_bytes y_steps y_op y_first y_second y_offset y_given y_length y_there y_known y_lo y_hi y_at y_lookups y_safe y_met y_tag y_word y_packet y_keys y_values y_many := by
  have w296 : wY_jump_296 post (nI a) (nI g) k (nI f) y_place y_least y_most y_smallest y_greatest y_ways y_fault y_base y_otherKind y_otherLo y_otherHi y_low y_high y_bytes y_steps y_op y_first y_second y_offset y_given y_length y_there y_known y_lo y_hi y_at y_lookups y_safe y_met y_tag y_word y_packet y_keys y_values y_many := by
    refine br_c (fun _ => H) (fun x => br_c (fun y => br_c (fun z => ?_) (fun _ => H)) (fun _ => H))
    rw [xb_ge2 (by omega)] at x
    exact absurd ⟨y, by omega, z⟩ n3
  have w239 : wY_jump_239 post (nI a) (nI g) (nI d) k (nI f) y_place y_least y_most y_smallest y_greatest y_ways y_fault y_base y_otherKind y_otherLo y_otherHi y_low y_high y_bytes y_steps y_op y_first y_second y_offset y_given y_length y_there y_known y_lo y_hi y_at y_lookups y_safe y_met y_tag y_word y_packet y_keys y_values y_many := by
    refine br_c (fun _ => w296) (fun x => br_c (fun y => br_c (fun z => ?_) (fun _ => w296)) (fun _ => w296))
    rw [xb_ge2 (by omega)] at x
    exact absurd ⟨y, by omega, z⟩ n2
  refine br_c (fun x => br_c (fun y => br_c (fun z => br_c (fun _ => w239) (fun q => ?_)) (fun _ => w239)) (fun _ => w239)) (fun _ => w239)
  rw [xb_le3 (by omega)] at q
  exact absurd ⟨x, by omega, y, z⟩ n6
theorem yv_j182M {post : SY → Prop} {a g d f B : Nat} (hd : B + d < 168) (h1 : 1 ≤ f) (h2 : f ≤ 2) (k1 : y_otherKind = 1) (h0 : y_otherHi = 0) (H : wpY_maybe post (y_place, y_least, y_most, y_smallest, y_greatest, y_ways, y_fault, nI B, y_otherKind, y_otherLo, y_otherHi, y_low, y_high, y_bytes, y_steps, y_op, y_first, y_second, y_offset, y_given, y_length, y_there, y_known, y_lo, y_hi, y_at, y_lookups, y_safe, y_met, y_tag, y_word, y_packet, y_keys, y_values, y_many) (y_lo (B + d)).toInt32 (nI f) (nI g) (nI (a + 1))) : wY_jump_182 post (nI a) (nI g) (nI d) 6 (nI f) y_place y_least y_most y_smallest y_greatest y_ways y_fault (nI B) y_otherKind y_otherLo y_otherHi y_low y_high y_bytes y_steps y_op y_first y_second y_offset y_given y_length y_there y_known y_lo y_hi y_at y_lookups y_safe y_met y_tag y_word y_packet y_keys y_values y_many := by
  have v2 : vp_in (nI B + nI d) 168 := by rw [nI_add]; exact vp_in_nI hd (by decide)
  have c2 : (nI B + nI d).toNatClampNeg = B + d := by rw [nI_add, nI_clamp (by omega)]
  refine br_t rfl (br_t k1 (br_t h0 (br_f (by rw [xb_le3 (by omega)]; omega) ⟨v2, ?_⟩)))
  rw [c2, nI_1]
  exact H
theorem yv_j182P {post : SY → Prop} {a g d f B : Nat} (hd : B + d < 168) (h3 : 3 ≤ f) (h4 : f ≤ 4) (k : y_otherKind = 3) (H : wpY_bounds post (y_place, y_least, y_most, y_smallest, y_greatest, y_ways, y_fault, nI B, y_otherKind, y_otherLo, y_otherHi, y_low, y_high, y_bytes, y_steps, y_op, y_first, y_second, y_offset, y_given, y_length, y_there, y_known, y_lo, y_hi, y_at, y_lookups, y_safe, y_met, y_tag, y_word, y_packet, y_keys, y_values, y_many) (y_lo (B + d) + 1) (if f = 3 then 1 else 0) (nI g) (nI (a + 1))) : wY_jump_182 post (nI a) (nI g) (nI d) 2 (nI f) y_place y_least y_most y_smallest y_greatest y_ways y_fault (nI B) y_otherKind y_otherLo y_otherHi y_low y_high y_bytes y_steps y_op y_first y_second y_offset y_given y_length y_there y_known y_lo y_hi y_at y_lookups y_safe y_met y_tag y_word y_packet y_keys y_values y_many := by
  have v2 : vp_in (nI B + nI d) 168 := by rw [nI_add]; exact vp_in_nI hd (by decide)
  have c2 : (nI B + nI d).toNatClampNeg = B + d := by rw [nI_add, nI_clamp (by omega)]
  refine br_f (by decide) (br_f (by rw [xb_ge2 (by omega)]; omega) (br_t rfl (br_t k ⟨v2, ?_⟩)))
  rw [c2]
  by_cases z : f = 3
  · rw [if_pos z] at H
    refine br_t (by rw [z]; rfl) ?_
    unfold wY_jump_285
    rw [nI_1]; exact H
  · rw [if_neg z] at H
    refine br_f (by rw [xb_eq3 (by omega)]; exact z) ?_
    unfold wY_jump_285
    rw [nI_1]; exact H
theorem yv_j182E {post : SY → Prop} {a g d f : Nat} (h3 : 3 ≤ f) (h4 : f ≤ 4) (k : y_otherKind = 2) (H : wpY_bounds post (y_place, y_least, y_most, y_smallest, y_greatest, y_ways, y_fault, y_base, y_otherKind, y_otherLo, y_otherHi, y_low, y_high, y_bytes, y_steps, y_op, y_first, y_second, y_offset, y_given, y_length, y_there, y_known, y_lo, y_hi, y_at, y_lookups, y_safe, y_met, y_tag, y_word, y_packet, y_keys, y_values, y_many) y_otherLo (if f = 4 then 1 else 0) (nI g) (nI (a + 1))) : wY_jump_182 post (nI a) (nI g) (nI d) 3 (nI f) y_place y_least y_most y_smallest y_greatest y_ways y_fault y_base y_otherKind y_otherLo y_otherHi y_low y_high y_bytes y_steps y_op y_first y_second y_offset y_given y_length y_there y_known y_lo y_hi y_at y_lookups y_safe y_met y_tag y_word y_packet y_keys y_values y_many := by
  refine br_f (by decide) (br_f (by rw [xb_ge2 (by omega)]; omega) (br_f (by decide) (br_f (by rw [xb_ge2 (by omega)]; omega) (br_t rfl (br_t k ?_)))))
  by_cases z : f = 4
  · rw [if_pos z] at H
    refine br_t (by rw [z]; rfl) ?_
    unfold wY_jump_332
    rw [nI_1]; exact H
  · rw [if_neg z] at H
    refine br_f (by rw [xb_eq4 (by omega)]; exact z) ?_
    unfold wY_jump_332
    rw [nI_1]; exact H
/-- instruction: where it goes -/
theorem yv_inA {post : SY → Prop} {i : Nat} {a o : Int32} (hi : i < 120) (eo : y_op i = o) (h : o < 20) (n60 : ¬ o = 60) (h50 : o < 50) (h40 : o < 40) (H : wpY_arithmetic (fun u => match u with | (y_place, y_least, y_most, y_smallest, y_greatest, y_ways, y_fault, y_base, y_otherKind, y_otherLo, y_otherHi, y_low, y_high, y_bytes, y_steps, y_op, y_first, y_second, y_offset, y_given, y_length, y_there, y_known, y_lo, y_hi, y_at, y_lookups, y_safe, y_met, y_tag, y_word, y_packet, y_keys, y_values, y_many) => wY_instruction_78 post y_place y_least y_most y_smallest y_greatest y_ways y_fault y_base y_otherKind y_otherLo y_otherHi y_low y_high y_bytes y_steps y_op y_first y_second y_offset y_given y_length y_there y_known y_lo y_hi y_at y_lookups y_safe y_met y_tag y_word y_packet y_keys y_values y_many) (y_place, y_least, y_most, y_smallest, y_greatest, y_ways, y_fault, y_base, y_otherKind, y_otherLo, y_otherHi, y_low, y_high, y_bytes, y_steps, y_op, y_first, y_second, y_offset, y_given, y_length, y_there, y_known, y_lo, y_hi, y_at, y_lookups, y_safe, y_met, y_tag, y_word, y_packet, y_keys, y_values, y_many) (nI i) a o) : wpY_instruction post (y_place, y_least, y_most, y_smallest, y_greatest, y_ways, y_fault, y_base, y_otherKind, y_otherLo, y_otherHi, y_low, y_high, y_bytes, y_steps, y_op, y_first, y_second, y_offset, y_given, y_length, y_there, y_known, y_lo, y_hi, y_at, y_lookups, y_safe, y_met, y_tag, y_word, y_packet, y_keys, y_values, y_many) (nI i) a := by
  refine ⟨vp_in_nI hi (by decide), nm_r (e' := o) (by rw [nI_clamp (by omega)]; exact eo) (br_t h (br_f n60 (br_t h50 (br_t h40 H))))⟩
theorem yv_inJ {post : SY → Prop} {i : Nat} {a o : Int32} (hi : i < 120) (eo : y_op i = o) (h : ¬ o < 20) (h40 : ¬ 40 ≤ o) (H : wpY_jump post (y_place, y_least, y_most, y_smallest, y_greatest, y_ways, y_fault, y_base, y_otherKind, y_otherLo, y_otherHi, y_low, y_high, y_bytes, y_steps, y_op, y_first, y_second, y_offset, y_given, y_length, y_there, y_known, y_lo, y_hi, y_at, y_lookups, y_safe, y_met, y_tag, y_word, y_packet, y_keys, y_values, y_many) (nI i) a o) : wpY_instruction post (y_place, y_least, y_most, y_smallest, y_greatest, y_ways, y_fault, y_base, y_otherKind, y_otherLo, y_otherHi, y_low, y_high, y_bytes, y_steps, y_op, y_first, y_second, y_offset, y_given, y_length, y_there, y_known, y_lo, y_hi, y_at, y_lookups, y_safe, y_met, y_tag, y_word, y_packet, y_keys, y_values, y_many) (nI i) a := by
  refine ⟨vp_in_nI hi (by decide), nm_r (e' := o) (by rw [nI_clamp (by omega)]; exact eo) (br_f h (br_f h40 H))⟩
theorem yv_inM {post : SY → Prop} {i : Nat} {a o : Int32} (hi : i < 120) (eo : y_op i = o) (h : ¬ o < 20) (h40 : 40 ≤ o) (n60 : ¬ o = 60) (h50 : o < 50) (n40 : ¬ o < 40) (H : wpY_memory (fun u => match u with | (y_place, y_least, y_most, y_smallest, y_greatest, y_ways, y_fault, y_base, y_otherKind, y_otherLo, y_otherHi, y_low, y_high, y_bytes, y_steps, y_op, y_first, y_second, y_offset, y_given, y_length, y_there, y_known, y_lo, y_hi, y_at, y_lookups, y_safe, y_met, y_tag, y_word, y_packet, y_keys, y_values, y_many) => wY_instruction_78 post y_place y_least y_most y_smallest y_greatest y_ways y_fault y_base y_otherKind y_otherLo y_otherHi y_low y_high y_bytes y_steps y_op y_first y_second y_offset y_given y_length y_there y_known y_lo y_hi y_at y_lookups y_safe y_met y_tag y_word y_packet y_keys y_values y_many) (y_place, y_least, y_most, y_smallest, y_greatest, y_ways, y_fault, y_base, y_otherKind, y_otherLo, y_otherHi, y_low, y_high, y_bytes, y_steps, y_op, y_first, y_second, y_offset, y_given, y_length, y_there, y_known, y_lo, y_hi, y_at, y_lookups, y_safe, y_met, y_tag, y_word, y_packet, y_keys, y_values, y_many) (nI i) a o) : wpY_instruction post (y_place, y_least, y_most, y_smallest, y_greatest, y_ways, y_fault, y_base, y_otherKind, y_otherLo, y_otherHi, y_low, y_high, y_bytes, y_steps, y_op, y_first, y_second, y_offset, y_given, y_length, y_there, y_known, y_lo, y_hi, y_at, y_lookups, y_safe, y_met, y_tag, y_word, y_packet, y_keys, y_values, y_many) (nI i) a := by
  refine ⟨vp_in_nI hi (by decide), nm_r (e' := o) (by rw [nI_clamp (by omega)]; exact eo) (br_f h (br_t h40 (br_f n60 (br_t h50 (br_f n40 H)))))⟩
theorem yv_inL {post : SY → Prop} {i : Nat} {a o : Int32} (hi : i < 120) (eo : y_op i = o) (h : ¬ o < 20) (h40 : 40 ≤ o) (n60 : ¬ o = 60) (h50 : ¬ o < 50) (H : wpY_lookup (fun u => match u with | (y_place, y_least, y_most, y_smallest, y_greatest, y_ways, y_fault, y_base, y_otherKind, y_otherLo, y_otherHi, y_low, y_high, y_bytes, y_steps, y_op, y_first, y_second, y_offset, y_given, y_length, y_there, y_known, y_lo, y_hi, y_at, y_lookups, y_safe, y_met, y_tag, y_word, y_packet, y_keys, y_values, y_many) => wY_instruction_78 post y_place y_least y_most y_smallest y_greatest y_ways y_fault y_base y_otherKind y_otherLo y_otherHi y_low y_high y_bytes y_steps y_op y_first y_second y_offset y_given y_length y_there y_known y_lo y_hi y_at y_lookups y_safe y_met y_tag y_word y_packet y_keys y_values y_many) (y_place, y_least, y_most, y_smallest, y_greatest, y_ways, y_fault, y_base, y_otherKind, y_otherLo, y_otherHi, y_low, y_high, y_bytes, y_steps, y_op, y_first, y_second, y_offset, y_given, y_length, y_there, y_known, y_lo, y_hi, y_at, y_lookups, y_safe, y_met, y_tag, y_word, y_packet, y_keys, y_values, y_many) (nI i) a o) : wpY_instruction post (y_place, y_least, y_most, y_smallest, y_greatest, y_ways, y_fault, y_base, y_otherKind, y_otherLo, y_otherHi, y_low, y_high, y_bytes, y_steps, y_op, y_first, y_second, y_offset, y_given, y_length, y_there, y_known, y_lo, y_hi, y_at, y_lookups, y_safe, y_met, y_tag, y_word, y_packet, y_keys, y_values, y_many) (nI i) a := by
  refine ⟨vp_in_nI hi (by decide), nm_r (e' := o) (by rw [nI_clamp (by omega)]; exact eo) (br_f h (br_t h40 (br_f n60 (br_f h50 H))))⟩
theorem yv_inE {post : SY → Prop} {i : Nat} {a : Int32} (hi : i < 120) (eo : y_op i = 60) (H : wpY_exit post (y_place, y_least, y_most, y_smallest, y_greatest, y_ways, y_fault, y_base, y_otherKind, y_otherLo, y_otherHi, y_low, y_high, y_bytes, y_steps, y_op, y_first, y_second, y_offset, y_given, y_length, y_there, y_known, y_lo, y_hi, y_at, y_lookups, y_safe, y_met, y_tag, y_word, y_packet, y_keys, y_values, y_many) a) : wpY_instruction post (y_place, y_least, y_most, y_smallest, y_greatest, y_ways, y_fault, y_base, y_otherKind, y_otherLo, y_otherHi, y_low, y_high, y_bytes, y_steps, y_op, y_first, y_second, y_offset, y_given, y_length, y_there, y_known, y_lo, y_hi, y_at, y_lookups, y_safe, y_met, y_tag, y_word, y_packet, y_keys, y_values, y_many) (nI i) a := by
  refine ⟨vp_in_nI hi (by decide), nm_r (e' := 60) (by rw [nI_clamp (by omega)]; exact eo) (br_f (by decide) (br_t (by decide) (br_t rfl H)))⟩
end
end
section
/-- X's slot of Y's slot r -/
def g_ (r : Nat) : Nat := if r < 8 then r else r + 2
theorem g_lo {r : Nat} (h : r < 8) : g_ r = r := by unfold g_; rw [if_pos h]
theorem g_hi (c : Nat) : g_ (8 + c) = 10 + c := by unfold g_; rw [if_neg (by omega)]; omega
theorem g_16 {r : Nat} (h : r < 14) : g_ r < 16 := by unfold g_; split <;> omega
theorem g_8 (r : Nat) : ¬ g_ r = 8 := by unfold g_; split <;> omega
theorem g_9 (r : Nat) : ¬ g_ r = 9 := by unfold g_; split <;> omega
theorem g_inj {r t : Nat} (h : g_ r = g_ t) : r = t := by unfold g_ at h; split at h <;> split at h <;> omega
/-- what Y knows of a slot, against what X knows -/
def T_ (k : Int32) (l h : Int64) (k' : Int32) (l' h' : Int64) (m : Int32) : Prop := k' = k ∧ (k = 1 ∨ k = 2 → l' = l ∧ h' = h) ∧ (k = 4 ∨ k = 5 → l' = l) ∧ (k = 6 → l' = m.toInt64)
def Fr_ (K : Nat → Int32) (L H : Nat → Int64) (kn : Nat → Int32) (lo hi : Nat → Int64) (B : Nat) (m : Int32) : Prop := ∀ r, r < 14 → T_ (K (g_ r)) (L (g_ r)) (H (g_ r)) (kn (B + r)) (lo (B + r)) (hi (B + r)) m
def WF_ (K : Nat → Int32) (L H : Nat → Int64) (S : Int64) : Prop := (∀ j, j < 16 → wf1_ (K j) (L j) (H j)) ∧ K 8 = 4 ∧ L 8 = 0 ∧ (∀ j, 16 ≤ j → K j = 0 ∧ L j = 0 ∧ H j = 0) ∧ ∃ sn : Nat, sn ≤ 256 ∧ S = lN sn
theorem T_k {k k' m : Int32} {l h l' h' : Int64} (t : T_ k l h k' l' h' m) : k' = k := t.1
theorem T_1 {l h : Int64} {m : Int32} : T_ 1 l h 1 l h m := ⟨rfl, fun _ => ⟨rfl, rfl⟩, fun z => absurd z (by decide), fun z => absurd z (by decide)⟩
theorem T_2 {l h : Int64} {m : Int32} : T_ 2 l h 2 l h m := ⟨rfl, fun _ => ⟨rfl, rfl⟩, fun z => absurd z (by decide), fun z => absurd z (by decide)⟩
theorem T_0 {l h l' h' : Int64} {m : Int32} : T_ 0 l h 0 l' h' m := ⟨rfl, fun z => absurd z (by decide), fun z => absurd z (by decide), fun z => absurd z (by decide)⟩
theorem T_45 {k : Int32} {l h h' : Int64} {m : Int32} (e : k = 4 ∨ k = 5) : T_ k l h k l h' m := by
  refine ⟨rfl, fun z => ?_, fun _ => rfl, fun z => ?_⟩
  · rcases e with rfl | rfl <;> exact absurd z (by decide)
  · rcases e with rfl | rfl <;> exact absurd z (by decide)
theorem T_6 {l h h' : Int64} {m : Int32} : T_ 6 l h 6 m.toInt64 h' m := ⟨rfl, fun z => absurd z (by decide), fun z => absurd z (by decide), fun _ => rfl⟩
theorem wf_0 {l h : Int64} : wf1_ 0 l h := ⟨Or.inl rfl, fun z => absurd z (by decide), fun z => absurd z (by decide), fun z => absurd z (by decide)⟩
theorem wf_1 {l h : Int64} (e : iv_ l h (2 ^ 32)) : wf1_ 1 l h := ⟨Or.inr (Or.inl rfl), fun _ => e, fun z => absurd z (by decide), fun z => absurd z (by decide)⟩
theorem wf_2 {l h : Int64} (e : iv_ l h 256) : wf1_ 2 l h := ⟨by unfold k7_; simp, fun z => absurd z (by decide), fun _ => e, fun z => absurd z (by decide)⟩
theorem wf_45 {k : Int32} {l h : Int64} (e : k = 4 ∨ k = 5) : wf1_ k l h := by
  refine ⟨by unfold k7_; rcases e with rfl | rfl <;> simp, fun z => ?_, fun z => ?_, fun z => ?_⟩ <;> rcases e with rfl | rfl <;> exact absurd z (by decide)
theorem wf_6 : wf1_ 6 0 0 := ⟨by unfold k7_; simp, fun z => absurd z (by decide), fun z => absurd z (by decide), fun _ => ⟨rfl, rfl⟩⟩
theorem Fr_upd {K : Nat → Int32} {L H : Nat → Int64} {kn : Nat → Int32} {lo hi : Nat → Int64} {B r : Nat} {m k k' : Int32} {l h l' h' : Int64} (F : Fr_ K L H kn lo hi B m) (t : T_ k l h k' l' h' m) : Fr_ (upd K (g_ r) k) (vp_updL L (g_ r) l) (vp_updL H (g_ r) h) (upd kn (B + r) k') (vp_updL lo (B + r) l') (vp_updL hi (B + r) h') B m := by
  intro j hj
  by_cases e : j = r
  · subst e
    rw [pk_us, pk_us, pk_uLs, pk_uLs, pk_uLs, pk_uLs]; exact t
  · have n1 : ¬ g_ j = g_ r := fun z => e (g_inj z)
    have n2 : ¬ B + j = B + r := by omega
    rw [pk_un n1, pk_un n2, pk_uLn n1, pk_uLn n1, pk_uLn n2, pk_uLn n2]; exact F j hj
theorem Fr_9 {K : Nat → Int32} {L H : Nat → Int64} {kn : Nat → Int32} {lo hi : Nat → Int64} {B : Nat} {m k : Int32} {l h : Int64} (F : Fr_ K L H kn lo hi B m) : Fr_ (upd K 9 k) (vp_updL L 9 l) (vp_updL H 9 h) kn lo hi B m := by
  intro j hj
  rw [pk_un (g_9 j), pk_uLn (g_9 j), pk_uLn (g_9 j)]; exact F j hj
theorem WF_upd {K : Nat → Int32} {L H : Nat → Int64} {S : Int64} {j : Nat} {k : Int32} {l h : Int64} (W : WF_ K L H S) (hj : j < 16) (h8 : ¬ j = 8) (w : wf1_ k l h) : WF_ (upd K j k) (vp_updL L j l) (vp_updL H j h) S := by
  obtain ⟨a, b, c, d, e⟩ := W
  refine ⟨fun i hi => ?_, by rw [pk_un (fun z => h8 z.symm)]; exact b, by rw [pk_uLn (fun z => h8 z.symm)]; exact c, fun i hi => ?_, e⟩
  · by_cases q : i = j
    · subst q; rw [pk_us, pk_uLs, pk_uLs]; exact w
    · rw [pk_un q, pk_uLn q, pk_uLn q]; exact a i hi
  · rw [pk_un (by omega), pk_uLn (by omega), pk_uLn (by omega)]; exact d i hi
theorem iv_w (x : Int32) : iv_ (x.toInt64 &&& 4294967295) (x.toInt64 &&& 4294967295) (2 ^ 32) := by
  obtain ⟨m, hm, e⟩ := pf_andw x.toInt64
  rw [e]; exact ⟨m, m, Nat.le_refl _, hm, rfl, rfl⟩
theorem WF_k9 {K : Nat → Int32} {L H : Nat → Int64} {S : Int64} {o x : Int32} (W : WF_ K L H S) : WF_ (k9_ o K) (l9_ o (x.toInt64 &&& 4294967295) L) (l9_ o (x.toInt64 &&& 4294967295) H) S := by
  by_cases r : rg_ o
  · rw [k9_t r, l9_t r, l9_t r]; exact W
  · rw [k9_f r, l9_f r, l9_f r]; exact WF_upd W (by decide) (by decide) (wf_1 (iv_w x))
theorem Fr_k9 {K : Nat → Int32} {L H : Nat → Int64} {kn : Nat → Int32} {lo hi : Nat → Int64} {B : Nat} {m o : Int32} {w : Int64} (F : Fr_ K L H kn lo hi B m) : Fr_ (k9_ o K) (l9_ o w L) (l9_ o w H) kn lo hi B m := by
  by_cases r : rg_ o
  · rw [k9_t r, l9_t r, l9_t r]; exact F
  · rw [k9_f r, l9_f r, l9_f r]; exact Fr_9 F
def nine_ (o : Int32) (w : Int64) (K : Nat → Int32) (L H : Nat → Int64) : Prop := ¬ rg_ o → K 9 = 1 ∧ L 9 = w ∧ H 9 = w
theorem nine_k9 {o : Int32} {w : Int64} {K : Nat → Int32} {L H : Nat → Int64} : nine_ o w (k9_ o K) (l9_ o w L) (l9_ o w H) := by
  intro r
  rw [k9_f r, l9_f r, l9_f r, pk_us, pk_uLs, pk_uLs]
  exact ⟨rfl, rfl, rfl⟩
theorem q9_16 {o : Int32} {s : Nat} (h : s < 9) : q9_ o s < 16 := by unfold q9_; split <;> omega
section
variable {y_place : Int32} {y_least : Int64} {y_most : Int64} {y_smallest : Int64} {y_greatest : Int64} {y_ways : Int32} {y_fault : Int32} {y_base : Int32} {y_otherKind : Int32} {y_otherLo : Int64} {y_otherHi : Int64} {y_low : Int64} {y_high : Int64} {y_bytes : Int32} {y_steps : Int32} {y_op : Nat → Int32} {y_first : Nat → Int32} {y_second : Nat → Int32} {y_offset : Nat → Int32} {y_given : Nat → Int32} {y_length : Nat → Int32} {y_there : Nat → Int32} {y_known : Nat → Int32} {y_lo : Nat → Int64} {y_hi : Nat → Int64} {y_at : Nat → Int32} {y_lookups : Nat → Int32} {y_safe : Nat → Int32} {y_met : Nat → Int32} {y_tag : Nat → Int32} {y_word : Nat → Int64} {y_packet : Nat → Int32} {y_keys : Nat → Int64} {y_values : Nat → Int64} {y_many : Nat → Int32}
-- Y's second operand against X's second slot
theorem yo_ex {K : Nat → Int32} {L H : Nat → Int64} {B i s : Nat} {m o r imm : Int32} (hi : i < 120) (hB : B + 14 ≤ 168) (hs : s < 9) (es : y_second i = nI s) (eg : y_given i = imm) (F : Fr_ K L H y_known y_lo y_hi B m) (k8 : K 8 = 4) (l8 : L 8 = 0) (n9 : nine_ o (imm.toInt64 &&& 4294967295) K L H) (hr : (rg_ o ∧ r = 1) ∨ (¬ rg_ o ∧ r = 0)) : ∃ k2 l2 h2, T_ (K (q9_ o s)) (L (q9_ o s)) (H (q9_ o s)) k2 l2 h2 m ∧ ∀ post : SY → Prop, post (y_place, y_least, y_most, y_smallest, y_greatest, y_ways, y_fault, nI B, k2, l2, h2, y_low, y_high, y_bytes, y_steps, y_op, y_first, y_second, y_offset, y_given, y_length, y_there, y_known, y_lo, y_hi, y_at, y_lookups, y_safe, y_met, y_tag, y_word, y_packet, y_keys, y_values, y_many) → wpY_other post (y_place, y_least, y_most, y_smallest, y_greatest, y_ways, y_fault, nI B, y_otherKind, y_otherLo, y_otherHi, y_low, y_high, y_bytes, y_steps, y_op, y_first, y_second, y_offset, y_given, y_length, y_there, y_known, y_lo, y_hi, y_at, y_lookups, y_safe, y_met, y_tag, y_word, y_packet, y_keys, y_values, y_many) (nI i) r := by
  rcases hr with ⟨q, rfl⟩ | ⟨q, rfl⟩
  · rw [q9_t q]
    by_cases z : s = 8
    · subst z
      refine ⟨4, 0, 0, ?_, fun post P => yv_otherF hi es P⟩
      rw [k8, l8]; exact T_45 (Or.inl rfl)
    · have t := F s (by omega)
      rw [g_lo (by omega)] at t
      exact ⟨_, _, _, t, fun post P => yv_otherR hi (by omega) z es P⟩
  · obtain ⟨a, b, c⟩ := n9 q
    rw [q9_f q, a, b, c, ← eg]
    exact ⟨1, _, _, T_1, fun post P => yv_otherI hi es P⟩
end
end
section
def YP_ (o : Int32) (d s : Nat) (off imm : Int32) (K : Nat → Int32) (L H : Nat → Int64) (S : Int64) (e : Int32) (K' : Nat → Int32) (L' H' : Nat → Int64) : Prop := ∀ (y_place : Int32) (y_least : Int64) (y_most : Int64) (y_smallest : Int64) (y_greatest : Int64) (y_ways : Int32) (y_fault : Int32) (y_base : Int32) (y_otherKind : Int32) (y_otherLo : Int64) (y_otherHi : Int64) (y_low : Int64) (y_high : Int64) (y_bytes : Int32) (y_steps : Int32) (y_op : Nat → Int32) (y_first : Nat → Int32) (y_second : Nat → Int32) (y_offset : Nat → Int32) (y_given : Nat → Int32) (y_length : Nat → Int32) (y_there : Nat → Int32) (y_known : Nat → Int32) (y_lo : Nat → Int64) (y_hi : Nat → Int64) (y_at : Nat → Int32) (y_lookups : Nat → Int32) (y_safe : Nat → Int32) (y_met : Nat → Int32) (y_tag : Nat → Int32) (y_word : Nat → Int64) (y_packet : Nat → Int32) (y_keys : Nat → Int64) (y_values : Nat → Int64) (y_many : Nat → Int32) (i a w : Nat) (post : SY → Prop), i < 120 → a < 40 → w < 12 → y_op i = o → y_first i = nI d → y_second i = nI s → y_offset i = off → y_given i = imm → y_at w = nI a → Fr_ K L H y_known y_lo y_hi (14 * w) (y_lookups w) → (y_safe w).toInt64 = S → vp_nar .byte (y_lookups w) = y_lookups w → (¬ e = 0 → ∀ (e1 : Int32) (e2 e3 e4 e5 : Int64) (e6 : Nat → Int32) (e7 e8 : Nat → Int64) (e9 e10 : Nat → Int32), post (nI a, y_least, y_most, y_smallest, y_greatest, nI (w + 1), e, nI (14 * w), e1, e2, e3, e4, e5, y_bytes, y_steps, y_op, y_first, y_second, y_offset, y_given, y_length, y_there, e6, e7, e8, e9, e10, y_safe, y_met, y_tag, y_word, y_packet, y_keys, y_values, y_many)) → (e = 0 → ∀ (e1 : Int32) (e2 e3 e4 e5 : Int64) (kn : Nat → Int32) (lo hi : Nat → Int64) (lk : Nat → Int32), Fr_ K' L' H' kn lo hi (14 * w) (lk w) → (∀ j, j < 14 * w → kn j = y_known j ∧ lo j = y_lo j ∧ hi j = y_hi j) → (∀ j, j < w → lk j = y_lookups j) → vp_nar .byte (lk w) = lk w → post (y_place, y_least, y_most, y_smallest, y_greatest, nI (w + 1), y_fault, nI (14 * w), e1, e2, e3, e4, e5, y_bytes, y_steps, y_op, y_first, y_second, y_offset, y_given, y_length, y_there, kn, lo, hi, upd y_at w (nI (a + 1)), lk, y_safe, y_met, y_tag, y_word, y_packet, y_keys, y_values, y_many)) → wpY_instruction post (y_place, y_least, y_most, y_smallest, y_greatest, nI (w + 1), y_fault, nI (14 * w), y_otherKind, y_otherLo, y_otherHi, y_low, y_high, y_bytes, y_steps, y_op, y_first, y_second, y_offset, y_given, y_length, y_there, y_known, y_lo, y_hi, y_at, y_lookups, y_safe, y_met, y_tag, y_word, y_packet, y_keys, y_values, y_many) (nI i) (nI a)
def oa_ (o : Int32) (f : Nat) : Prop := f ≤ 6 ∧ (o = nI f ∨ o = nI (10 + f))
theorem oa_f {o : Int32} {f : Nat} (h : oa_ o f) : o < 20 ∧ ¬ o = 60 ∧ o < 50 ∧ o < 40 ∧ o - o / 10 * 10 = nI f ∧ ((rg_ o ∧ ¬ o < 10 ∧ o / 10 = 1) ∨ (¬ rg_ o ∧ o < 10 ∧ o / 10 = 0)) := by
  obtain ⟨h6, h⟩ := h
  have e : f = 0 ∨ f = 1 ∨ f = 2 ∨ f = 3 ∨ f = 4 ∨ f = 5 ∨ f = 6 := by omega
  unfold rg_
  rcases e with rfl | rfl | rfl | rfl | rfl | rfl | rfl <;> rcases h with rfl | rfl <;> decide
theorem oa_r {o : Int32} {f : Nat} (h : oa_ o f) : ∃ r : Int32, (r = if o < 10 then 0 else 1) ∧ ((rg_ o ∧ r = 1) ∨ (¬ rg_ o ∧ r = 0)) := by
  obtain ⟨-, -, -, -, -, ⟨a, b, -⟩ | ⟨a, b, -⟩⟩ := oa_f h
  · exact ⟨1, by rw [if_neg b], Or.inl ⟨a, rfl⟩⟩
  · exact ⟨0, by rw [if_pos b], Or.inr ⟨a, rfl⟩⟩
section
variable {o off imm : Int32} {d s f : Nat} {K : Nat → Int32} {L H : Nat → Int64} {S : Int64}
theorem yp_aU {K' : Nat → Int32} {L' H' : Nat → Int64} (ho : oa_ o f) (hd : d < 8) (hs : s < 9) (W : WF_ K L H S) (n9 : nine_ o (imm.toInt64 &&& 4294967295) K L H) (u : (¬ f = 0 ∧ K d = 0) ∨ K (q9_ o s) = 0) : YP_ o d s off imm K L H S 2 K' L' H' := by
  intro y_place y_least y_most y_smallest y_greatest y_ways y_fault y_base y_otherKind y_otherLo y_otherHi y_low y_high y_bytes y_steps y_op y_first y_second y_offset y_given y_length y_there y_known y_lo y_hi y_at y_lookups y_safe y_met y_tag y_word y_packet y_keys y_values y_many i a w post hi ha hw eo e1 e2 eof eg eat F eS hl hE hO
  obtain ⟨f1, f2, f3, f4, f5, -⟩ := oa_f ho
  obtain ⟨r, er, hr⟩ := oa_r ho
  refine yv_inA hi eo f1 f2 f3 f4 ?_
  refine yv_arU hi (by omega) (by omega) ho.1 f5 er e1 e2 ?_ ?_
  · rcases u with u | u
    · refine Or.inl ⟨u.1, by omega, ?_⟩
      have t := F d (by omega)
      rw [g_lo hd] at t
      rw [t.1]; exact u.2
    · right
      rcases hr with ⟨q, rfl⟩ | ⟨q, rfl⟩
      · rw [q9_t q] at u
        have s8 : ¬ s = 8 := by intro z; rw [z, W.2.1] at u; exact absurd u (by decide)
        have t := F s (by omega)
        rw [g_lo (by omega)] at t
        exact ⟨by decide, s8, by rw [t.1]; exact u⟩
      · rw [q9_f q, (n9 q).1] at u; exact absurd u (by decide)
  · exact yv_78 hw (by omega) eat (hE (by decide) _ _ _ _ _ _ _ _ _ _)
/-- the way into wY_arithmetic_66 -/
theorem yp_m {y_known : Nat → Int32} {y_lo y_hi : Nat → Int64} {B : Nat} {m r : Int32} (hd : d < 8) (hs : s < 9) (W : WF_ K L H S) (F : Fr_ K L H y_known y_lo y_hi B m) (hr : (rg_ o ∧ r = 1) ∨ (¬ rg_ o ∧ r = 0)) (u1 : f = 0 ∨ ¬ K d = 0) (u2 : ¬ K (q9_ o s) = 0) : (f = 0 ∨ d = 8 ∨ ¬ y_known (B + d) = 0) ∧ (r = 0 ∨ s = 8 ∨ ¬ y_known (B + s) = 0) := by
  constructor
  · rcases u1 with u | u
    · exact Or.inl u
    · refine Or.inr (Or.inr ?_)
      have t := F d (by omega)
      rw [g_lo hd] at t
      rw [t.1]; exact u
  · rcases hr with ⟨q, rfl⟩ | ⟨q, rfl⟩
    · rw [q9_t q] at u2
      by_cases z : s = 8
      · exact Or.inr (Or.inl z)
      · refine Or.inr (Or.inr ?_)
        have t := F s (by omega)
        rw [g_lo (by omega)] at t
        rw [t.1]; exact u2
    · exact Or.inl rfl
theorem yp_a0 (ho : oa_ o 0) (hd : d < 8) (hs : s < 9) (W : WF_ K L H S) (n9 : nine_ o (imm.toInt64 &&& 4294967295) K L H) (u : ¬ K (q9_ o s) = 0) : YP_ o d s off imm K L H S 0 (upd K d (K (q9_ o s))) (vp_updL L d (L (q9_ o s))) (vp_updL H d (H (q9_ o s))) := by
  intro y_place y_least y_most y_smallest y_greatest y_ways y_fault y_base y_otherKind y_otherLo y_otherHi y_low y_high y_bytes y_steps y_op y_first y_second y_offset y_given y_length y_there y_known y_lo y_hi y_at y_lookups y_safe y_met y_tag y_word y_packet y_keys y_values y_many i a w post hi ha hw eo e1 e2 eof eg eat F eS hl hE hO
  obtain ⟨f1, f2, f3, f4, f5, -⟩ := oa_f ho
  obtain ⟨r, er, hr⟩ := oa_r ho
  obtain ⟨k2, l2, h2, t2, OP⟩ := yo_ex (B := 14 * w) hi (by omega) hs e2 eg F W.2.1 W.2.2.1 n9 hr
  obtain ⟨m1, m2⟩ := yp_m (f := 0) hd hs W F hr (Or.inl rfl) u
  refine yv_inA hi eo f1 f2 f3 f4 ?_
  refine yv_arG hi (by omega) (by omega) ho.1 f5 er e1 e2 m1 m2 ?_
  refine yv_a0 (by omega) ?_ OP ?_
  · rw [t2.1]; exact (W.1 _ (q9_16 hs)).1
  · refine yv_78 hw (by omega) eat ?_
    have G := Fr_upd (r := d) F t2
    rw [g_lo hd] at G
    exact hO rfl _ _ _ _ _ _ _ _ _ G (fun j hj => ⟨pk_un (by omega), pk_uLn (by omega), pk_uLn (by omega)⟩) (fun _ _ => rfl) hl
theorem yp_aK {K' : Nat → Int32} {L' H' : Nat → Int64} (ho : oa_ o f) (h1 : 1 ≤ f) (hd : d < 8) (hs : s < 9) (W : WF_ K L H S) (n9 : nine_ o (imm.toInt64 &&& 4294967295) K L H) (u : ¬ K d = 0) (u2 : ¬ K (q9_ o s) = 0) (k : ¬ K (q9_ o s) = 1) : YP_ o d s off imm K L H S 3 K' L' H' := by
  intro y_place y_least y_most y_smallest y_greatest y_ways y_fault y_base y_otherKind y_otherLo y_otherHi y_low y_high y_bytes y_steps y_op y_first y_second y_offset y_given y_length y_there y_known y_lo y_hi y_at y_lookups y_safe y_met y_tag y_word y_packet y_keys y_values y_many i a w post hi ha hw eo e1 e2 eof eg eat F eS hl hE hO
  obtain ⟨f1, f2, f3, f4, f5, -⟩ := oa_f ho
  obtain ⟨r, er, hr⟩ := oa_r ho
  obtain ⟨k2, l2, h2, t2, OP⟩ := yo_ex (B := 14 * w) hi (by omega) hs e2 eg F W.2.1 W.2.2.1 n9 hr
  obtain ⟨m1, m2⟩ := yp_m hd hs W F hr (Or.inr u) u2
  refine yv_inA hi eo f1 f2 f3 f4 ?_
  refine yv_arG hi (by omega) (by omega) ho.1 f5 er e1 e2 m1 m2 ?_
  refine yv_aK (by omega) h1 ho.1 (by rw [t2.1]; exact k) OP ?_
  exact yv_78 hw (by omega) eat (hE (by decide) _ _ _ _ _ _ _ _ _ _)
theorem yp_aO {K' : Nat → Int32} {L' H' : Nat → Int64} (ho : oa_ o f) (h1 : 1 ≤ f) (hd : d < 8) (hs : s < 9) (W : WF_ K L H S) (n9 : nine_ o (imm.toInt64 &&& 4294967295) K L H) (u : ¬ K d = 0) (k : K (q9_ o s) = 1) (k1 : ¬ K d = 1) (k2 : ¬ K d = 2) (k4 : ¬ K d = 4) (k5 : ¬ K d = 5) : YP_ o d s off imm K L H S 3 K' L' H' := by
  intro y_place y_least y_most y_smallest y_greatest y_ways y_fault y_base y_otherKind y_otherLo y_otherHi y_low y_high y_bytes y_steps y_op y_first y_second y_offset y_given y_length y_there y_known y_lo y_hi y_at y_lookups y_safe y_met y_tag y_word y_packet y_keys y_values y_many i a w post hi ha hw eo e1 e2 eof eg eat F eS hl hE hO
  obtain ⟨f1, f2, f3, f4, f5, -⟩ := oa_f ho
  obtain ⟨r, er, hr⟩ := oa_r ho
  obtain ⟨c2, l2, h2, t2, OP⟩ := yo_ex (B := 14 * w) hi (by omega) hs e2 eg F W.2.1 W.2.2.1 n9 hr
  obtain ⟨m1, m2⟩ := yp_m hd hs W F hr (Or.inr u) (by rw [k]; decide)
  have td := F d (by omega)
  rw [g_lo hd] at td
  have ek := t2.1.trans k
  subst ek
  refine yv_inA hi eo f1 f2 f3 f4 ?_
  refine yv_arG hi (by omega) (by omega) ho.1 f5 er e1 e2 m1 m2 ?_
  refine yv_aO (by omega) h1 ho.1 (by rw [td.1]; exact k1) (by rw [td.1]; exact k2) (by rw [td.1]; exact k4) (by rw [td.1]; exact k5) OP ?_
  exact yv_78 hw (by omega) eat (hE (by decide) _ _ _ _ _ _ _ _ _ _)
theorem yp_aS (ho : oa_ o f) (h1 : 1 ≤ f) (hd : d < 8) (hs : s < 9) (W : WF_ K L H S) (n9 : nine_ o (imm.toInt64 &&& 4294967295) K L H) (k : K (q9_ o s) = 1) (k1 : K d = 1) {l h : Int64} (el : l = ab_l (cb_l (nI f) (L d) (H d) (L (q9_ o s)) (H (q9_ o s))) (cb_h (nI f) (L d) (H d) (L (q9_ o s)) (H (q9_ o s)))) (eh : h = ab_h (cb_l (nI f) (L d) (H d) (L (q9_ o s)) (H (q9_ o s))) (cb_h (nI f) (L d) (H d) (L (q9_ o s)) (H (q9_ o s)))) : YP_ o d s off imm K L H S 0 K (vp_updL L d l) (vp_updL H d h) := by
  intro y_place y_least y_most y_smallest y_greatest y_ways y_fault y_base y_otherKind y_otherLo y_otherHi y_low y_high y_bytes y_steps y_op y_first y_second y_offset y_given y_length y_there y_known y_lo y_hi y_at y_lookups y_safe y_met y_tag y_word y_packet y_keys y_values y_many i a w post hi ha hw eo e1 e2 eof eg eat F eS hl hE hO
  obtain ⟨f1, f2, f3, f4, f5, -⟩ := oa_f ho
  obtain ⟨r, er, hr⟩ := oa_r ho
  obtain ⟨c2, l2, h2, t2, OP⟩ := yo_ex (B := 14 * w) hi (by omega) hs e2 eg F W.2.1 W.2.2.1 n9 hr
  obtain ⟨m1, m2⟩ := yp_m hd hs W F hr (Or.inr (by rw [k1]; decide)) (by rw [k]; decide)
  have td := F d (by omega)
  rw [g_lo hd] at td
  have ek := t2.1.trans k
  obtain ⟨tl, th⟩ := t2.2.1 (Or.inl k)
  obtain ⟨ul, uh⟩ := td.2.1 (Or.inl k1)
  obtain ⟨p, b, pb, hb, ep, eb⟩ := (W.1 d (by omega)).2.1 k1
  obtain ⟨c, e, ce, he, ec, ee⟩ := (W.1 _ (q9_16 hs)).2.1 k
  subst ek tl th
  rw [ep, eb, ec, ee] at el eh
  rw [ec, ee] at OP
  refine yv_inA hi eo f1 f2 f3 f4 ?_
  refine yv_arG hi (by omega) (by omega) ho.1 f5 er e1 e2 m1 m2 ?_
  refine yv_aS (by omega) h1 ho.1 ?_ pb hb ce he (td.1.trans k1) (ul.trans ep) (uh.trans eb) OP el eh ?_
  · intro r0
    rcases hr with ⟨q, rfl⟩ | ⟨q, -⟩
    · exact absurd r0 (by decide)
    · obtain ⟨a1, a2, a3⟩ := n9 q
      rw [q9_f q] at ec ee
      have : lN c = lN e := by rw [← ec, ← ee, a2, a3]
      exact (pk_lEQ (by omega) (by omega)).mp this
  · refine yv_78 hw (by omega) eat ?_
    have G := Fr_upd (r := d) F (T_1 (l := l) (h := h))
    rw [g_lo hd, xb_updid k1] at G
    exact hO rfl _ _ _ _ _ _ _ _ _ G (fun j hj => ⟨pk_un (by omega), pk_uLn (by omega), pk_uLn (by omega)⟩) (fun _ _ => rfl) hl
theorem pu_le255 {x : Int64} : ¬ 255 < x ↔ x ≤ 255 := Int64.not_lt
theorem yp_aP (ho : oa_ o 1) (hd : d < 8) (hs : s < 9) (W : WF_ K L H S) (n9 : nine_ o (imm.toInt64 &&& 4294967295) K L H) (k : K (q9_ o s) = 1) (k1 : K d = 2) (hh : H d + H (q9_ o s) ≤ 255) : YP_ o d s off imm K L H S 0 (upd K d 2) (vp_updL L d (L d + L (q9_ o s))) (vp_updL H d (H d + H (q9_ o s))) := by
  intro y_place y_least y_most y_smallest y_greatest y_ways y_fault y_base y_otherKind y_otherLo y_otherHi y_low y_high y_bytes y_steps y_op y_first y_second y_offset y_given y_length y_there y_known y_lo y_hi y_at y_lookups y_safe y_met y_tag y_word y_packet y_keys y_values y_many i a w post hi ha hw eo e1 e2 eof eg eat F eS hl hE hO
  obtain ⟨f1, f2, f3, f4, f5, -⟩ := oa_f ho
  obtain ⟨r, er, hr⟩ := oa_r ho
  obtain ⟨c2, l2, h2, t2, OP⟩ := yo_ex (B := 14 * w) hi (by omega) hs e2 eg F W.2.1 W.2.2.1 n9 hr
  obtain ⟨m1, m2⟩ := yp_m (f := 1) hd hs W F hr (Or.inr (by rw [k1]; decide)) (by rw [k]; decide)
  have td := F d (by omega)
  rw [g_lo hd] at td
  have ek := t2.1.trans k
  obtain ⟨tl, th⟩ := t2.2.1 (Or.inl k)
  obtain ⟨ul, uh⟩ := td.2.1 (Or.inr k1)
  subst ek tl th
  refine yv_inA hi eo f1 f2 f3 f4 ?_
  refine yv_arG hi (by omega) (by omega) ho.1 f5 er e1 e2 m1 m2 ?_
  refine yv_aP (by omega) (td.1.trans k1) (by rw [uh, pu_le255]; exact hh) OP ?_
  refine yv_78 hw (by omega) eat ?_
  rw [ul, uh]
  have G := Fr_upd (r := d) F (T_2 (l := L d + L (q9_ o s)) (h := H d + H (q9_ o s)))
  rw [g_lo hd, xb_updid (f := y_known) (td.1.trans k1)] at G
  exact hO rfl _ _ _ _ _ _ _ _ _ G (fun j hj => ⟨rfl, pk_uLn (by omega), pk_uLn (by omega)⟩) (fun _ _ => rfl) hl
theorem yp_aPf {K' : Nat → Int32} {L' H' : Nat → Int64} (ho : oa_ o f) (h1 : 1 ≤ f) (hd : d < 8) (hs : s < 9) (W : WF_ K L H S) (n9 : nine_ o (imm.toInt64 &&& 4294967295) K L H) (k : K (q9_ o s) = 1) (k1 : K d = 2) (hh : ¬ (f = 1 ∧ H d + H (q9_ o s) ≤ 255)) : YP_ o d s off imm K L H S 3 K' L' H' := by
  intro y_place y_least y_most y_smallest y_greatest y_ways y_fault y_base y_otherKind y_otherLo y_otherHi y_low y_high y_bytes y_steps y_op y_first y_second y_offset y_given y_length y_there y_known y_lo y_hi y_at y_lookups y_safe y_met y_tag y_word y_packet y_keys y_values y_many i a w post hi ha hw eo e1 e2 eof eg eat F eS hl hE hO
  obtain ⟨f1, f2, f3, f4, f5, -⟩ := oa_f ho
  obtain ⟨r, er, hr⟩ := oa_r ho
  obtain ⟨c2, l2, h2, t2, OP⟩ := yo_ex (B := 14 * w) hi (by omega) hs e2 eg F W.2.1 W.2.2.1 n9 hr
  obtain ⟨m1, m2⟩ := yp_m hd hs W F hr (Or.inr (by rw [k1]; decide)) (by rw [k]; decide)
  have td := F d (by omega)
  rw [g_lo hd] at td
  have ek := t2.1.trans k
  obtain ⟨tl, th⟩ := t2.2.1 (Or.inl k)
  obtain ⟨ul, uh⟩ := td.2.1 (Or.inr k1)
  subst ek tl th
  refine yv_inA hi eo f1 f2 f3 f4 ?_
  refine yv_arG hi (by omega) (by omega) ho.1 f5 er e1 e2 m1 m2 ?_
  refine yv_aPf (by omega) h1 ho.1 (td.1.trans k1) (by rw [uh, pu_le255]; exact hh) OP ?_
  exact yv_78 hw (by omega) eat (hE (by decide) _ _ _ _ _ _ _ _ _ _)
theorem yp_aC (ho : oa_ o f) (hf : f = 1 ∨ f = 2) (hd : d < 8) (hs : s < 9) (W : WF_ K L H S) (n9 : nine_ o (imm.toInt64 &&& 4294967295) K L H) (k : K (q9_ o s) = 1) (k1 : K d = 4 ∨ K d = 5) (a1 : L (q9_ o s) = H (q9_ o s)) (a2 : L (q9_ o s) ≤ 100) {l : Int64} (el : l = if f = 1 then L d + L (q9_ o s) else L d - L (q9_ o s)) : YP_ o d s off imm K L H S 0 (upd K d (K d)) (vp_updL L d l) (vp_updL H d l) := by
  intro y_place y_least y_most y_smallest y_greatest y_ways y_fault y_base y_otherKind y_otherLo y_otherHi y_low y_high y_bytes y_steps y_op y_first y_second y_offset y_given y_length y_there y_known y_lo y_hi y_at y_lookups y_safe y_met y_tag y_word y_packet y_keys y_values y_many i a w post hi ha hw eo e1 e2 eof eg eat F eS hl hE hO
  obtain ⟨f1, f2, f3, f4, f5, -⟩ := oa_f ho
  obtain ⟨r, er, hr⟩ := oa_r ho
  obtain ⟨c2, l2, h2, t2, OP⟩ := yo_ex (B := 14 * w) hi (by omega) hs e2 eg F W.2.1 W.2.2.1 n9 hr
  obtain ⟨m1, m2⟩ := yp_m hd hs W F hr (Or.inr (by rcases k1 with k1 | k1 <;> rw [k1] <;> decide)) (by rw [k]; decide)
  have td := F d (by omega)
  rw [g_lo hd] at td
  have ek := t2.1.trans k
  obtain ⟨tl, th⟩ := t2.2.1 (Or.inl k)
  have ul := td.2.2.1 k1
  subst ek tl th
  refine yv_inA hi eo f1 f2 f3 f4 ?_
  refine yv_arG hi (by omega) (by omega) ho.1 f5 er e1 e2 m1 m2 ?_
  refine yv_aC (by omega) hf (by rw [td.1]; exact k1) a1 (Int64.not_lt.mpr a2) OP ?_
  refine yv_78 hw (by omega) eat ?_
  rw [ul, ← el]
  have G := Fr_upd (r := d) F (T_45 (l := l) (h := l) (h' := y_hi (14 * w + d)) k1)
  rw [g_lo hd, xb_updid (f := y_known) td.1, xb_updLid (f := y_hi) rfl] at G
  exact hO rfl _ _ _ _ _ _ _ _ _ G (fun j hj => ⟨rfl, pk_uLn (by omega), rfl⟩) (fun _ _ => rfl) hl
theorem yp_aCf {K' : Nat → Int32} {L' H' : Nat → Int64} (ho : oa_ o f) (h1 : 1 ≤ f) (hd : d < 8) (hs : s < 9) (W : WF_ K L H S) (n9 : nine_ o (imm.toInt64 &&& 4294967295) K L H) (k : K (q9_ o s) = 1) (k1 : K d = 4 ∨ K d = 5) (hh : ¬ (L (q9_ o s) = H (q9_ o s) ∧ L (q9_ o s) ≤ 100 ∧ (f = 1 ∨ f = 2))) : YP_ o d s off imm K L H S 3 K' L' H' := by
  intro y_place y_least y_most y_smallest y_greatest y_ways y_fault y_base y_otherKind y_otherLo y_otherHi y_low y_high y_bytes y_steps y_op y_first y_second y_offset y_given y_length y_there y_known y_lo y_hi y_at y_lookups y_safe y_met y_tag y_word y_packet y_keys y_values y_many i a w post hi ha hw eo e1 e2 eof eg eat F eS hl hE hO
  obtain ⟨f1, f2, f3, f4, f5, -⟩ := oa_f ho
  obtain ⟨r, er, hr⟩ := oa_r ho
  obtain ⟨c2, l2, h2, t2, OP⟩ := yo_ex (B := 14 * w) hi (by omega) hs e2 eg F W.2.1 W.2.2.1 n9 hr
  obtain ⟨m1, m2⟩ := yp_m hd hs W F hr (Or.inr (by rcases k1 with k1 | k1 <;> rw [k1] <;> decide)) (by rw [k]; decide)
  have td := F d (by omega)
  rw [g_lo hd] at td
  have ek := t2.1.trans k
  obtain ⟨tl, th⟩ := t2.2.1 (Or.inl k)
  subst ek tl th
  refine yv_inA hi eo f1 f2 f3 f4 ?_
  refine yv_arG hi (by omega) (by omega) ho.1 f5 er e1 e2 m1 m2 ?_
  refine yv_aCf (by omega) h1 ho.1 (by rw [td.1]; exact k1) (by rw [Int64.not_lt]; exact hh) OP ?_
  exact yv_78 hw (by omega) eat (hE (by decide) _ _ _ _ _ _ _ _ _ _)
end
end
section
theorem T_m {k k' m m2 : Int32} {l h l' h' : Int64} (t : T_ k l h k' l' h' m) (n : ¬ k = 6) : T_ k l h k' l' h' m2 := ⟨t.1, t.2.1, t.2.2.1, fun z => absurd z n⟩
section
variable {o off imm : Int32} {d s : Nat} {K : Nat → Int32} {L H : Nat → Int64} {S : Int64}
theorem yp_kp {y_known : Nat → Int32} {y_lo y_hi : Nat → Int64} {B p : Nat} {m : Int32} (hp : p < 9) (W : WF_ K L H S) (F : Fr_ K L H y_known y_lo y_hi B m) : (if p = 8 then 4 else y_known (B + p)) = K p := by
  by_cases z : p = 8
  · rw [if_pos z, z]; exact W.2.1.symm
  · have t := F p (by omega)
    rw [g_lo (by omega)] at t
    rw [if_neg z]; exact t.1
theorem yp_lp {y_known : Nat → Int32} {y_lo y_hi : Nat → Int64} {B p : Nat} {m : Int32} (hp : p < 9) (W : WF_ K L H S) (F : Fr_ K L H y_known y_lo y_hi B m) (k : K p = 2 ∨ K p = 4 ∨ K p = 5) : (if p = 8 then 0 else y_lo (B + p)) = L p := by
  by_cases z : p = 8
  · rw [if_pos z, z]; exact W.2.2.1.symm
  · have t := F p (by omega)
    rw [g_lo (by omega)] at t
    rw [if_neg z]
    rcases k with k | k
    · exact (t.2.1 (Or.inr k)).1
    · exact t.2.2.1 k
theorem yp_un {y_known : Nat → Int32} {y_lo y_hi : Nat → Int64} {B p : Nat} {m : Int32} (hp : p < 9) (W : WF_ K L H S) (F : Fr_ K L H y_known y_lo y_hi B m) : (K p = 0 ↔ (¬ p = 8 ∧ y_known (B + p) = 0)) := by
  constructor
  · intro k
    have n : ¬ p = 8 := by intro z; rw [z, W.2.1] at k; exact absurd k (by decide)
    have t := F p (by omega)
    rw [g_lo (by omega)] at t
    exact ⟨n, t.1.trans k⟩
  · rintro ⟨n, k⟩
    have t := F p (by omega)
    rw [g_lo (by omega)] at t
    exact t.1.symm.trans k
theorem yp_nu {y_known : Nat → Int32} {y_lo y_hi : Nat → Int64} {B p : Nat} {m : Int32} (hp : p < 9) (W : WF_ K L H S) (F : Fr_ K L H y_known y_lo y_hi B m) (k : ¬ K p = 0) : p = 8 ∨ ¬ y_known (B + p) = 0 := by
  by_cases z : p = 8
  · exact Or.inl z
  · exact Or.inr (fun q => k ((yp_un hp W F).mpr ⟨z, q⟩))
theorem om_f (h : o = 40 ∨ o = 41 ∨ o = 42) : ¬ o < 20 ∧ 40 ≤ o ∧ ¬ o = 60 ∧ o < 50 ∧ ¬ o < 40 := by rcases h with rfl | rfl | rfl <;> decide
theorem yp_mU {K' : Nat → Int32} {L' H' : Nat → Int64} {p : Nat} (ho : o = 40 ∨ o = 41 ∨ o = 42) (hd : d < 8) (hs : s < 9) (W : WF_ K L H S) (ep : p = if o = 41 then d else s) (u : K p = 0 ∨ (o = 41 ∧ K s = 0)) : YP_ o d s off imm K L H S 2 K' L' H' := by
  intro y_place y_least y_most y_smallest y_greatest y_ways y_fault y_base y_otherKind y_otherLo y_otherHi y_low y_high y_bytes y_steps y_op y_first y_second y_offset y_given y_length y_there y_known y_lo y_hi y_at y_lookups y_safe y_met y_tag y_word y_packet y_keys y_values y_many i a w post hi ha hw eo e1 e2 eof eg eat F eS hl hE hO
  obtain ⟨f1, f2, f3, f4, f5⟩ := om_f ho
  have hp : p < 9 := by rw [ep]; split <;> omega
  refine yv_inM hi eo f1 f2 f3 f4 f5 ?_
  refine yv_meU hi (by omega) (by omega) e1 e2 ep ?_ (yv_78 hw (by omega) eat (hE (by decide) _ _ _ _ _ _ _ _ _ _))
  rcases u with u | ⟨u1, u2⟩
  · exact Or.inl ((yp_un hp W F).mp u)
  · exact Or.inr ⟨u1, (yp_un hs W F).mp u2⟩
theorem yp_bK {K' : Nat → Int32} {L' H' : Nat → Int64} (hd : d < 8) (hs : s < 9) (W : WF_ K L H S) (u : ¬ K s = 0) (k : ¬ K s = 2) : YP_ 42 d s off imm K L H S 3 K' L' H' := by
  intro y_place y_least y_most y_smallest y_greatest y_ways y_fault y_base y_otherKind y_otherLo y_otherHi y_low y_high y_bytes y_steps y_op y_first y_second y_offset y_given y_length y_there y_known y_lo y_hi y_at y_lookups y_safe y_met y_tag y_word y_packet y_keys y_values y_many i a w post hi ha hw eo e1 e2 eof eg eat F eS hl hE hO
  obtain ⟨f1, f2, f3, f4, f5⟩ := om_f (o := 42) (Or.inr (Or.inr rfl))
  have P := yv_78 (y_fault := 3) (y_place := nI a) hw (by omega) eat (hE (by decide) y_otherKind y_otherLo y_otherHi y_low y_high y_known y_lo y_hi (upd y_at w (nI (a + 1))) y_lookups)
  have kp := yp_kp (p := s) hs W F
  refine yv_inM hi eo f1 f2 f3 f4 f5 ?_
  refine yv_meG (p := s) hi (by omega) (by omega) e1 e2 (by rw [if_neg (by decide)]) (yp_nu hs W F u) (fun z => absurd z (by decide)) rfl rfl (fun _ => yv_mbK (by rw [kp]; exact k) P) (fun _ => yv_mbK (by rw [kp]; exact k) P)
theorem yp_bB {K' : Nat → Int32} {L' H' : Nat → Int64} (hd : d < 8) (hs : s < 9) (W : WF_ K L H S) (k : K s = 2) (b : bb_ (L s) (H s) S off) : YP_ 42 d s off imm K L H S 4 K' L' H' := by
  intro y_place y_least y_most y_smallest y_greatest y_ways y_fault y_base y_otherKind y_otherLo y_otherHi y_low y_high y_bytes y_steps y_op y_first y_second y_offset y_given y_length y_there y_known y_lo y_hi y_at y_lookups y_safe y_met y_tag y_word y_packet y_keys y_values y_many i a w post hi ha hw eo e1 e2 eof eg eat F eS hl hE hO
  obtain ⟨f1, f2, f3, f4, f5⟩ := om_f (o := 42) (Or.inr (Or.inr rfl))
  have P := yv_78 (y_fault := 4) (y_place := nI a) (y_base := nI (14 * w)) hw (by omega) eat (hE (by decide) y_otherKind y_otherLo y_otherHi y_low y_high y_known y_lo y_hi (upd y_at w (nI (a + 1))) y_lookups)
  have kp := yp_kp (p := s) hs W F
  have lp := yp_lp (p := s) hs W F (Or.inl k)
  have s8 : ¬ s = 8 := by intro z; rw [z, W.2.1] at k; exact absurd k (by decide)
  have t := F s (by omega)
  rw [g_lo (by omega)] at t
  obtain ⟨-, th⟩ := t.2.1 (Or.inr k)
  refine yv_inM hi eo f1 f2 f3 f4 f5 ?_
  refine yv_meG (p := s) hi (by omega) (by omega) e1 e2 (by rw [if_neg (by decide)]) (yp_nu hs W F (by rw [k]; decide)) (fun z => absurd z (by decide)) rfl rfl (fun _ => ?_) (fun nf => ?_)
  · rw [kp, k]
    exact yv_mbB (by omega) hw (Or.inl rfl) P
  · rw [kp, k, lp]
    refine yv_mbB (by omega) hw (Or.inr ⟨rfl, ?_⟩) P
    rw [th, eof, eS]
    rw [eof] at nf
    rcases b with b | b
    · exact absurd b nf
    · exact b
theorem yp_bO (hd : d < 8) (hs : s < 9) (W : WF_ K L H S) (k : K s = 2) (b : ¬ bb_ (L s) (H s) S off) : YP_ 42 d s off imm K L H S 0 (upd K d 1) (vp_updL L d 0) (vp_updL H d 255) := by
  intro y_place y_least y_most y_smallest y_greatest y_ways y_fault y_base y_otherKind y_otherLo y_otherHi y_low y_high y_bytes y_steps y_op y_first y_second y_offset y_given y_length y_there y_known y_lo y_hi y_at y_lookups y_safe y_met y_tag y_word y_packet y_keys y_values y_many i a w post hi ha hw eo e1 e2 eof eg eat F eS hl hE hO
  obtain ⟨f1, f2, f3, f4, f5⟩ := om_f (o := 42) (Or.inr (Or.inr rfl))
  have kp := yp_kp (p := s) hs W F
  have lp := yp_lp (p := s) hs W F (Or.inl k)
  have t := F s (by omega)
  have s8 : ¬ s = 8 := by intro z; rw [z, W.2.1] at k; exact absurd k (by decide)
  rw [g_lo (by omega)] at t
  obtain ⟨-, th⟩ := t.2.1 (Or.inr k)
  refine yv_inM hi eo f1 f2 f3 f4 f5 ?_
  refine yv_meG (p := s) hi (by omega) (by omega) e1 e2 (by rw [if_neg (by decide)]) (yp_nu hs W F (by rw [k]; decide)) (fun z => absurd z (by decide)) rfl rfl (fun fa => ?_) (fun nf => ?_)
  · rw [eof] at fa; exact absurd (Or.inl fa) b
  · rw [kp, k, lp]
    refine yv_mbO (by omega) (by omega) hw ?_ ?_ ?_
    · rw [eof]; exact fun z => b (Or.inr (Or.inl z))
    · rw [th, eof, eS]; exact Classical.byContradiction fun z => b (Or.inr (Or.inr z))
    · refine yv_78 hw (by omega) eat ?_
      have G := Fr_upd (r := d) F (T_1 (l := 0) (h := 255))
      rw [g_lo hd] at G
      exact hO rfl _ _ _ _ _ _ _ _ _ G (fun j hj => ⟨pk_un (by omega), pk_uLn (by omega), pk_uLn (by omega)⟩) (fun _ _ => rfl) hl
theorem yp_cK {K' : Nat → Int32} {L' H' : Nat → Int64} {p : Nat} (ho : o = 40 ∨ o = 41) (hd : d < 8) (hs : s < 9) (W : WF_ K L H S) (ep : p = if o = 41 then d else s) (u : ¬ K p = 0) (u2 : o = 41 → ¬ K s = 0) (k : ¬ K p = 4 ∧ ¬ K p = 5) : YP_ o d s off imm K L H S 3 K' L' H' := by
  intro y_place y_least y_most y_smallest y_greatest y_ways y_fault y_base y_otherKind y_otherLo y_otherHi y_low y_high y_bytes y_steps y_op y_first y_second y_offset y_given y_length y_there y_known y_lo y_hi y_at y_lookups y_safe y_met y_tag y_word y_packet y_keys y_values y_many i a w post hi ha hw eo e1 e2 eof eg eat F eS hl hE hO
  have hp : p < 9 := by rw [ep]; split <;> omega
  obtain ⟨f1, f2, f3, f4, f5⟩ := om_f (by rcases ho with h | h; exact Or.inl h; exact Or.inr (Or.inl h))
  have n42 : ¬ o = 42 := by rcases ho with rfl | rfl <;> decide
  have P := yv_78 (y_fault := 3) (y_place := nI a) (y_base := nI (14 * w)) hw (by omega) eat (hE (by decide) y_otherKind y_otherLo y_otherHi y_low y_high y_known y_lo y_hi (upd y_at w (nI (a + 1))) y_lookups)
  have kp := yp_kp hp W F
  refine yv_inM hi eo f1 f2 f3 f4 f5 ?_
  refine yv_meG hi (by omega) (by omega) e1 e2 ep (yp_nu hp W F u) (fun z => yp_nu hs W F (u2 z)) rfl rfl (fun _ => yv_mcK n42 (by rw [kp]; exact k) P) (fun _ => yv_mcK n42 (by rw [kp]; exact k) P)
theorem yp_cB {K' : Nat → Int32} {L' H' : Nat → Int64} {p : Nat} (ho : o = 40 ∨ o = 41) (hd : d < 8) (hs : s < 9) (W : WF_ K L H S) (ep : p = if o = 41 then d else s) (u2 : o = 41 → ¬ K s = 0) (k : K p = 4 ∨ K p = 5) (b : cc_ (K p) (L p) off) : YP_ o d s off imm K L H S 4 K' L' H' := by
  intro y_place y_least y_most y_smallest y_greatest y_ways y_fault y_base y_otherKind y_otherLo y_otherHi y_low y_high y_bytes y_steps y_op y_first y_second y_offset y_given y_length y_there y_known y_lo y_hi y_at y_lookups y_safe y_met y_tag y_word y_packet y_keys y_values y_many i a w post hi ha hw eo e1 e2 eof eg eat F eS hl hE hO
  have hp : p < 9 := by rw [ep]; split <;> omega
  obtain ⟨f1, f2, f3, f4, f5⟩ := om_f (by rcases ho with h | h; exact Or.inl h; exact Or.inr (Or.inl h))
  have n42 : ¬ o = 42 := by rcases ho with rfl | rfl <;> decide
  have P := yv_78 (y_fault := 4) (y_place := nI a) (y_base := nI (14 * w)) hw (by omega) eat (hE (by decide) y_otherKind y_otherLo y_otherHi y_low y_high y_known y_lo y_hi (upd y_at w (nI (a + 1))) y_lookups)
  have kp := yp_kp hp W F
  have lp := yp_lp hp W F (Or.inr k)
  refine yv_inM hi eo f1 f2 f3 f4 f5 ?_
  refine yv_meG hi (by omega) (by omega) e1 e2 ep (yp_nu hp W F (by rcases k with k | k <;> rw [k] <;> decide)) (fun z => yp_nu hs W F (u2 z)) rfl rfl (fun _ => yv_mcB n42 (by rw [kp]; exact k) (Or.inl rfl) P) (fun nf => yv_mcB n42 (by rw [kp]; exact k) (Or.inr ⟨rfl, ?_⟩) P)
  rw [kp, lp, eof]
  rw [eof] at nf
  rcases b with b | b
  · exact absurd b nf
  · exact b
/-- inside: what remains -/
theorem yp_cG {e : Int32} {K' : Nat → Int32} {L' H' : Nat → Int64} {p c : Nat} (ho : o = 40 ∨ o = 41) (hd : d < 8) (hs : s < 9) (W : WF_ K L H S) (ep : p = if o = 41 then d else s) (u2 : o = 41 → ¬ K s = 0) (k : K p = 4 ∨ K p = 5) (nf : ¬ far_ off) (ec : L p + off.toInt64 = lN c) (hc : c < (if K p = 4 then 6 else 2)) (G : ∀ (y_place : Int32) (y_least : Int64) (y_most : Int64) (y_smallest : Int64) (y_greatest : Int64) (y_ways : Int32) (y_fault : Int32) (y_base : Int32) (y_otherKind : Int32) (y_otherLo : Int64) (y_otherHi : Int64) (y_low : Int64) (y_high : Int64) (y_bytes : Int32) (y_steps : Int32) (y_op : Nat → Int32) (y_first : Nat → Int32) (y_second : Nat → Int32) (y_offset : Nat → Int32) (y_given : Nat → Int32) (y_length : Nat → Int32) (y_there : Nat → Int32) (y_known : Nat → Int32) (y_lo : Nat → Int64) (y_hi : Nat → Int64) (y_at : Nat → Int32) (y_lookups : Nat → Int32) (y_safe : Nat → Int32) (y_met : Nat → Int32) (y_tag : Nat → Int32) (y_word : Nat → Int64) (y_packet : Nat → Int32) (y_keys : Nat → Int64) (y_values : Nat → Int64) (y_many : Nat → Int32) (i a w : Nat) (post : SY → Prop), i < 120 → a < 40 → w < 12 → y_op i = o → y_first i = nI d → y_second i = nI s → y_offset i = off → y_given i = imm → y_at w = nI a → Fr_ K L H y_known y_lo y_hi (14 * w) (y_lookups w) → (y_safe w).toInt64 = S → vp_nar .byte (y_lookups w) = y_lookups w → (¬ e = 0 → ∀ (e1 : Int32) (e2 e3 e4 e5 : Int64) (e6 : Nat → Int32) (e7 e8 : Nat → Int64) (e9 e10 : Nat → Int32), post (nI a, y_least, y_most, y_smallest, y_greatest, nI (w + 1), e, nI (14 * w), e1, e2, e3, e4, e5, y_bytes, y_steps, y_op, y_first, y_second, y_offset, y_given, y_length, y_there, e6, e7, e8, e9, e10, y_safe, y_met, y_tag, y_word, y_packet, y_keys, y_values, y_many)) → (e = 0 → ∀ (e1 : Int32) (e2 e3 e4 e5 : Int64) (kn : Nat → Int32) (lo hi : Nat → Int64) (lk : Nat → Int32), Fr_ K' L' H' kn lo hi (14 * w) (lk w) → (∀ j, j < 14 * w → kn j = y_known j ∧ lo j = y_lo j ∧ hi j = y_hi j) → (∀ j, j < w → lk j = y_lookups j) → vp_nar .byte (lk w) = lk w → post (y_place, y_least, y_most, y_smallest, y_greatest, nI (w + 1), y_fault, nI (14 * w), e1, e2, e3, e4, e5, y_bytes, y_steps, y_op, y_first, y_second, y_offset, y_given, y_length, y_there, kn, lo, hi, upd y_at w (nI (a + 1)), lk, y_safe, y_met, y_tag, y_word, y_packet, y_keys, y_values, y_many)) → ((o = 41 → (wpY_toCell (fun u => match u with | (y_place, y_least, y_most, y_smallest, y_greatest, y_ways, y_fault, y_base, y_otherKind, y_otherLo, y_otherHi, y_low, y_high, y_bytes, y_steps, y_op, y_first, y_second, y_offset, y_given, y_length, y_there, y_known, y_lo, y_hi, y_at, y_lookups, y_safe, y_met, y_tag, y_word, y_packet, y_keys, y_values, y_many) => wY_instruction_78 post y_place y_least y_most y_smallest y_greatest y_ways y_fault y_base y_otherKind y_otherLo y_otherHi y_low y_high y_bytes y_steps y_op y_first y_second y_offset y_given y_length y_there y_known y_lo y_hi y_at y_lookups y_safe y_met y_tag y_word y_packet y_keys y_values y_many) (y_place, y_least, y_most, y_smallest, y_greatest, nI (w + 1), y_fault, nI (14 * w), y_otherKind, y_otherLo, y_otherHi, y_low, y_high, y_bytes, y_steps, y_op, y_first, y_second, y_offset, y_given, y_length, y_there, y_known, y_lo, y_hi, y_at, y_lookups, y_safe, y_met, y_tag, y_word, y_packet, y_keys, y_values, y_many) (nI s) (K p) (nI c) (nI a))) ∧ (¬ o = 41 → (((K p = 5 → (wpY_set (fun u => match u with | (y_place, y_least, y_most, y_smallest, y_greatest, y_ways, y_fault, y_base, y_otherKind, y_otherLo, y_otherHi, y_low, y_high, y_bytes, y_steps, y_op, y_first, y_second, y_offset, y_given, y_length, y_there, y_known, y_lo, y_hi, y_at, y_lookups, y_safe, y_met, y_tag, y_word, y_packet, y_keys, y_values, y_many) => wY_instruction_78 post y_place y_least y_most y_smallest y_greatest y_ways y_fault y_base y_otherKind y_otherLo y_otherHi y_low y_high y_bytes y_steps y_op y_first y_second y_offset y_given y_length y_there y_known y_lo y_hi y_at y_lookups y_safe y_met y_tag y_word y_packet y_keys y_values y_many) (y_place, y_least, y_most, y_smallest, y_greatest, nI (w + 1), y_fault, nI (14 * w), y_otherKind, y_otherLo, y_otherHi, y_low, y_high, y_bytes, y_steps, y_op, y_first, y_second, y_offset, y_given, y_length, y_there, y_known, y_lo, y_hi, y_at, y_lookups, y_safe, y_met, y_tag, y_word, y_packet, y_keys, y_values, y_many) (nI d) 1 0 4294967295)) ∧ (¬ K p = 5 → (wpY_fromStack (fun u => match u with | (y_place, y_least, y_most, y_smallest, y_greatest, y_ways, y_fault, y_base, y_otherKind, y_otherLo, y_otherHi, y_low, y_high, y_bytes, y_steps, y_op, y_first, y_second, y_offset, y_given, y_length, y_there, y_known, y_lo, y_hi, y_at, y_lookups, y_safe, y_met, y_tag, y_word, y_packet, y_keys, y_values, y_many) => wY_instruction_78 post y_place y_least y_most y_smallest y_greatest y_ways y_fault y_base y_otherKind y_otherLo y_otherHi y_low y_high y_bytes y_steps y_op y_first y_second y_offset y_given y_length y_there y_known y_lo y_hi y_at y_lookups y_safe y_met y_tag y_word y_packet y_keys y_values y_many) (y_place, y_least, y_most, y_smallest, y_greatest, nI (w + 1), y_fault, nI (14 * w), y_otherKind, y_otherLo, y_otherHi, y_low, y_high, y_bytes, y_steps, y_op, y_first, y_second, y_offset, y_given, y_length, y_there, y_known, y_lo, y_hi, y_at, y_lookups, y_safe, y_met, y_tag, y_word, y_packet, y_keys, y_values, y_many) (nI d) (nI (8 + c)) (nI a)))))))) : YP_ o d s off imm K L H S e K' L' H' := by
  intro y_place y_least y_most y_smallest y_greatest y_ways y_fault y_base y_otherKind y_otherLo y_otherHi y_low y_high y_bytes y_steps y_op y_first y_second y_offset y_given y_length y_there y_known y_lo y_hi y_at y_lookups y_safe y_met y_tag y_word y_packet y_keys y_values y_many i a w post hi ha hw eo e1 e2 eof eg eat F eS hl hE hO
  have hp : p < 9 := by rw [ep]; split <;> omega
  obtain ⟨f1, f2, f3, f4, f5⟩ := om_f (by rcases ho with h | h; exact Or.inl h; exact Or.inr (Or.inl h))
  have n42 : ¬ o = 42 := by rcases ho with rfl | rfl <;> decide
  have kp := yp_kp hp W F
  have lp := yp_lp hp W F (Or.inr k)
  refine yv_inM hi eo f1 f2 f3 f4 f5 ?_
  refine yv_meG hi (by omega) (by omega) e1 e2 ep (yp_nu hp W F (by rcases k with k | k <;> rw [k] <;> decide)) (fun z => yp_nu hs W F (u2 z)) kp.symm lp.symm (fun fa => ?_) (fun _ => ?_)
  · rw [eof] at fa; exact absurd fa nf
  · rw [eof]
    exact yv_mcG n42 k ec hc (G y_place y_least y_most y_smallest y_greatest y_ways y_fault y_base y_otherKind y_otherLo y_otherHi y_low y_high y_bytes y_steps y_op y_first y_second y_offset y_given y_length y_there y_known y_lo y_hi y_at y_lookups y_safe y_met y_tag y_word y_packet y_keys y_values y_many i a w post hi ha hw eo e1 e2 eof eg eat F eS hl hE hO)
theorem yp_cSS {c : Nat} (hd : d < 8) (hs : s < 9) (W : WF_ K L H S) (u2 : ¬ K s = 0) (k : K d = 4) (nf : ¬ far_ off) (ec : L d + off.toInt64 = lN c) (hc : c < 6) : YP_ 41 d s off imm K L H S 0 (upd K (10 + c) (K s)) (vp_updL L (10 + c) (L s)) (vp_updL H (10 + c) (H s)) := by
  refine yp_cG (p := d) (c := c) (Or.inr rfl) hd hs W (by rw [if_pos rfl]) (fun _ => u2) (Or.inl k) nf ec (by rw [if_pos k]; exact hc) ?_
  intro y_place y_least y_most y_smallest y_greatest y_ways y_fault y_base y_otherKind y_otherLo y_otherHi y_low y_high y_bytes y_steps y_op y_first y_second y_offset y_given y_length y_there y_known y_lo y_hi y_at y_lookups y_safe y_met y_tag y_word y_packet y_keys y_values y_many i a w post hi ha hw eo e1 e2 eof eg eat F eS hl hE hO
  refine ⟨fun _ => ?_, fun n => absurd rfl n⟩
  rw [k]
  have k7 := (W.1 s (by omega)).1
  by_cases z : s = 8
  · subst z
    refine yv_cellS (kk := 4) (ll := 0) (hh := 0) (by omega) (by omega) (Or.inl ⟨rfl, rfl, rfl, rfl⟩) (by unfold k7_; simp) ?_
    refine yv_78 hw (by omega) eat ?_
    have t8 : T_ (K 8) (L 8) (H 8) 4 0 0 (y_lookups w) := by rw [W.2.1, W.2.2.1]; exact T_45 (Or.inl rfl)
    have G := Fr_upd (r := 8 + c) F t8
    rw [g_hi] at G
    exact hO rfl _ _ _ _ _ _ _ _ _ G (fun j hj => ⟨pk_un (by omega), pk_uLn (by omega), pk_uLn (by omega)⟩) (fun _ _ => rfl) hl
  · have t := F s (by omega)
    rw [g_lo (by omega)] at t
    refine yv_cellS (by omega) (by omega) (Or.inr ⟨z, rfl, rfl, rfl⟩) (by rw [t.1]; exact k7) ?_
    refine yv_78 hw (by omega) eat ?_
    have G := Fr_upd (r := 8 + c) F t
    rw [g_hi] at G
    exact hO rfl _ _ _ _ _ _ _ _ _ G (fun j hj => ⟨pk_un (by omega), pk_uLn (by omega), pk_uLn (by omega)⟩) (fun _ _ => rfl) hl
theorem yp_cVS {c : Nat} (hd : d < 8) (hs : s < 9) (W : WF_ K L H S) (k : K d = 5) (nf : ¬ far_ off) (ec : L d + off.toInt64 = lN c) (hc : c < 2) (ks : K s = 1) : YP_ 41 d s off imm K L H S 0 K L H := by
  refine yp_cG (p := d) (c := c) (Or.inr rfl) hd hs W (by rw [if_pos rfl]) (fun _ => by rw [ks]; decide) (Or.inr k) nf ec (by rw [k, if_neg (by decide)]; exact hc) ?_
  intro y_place y_least y_most y_smallest y_greatest y_ways y_fault y_base y_otherKind y_otherLo y_otherHi y_low y_high y_bytes y_steps y_op y_first y_second y_offset y_given y_length y_there y_known y_lo y_hi y_at y_lookups y_safe y_met y_tag y_word y_packet y_keys y_values y_many i a w post hi ha hw eo e1 e2 eof eg eat F eS hl hE hO
  refine ⟨fun _ => ?_, fun n => absurd rfl n⟩
  rw [k]
  have kp := yp_kp hs W F
  refine yv_cellV (by omega) (fun _ => ?_) (fun n => absurd (kp.trans ks) n)
  exact yv_78 hw (by omega) eat (hO rfl _ _ _ _ _ _ _ _ _ F (fun j hj => ⟨rfl, rfl, rfl⟩) (fun _ _ => rfl) hl)
theorem yp_cVSf {K' : Nat → Int32} {L' H' : Nat → Int64} {c : Nat} (hd : d < 8) (hs : s < 9) (W : WF_ K L H S) (u2 : ¬ K s = 0) (k : K d = 5) (nf : ¬ far_ off) (ec : L d + off.toInt64 = lN c) (hc : c < 2) (ks : ¬ K s = 1) : YP_ 41 d s off imm K L H S 3 K' L' H' := by
  refine yp_cG (p := d) (c := c) (Or.inr rfl) hd hs W (by rw [if_pos rfl]) (fun _ => u2) (Or.inr k) nf ec (by rw [k, if_neg (by decide)]; exact hc) ?_
  intro y_place y_least y_most y_smallest y_greatest y_ways y_fault y_base y_otherKind y_otherLo y_otherHi y_low y_high y_bytes y_steps y_op y_first y_second y_offset y_given y_length y_there y_known y_lo y_hi y_at y_lookups y_safe y_met y_tag y_word y_packet y_keys y_values y_many i a w post hi ha hw eo e1 e2 eof eg eat F eS hl hE hO
  refine ⟨fun _ => ?_, fun n => absurd rfl n⟩
  rw [k]
  have kp := yp_kp hs W F
  refine yv_cellV (by omega) (fun n => absurd (kp.symm.trans n) ks) (fun _ => ?_)
  exact yv_78 hw (by omega) eat (hE (by decide) _ _ _ _ _ _ _ _ _ _)
theorem yp_cVL {c : Nat} (hd : d < 8) (hs : s < 9) (W : WF_ K L H S) (k : K s = 5) (nf : ¬ far_ off) (ec : L s + off.toInt64 = lN c) (hc : c < 2) : YP_ 40 d s off imm K L H S 0 (upd K d 1) (vp_updL L d 0) (vp_updL H d 4294967295) := by
  refine yp_cG (p := s) (c := c) (Or.inl rfl) hd hs W (by rw [if_neg (by decide)]) (fun z => absurd z (by decide)) (Or.inr k) nf ec (by rw [k, if_neg (by decide)]; exact hc) ?_
  intro y_place y_least y_most y_smallest y_greatest y_ways y_fault y_base y_otherKind y_otherLo y_otherHi y_low y_high y_bytes y_steps y_op y_first y_second y_offset y_given y_length y_there y_known y_lo y_hi y_at y_lookups y_safe y_met y_tag y_word y_packet y_keys y_values y_many i a w post hi ha hw eo e1 e2 eof eg eat F eS hl hE hO
  refine ⟨fun n => absurd n (by decide), fun _ => br_t k ?_⟩
  refine (yv_set (by omega) (by unfold k7_; simp)).mpr ?_
  refine yv_78 hw (by omega) eat ?_
  have G := Fr_upd (r := d) F (T_1 (l := 0) (h := 4294967295))
  rw [g_lo hd] at G
  exact hO rfl _ _ _ _ _ _ _ _ _ G (fun j hj => ⟨pk_un (by omega), pk_uLn (by omega), pk_uLn (by omega)⟩) (fun _ _ => rfl) hl
theorem yp_cSLu {K' : Nat → Int32} {L' H' : Nat → Int64} {c : Nat} (hd : d < 8) (hs : s < 9) (W : WF_ K L H S) (k : K s = 4) (nf : ¬ far_ off) (ec : L s + off.toInt64 = lN c) (hc : c < 6) (kc : K (10 + c) = 0) : YP_ 40 d s off imm K L H S 2 K' L' H' := by
  refine yp_cG (p := s) (c := c) (Or.inl rfl) hd hs W (by rw [if_neg (by decide)]) (fun z => absurd z (by decide)) (Or.inl k) nf ec (by rw [if_pos k]; exact hc) ?_
  intro y_place y_least y_most y_smallest y_greatest y_ways y_fault y_base y_otherKind y_otherLo y_otherHi y_low y_high y_bytes y_steps y_op y_first y_second y_offset y_given y_length y_there y_known y_lo y_hi y_at y_lookups y_safe y_met y_tag y_word y_packet y_keys y_values y_many i a w post hi ha hw eo e1 e2 eof eg eat F eS hl hE hO
  have t := F (8 + c) (by omega)
  rw [g_hi] at t
  refine ⟨fun n => absurd n (by decide), fun _ => br_f (by rw [k]; decide) ?_⟩
  refine yv_fromU (by omega) (t.1.trans kc) ?_
  exact yv_78 hw (by omega) eat (hE (by decide) _ _ _ _ _ _ _ _ _ _)
theorem yp_cSL {c : Nat} (hd : d < 8) (hs : s < 9) (W : WF_ K L H S) (k : K s = 4) (nf : ¬ far_ off) (ec : L s + off.toInt64 = lN c) (hc : c < 6) (kc : ¬ K (10 + c) = 0) : YP_ 40 d s off imm K L H S 0 (upd K d (K (10 + c))) (vp_updL L d (L (10 + c))) (vp_updL H d (H (10 + c))) := by
  refine yp_cG (p := s) (c := c) (Or.inl rfl) hd hs W (by rw [if_neg (by decide)]) (fun z => absurd z (by decide)) (Or.inl k) nf ec (by rw [if_pos k]; exact hc) ?_
  intro y_place y_least y_most y_smallest y_greatest y_ways y_fault y_base y_otherKind y_otherLo y_otherHi y_low y_high y_bytes y_steps y_op y_first y_second y_offset y_given y_length y_there y_known y_lo y_hi y_at y_lookups y_safe y_met y_tag y_word y_packet y_keys y_values y_many i a w post hi ha hw eo e1 e2 eof eg eat F eS hl hE hO
  have t := F (8 + c) (by omega)
  rw [g_hi] at t
  refine ⟨fun n => absurd n (by decide), fun _ => br_f (by rw [k]; decide) ?_⟩
  refine yv_fromO (by omega) (by omega) (by rw [t.1]; exact kc) (by rw [t.1]; exact (W.1 (10 + c) (by omega)).1) ?_
  refine yv_78 hw (by omega) eat ?_
  have G := Fr_upd (r := d) F t
  rw [g_lo hd] at G
  exact hO rfl _ _ _ _ _ _ _ _ _ G (fun j hj => ⟨pk_un (by omega), pk_uLn (by omega), pk_uLn (by omega)⟩) (fun _ _ => rfl) hl
end
end
section
section
variable {o off imm : Int32} {d s : Nat} {K : Nat → Int32} {L H : Nat → Int64} {S : Int64}
def uk_ (o : Int32) (K : Nat → Int32) : Prop := K 1 = 0 ∨ (o = 51 ∧ (K 2 = 0 ∨ K 3 = 0))
def sk_ (o : Int32) (K : Nat → Int32) : Prop := K 1 = 1 ∧ (o = 51 → K 2 = 1 ∧ K 3 = 1)
theorem ol_f (h : o = 50 ∨ o = 51 ∨ o = 52) : ¬ o < 20 ∧ 40 ≤ o ∧ ¬ o = 60 ∧ ¬ o < 50 := by rcases h with rfl | rfl | rfl <;> decide
theorem uk_iff {y_known : Nat → Int32} {y_lo y_hi : Nat → Int64} {B e : Nat} {m : Int32} (F : Fr_ K L H y_known y_lo y_hi B m) (ee : e = if o = 51 then 3 else 1) : ¬ uk_ o K ↔ (∀ r, 1 ≤ r → r ≤ e → ¬ y_known (B + r) = 0) := by
  have t : ∀ r, r < 8 → y_known (B + r) = K r := fun r hr => by have t := F r (by omega); rw [g_lo hr] at t; exact t.1
  unfold uk_
  constructor
  · intro h r a b
    have : r < 8 := by rw [ee] at b; split at b <;> omega
    rw [t r this]
    intro k
    apply h
    by_cases z : o = 51
    · rw [if_pos z] at ee
      have : r = 1 ∨ r = 2 ∨ r = 3 := by omega
      rcases this with rfl | rfl | rfl
      · exact Or.inl k
      · exact Or.inr ⟨z, Or.inl k⟩
      · exact Or.inr ⟨z, Or.inr k⟩
    · rw [if_neg z] at ee
      have : r = 1 := by omega
      subst this; exact Or.inl k
  · rintro h (k | ⟨z, k | k⟩)
    · exact h 1 (by omega) (by rw [ee]; split <;> omega) ((t 1 (by omega)).trans k)
    · rw [if_pos z] at ee
      exact h 2 (by omega) (by omega) ((t 2 (by omega)).trans k)
    · rw [if_pos z] at ee
      exact h 3 (by omega) (by omega) ((t 3 (by omega)).trans k)
theorem sk_iff {y_known : Nat → Int32} {y_lo y_hi : Nat → Int64} {B e : Nat} {m : Int32} (F : Fr_ K L H y_known y_lo y_hi B m) (ee : e = if o = 51 then 3 else 1) : sk_ o K ↔ (∀ r, 1 ≤ r → r ≤ e → y_known (B + r) = 1) := by
  have t : ∀ r, r < 8 → y_known (B + r) = K r := fun r hr => by have t := F r (by omega); rw [g_lo hr] at t; exact t.1
  unfold sk_
  constructor
  · rintro ⟨k1, k2⟩ r a b
    have : r < 8 := by rw [ee] at b; split at b <;> omega
    rw [t r this]
    by_cases z : o = 51
    · rw [if_pos z] at ee
      have : r = 1 ∨ r = 2 ∨ r = 3 := by omega
      rcases this with rfl | rfl | rfl
      · exact k1
      · exact (k2 z).1
      · exact (k2 z).2
    · rw [if_neg z] at ee
      have : r = 1 := by omega
      subst this; exact k1
  · intro h
    refine ⟨(t 1 (by omega)).symm.trans (h 1 (by omega) (by rw [ee]; split <;> omega)), fun z => ?_⟩
    rw [if_pos z] at ee
    exact ⟨(t 2 (by omega)).symm.trans (h 2 (by omega) (by omega)), (t 3 (by omega)).symm.trans (h 3 (by omega) (by omega))⟩
theorem yp_l1 {K' : Nat → Int32} {L' H' : Nat → Int64} (ho : o = 50 ∨ o = 51 ∨ o = 52) (g : imm < 0 ∨ ¬ imm < 2) : YP_ o d s off imm K L H S 1 K' L' H' := by
  intro y_place y_least y_most y_smallest y_greatest y_ways y_fault y_base y_otherKind y_otherLo y_otherHi y_low y_high y_bytes y_steps y_op y_first y_second y_offset y_given y_length y_there y_known y_lo y_hi y_at y_lookups y_safe y_met y_tag y_word y_packet y_keys y_values y_many i a w post hi ha hw eo e1 e2 eof eg eat F eS hl hE hO
  obtain ⟨f1, f2, f3, f4⟩ := ol_f ho
  rw [← eg] at g
  refine yv_inL hi eo f1 f2 f3 f4 ?_
  refine yv_look hi (by omega) hw rfl (fun _ => ?_) (fun n => absurd g n) (fun n => absurd g n) (fun n => absurd g n)
  exact yv_78 hw (by omega) eat (hE (by decide) _ _ _ _ _ _ _ _ _ _)
theorem yp_l2 {K' : Nat → Int32} {L' H' : Nat → Int64} (ho : o = 50 ∨ o = 51 ∨ o = 52) (g : ¬ (imm < 0 ∨ ¬ imm < 2)) (u : uk_ o K) : YP_ o d s off imm K L H S 2 K' L' H' := by
  intro y_place y_least y_most y_smallest y_greatest y_ways y_fault y_base y_otherKind y_otherLo y_otherHi y_low y_high y_bytes y_steps y_op y_first y_second y_offset y_given y_length y_there y_known y_lo y_hi y_at y_lookups y_safe y_met y_tag y_word y_packet y_keys y_values y_many i a w post hi ha hw eo e1 e2 eof eg eat F eS hl hE hO
  obtain ⟨f1, f2, f3, f4⟩ := ol_f ho
  rw [← eg] at g
  have q : ∀ e, (e = if o = 51 then 3 else 1) → ¬ (∀ r, 1 ≤ r → r ≤ e → ¬ y_known (14 * w + r) = 0) := fun e ee n => (uk_iff F ee).mpr n u
  refine yv_inL hi eo f1 f2 f3 f4 ?_
  refine yv_look hi (by omega) hw rfl (fun n => absurd n g) (fun _ _ => ?_) (fun _ n => absurd n (q _ rfl)) (fun _ n => ?_)
  · exact yv_78 hw (by omega) eat (hE (by decide) _ _ _ _ _ _ _ _ _ _)
  · exact absurd (fun r a b z => absurd ((n r a b).symm.trans z) (by decide)) (q _ rfl)
theorem yp_l3 {K' : Nat → Int32} {L' H' : Nat → Int64} (ho : o = 50 ∨ o = 51 ∨ o = 52) (g : ¬ (imm < 0 ∨ ¬ imm < 2)) (u : ¬ uk_ o K) (k : ¬ sk_ o K) : YP_ o d s off imm K L H S 3 K' L' H' := by
  intro y_place y_least y_most y_smallest y_greatest y_ways y_fault y_base y_otherKind y_otherLo y_otherHi y_low y_high y_bytes y_steps y_op y_first y_second y_offset y_given y_length y_there y_known y_lo y_hi y_at y_lookups y_safe y_met y_tag y_word y_packet y_keys y_values y_many i a w post hi ha hw eo e1 e2 eof eg eat F eS hl hE hO
  obtain ⟨f1, f2, f3, f4⟩ := ol_f ho
  rw [← eg] at g
  refine yv_inL hi eo f1 f2 f3 f4 ?_
  refine yv_look hi (by omega) hw rfl (fun n => absurd n g) (fun _ n => absurd ((uk_iff F rfl).mp u) n) (fun _ _ _ => ?_) (fun _ n => absurd ((sk_iff F rfl).mpr n) k)
  exact yv_78 hw (by omega) eat (hE (by decide) _ _ _ _ _ _ _ _ _ _)
theorem yp_l0 (ho : o = 50 ∨ o = 51 ∨ o = 52) (g : ¬ (imm < 0 ∨ ¬ imm < 2)) (u : ¬ uk_ o K) (k : sk_ o K) : YP_ o d s off imm K L H S 0 (upd (mK_ K 16) 0 (if o = 50 then 6 else 1)) (vp_updL (mL_ K L 16) 0 0) (vp_updL (mL_ K H 16) 0 (if o = 50 then 0 else 1)) := by
  intro y_place y_least y_most y_smallest y_greatest y_ways y_fault y_base y_otherKind y_otherLo y_otherHi y_low y_high y_bytes y_steps y_op y_first y_second y_offset y_given y_length y_there y_known y_lo y_hi y_at y_lookups y_safe y_met y_tag y_word y_packet y_keys y_values y_many i a w post hi ha hw eo e1 e2 eof eg eat F eS hl hE hO
  obtain ⟨f1, f2, f3, f4⟩ := ol_f ho
  rw [← eg] at g
  refine yv_inL hi eo f1 f2 f3 f4 ?_
  refine yv_look hi (by omega) hw rfl (fun n => absurd n g) (fun _ n => absurd ((uk_iff F rfl).mp u) n) (fun _ _ n => absurd ((sk_iff F rfl).mp k) n) (fun _ _ lk l h50 hn => ?_)
  refine yv_78 hw (by omega) eat ?_
  refine hO rfl _ _ _ _ _ _ _ _ _ ?_ (fun j hj => ⟨?_, pk_uLn (by omega), pk_uLn (by omega)⟩) (fun j hj => ?_) ?_
  · have M : Fr_ (mK_ K 16) (mL_ K L 16) (mL_ K H 16) (yw_ y_known (14 * w) 14) y_lo y_hi (14 * w) (lk w) := by
      intro r hr
      have t := F r hr
      have g16 := g_16 hr
      by_cases z : wi_ K 16 (g_ r)
      · have e1 : mK_ K 16 (g_ r) = 0 := by unfold mK_; exact if_pos z
        have e2 : yw_ y_known (14 * w) 14 (14 * w + r) = 0 := by
          unfold yw_
          refine if_pos ⟨by omega, by omega, ?_⟩
          rcases z.2 with z | z | z
          · unfold g_ at z; split at z <;> omega
          · exact Or.inr (Or.inl (t.1.trans z))
          · exact Or.inr (Or.inr (t.1.trans z))
        rw [e1, e2]; exact T_0
      · have e1 : mK_ K 16 (g_ r) = K (g_ r) := by unfold mK_; exact if_neg z
        have e3 : mL_ K L 16 (g_ r) = L (g_ r) := by unfold mL_; exact if_neg z
        have e4 : mL_ K H 16 (g_ r) = H (g_ r) := by unfold mL_; exact if_neg z
        have e2 : yw_ y_known (14 * w) 14 (14 * w + r) = y_known (14 * w + r) := by
          unfold yw_
          refine if_neg (fun y => z ⟨g16, ?_⟩)
          rcases y.2.2 with y | y | y
          · left; rw [g_lo (by omega)]; omega
          · exact Or.inr (Or.inl (t.1.symm.trans y))
          · exact Or.inr (Or.inr (t.1.symm.trans y))
        rw [e1, e2, e3, e4]
        exact T_m t (fun n => z ⟨g16, Or.inr (Or.inr n)⟩)
    have tt : T_ (if o = 50 then 6 else 1) 0 (if o = 50 then 0 else 1) (if o = 50 then 6 else 1) l (if o = 50 then 0 else 1) (lk w) := by
      by_cases z : o = 50
      · obtain ⟨q1, q2⟩ := h50 z
        simp only [z, if_true]
        rw [q2, q1, pk_us]; exact T_6
      · obtain ⟨q1, q2⟩ := hn z
        simp only [z, if_false]
        rw [q2]; exact T_1
    exact Fr_upd (r := 0) M tt
  · rw [pk_un (by omega)]
    unfold yw_; exact if_neg (fun z => absurd z.1 (by omega))
  · by_cases z : o = 50
    · rw [(h50 z).1, pk_un (by omega)]
    · rw [(hn z).1]
  · by_cases z : o = 50
    · rw [(h50 z).1, pk_us, ys_bb]
    · rw [(hn z).1]; exact hl
end
end
section
theorem mh_yg {f a b c e : Nat} (h1 : 1 ≤ f) (h4 : f ≤ 4) (ab : a ≤ b) (hb : b < 2 ^ 32) (ce : c ≤ e) (he : e < 2 ^ 32) : yg_ f (lN a) (lN b) (lN c) (lN e) ↔ mh_ f (lN a) (lN b) (lN c) (lN e) := by
  unfold yg_ mh_
  split
  · exact Iff.rfl
  · split
    · rw [pk_lEQ (by omega) (by omega), pk_lEQ (by omega) (by omega), pk_lEQ (by omega) (by omega), pk_lEQ (by omega) (by omega), pk_lEQ (by omega) (by omega)]
      omega
    · exact Iff.rfl
/-- mh_ in numbers -/
def mN_ (f a b c e : Nat) : Prop := if f = 1 then a ≤ e ∧ c ≤ b else if f = 2 then ¬ (a = e ∧ c = b) else if f = 3 then a < e else c ≤ b
theorem mh_N {f a b c e : Nat} (ab : a ≤ b) (hb : b < 2 ^ 32) (ce : c ≤ e) (he : e < 2 ^ 32) : mh_ f (lN a) (lN b) (lN c) (lN e) ↔ mN_ f a b c e := by
  unfold mh_ mN_
  split
  · rw [pk_lLT (by omega) (by omega), pk_lLT (by omega) (by omega)]; omega
  · split
    · rw [pk_lEQ (by omega) (by omega), pk_lEQ (by omega) (by omega)]
    · split
      · rw [pk_lLE (by omega) (by omega)]; omega
      · rw [pk_lLT (by omega) (by omega)]; omega
theorem mN_op {f a b c e : Nat} (h1 : 1 ≤ f) (h4 : f ≤ 4) (ab : a ≤ b) (ce : c ≤ e) (n : ¬ mN_ (op_ f) a b c e) : mN_ f a b c e := by
  have ef : f = 1 ∨ f = 2 ∨ f = 3 ∨ f = 4 := by omega
  rcases ef with rfl | rfl | rfl | rfl <;> simp [mN_, op_] at n ⊢ <;> omega
/-- a cut where one way alone is open changes nothing -/
theorem yc_no {f a b c : Nat} (h1 : 1 ≤ f) (h4 : f ≤ 4) (ab : a ≤ b) (hb : b < 2 ^ 32) (hc : c < 2 ^ 32) (y : mN_ f a b c c) (n : ¬ mN_ (op_ f) a b c c) : yc_l f (lN c) (lN a) (lN b) = lN a ∧ yc_h f (lN c) (lN a) (lN b) = lN b := by
  have ef : f = 1 ∨ f = 2 ∨ f = 3 ∨ f = 4 := by omega
  rcases ef with rfl | rfl | rfl | rfl
  · simp [mN_, op_] at n y
    have e1 : a = c := by omega
    have e2 : b = c := by omega
    subst e1; subst e2
    exact ⟨by simp [yc_l], by simp [yc_h]⟩
  · simp [mN_, op_] at n y
    have e1 : ¬ lN a = lN c := by rw [pk_lEQ (by omega) (by omega)]; omega
    have e2 : ¬ lN b = lN c := by rw [pk_lEQ (by omega) (by omega)]; omega
    exact ⟨by simp [yc_l, e1], by simp [yc_h, e2]⟩
  · simp [mN_, op_] at n y
    have e2 : lN b < lN c := by rw [pk_lLT (by omega) (by omega)]; omega
    exact ⟨by simp [yc_l], by simp [yc_h, e2]⟩
  · simp [mN_, op_] at n y
    have e2 : lN c ≤ lN a := by rw [pk_lLE (by omega) (by omega)]; omega
    exact ⟨by simp [yc_l, e2], by simp [yc_h]⟩
/-- where both ways are open, X's cut is Y's -/
theorem yc_cu {f a b c : Nat} (h1 : 1 ≤ f) (h4 : f ≤ 4) (ab : a ≤ b) (hb : b < 2 ^ 32) (hc : c < 2 ^ 32) (y : mN_ f a b c c) (n : mN_ (op_ f) a b c c) : yc_l f (lN c) (lN a) (lN b) = cu_l f (lN c) (lN a) (lN b) ∧ yc_h f (lN c) (lN a) (lN b) = cu_h f (lN c) (lN a) (lN b) := by
  have ef : f = 1 ∨ f = 2 ∨ f = 3 ∨ f = 4 := by omega
  rcases ef with rfl | rfl | rfl | rfl
  · exact ⟨by simp [yc_l, cu_l], by simp [yc_h, cu_h]⟩
  · constructor
    · simp only [yc_l, cu_l]
      by_cases z : lN a = lN c
      · simp [z]
      · simp [z]
    · simp only [yc_h, cu_h]
      by_cases z : lN b = lN c
      · simp [z]
      · simp [z]
  · simp [mN_, op_] at n y
    have e2 : ¬ lN b < lN c := by rw [pk_lLT (by omega) (by omega)]; omega
    exact ⟨by simp [yc_l, cu_l], by simp only [yc_h, cu_h, e2]; simp⟩
  · simp [mN_, op_] at n y
    have e2 : ¬ lN c ≤ lN a := by rw [pk_lLE (by omega) (by omega)]; omega
    exact ⟨by simp only [yc_l, cu_l, e2]; simp, by simp [yc_h, cu_h]⟩
/-- what a cut leaves is in order again -/
theorem cu_iv {f a b c : Nat} (h1 : 1 ≤ f) (h4 : f ≤ 4) (ab : a ≤ b) (hb : b < 2 ^ 32) (hc : c < 2 ^ 32) (y : mN_ f a b c c) (n : mN_ (op_ f) a b c c) : iv_ (cu_l f (lN c) (lN a) (lN b)) (cu_h f (lN c) (lN a) (lN b)) (2 ^ 32) := by
  have ef : f = 1 ∨ f = 2 ∨ f = 3 ∨ f = 4 := by omega
  rcases ef with rfl | rfl | rfl | rfl
  · exact ⟨c, c, Nat.le_refl _, hc, by simp [cu_l], by simp [cu_h]⟩
  · simp [mN_, op_] at n y
    refine ⟨if a = c then c + 1 else a, if b = c then c - 1 else b, ?_, ?_, ?_, ?_⟩
    · split <;> split <;> omega
    · split <;> omega
    · simp only [cu_l, pk_lEQ (show a < 2 ^ 63 by omega) (show c < 2 ^ 63 by omega)]
      by_cases z : a = c
      · simp [z, lN_1]
      · simp [z]
    · simp only [cu_h, pk_lEQ (show b < 2 ^ 63 by omega) (show c < 2 ^ 63 by omega)]
      by_cases z : b = c
      · have : lN c - 1 = lN (c - 1) := lN_sub (b := 1) (by omega)
        simp [z, this]
      · simp [z]
  · simp [mN_, op_] at n y
    have : lN c - 1 = lN (c - 1) := lN_sub (b := 1) (by omega)
    exact ⟨a, c - 1, by omega, by omega, by simp [cu_l], by simp [cu_h, this]⟩
  · simp [mN_, op_] at n y
    exact ⟨c, b, by omega, hb, by simp [cu_l], by simp [cu_h]⟩
theorem op_op {f : Nat} (h1 : 1 ≤ f) (h4 : f ≤ 4) : op_ (op_ f) = f := by
  have ef : f = 1 ∨ f = 2 ∨ f = 3 ∨ f = 4 := by omega
  rcases ef with rfl | rfl | rfl | rfl <;> rfl
theorem ra_N {s n : Nat} (hs : s < 2 ^ 63) (hn : n < 2 ^ 63) : ra_S (lN s) (lN n) = lN (if n ≤ s then s else n) := by
  unfold ra_S
  by_cases z : n ≤ s
  · rw [if_pos ((pk_lLE hn hs).mpr z), if_pos z]
  · rw [if_neg (by rw [pk_lLE hn hs]; exact z), if_neg z]
end
section
def oj_ (o : Int32) (f : Nat) : Prop := 1 ≤ f ∧ f ≤ 4 ∧ (o = nI (20 + f) ∨ o = nI (30 + f))
theorem oj_f {o : Int32} {f : Nat} (h : oj_ o f) : ¬ o < 20 ∧ ¬ 40 ≤ o ∧ ¬ o = 20 ∧ o - o / 10 * 10 = nI f ∧ ((rg_ o ∧ ¬ o ≤ 30 ∧ o / 10 = 3) ∨ (¬ rg_ o ∧ o ≤ 30 ∧ o / 10 = 2)) := by
  obtain ⟨h1, h4, h⟩ := h
  have e : f = 1 ∨ f = 2 ∨ f = 3 ∨ f = 4 := by omega
  unfold rg_
  rcases e with rfl | rfl | rfl | rfl <;> rcases h with rfl | rfl <;> decide
theorem oj_r {o : Int32} {f : Nat} (h : oj_ o f) : ∃ r : Int32, (r = if o ≤ 30 then 0 else 1) ∧ ((rg_ o ∧ r = 1) ∨ (¬ rg_ o ∧ r = 0)) := by
  obtain ⟨-, -, -, -, ⟨a, b, -⟩ | ⟨a, b, -⟩⟩ := oj_f h
  · exact ⟨1, by rw [if_neg b], Or.inl ⟨a, rfl⟩⟩
  · exact ⟨0, by rw [if_pos b], Or.inr ⟨a, rfl⟩⟩
/-- the goal alone -/
def YG_ (o : Int32) (d s : Nat) (off imm : Int32) (g : Nat) (K : Nat → Int32) (L H : Nat → Int64) (S : Int64) : Prop := ∀ (y_place : Int32) (y_least : Int64) (y_most : Int64) (y_smallest : Int64) (y_greatest : Int64) (y_ways : Int32) (y_fault : Int32) (y_base : Int32) (y_otherKind : Int32) (y_otherLo : Int64) (y_otherHi : Int64) (y_low : Int64) (y_high : Int64) (y_bytes : Int32) (y_steps : Int32) (y_op : Nat → Int32) (y_first : Nat → Int32) (y_second : Nat → Int32) (y_offset : Nat → Int32) (y_given : Nat → Int32) (y_length : Nat → Int32) (y_there : Nat → Int32) (y_known : Nat → Int32) (y_lo : Nat → Int64) (y_hi : Nat → Int64) (y_at : Nat → Int32) (y_lookups : Nat → Int32) (y_safe : Nat → Int32) (y_met : Nat → Int32) (y_tag : Nat → Int32) (y_word : Nat → Int64) (y_packet : Nat → Int32) (y_keys : Nat → Int64) (y_values : Nat → Int64) (y_many : Nat → Int32) (i a w : Nat) (post : SY → Prop), i < 120 → a < 40 → w < 12 → y_op i = o → y_first i = nI d → y_second i = nI s → y_offset i = off → y_given i = imm → y_at w = nI a → Fr_ K L H y_known y_lo y_hi (14 * w) (y_lookups w) → (y_safe w).toInt64 = S → vp_nar .byte (y_lookups w) = y_lookups w → (∀ (e1 : Int32) (e2 e3 e4 e5 : Int64), post (y_place, y_least, y_most, y_smallest, y_greatest, nI (w + 1), y_fault, nI (14 * w), e1, e2, e3, e4, e5, y_bytes, y_steps, y_op, y_first, y_second, y_offset, y_given, y_length, y_there, y_known, y_lo, y_hi, upd y_at w (nI (gm_ a g)), y_lookups, y_safe, y_met, y_tag, y_word, y_packet, y_keys, y_values, y_many)) → wpY_instruction post (y_place, y_least, y_most, y_smallest, y_greatest, nI (w + 1), y_fault, nI (14 * w), y_otherKind, y_otherLo, y_otherHi, y_low, y_high, y_bytes, y_steps, y_op, y_first, y_second, y_offset, y_given, y_length, y_there, y_known, y_lo, y_hi, y_at, y_lookups, y_safe, y_met, y_tag, y_word, y_packet, y_keys, y_values, y_many) (nI i) (nI a)
/-- both ways -/
def YB_ (o : Int32) (d s : Nat) (off imm : Int32) (g : Nat) (K : Nat → Int32) (L H : Nat → Int64) (S : Int64) (KG : Nat → Int32) (LG HG : Nat → Int64) (SG : Int64) (KN : Nat → Int32) (LN HN : Nat → Int64) (SN : Int64) : Prop := ∀ (y_place : Int32) (y_least : Int64) (y_most : Int64) (y_smallest : Int64) (y_greatest : Int64) (y_ways : Int32) (y_fault : Int32) (y_base : Int32) (y_otherKind : Int32) (y_otherLo : Int64) (y_otherHi : Int64) (y_low : Int64) (y_high : Int64) (y_bytes : Int32) (y_steps : Int32) (y_op : Nat → Int32) (y_first : Nat → Int32) (y_second : Nat → Int32) (y_offset : Nat → Int32) (y_given : Nat → Int32) (y_length : Nat → Int32) (y_there : Nat → Int32) (y_known : Nat → Int32) (y_lo : Nat → Int64) (y_hi : Nat → Int64) (y_at : Nat → Int32) (y_lookups : Nat → Int32) (y_safe : Nat → Int32) (y_met : Nat → Int32) (y_tag : Nat → Int32) (y_word : Nat → Int64) (y_packet : Nat → Int32) (y_keys : Nat → Int64) (y_values : Nat → Int64) (y_many : Nat → Int32) (i a w : Nat) (post : SY → Prop), i < 120 → a < 40 → w < 12 → y_op i = o → y_first i = nI d → y_second i = nI s → y_offset i = off → y_given i = imm → y_at w = nI a → Fr_ K L H y_known y_lo y_hi (14 * w) (y_lookups w) → (y_safe w).toInt64 = S → vp_nar .byte (y_lookups w) = y_lookups w → w + 1 < 12 → (∀ (e1 : Int32) (e2 e3 e4 e5 : Int64) (kn : Nat → Int32) (lo hi : Nat → Int64) (lk sf : Nat → Int32), Fr_ KG LG HG kn lo hi (14 * w) (lk w) → Fr_ KN LN HN kn lo hi (14 * (w + 1)) (lk (w + 1)) → (∀ j, j < 14 * w → kn j = y_known j ∧ lo j = y_lo j ∧ hi j = y_hi j) → (∀ j, j < w → lk j = y_lookups j ∧ sf j = y_safe j) → vp_nar .byte (lk w) = lk w → vp_nar .byte (lk (w + 1)) = lk (w + 1) → (sf w).toInt64 = SG → (sf (w + 1)).toInt64 = SN → post (y_place, y_least, y_most, y_smallest, y_greatest, nI (w + 2), y_fault, nI (14 * w), e1, e2, e3, e4, e5, y_bytes, y_steps, y_op, y_first, y_second, y_offset, y_given, y_length, y_there, kn, lo, hi, upd (upd y_at w (nI (gm_ a g))) (w + 1) (nI (a + 1)), lk, sf, y_met, y_tag, y_word, y_packet, y_keys, y_values, y_many)) → wpY_instruction post (y_place, y_least, y_most, y_smallest, y_greatest, nI (w + 1), y_fault, nI (14 * w), y_otherKind, y_otherLo, y_otherHi, y_low, y_high, y_bytes, y_steps, y_op, y_first, y_second, y_offset, y_given, y_length, y_there, y_known, y_lo, y_hi, y_at, y_lookups, y_safe, y_met, y_tag, y_word, y_packet, y_keys, y_values, y_many) (nI i) (nI a)
section
variable {o off imm : Int32} {d s f g : Nat} {K : Nat → Int32} {L H : Nat → Int64} {S : Int64}
theorem yj_out {K' : Nat → Int32} {L' H' : Nat → Int64} (h : ¬ o < 20) (h40 : ¬ 40 ≤ o) (n : ¬ 0 ≤ off) : YP_ o d s off imm K L H S 1 K' L' H' := by
  intro y_place y_least y_most y_smallest y_greatest y_ways y_fault y_base y_otherKind y_otherLo y_otherHi y_low y_high y_bytes y_steps y_op y_first y_second y_offset y_given y_length y_there y_known y_lo y_hi y_at y_lookups y_safe y_met y_tag y_word y_packet y_keys y_values y_many i a w post hi ha hw eo e1 e2 eof eg eat F eS hl hE hO
  refine yv_inJ hi eo h h40 ?_
  exact yv_jOut hi (by rw [eof]; exact n) (hE (by decide) _ _ _ _ _ _ _ _ _ _)
theorem yj_A (hg : g < 2 ^ 31) (eg' : off = nI g) : YG_ 20 d s off imm g K L H S := by
  intro y_place y_least y_most y_smallest y_greatest y_ways y_fault y_base y_otherKind y_otherLo y_otherHi y_low y_high y_bytes y_steps y_op y_first y_second y_offset y_given y_length y_there y_known y_lo y_hi y_at y_lookups y_safe y_met y_tag y_word y_packet y_keys y_values y_many i a w post hi ha hw eo e1 e2 eof eg eat F eS hl P
  refine yv_inJ hi eo (by decide) (by decide) ?_
  exact yv_jA hi (by omega) hg hw (eof.trans eg') (P _ _ _ _ _)
theorem yj_U {K' : Nat → Int32} {L' H' : Nat → Int64} (ho : oj_ o f) (hg : g < 2 ^ 31) (eg' : off = nI g) (hd : d < 8) (hs : s < 9) (W : WF_ K L H S) (n9 : nine_ o (imm.toInt64 &&& 4294967295) K L H) (u : K d = 0 ∨ K (q9_ o s) = 0) : YP_ o d s off imm K L H S 2 K' L' H' := by
  intro y_place y_least y_most y_smallest y_greatest y_ways y_fault y_base y_otherKind y_otherLo y_otherHi y_low y_high y_bytes y_steps y_op y_first y_second y_offset y_given y_length y_there y_known y_lo y_hi y_at y_lookups y_safe y_met y_tag y_word y_packet y_keys y_values y_many i a w post hi ha hw eo e1 e2 eof eg eat F eS hl hE hO
  obtain ⟨f1, f2, f3, f4, -⟩ := oj_f ho
  obtain ⟨r, er, hr⟩ := oj_r ho
  refine yv_inJ hi eo f1 f2 ?_
  refine yv_jU hi (by omega) hg (by omega) (by omega) (eof.trans eg') f3 er e1 e2 ?_ (hE (by decide) _ _ _ _ _ _ _ _ _ _)
  rcases u with u | u
  · refine Or.inl ⟨by omega, ?_⟩
    have t := F d (by omega)
    rw [g_lo hd] at t
    rw [t.1]; exact u
  · right
    rcases hr with ⟨q, rfl⟩ | ⟨q, rfl⟩
    · rw [q9_t q] at u
      exact ⟨by decide, (yp_un hs W F).mp u⟩
    · rw [q9_f q, (n9 q).1] at u; exact absurd u (by decide)
theorem yj_K {K' : Nat → Int32} {L' H' : Nat → Int64} (ho : oj_ o f) (hg : g < 2 ^ 31) (eg' : off = nI g) (hd : d < 8) (hs : s < 9) (W : WF_ K L H S) (n9 : nine_ o (imm.toInt64 &&& 4294967295) K L H) (u1 : ¬ K d = 0) (u2 : ¬ K (q9_ o s) = 0) (c : ¬ cm_ f (K d) (K (q9_ o s)) (H (q9_ o s))) : YP_ o d s off imm K L H S 3 K' L' H' := by
  intro y_place y_least y_most y_smallest y_greatest y_ways y_fault y_base y_otherKind y_otherLo y_otherHi y_low y_high y_bytes y_steps y_op y_first y_second y_offset y_given y_length y_there y_known y_lo y_hi y_at y_lookups y_safe y_met y_tag y_word y_packet y_keys y_values y_many i a w post hi ha hw eo e1 e2 eof eg eat F eS hl hE hO
  obtain ⟨f1, f2, f3, f4, -⟩ := oj_f ho
  obtain ⟨r, er, hr⟩ := oj_r ho
  obtain ⟨k2, l2, h2, t2, OP⟩ := yo_ex (B := 14 * w) hi (by omega) hs e2 eg F W.2.1 W.2.2.1 n9 hr
  obtain ⟨m1, m2⟩ := yp_m (f := 1) hd hs W F hr (Or.inr u1) u2
  have td := F d (by omega)
  rw [g_lo hd] at td
  have m1' : d = 8 ∨ ¬ y_known (14 * w + d) = 0 := by rcases m1 with q | q; exact absurd q (by decide); exact q
  refine yv_inJ hi eo f1 f2 ?_
  refine yv_jG hi (by omega) hg (by omega) (by omega) (eof.trans eg') f3 f4 er e1 e2 m1' m2 OP (fun a1 a2 => ?_) (fun nn => ?_)
  · exact absurd (Or.inl ⟨td.1.symm.trans a1, t2.1.symm.trans a2⟩) c
  · refine yv_j182K ho.1 ho.2.1 ?_ ?_ ?_ (hE (by decide) _ _ _ _ _ _ _ _ _ _)
    · rintro ⟨z1, z2, z3, z4⟩
      refine c (Or.inr (Or.inl ⟨td.1.symm.trans z1, z2, t2.1.symm.trans z3, ?_⟩))
      rw [← (t2.2.1 (Or.inl (t2.1.symm.trans z3))).2]; exact z4
    · rintro ⟨z1, z2, z3⟩
      exact c (Or.inr (Or.inr (Or.inl ⟨td.1.symm.trans z1, z2, t2.1.symm.trans z3⟩)))
    · rintro ⟨z1, z2, z3⟩
      exact c (Or.inr (Or.inr (Or.inr ⟨td.1.symm.trans z1, z2, t2.1.symm.trans z3⟩)))
/-- two SCALARs: into wpY_scalars -/
theorem yj_S {y_place : Int32} {y_least : Int64} {y_most : Int64} {y_smallest : Int64} {y_greatest : Int64} {y_ways : Int32} {y_fault : Int32} {y_base : Int32} {y_otherKind : Int32} {y_otherLo : Int64} {y_otherHi : Int64} {y_low : Int64} {y_high : Int64} {y_bytes : Int32} {y_steps : Int32} {y_op : Nat → Int32} {y_first : Nat → Int32} {y_second : Nat → Int32} {y_offset : Nat → Int32} {y_given : Nat → Int32} {y_length : Nat → Int32} {y_there : Nat → Int32} {y_known : Nat → Int32} {y_lo : Nat → Int64} {y_hi : Nat → Int64} {y_at : Nat → Int32} {y_lookups : Nat → Int32} {y_safe : Nat → Int32} {y_met : Nat → Int32} {y_tag : Nat → Int32} {y_word : Nat → Int64} {y_packet : Nat → Int32} {y_keys : Nat → Int64} {y_values : Nat → Int64} {y_many : Nat → Int32} {i a w : Nat} {post : SY → Prop} {p b c e : Nat} (hi : i < 120) (ha : a < 40) (hw : w < 12) (eo : y_op i = o) (e1 : y_first i = nI d) (e2 : y_second i = nI s) (eof : y_offset i = off) (eg : y_given i = imm) (F : Fr_ K L H y_known y_lo y_hi (14 * w) (y_lookups w)) (ho : oj_ o f) (hg : g < 2 ^ 31) (eg' : off = nI g) (hd : d < 8) (hs : s < 9) (W : WF_ K L H S) (n9 : nine_ o (imm.toInt64 &&& 4294967295) K L H) (k1 : K d = 1) (k2 : K (q9_ o s) = 1) (ep : L d = lN p) (eb : H d = lN b) (ec : L (q9_ o s) = lN c) (ee : H (q9_ o s) = lN e) (G : y_lo (14 * w + d) = lN p → y_hi (14 * w + d) = lN b → wpY_scalars post (y_place, y_least, y_most, y_smallest, y_greatest, nI (w + 1), y_fault, nI (14 * w), 1, lN c, lN e, y_low, y_high, y_bytes, y_steps, y_op, y_first, y_second, y_offset, y_given, y_length, y_there, y_known, y_lo, y_hi, y_at, y_lookups, y_safe, y_met, y_tag, y_word, y_packet, y_keys, y_values, y_many) (nI d) (nI f) (nI (gm_ a g)) (nI (a + 1))) : wpY_instruction post (y_place, y_least, y_most, y_smallest, y_greatest, nI (w + 1), y_fault, nI (14 * w), y_otherKind, y_otherLo, y_otherHi, y_low, y_high, y_bytes, y_steps, y_op, y_first, y_second, y_offset, y_given, y_length, y_there, y_known, y_lo, y_hi, y_at, y_lookups, y_safe, y_met, y_tag, y_word, y_packet, y_keys, y_values, y_many) (nI i) (nI a) := by
  obtain ⟨f1, f2, f3, f4, -⟩ := oj_f ho
  obtain ⟨r, er, hr⟩ := oj_r ho
  obtain ⟨c2, l2, h2, t2, OP⟩ := yo_ex (y_ways := nI (w + 1)) (B := 14 * w) hi (by omega) hs e2 eg F W.2.1 W.2.2.1 n9 hr
  obtain ⟨m1, m2⟩ := yp_m (f := 1) hd hs W F hr (Or.inr (by rw [k1]; decide)) (by rw [k2]; decide)
  have td := F d (by omega)
  rw [g_lo hd] at td
  have m1' : d = 8 ∨ ¬ y_known (14 * w + d) = 0 := by rcases m1 with q | q; exact absurd q (by decide); exact q
  have ek := t2.1.trans k2
  obtain ⟨tl, th⟩ := t2.2.1 (Or.inl k2)
  obtain ⟨ul, uh⟩ := td.2.1 (Or.inl k1)
  rw [ec] at tl
  rw [ee] at th
  subst ek tl th
  refine yv_inJ hi eo f1 f2 ?_
  refine yv_jG hi (by omega) hg (by omega) (by omega) (eof.trans eg') f3 f4 er e1 e2 m1' m2 OP (fun _ _ => G (ul.trans ep) (uh.trans eb)) (fun nn => absurd ⟨td.1.trans k1, rfl⟩ nn)
end
end
section
section
variable {o off imm : Int32} {d s f g : Nat} {K : Nat → Int32} {L H : Nat → Int64} {S : Int64}
theorem yj_SG (ho : oj_ o f) (hg : g < 2 ^ 31) (eg' : off = nI g) (hd : d < 8) (hs : s < 9) (W : WF_ K L H S) (n9 : nine_ o (imm.toInt64 &&& 4294967295) K L H) (k1 : K d = 1) (k2 : K (q9_ o s) = 1) (m : ¬ my_ (op_ f) d (q9_ o s) K L H) : YG_ o d s off imm g K L H S := by
  intro y_place y_least y_most y_smallest y_greatest y_ways y_fault y_base y_otherKind y_otherLo y_otherHi y_low y_high y_bytes y_steps y_op y_first y_second y_offset y_given y_length y_there y_known y_lo y_hi y_at y_lookups y_safe y_met y_tag y_word y_packet y_keys y_values y_many i a w post hi ha hw eo e1 e2 eof eg eat F eS hl P
  obtain ⟨p, b, pb, hb, ep, eb⟩ := (W.1 d (by omega)).2.1 k1
  obtain ⟨c, e, ce, he, ec, ee⟩ := (W.1 _ (q9_16 hs)).2.1 k2
  have m' : ¬ mN_ (op_ f) p b c e := by
    intro z; apply m; intro _
    rw [ep, eb, ec, ee]; exact (mh_N pb hb ce he).mpr z
  have y' := mN_op ho.1 ho.2.1 pb ce m'
  obtain ⟨o1, o4⟩ := op_r ho.1 ho.2.1
  refine yj_S (y_base := y_base) (y_ways := y_ways) hi ha hw eo e1 e2 eof eg F ho hg eg' hd hs W n9 k1 k2 ep eb ec ee (fun ul uh => ?_)
  have g40 : gm_ a g ≤ 40 := by unfold gm_; split <;> omega
  refine yv_scG hw (by omega) (by omega) ho.1 ho.2.1 ?_ ?_ (fun q => ?_) (P _ _ _ _ _)
  · rw [ul, uh]; exact (mh_yg ho.1 ho.2.1 pb hb ce he).mpr ((mh_N pb hb ce he).mpr y')
  · rw [ul, uh]; exact fun z => m' ((mh_N pb hb ce he).mp ((mh_yg o1 o4 pb hb ce he).mp z))
  · rw [ul, uh]
    have q' := (pk_lEQ (by omega) (by omega)).mp q
    subst q'
    exact yc_no ho.1 ho.2.1 pb hb he y' m'
theorem yj_SN (ho : oj_ o f) (hg : g < 2 ^ 31) (eg' : off = nI g) (hd : d < 8) (hs : s < 9) (W : WF_ K L H S) (n9 : nine_ o (imm.toInt64 &&& 4294967295) K L H) (k1 : K d = 1) (k2 : K (q9_ o s) = 1) (m : my_ (op_ f) d (q9_ o s) K L H) (m2 : ¬ my_ f d (q9_ o s) K L H) : YP_ o d s off imm K L H S 0 K L H := by
  intro y_place y_least y_most y_smallest y_greatest y_ways y_fault y_base y_otherKind y_otherLo y_otherHi y_low y_high y_bytes y_steps y_op y_first y_second y_offset y_given y_length y_there y_known y_lo y_hi y_at y_lookups y_safe y_met y_tag y_word y_packet y_keys y_values y_many i a w post hi ha hw eo e1 e2 eof eg eat F eS hl hE hO
  obtain ⟨p, b, pb, hb, ep, eb⟩ := (W.1 d (by omega)).2.1 k1
  obtain ⟨c, e, ce, he, ec, ee⟩ := (W.1 _ (q9_16 hs)).2.1 k2
  have y' : mN_ (op_ f) p b c e := by
    have := m k1
    rw [ep, eb, ec, ee] at this; exact (mh_N pb hb ce he).mp this
  have m' : ¬ mN_ f p b c e := by
    intro z; apply m2; intro _
    rw [ep, eb, ec, ee]; exact (mh_N pb hb ce he).mpr z
  obtain ⟨o1, o4⟩ := op_r ho.1 ho.2.1
  refine yj_S (y_base := y_base) (y_ways := y_ways) hi ha hw eo e1 e2 eof eg F ho hg eg' hd hs W n9 k1 k2 ep eb ec ee (fun ul uh => ?_)
  refine yv_scS hw (by omega) (by omega) ho.1 ho.2.1 ?_ ?_ (fun q => ?_) (hO rfl _ _ _ _ _ _ _ _ _ F (fun j hj => ⟨rfl, rfl, rfl⟩) (fun _ _ => rfl) hl)
  · rw [ul, uh]; exact fun z => m' ((mh_N pb hb ce he).mp ((mh_yg ho.1 ho.2.1 pb hb ce he).mp z))
  · rw [ul, uh]; exact (mh_yg o1 o4 pb hb ce he).mpr ((mh_N pb hb ce he).mpr y')
  · rw [ul, uh]
    have q' := (pk_lEQ (by omega) (by omega)).mp q
    subst q'
    exact yc_no o1 o4 pb hb he y' (by rw [op_op ho.1 ho.2.1]; exact m')
/-- the frame that fork makes -/
theorem Fr_fk {kn : Nat → Int32} {lo hi : Nat → Int64} {B : Nat} {m : Int32} (F : Fr_ K L H kn lo hi B m) : Fr_ K L H (fk_ kn B 14) (fk_ lo B 14) (fk_ hi B 14) (B + 14) m := by
  intro r hr
  rw [fk_hi kn hr, fk_hi lo hr, fk_hi hi hr]; exact F r hr
theorem Fr_fl {kn : Nat → Int32} {lo hi : Nat → Int64} {B : Nat} {m : Int32} (F : Fr_ K L H kn lo hi B m) : Fr_ K L H (fk_ kn B 14) (fk_ lo B 14) (fk_ hi B 14) B m := by
  intro r hr
  rw [fk_lo kn (by omega), fk_lo lo (by omega), fk_lo hi (by omega)]; exact F r hr
theorem Fr_k7 {kn : Nat → Int32} {lo hi : Nat → Int64} {B : Nat} {m : Int32} (W : WF_ K L H S) (F : Fr_ K L H kn lo hi B m) : ∀ r, r < 14 → k7_ (kn (B + r)) := by
  intro r hr
  rw [(F r hr).1]; exact (W.1 _ (g_16 hr)).1
theorem sf_n {x : Int32} {n : Nat} (h : x.toInt64 = lN n) (hn : n ≤ 256) : x = nI n := by
  have : x.toInt = (n : Int) := by
    have e := congrArg Int64.toInt h
    rw [Int32.toInt_toInt64, pk_lT (by omega)] at e; exact e
  apply Int32.toInt_inj.mp
  rw [this, nI_toInt (by omega)]
theorem yj_SB (ho : oj_ o f) (hg : g < 2 ^ 31) (eg' : off = nI g) (hd : d < 8) (hs : s < 9) (W : WF_ K L H S) (n9 : nine_ o (imm.toInt64 &&& 4294967295) K L H) (k1 : K d = 1) (k2 : K (q9_ o s) = 1) (m : my_ (op_ f) d (q9_ o s) K L H) (m2 : my_ f d (q9_ o s) K L H) {q : Nat} (eq : q = q9_ o s) : YB_ o d s off imm g K L H S (ln_K f d K) (ln_L f d q K L H) (ln_H f d q K L H) (ln_S f d q K L S) (ln_K (op_ f) d K) (ln_L (op_ f) d q K L H) (ln_H (op_ f) d q K L H) (ln_S (op_ f) d q K L S) := by
  subst eq
  intro y_place y_least y_most y_smallest y_greatest y_ways y_fault y_base y_otherKind y_otherLo y_otherHi y_low y_high y_bytes y_steps y_op y_first y_second y_offset y_given y_length y_there y_known y_lo y_hi y_at y_lookups y_safe y_met y_tag y_word y_packet y_keys y_values y_many i a w post hi ha hw eo e1 e2 eof eg eat F eS hl w12 P
  obtain ⟨p, b, pb, hb, ep, eb⟩ := (W.1 d (by omega)).2.1 k1
  obtain ⟨c, e, ce, he, ec, ee⟩ := (W.1 _ (q9_16 hs)).2.1 k2
  have y1 : mN_ (op_ f) p b c e := by
    have := m k1
    rw [ep, eb, ec, ee] at this; exact (mh_N pb hb ce he).mp this
  have y2 : mN_ f p b c e := by
    have := m2 k1
    rw [ep, eb, ec, ee] at this; exact (mh_N pb hb ce he).mp this
  obtain ⟨o1, o4⟩ := op_r ho.1 ho.2.1
  obtain ⟨sn, hsn, eSn⟩ := W.2.2.2.2
  have sfw := sf_n (eS.trans eSn) hsn
  have g40 : gm_ a g ≤ 40 := by unfold gm_; split <;> omega
  have lK : ∀ f', ln_K f' d K = K := by intro f'; unfold ln_K; rw [if_neg (by rw [k1]; decide)]
  have lS : ∀ f', ln_S f' d (q9_ o s) K L S = S := by intro f'; unfold ln_S; rw [k1, if_neg (by simp), if_neg (by simp)]
  refine yj_S (y_base := y_base) (y_ways := y_ways) hi ha hw eo e1 e2 eof eg F ho hg eg' hd hs W n9 k1 k2 ep eb ec ee (fun ul uh => ?_)
  refine yv_scB w12 (by omega) (by omega) (by omega) ho.1 ho.2.1 (Fr_k7 W F) (by rw [sfw]; exact xb_vs (by omega)) hl ?_ ?_ rfl rfl ?_
  · rw [ul, uh]; exact (mh_yg ho.1 ho.2.1 pb hb ce he).mpr ((mh_N pb hb ce he).mpr y2)
  · rw [ul, uh]; exact (mh_yg o1 o4 pb hb ce he).mpr ((mh_N pb hb ce he).mpr y1)
  · have sfE : (upd y_safe (w + 1) (y_safe w) w).toInt64 = S := by rw [pk_un (by omega)]; exact eS
    have sfE1 : (upd y_safe (w + 1) (y_safe w) (w + 1)).toInt64 = S := by rw [pk_us]; exact eS
    refine P _ _ _ _ _ _ _ _ _ _ ?_ ?_ ?_ (fun j hj => ⟨pk_un (by omega), pk_un (by omega)⟩) ?_ ?_ (by rw [lS]; exact sfE) (by rw [lS]; exact sfE1)
    · rw [lK, pk_un (f := y_lookups) (show ¬ w = w + 1 by omega)]
      by_cases z : lN c = lN e
      · have z' := (pk_lEQ (by omega) (by omega)).mp z
        subst z'
        have q1 : K d = 1 ∧ L (q9_ o s) = H (q9_ o s) := ⟨k1, by rw [ec, ee]⟩
        unfold ln_L ln_H
        rw [if_pos q1, if_pos q1, if_pos z, if_pos z, ul, uh, ep, eb, ec]
        obtain ⟨x1, x2⟩ := yc_cu ho.1 ho.2.1 pb hb he y2 y1
        rw [x1, x2]
        have G := Fr_upd (r := d) (Fr_fl F) (T_1 (l := cu_l f (lN c) (lN p) (lN b)) (h := cu_h f (lN c) (lN p) (lN b)))
        rw [g_lo hd, xb_updid k1, xb_updid (f := fk_ y_known (14 * w) 14)] at G
        · intro r hr
          have t := G r hr
          rw [pk_uLn (k := 14 * w + 14 + d) (by omega), pk_uLn (k := 14 * w + 14 + d) (by omega)]
          exact t
        · rw [fk_lo _ (by omega)]
          have td := F d (by omega)
          rw [g_lo hd] at td
          exact td.1.trans k1
      · have q1 : ¬ (K d = 1 ∧ L (q9_ o s) = H (q9_ o s)) := by rintro ⟨-, z'⟩; rw [ec, ee] at z'; exact z z'
        unfold ln_L ln_H
        rw [if_neg q1, if_neg q1, if_neg z, if_neg z]
        exact Fr_fl F
    · rw [lK, pk_us (f := y_lookups), show 14 * (w + 1) = 14 * w + 14 from by omega]
      by_cases z : lN c = lN e
      · have z' := (pk_lEQ (by omega) (by omega)).mp z
        subst z'
        have q1 : K d = 1 ∧ L (q9_ o s) = H (q9_ o s) := ⟨k1, by rw [ec, ee]⟩
        unfold ln_L ln_H
        rw [if_pos q1, if_pos q1, if_pos z, if_pos z, ul, uh, ep, eb, ec]
        obtain ⟨x1, x2⟩ := yc_cu o1 o4 pb hb he y1 (by rw [op_op ho.1 ho.2.1]; exact y2)
        rw [x1, x2]
        have F2 : Fr_ K L H (fk_ y_known (14 * w) 14) (vp_updL (fk_ y_lo (14 * w) 14) (14 * w + d) (yc_l f (lN c) (lN p) (lN b))) (vp_updL (fk_ y_hi (14 * w) 14) (14 * w + d) (yc_h f (lN c) (lN p) (lN b))) (14 * w + 14) (y_lookups w) := by
          intro r hr
          rw [pk_uLn (by omega), pk_uLn (by omega)]
          exact Fr_fk F r hr
        have G := Fr_upd (r := d) F2 (T_1 (l := cu_l (op_ f) (lN c) (lN p) (lN b)) (h := cu_h (op_ f) (lN c) (lN p) (lN b)))
        rw [g_lo hd, xb_updid k1, xb_updid (f := fk_ y_known (14 * w) 14)] at G
        · exact G
        · rw [fk_hi _ (by omega)]
          have td := F d (by omega)
          rw [g_lo hd] at td
          exact td.1.trans k1
      · have q1 : ¬ (K d = 1 ∧ L (q9_ o s) = H (q9_ o s)) := by rintro ⟨-, z'⟩; rw [ec, ee] at z'; exact z z'
        unfold ln_L ln_H
        rw [if_neg q1, if_neg q1, if_neg z, if_neg z]
        exact Fr_fk F
    · intro j hj
      refine ⟨fk_lo _ (by omega), ?_, ?_⟩
      · split
        · rw [pk_uLn (by omega), pk_uLn (by omega)]; exact fk_lo _ (by omega)
        · exact fk_lo _ (by omega)
      · split
        · rw [pk_uLn (by omega), pk_uLn (by omega)]; exact fk_lo _ (by omega)
        · exact fk_lo _ (by omega)
    · rw [pk_un (by omega)]; exact hl
    · rw [pk_us]; exact hl
end
end
section
theorem mbK_Z {kn : Nat → Int32} {Z N r : Nat} (hr : r < 14) : mbK kn Z N 14 (Z + r) = if kn (Z + r) = 6 then 1 else (if N ≤ Z + r ∧ Z + r < N + 14 ∧ kn (Z + r) = 6 then 5 else kn (Z + r)) := by
  unfold mbK
  by_cases k : kn (Z + r) = 6
  · rw [if_pos k, if_pos ⟨by omega, by omega, k⟩]
  · rw [if_neg k, if_neg (fun z => k z.2.2)]
theorem mbK_N {kn : Nat → Int32} {Z N r : Nat} (h : N = Z + 14 ∨ Z = N + 14) (hr : r < 14) : mbK kn Z N 14 (N + r) = if kn (N + r) = 6 then 5 else kn (N + r) := by
  unfold mbK
  rw [if_neg (by omega)]
  by_cases k : kn (N + r) = 6
  · rw [if_pos k, if_pos ⟨by omega, by omega, k⟩]
  · rw [if_neg k, if_neg (fun z => k z.2.2)]
theorem mbL_C {kn : Nat → Int32} {o : Nat → Int64} {Z N C r : Nat} (h : C = Z ∨ C = N) (hr : r < 14) : mbL kn o Z N 14 (C + r) = if kn (C + r) = 6 then 0 else o (C + r) := by
  unfold mbL
  by_cases k : kn (C + r) = 6
  · rw [if_pos k, if_pos ⟨by omega, k⟩]
  · rw [if_neg k, if_neg (fun z => k z.2)]
section
variable {o off imm : Int32} {d s f g : Nat} {K : Nat → Int32} {L H : Nat → Int64} {S : Int64}
theorem Fr_mb {kn : Nat → Int32} {lo hi : Nat → Int64} {Z N C : Nat} {m v : Int32} (W : WF_ K L H S) (F : Fr_ K L H kn lo hi C m) (h : N = Z + 14 ∨ Z = N + 14) (hc : (C = Z ∧ v = 1) ∨ (C = N ∧ v = 5)) : Fr_ (se_K K v 16) L H (mbK kn Z N 14) (mbL kn lo Z N 14) (mbL kn hi Z N 14) C m := by
  intro r hr
  have t := F r hr
  have g16 := g_16 hr
  have eK : mbK kn Z N 14 (C + r) = if K (g_ r) = 6 then v else kn (C + r) := by
    rcases hc with ⟨rfl, rfl⟩ | ⟨rfl, rfl⟩
    · rw [mbK_Z hr, t.1]
      by_cases k : K (g_ r) = 6
      · rw [if_pos k, if_pos k]
      · rw [if_neg k, if_neg k, if_neg (fun z => k z.2.2)]
    · rw [mbK_N h hr, t.1]
  have cz : C = Z ∨ C = N := by rcases hc with z | z; exact Or.inl z.1; exact Or.inr z.1
  rw [eK, mbL_C cz hr, mbL_C cz hr, t.1]
  by_cases k : K (g_ r) = 6
  · have es : se_K K v 16 (g_ r) = v := by unfold se_K; rw [if_pos ⟨g16, k⟩]
    obtain ⟨l0, h0⟩ := (W.1 _ g16).2.2.2 k
    rw [es, l0, h0, if_pos k, if_pos k, if_pos k]
    rcases hc with ⟨-, rfl⟩ | ⟨-, rfl⟩
    · exact T_1
    · exact T_45 (Or.inr rfl)
  · have es : se_K K v 16 (g_ r) = K (g_ r) := by unfold se_K; rw [if_neg (fun z => k z.2)]
    rw [es, if_neg k, if_neg k, if_neg k, ← t.1]
    rw [t.1]
    exact ⟨rfl, t.2⟩
theorem yj_op {y_place : Int32} {y_least : Int64} {y_most : Int64} {y_smallest : Int64} {y_greatest : Int64} {y_ways : Int32} {y_fault : Int32} {y_base : Int32} {y_otherKind : Int32} {y_otherLo : Int64} {y_otherHi : Int64} {y_low : Int64} {y_high : Int64} {y_bytes : Int32} {y_steps : Int32} {y_op : Nat → Int32} {y_first : Nat → Int32} {y_second : Nat → Int32} {y_offset : Nat → Int32} {y_given : Nat → Int32} {y_length : Nat → Int32} {y_there : Nat → Int32} {y_known : Nat → Int32} {y_lo : Nat → Int64} {y_hi : Nat → Int64} {y_at : Nat → Int32} {y_lookups : Nat → Int32} {y_safe : Nat → Int32} {y_met : Nat → Int32} {y_tag : Nat → Int32} {y_word : Nat → Int64} {y_packet : Nat → Int32} {y_keys : Nat → Int64} {y_values : Nat → Int64} {y_many : Nat → Int32} {i a w : Nat} {post : SY → Prop} (hi : i < 120) (ha : a < 40) (hw : w < 12) (eo : y_op i = o) (e1 : y_first i = nI d) (e2 : y_second i = nI s) (eof : y_offset i = off) (eg : y_given i = imm) (F : Fr_ K L H y_known y_lo y_hi (14 * w) (y_lookups w)) (ho : oj_ o f) (hg : g < 2 ^ 31) (eg' : off = nI g) (hd : d < 8) (hs : s < 9) (W : WF_ K L H S) (n9 : nine_ o (imm.toInt64 &&& 4294967295) K L H) (u1 : ¬ K d = 0) (u2 : ¬ K (q9_ o s) = 0) (k1 : ¬ K d = 1) (G : ∀ k2 l2 h2, T_ (K (q9_ o s)) (L (q9_ o s)) (H (q9_ o s)) k2 l2 h2 (y_lookups w) → wY_jump_182 post (nI a) (nI (gm_ a g)) (nI d) (K d) (nI f) y_place y_least y_most y_smallest y_greatest (nI (w + 1)) y_fault (nI (14 * w)) k2 l2 h2 y_low y_high y_bytes y_steps y_op y_first y_second y_offset y_given y_length y_there y_known y_lo y_hi y_at y_lookups y_safe y_met y_tag y_word y_packet y_keys y_values y_many) : wpY_instruction post (y_place, y_least, y_most, y_smallest, y_greatest, nI (w + 1), y_fault, nI (14 * w), y_otherKind, y_otherLo, y_otherHi, y_low, y_high, y_bytes, y_steps, y_op, y_first, y_second, y_offset, y_given, y_length, y_there, y_known, y_lo, y_hi, y_at, y_lookups, y_safe, y_met, y_tag, y_word, y_packet, y_keys, y_values, y_many) (nI i) (nI a) := by
  obtain ⟨f1, f2, f3, f4, -⟩ := oj_f ho
  obtain ⟨r, er, hr⟩ := oj_r ho
  obtain ⟨c2, l2, h2, t2, OP⟩ := yo_ex (y_ways := nI (w + 1)) (B := 14 * w) hi (by omega) hs e2 eg F W.2.1 W.2.2.1 n9 hr
  obtain ⟨m1, m2⟩ := yp_m (f := 1) hd hs W F hr (Or.inr u1) u2
  have td := F d (by omega)
  rw [g_lo hd] at td
  have m1' : d = 8 ∨ ¬ y_known (14 * w + d) = 0 := by rcases m1 with q | q; exact absurd q (by decide); exact q
  refine yv_inJ hi eo f1 f2 ?_
  refine yv_jG hi (by omega) hg (by omega) (by omega) (eof.trans eg') f3 f4 er e1 e2 m1' m2 OP (fun a1 _ => absurd (td.1.symm.trans a1) k1) (fun _ => ?_)
  rw [td.1]
  exact G _ _ _ t2
theorem yj_MB (ho : oj_ o f) (hg : g < 2 ^ 31) (eg' : off = nI g) (hd : d < 8) (hs : s < 9) (W : WF_ K L H S) (n9 : nine_ o (imm.toInt64 &&& 4294967295) K L H) (k1 : K d = 6) (f2 : f ≤ 2) (k2 : K (q9_ o s) = 1) (h0 : H (q9_ o s) = 0) {q : Nat} (eq : q = q9_ o s) : YB_ o d s off imm g K L H S (ln_K f d K) (ln_L f d q K L H) (ln_H f d q K L H) (ln_S f d q K L S) (ln_K (op_ f) d K) (ln_L (op_ f) d q K L H) (ln_H (op_ f) d q K L H) (ln_S (op_ f) d q K L S) := by
  subst eq
  intro y_place y_least y_most y_smallest y_greatest y_ways y_fault y_base y_otherKind y_otherLo y_otherHi y_low y_high y_bytes y_steps y_op y_first y_second y_offset y_given y_length y_there y_known y_lo y_hi y_at y_lookups y_safe y_met y_tag y_word y_packet y_keys y_values y_many i a w post hi ha hw eo e1 e2 eof eg eat F eS hl w12 P
  obtain ⟨sn, hsn, eSn⟩ := W.2.2.2.2
  have sfw := sf_n (eS.trans eSn) hsn
  have g40 : gm_ a g ≤ 40 := by unfold gm_; split <;> omega
  have lK : ∀ f', ln_K f' d K = se_K K (if f' = 1 then 1 else 5) 16 := by intro f'; unfold ln_K; rw [if_pos k1]
  have lL : ∀ f', ln_L f' d (q9_ o s) K L H = L := by intro f'; unfold ln_L; rw [if_neg (by rw [k1]; simp)]
  have lH : ∀ f', ln_H f' d (q9_ o s) K L H = H := by intro f'; unfold ln_H; rw [if_neg (by rw [k1]; simp)]
  have lS : ∀ f', ln_S f' d (q9_ o s) K L S = S := by intro f'; unfold ln_S; rw [k1, if_neg (by simp), if_neg (by simp)]
  refine yj_op (y_base := y_base) (y_ways := y_ways) hi ha hw eo e1 e2 eof eg F ho hg eg' hd hs W n9 (by rw [k1]; decide) (by rw [k2]; decide) (by rw [k1]; decide) (fun c2 l2 h2 t2 => ?_)
  rw [k1]
  have td := F d (by omega)
  rw [g_lo hd] at td
  refine yv_j182M (by omega) ho.1 f2 (t2.1.trans k2) ((t2.2.1 (Or.inl k2)).2.trans h0) ?_
  have el : (y_lo (14 * w + d)).toInt32 = y_lookups w := by rw [td.2.2.2 k1]; exact Int32.toInt32_toInt64 _
  rw [el]
  refine yv_maybe w12 (by omega) (by omega) (by omega) (Fr_k7 W F) (by rw [sfw]; exact xb_vs (by omega)) hl (fun r hr k => ?_) rfl rfl ?_
  · have t := F r hr
    exact t.2.2.2 (t.1.symm.trans k)
  · have h14 : (if f = 1 then 14 * w + 14 else 14 * w) = (if f = 1 then 14 * w else 14 * w + 14) + 14 ∨ (if f = 1 then 14 * w else 14 * w + 14) = (if f = 1 then 14 * w + 14 else 14 * w) + 14 := by split <;> omega
    have sfE : (upd y_safe (w + 1) (y_safe w) w).toInt64 = S := by rw [pk_un (by omega)]; exact eS
    have sfE1 : (upd y_safe (w + 1) (y_safe w) (w + 1)).toInt64 = S := by rw [pk_us]; exact eS
    refine P _ _ _ _ _ _ _ _ _ _ ?_ ?_ ?_ (fun j hj => ⟨pk_un (by omega), pk_un (by omega)⟩) ?_ ?_ (by rw [lS]; exact sfE) (by rw [lS]; exact sfE1)
    · rw [lK, lL, lH, pk_un (f := y_lookups) (show ¬ w = w + 1 by omega)]
      refine Fr_mb W (Fr_fl F) h14 ?_
      by_cases z : f = 1
      · simp only [z, if_true]; exact Or.inl ⟨by trivial, by trivial⟩
      · simp only [z, if_false]; exact Or.inr ⟨by trivial, by trivial⟩
    · rw [lK, lL, lH, pk_us (f := y_lookups), show 14 * (w + 1) = 14 * w + 14 from by omega]
      refine Fr_mb W (Fr_fk F) h14 ?_
      have ef : f = 1 ∨ f = 2 := by have := ho.1; omega
      rcases ef with rfl | rfl
      · exact Or.inr ⟨rfl, rfl⟩
      · exact Or.inl ⟨rfl, rfl⟩
    · intro j hj
      have nz : ¬ ((if f = 1 then 14 * w else 14 * w + 14) ≤ j) := by split <;> omega
      have nn : ¬ ((if f = 1 then 14 * w + 14 else 14 * w) ≤ j) := by split <;> omega
      refine ⟨?_, ?_, ?_⟩
      · unfold mbK; rw [if_neg (fun z => nz z.1), if_neg (fun z => nn z.1)]; exact fk_lo _ (by omega)
      · unfold mbL; rw [if_neg (by rintro ⟨z | z, -⟩; exact nz z.1; exact nn z.1)]; exact fk_lo _ (by omega)
      · unfold mbL; rw [if_neg (by rintro ⟨z | z, -⟩; exact nz z.1; exact nn z.1)]; exact fk_lo _ (by omega)
    · rw [pk_un (by omega)]; exact hl
    · rw [pk_us]; exact hl
/-- both ways, and one of them is told that n bytes are safe -/
theorem yj_bd {y_place : Int32} {y_least : Int64} {y_most : Int64} {y_smallest : Int64} {y_greatest : Int64} {y_ways : Int32} {y_fault : Int32} {y_base : Int32} {y_otherKind : Int32} {y_otherLo : Int64} {y_otherHi : Int64} {y_low : Int64} {y_high : Int64} {y_bytes : Int32} {y_steps : Int32} {y_op : Nat → Int32} {y_first : Nat → Int32} {y_second : Nat → Int32} {y_offset : Nat → Int32} {y_given : Nat → Int32} {y_length : Nat → Int32} {y_there : Nat → Int32} {y_known : Nat → Int32} {y_lo : Nat → Int64} {y_hi : Nat → Int64} {y_at : Nat → Int32} {y_lookups : Nat → Int32} {y_safe : Nat → Int32} {y_met : Nat → Int32} {y_tag : Nat → Int32} {y_word : Nat → Int64} {y_packet : Nat → Int32} {y_keys : Nat → Int64} {y_values : Nat → Int64} {y_many : Nat → Int32} {a w n sn V : Nat} {at0 : Int32} {post : SY → Prop} {SG SN : Int64} (ha : a < 40) (w12 : w + 1 < 12) (hn : n ≤ 256) (hsn : sn ≤ 256) (es : y_safe w = nI sn) (hl : vp_nar .byte (y_lookups w) = y_lookups w) (W : WF_ K L H S) (F : Fr_ K L H y_known y_lo y_hi (14 * w) (y_lookups w)) (eV : V = if at0 = 0 then w + 1 else w) (eG : SG = if at0 = 0 then lN sn else ra_S (lN sn) (lN n)) (eN : SN = if at0 = 0 then ra_S (lN sn) (lN n) else lN sn) (P : (∀ (e1 : Int32) (e2 e3 e4 e5 : Int64) (kn : Nat → Int32) (lo hi : Nat → Int64) (lk sf : Nat → Int32), Fr_ K L H kn lo hi (14 * w) (lk w) → Fr_ K L H kn lo hi (14 * (w + 1)) (lk (w + 1)) → (∀ j, j < 14 * w → kn j = y_known j ∧ lo j = y_lo j ∧ hi j = y_hi j) → (∀ j, j < w → lk j = y_lookups j ∧ sf j = y_safe j) → vp_nar .byte (lk w) = lk w → vp_nar .byte (lk (w + 1)) = lk (w + 1) → (sf w).toInt64 = SG → (sf (w + 1)).toInt64 = SN → post (y_place, y_least, y_most, y_smallest, y_greatest, nI (w + 2), y_fault, nI (14 * w), e1, e2, e3, e4, e5, y_bytes, y_steps, y_op, y_first, y_second, y_offset, y_given, y_length, y_there, kn, lo, hi, upd (upd y_at w (nI (gm_ a g))) (w + 1) (nI (a + 1)), lk, sf, y_met, y_tag, y_word, y_packet, y_keys, y_values, y_many))) : wpY_bounds post (y_place, y_least, y_most, y_smallest, y_greatest, nI (w + 1), y_fault, nI (14 * w), y_otherKind, y_otherLo, y_otherHi, y_low, y_high, y_bytes, y_steps, y_op, y_first, y_second, y_offset, y_given, y_length, y_there, y_known, y_lo, y_hi, y_at, y_lookups, y_safe, y_met, y_tag, y_word, y_packet, y_keys, y_values, y_many) (lN n) at0 (nI (gm_ a g)) (nI (a + 1)) := by
  have g40 : gm_ a g ≤ 40 := by unfold gm_; split <;> omega
  refine yv_bounds w12 (by omega) (by omega) hn hsn (Fr_k7 W F) es hl eV ?_
  have v256 : (if n ≤ sn then sn else n) ≤ 256 := by split <;> omega
  refine P _ _ _ _ _ _ _ _ _ _ ?_ ?_ (fun j hj => ⟨fk_lo _ (by omega), fk_lo _ (by omega), fk_lo _ (by omega)⟩) (fun j hj => ⟨pk_un (by omega), ?_⟩) ?_ ?_ ?_ ?_
  · rw [pk_un (f := y_lookups) (show ¬ w = w + 1 by omega)]; exact Fr_fl F
  · rw [pk_us (f := y_lookups), show 14 * (w + 1) = 14 * w + 14 from by omega]; exact Fr_fk F
  · rw [pk_un (by rw [eV]; split <;> omega), pk_un (by omega)]
  · rw [pk_un (by omega)]; exact hl
  · rw [pk_us]; exact hl
  · by_cases z : at0 = 0
    · rw [if_pos z] at eG eV
      rw [eV, pk_un (by omega), pk_un (by omega), es, eG, nI_l (by omega)]
    · rw [if_neg z] at eG eV
      rw [eV, pk_us, eG, ra_N (by omega) (by omega), nI_l (by omega)]
  · by_cases z : at0 = 0
    · rw [if_pos z] at eN eV
      rw [eV, pk_us, eN, ra_N (by omega) (by omega), nI_l (by omega)]
    · rw [if_neg z] at eN eV
      rw [eV, pk_un (by omega), pk_us, eN, nI_l (by omega)]
theorem yj_PB (ho : oj_ o f) (hg : g < 2 ^ 31) (eg' : off = nI g) (hd : d < 8) (hs : s < 9) (W : WF_ K L H S) (n9 : nine_ o (imm.toInt64 &&& 4294967295) K L H) (k1 : K d = 2) (f3 : 3 ≤ f) (k2 : K (q9_ o s) = 3) {q : Nat} (eq : q = q9_ o s) : YB_ o d s off imm g K L H S (ln_K f d K) (ln_L f d q K L H) (ln_H f d q K L H) (ln_S f d q K L S) (ln_K (op_ f) d K) (ln_L (op_ f) d q K L H) (ln_H (op_ f) d q K L H) (ln_S (op_ f) d q K L S) := by
  subst eq
  intro y_place y_least y_most y_smallest y_greatest y_ways y_fault y_base y_otherKind y_otherLo y_otherHi y_low y_high y_bytes y_steps y_op y_first y_second y_offset y_given y_length y_there y_known y_lo y_hi y_at y_lookups y_safe y_met y_tag y_word y_packet y_keys y_values y_many i a w post hi ha hw eo e1 e2 eof eg eat F eS hl w12 P
  obtain ⟨sn, hsn, eSn⟩ := W.2.2.2.2
  obtain ⟨p, b, pb, hb, ep, eb⟩ := (W.1 d (by omega)).2.2.1 k1
  have sfw := sf_n (eS.trans eSn) hsn
  have lK : ∀ f', ln_K f' d K = K := by intro f'; unfold ln_K; rw [if_neg (by rw [k1]; decide)]
  have lL : ∀ f', ln_L f' d (q9_ o s) K L H = L := by intro f'; unfold ln_L; rw [if_neg (by rw [k1]; simp)]
  have lH : ∀ f', ln_H f' d (q9_ o s) K L H = H := by intro f'; unfold ln_H; rw [if_neg (by rw [k1]; simp)]
  have lS : ∀ f', ln_S f' d (q9_ o s) K L S = if f' = 3 then ra_S (lN sn) (lN (p + 1)) else lN sn := by
    intro f'; unfold ln_S
    rw [k1, ep, lN_1, eSn]
    by_cases z : f' = 3
    · rw [if_pos ⟨rfl, z⟩, if_pos z]
    · rw [if_neg (fun y => z y.2), if_neg (by simp), if_neg z]
  have td := F d (by omega)
  rw [g_lo hd] at td
  refine yj_op (y_base := y_base) (y_ways := y_ways) hi ha hw eo e1 e2 eof eg F ho hg eg' hd hs W n9 (by rw [k1]; decide) (by rw [k2]; decide) (by rw [k1]; decide) (fun c2 l2 h2 t2 => ?_)
  rw [k1]
  refine yv_j182P (by omega) f3 ho.2.1 (t2.1.trans k2) ?_
  rw [(td.2.1 (Or.inr k1)).1, ep, lN_1]
  rw [lK, lK, lL, lL, lH, lH] at P
  have ef : f = 3 ∨ f = 4 := by have := ho.2.1; omega
  refine yj_bd (y_base := y_base) (y_ways := y_ways) ha w12 (by omega) hsn sfw hl W F rfl ?_ ?_ P
  · rw [lS]; rcases ef with rfl | rfl <;> rfl
  · rw [lS]; rcases ef with rfl | rfl <;> rfl
theorem yj_EB (ho : oj_ o f) (hg : g < 2 ^ 31) (eg' : off = nI g) (hd : d < 8) (hs : s < 9) (W : WF_ K L H S) (n9 : nine_ o (imm.toInt64 &&& 4294967295) K L H) (k1 : K d = 3) (f3 : 3 ≤ f) (k2 : K (q9_ o s) = 2) {q : Nat} (eq : q = q9_ o s) : YB_ o d s off imm g K L H S (ln_K f d K) (ln_L f d q K L H) (ln_H f d q K L H) (ln_S f d q K L S) (ln_K (op_ f) d K) (ln_L (op_ f) d q K L H) (ln_H (op_ f) d q K L H) (ln_S (op_ f) d q K L S) := by
  subst eq
  intro y_place y_least y_most y_smallest y_greatest y_ways y_fault y_base y_otherKind y_otherLo y_otherHi y_low y_high y_bytes y_steps y_op y_first y_second y_offset y_given y_length y_there y_known y_lo y_hi y_at y_lookups y_safe y_met y_tag y_word y_packet y_keys y_values y_many i a w post hi ha hw eo e1 e2 eof eg eat F eS hl w12 P
  obtain ⟨sn, hsn, eSn⟩ := W.2.2.2.2
  obtain ⟨p, b, pb, hb, ep, eb⟩ := (W.1 _ (q9_16 hs)).2.2.1 k2
  have sfw := sf_n (eS.trans eSn) hsn
  have lK : ∀ f', ln_K f' d K = K := by intro f'; unfold ln_K; rw [if_neg (by rw [k1]; decide)]
  have lL : ∀ f', ln_L f' d (q9_ o s) K L H = L := by intro f'; unfold ln_L; rw [if_neg (by rw [k1]; simp)]
  have lH : ∀ f', ln_H f' d (q9_ o s) K L H = H := by intro f'; unfold ln_H; rw [if_neg (by rw [k1]; simp)]
  have lS : ∀ f', ln_S f' d (q9_ o s) K L S = if f' = 4 then ra_S (lN sn) (lN p) else lN sn := by
    intro f'; unfold ln_S
    rw [k1, ep, eSn]
    by_cases z : f' = 4
    · rw [if_neg (by simp), if_pos ⟨rfl, z⟩, if_pos z]
    · rw [if_neg (by simp), if_neg (fun y => z y.2), if_neg z]
  refine yj_op (y_base := y_base) (y_ways := y_ways) hi ha hw eo e1 e2 eof eg F ho hg eg' hd hs W n9 (by rw [k1]; decide) (by rw [k2]; decide) (by rw [k1]; decide) (fun c2 l2 h2 t2 => ?_)
  rw [k1]
  refine yv_j182E f3 ho.2.1 (t2.1.trans k2) ?_
  rw [(t2.2.1 (Or.inr k2)).1, ep]
  rw [lK, lK, lL, lL, lH, lH] at P
  have ef : f = 3 ∨ f = 4 := by have := ho.2.1; omega
  refine yj_bd (y_base := y_base) (y_ways := y_ways) ha w12 (by omega) hsn sfw hl W F rfl ?_ ?_ P
  · rw [lS]; rcases ef with rfl | rfl <;> rfl
  · rw [lS]; rcases ef with rfl | rfl <;> rfl
end
end
section
def rw_ (f : Nat) (x y : Int64) : Int64 := if f = 1 then x + y else if f = 2 then x - y else if f = 3 then x * y else if f = 4 then x &&& y else if f = 5 then x ||| y else sh_r x y
def rx_ (f : Nat) (x y : Int64) : Int64 := if f = 0 then y else if f ≤ 3 then rw_ f x y &&& 4294967295 else rw_ f x y
def hx_ (f : Nat) (x y : Int64) : Prop := if f = 1 then x = y else if f = 2 then ¬ x = y else if f = 3 then ¬ y ≤ x else ¬ x < y
section
variable {x_safe : Int64} {x_at : Int32} {x_exitLeast : Int64} {x_exitMost : Int64} {x_branches : Int32} {x_faultPlace : Int32} {x_provedLeast : Int64} {x_provedMost : Int64} {x_packetLength : Int32} {x_executed : Int32} {x_ops : Nat → Int32} {x_targets : Nat → Int32} {x_sources : Nat → Int32} {x_offsets : Nat → Int32} {x_immediates : Nat → Int32} {x_lengths : Nat → Int32} {x_kinds : Nat → Int32} {x_los : Nat → Int64} {x_his : Nat → Int64} {x_reached : Nat → Int32} {x_branchAt : Nat → Int32} {x_branchSafe : Nat → Int64} {x_branchKinds : Nat → Int32} {x_branchLos : Nat → Int64} {x_branchHis : Nat → Int64} {x_packet : Nat → Int32} {x_registers : Nat → Int64} {x_cells : Nat → Int64} {x_keyWords : Nat → Int64} {x_keyTaken : Nat → Int32}
theorem xr_result {post : Int64 → Prop} {f : Nat} {x y : Int64} (h6 : f ≤ 6) (H : post (rx_ f x y)) : wpX_result post (nI f) x y := by
  have e : f = 0 ∨ f = 1 ∨ f = 2 ∨ f = 3 ∨ f = 4 ∨ f = 5 ∨ f = 6 := by omega
  rcases e with rfl | rfl | rfl | rfl | rfl | rfl | rfl
  · exact br_f (by decide) (br_f (by decide) (br_t rfl H))
  · exact br_f (by decide) (br_f (by decide) (br_f (by decide) (br_t rfl H)))
  · exact br_f (by decide) (br_f (by decide) (br_f (by decide) (br_f (by decide) (br_t rfl H))))
  · exact br_f (by decide) (br_f (by decide) (br_f (by decide) (br_f (by decide) (br_f (by decide) (br_t rfl H)))))
  · exact br_f (by decide) (br_f (by decide) (br_f (by decide) (br_f (by decide) (br_f (by decide) (br_f (by decide) (br_t rfl H))))))
  · exact br_f (by decide) (br_f (by decide) (br_f (by decide) (br_f (by decide) (br_f (by decide) (br_f (by decide) (br_f (by decide) (br_t rfl H)))))))
  · exact br_f (by decide) (br_t (by decide) H)
theorem xr_holds {post : Int32 → Prop} {f : Nat} {x y : Int64} (h1 : 1 ≤ f) (h4 : f ≤ 4) (A : hx_ f x y → post 1) (B : ¬ hx_ f x y → post 0) : wpX_holds post (nI f) x y := by
  have e : f = 1 ∨ f = 2 ∨ f = 3 ∨ f = 4 := by omega
  rcases e with rfl | rfl | rfl | rfl
  · exact br_f (by decide) (br_f (by decide) (br_t rfl (br_c (fun z => A z) (fun z => B z))))
  · exact br_f (by decide) (br_f (by decide) (br_f (by decide) (br_t rfl (br_c (fun z => B (fun n => n z)) (fun z => A z)))))
  · exact br_f (by decide) (br_f (by decide) (br_f (by decide) (br_f (by decide) (br_t rfl (br_c (fun z => B (fun n => n z)) (fun z => A z))))))
  · exact br_f (by decide) (br_t (by decide) (br_c (fun z => B (fun n => n z)) (fun z => A z)))
/-- perform: into wX_perform_69 -/
theorem xr_69 {post : Int32 → SX → Prop} {i d s : Nat} {o : Int32} {sv : Int64} (hi : i < 120) (hs : s < 9) (eo : x_ops i = o) (ed : x_targets i = nI d) (es : x_sources i = nI s) (ev : sv = if o / 10 = 1 ∨ o / 10 = 3 then x_registers s else (x_immediates i).toInt64 &&& 4294967295) (H : wX_perform_69 post (nI i) o (nI d) (o / 10) sv x_safe x_at x_exitLeast x_exitMost x_branches x_faultPlace x_provedLeast x_provedMost x_packetLength x_executed x_ops x_targets x_sources x_offsets x_immediates x_lengths x_kinds x_los x_his x_reached x_branchAt x_branchSafe x_branchKinds x_branchLos x_branchHis x_packet x_registers x_cells x_keyWords x_keyTaken) : wpX_perform post (x_safe, x_at, x_exitLeast, x_exitMost, x_branches, x_faultPlace, x_provedLeast, x_provedMost, x_packetLength, x_executed, x_ops, x_targets, x_sources, x_offsets, x_immediates, x_lengths, x_kinds, x_los, x_his, x_reached, x_branchAt, x_branchSafe, x_branchKinds, x_branchLos, x_branchHis, x_packet, x_registers, x_cells, x_keyWords, x_keyTaken) (nI i) := by
  have v : vp_in (nI i) 120 := vp_in_nI hi (by decide)
  have c : (nI i).toNatClampNeg = i := nI_clamp (by omega)
  have vs : vp_in (nI s) 9 := vp_in_nI hs (by decide)
  refine ⟨v, nm_r (e' := o) (by rw [c]; exact eo) ⟨v, nm_r (e' := nI d) (by rw [c]; exact ed) ⟨by decide, nm_e ?_⟩⟩⟩
  have yes : o / 10 = 1 ∨ o / 10 = 3 → wX_perform_32 post (nI i) o (nI d) (o / 10) x_safe x_at x_exitLeast x_exitMost x_branches x_faultPlace x_provedLeast x_provedMost x_packetLength x_executed x_ops x_targets x_sources x_offsets x_immediates x_lengths x_kinds x_los x_his x_reached x_branchAt x_branchSafe x_branchKinds x_branchLos x_branchHis x_packet x_registers x_cells x_keyWords x_keyTaken := by
    intro z
    rw [if_pos z] at ev
    refine br_f (by decide) ⟨v, ?_⟩
    rw [c, es]
    refine ⟨vs, ?_⟩
    rw [nI_clamp (by omega), ← ev]
    exact H
  refine br_c (fun z => yes (Or.inl z)) (fun a => br_c (fun z => yes (Or.inr z)) (fun b => br_t rfl ⟨v, ?_⟩))
  rw [if_neg (by rintro (q | q); exact a q; exact b q)] at ev
  rw [c, ← ev]
  exact H
theorem xr_arith {post : Int32 → SX → Prop} {i d f : Nat} {o : Int32} {sv : Int64} (ho : oa_ o f) (hd : d < 9) (H : post 0 (x_safe, x_at, x_exitLeast, x_exitMost, x_branches, x_faultPlace, x_provedLeast, x_provedMost, x_packetLength, x_executed, x_ops, x_targets, x_sources, x_offsets, x_immediates, x_lengths, x_kinds, x_los, x_his, x_reached, x_branchAt, x_branchSafe, x_branchKinds, x_branchLos, x_branchHis, x_packet, vp_updL x_registers d (rx_ f (x_registers d) sv), x_cells, x_keyWords, x_keyTaken)) : wX_perform_69 post (nI i) o (nI d) (o / 10) sv x_safe x_at x_exitLeast x_exitMost x_branches x_faultPlace x_provedLeast x_provedMost x_packetLength x_executed x_ops x_targets x_sources x_offsets x_immediates x_lengths x_kinds x_los x_his x_reached x_branchAt x_branchSafe x_branchKinds x_branchLos x_branchHis x_packet x_registers x_cells x_keyWords x_keyTaken := by
  obtain ⟨-, -, -, -, f5, f6⟩ := oa_f ho
  have vd : vp_in (nI d) 9 := vp_in_nI hd (by decide)
  have w : wX_perform_108 post o (nI d) sv x_safe x_at x_exitLeast x_exitMost x_branches x_faultPlace x_provedLeast x_provedMost x_packetLength x_executed x_ops x_targets x_sources x_offsets x_immediates x_lengths x_kinds x_los x_his x_reached x_branchAt x_branchSafe x_branchKinds x_branchLos x_branchHis x_packet x_registers x_cells x_keyWords x_keyTaken := by
    refine ⟨by decide, vd, ?_⟩
    rw [f5, nI_clamp (by omega)]
    exact xr_result ho.1 ⟨vd, nm_e H⟩
  rcases f6 with ⟨-, -, t⟩ | ⟨-, -, t⟩
  · rw [t]; exact br_f (by decide) (br_f (by decide) (br_f (by decide) (br_t rfl w)))
  · rw [t]; exact br_f (by decide) (br_f (by decide) (br_t rfl w))
theorem xr_ja {post : Int32 → SX → Prop} {i : Nat} {d : Int32} {sv : Int64} (H : post 1 (x_safe, x_at, x_exitLeast, x_exitMost, x_branches, x_faultPlace, x_provedLeast, x_provedMost, x_packetLength, x_executed, x_ops, x_targets, x_sources, x_offsets, x_immediates, x_lengths, x_kinds, x_los, x_his, x_reached, x_branchAt, x_branchSafe, x_branchKinds, x_branchLos, x_branchHis, x_packet, x_registers, x_cells, x_keyWords, x_keyTaken)) : wX_perform_69 post (nI i) 20 d (20 / 10) sv x_safe x_at x_exitLeast x_exitMost x_branches x_faultPlace x_provedLeast x_provedMost x_packetLength x_executed x_ops x_targets x_sources x_offsets x_immediates x_lengths x_kinds x_los x_his x_reached x_branchAt x_branchSafe x_branchKinds x_branchLos x_branchHis x_packet x_registers x_cells x_keyWords x_keyTaken :=
  br_f (by decide) (br_f (by decide) (br_f (by decide) (br_f (by decide) (br_t (by decide) (br_t rfl H)))))
theorem xr_jump {post : Int32 → SX → Prop} {i d f : Nat} {o : Int32} {sv : Int64} (ho : oj_ o f) (hd : d < 9) (A : hx_ f (x_registers d) sv → post 1 (x_safe, x_at, x_exitLeast, x_exitMost, x_branches, x_faultPlace, x_provedLeast, x_provedMost, x_packetLength, x_executed, x_ops, x_targets, x_sources, x_offsets, x_immediates, x_lengths, x_kinds, x_los, x_his, x_reached, x_branchAt, x_branchSafe, x_branchKinds, x_branchLos, x_branchHis, x_packet, x_registers, x_cells, x_keyWords, x_keyTaken)) (B : ¬ hx_ f (x_registers d) sv → post 0 (x_safe, x_at, x_exitLeast, x_exitMost, x_branches, x_faultPlace, x_provedLeast, x_provedMost, x_packetLength, x_executed, x_ops, x_targets, x_sources, x_offsets, x_immediates, x_lengths, x_kinds, x_los, x_his, x_reached, x_branchAt, x_branchSafe, x_branchKinds, x_branchLos, x_branchHis, x_packet, x_registers, x_cells, x_keyWords, x_keyTaken)) : wX_perform_69 post (nI i) o (nI d) (o / 10) sv x_safe x_at x_exitLeast x_exitMost x_branches x_faultPlace x_provedLeast x_provedMost x_packetLength x_executed x_ops x_targets x_sources x_offsets x_immediates x_lengths x_kinds x_los x_his x_reached x_branchAt x_branchSafe x_branchKinds x_branchLos x_branchHis x_packet x_registers x_cells x_keyWords x_keyTaken := by
  obtain ⟨-, -, f3, f4, f5⟩ := oj_f ho
  have vd : vp_in (nI d) 9 := vp_in_nI hd (by decide)
  have w : wX_perform_131 post o (nI d) sv x_safe x_at x_exitLeast x_exitMost x_branches x_faultPlace x_provedLeast x_provedMost x_packetLength x_executed x_ops x_targets x_sources x_offsets x_immediates x_lengths x_kinds x_los x_his x_reached x_branchAt x_branchSafe x_branchKinds x_branchLos x_branchHis x_packet x_registers x_cells x_keyWords x_keyTaken := by
    refine br_f f3 ⟨by decide, vd, ?_⟩
    rw [f4, nI_clamp (by omega)]
    exact xr_holds ho.1 ho.2.1 (fun z => br_f (by decide) (A z)) (fun z => br_t rfl (B z))
  rcases f5 with ⟨-, -, t⟩ | ⟨-, -, t⟩
  · rw [t]; exact br_f (by decide) (br_f (by decide) (br_f (by decide) (br_f (by decide) (br_f (by decide) (br_t rfl w)))))
  · rw [t]; exact br_f (by decide) (br_f (by decide) (br_f (by decide) (br_f (by decide) (br_t rfl w))))
theorem xr_mem {post : Int32 → SX → Prop} {i d s p k : Nat} {o : Int32} {sv : Int64} (ho : o = 40 ∨ o = 41 ∨ o = 42) (hi : i < 120) (hp : p < 9) (eo : x_ops i = o) (ed : x_targets i = nI d) (es : x_sources i = nI s) (ep : p = if o = 41 then d else s) (ek : (x_registers p).toInt32 + x_offsets i = nI k) (hk : k < 2 ^ 31) (H : wX_performMemory_71 (fun u => match u with | (x_safe, x_at, x_exitLeast, x_exitMost, x_branches, x_faultPlace, x_provedLeast, x_provedMost, x_packetLength, x_executed, x_ops, x_targets, x_sources, x_offsets, x_immediates, x_lengths, x_kinds, x_los, x_his, x_reached, x_branchAt, x_branchSafe, x_branchKinds, x_branchLos, x_branchHis, x_packet, x_registers, x_cells, x_keyWords, x_keyTaken) => post 0 (x_safe, x_at, x_exitLeast, x_exitMost, x_branches, x_faultPlace, x_provedLeast, x_provedMost, x_packetLength, x_executed, x_ops, x_targets, x_sources, x_offsets, x_immediates, x_lengths, x_kinds, x_los, x_his, x_reached, x_branchAt, x_branchSafe, x_branchKinds, x_branchLos, x_branchHis, x_packet, x_registers, x_cells, x_keyWords, x_keyTaken)) o (nI d) (nI s) (nI k) (if o = 42 then x_packetLength else 22) (nI k) x_safe x_at x_exitLeast x_exitMost x_branches x_faultPlace x_provedLeast x_provedMost x_packetLength x_executed x_ops x_targets x_sources x_offsets x_immediates x_lengths x_kinds x_los x_his x_reached x_branchAt x_branchSafe x_branchKinds x_branchLos x_branchHis x_packet x_registers x_cells x_keyWords x_keyTaken) : wX_perform_69 post (nI i) o (nI d) (o / 10) sv x_safe x_at x_exitLeast x_exitMost x_branches x_faultPlace x_provedLeast x_provedMost x_packetLength x_executed x_ops x_targets x_sources x_offsets x_immediates x_lengths x_kinds x_los x_his x_reached x_branchAt x_branchSafe x_branchKinds x_branchLos x_branchHis x_packet x_registers x_cells x_keyWords x_keyTaken := by
  have t : o / 10 = 4 := by rcases ho with rfl | rfl | rfl <;> decide
  rw [t]
  have v : vp_in (nI i) 120 := vp_in_nI hi (by decide)
  have c : (nI i).toNatClampNeg = i := nI_clamp (by omega)
  have w38 : wX_performMemory_38 (fun u => match u with | (x_safe, x_at, x_exitLeast, x_exitMost, x_branches, x_faultPlace, x_provedLeast, x_provedMost, x_packetLength, x_executed, x_ops, x_targets, x_sources, x_offsets, x_immediates, x_lengths, x_kinds, x_los, x_his, x_reached, x_branchAt, x_branchSafe, x_branchKinds, x_branchLos, x_branchHis, x_packet, x_registers, x_cells, x_keyWords, x_keyTaken) => post 0 (x_safe, x_at, x_exitLeast, x_exitMost, x_branches, x_faultPlace, x_provedLeast, x_provedMost, x_packetLength, x_executed, x_ops, x_targets, x_sources, x_offsets, x_immediates, x_lengths, x_kinds, x_los, x_his, x_reached, x_branchAt, x_branchSafe, x_branchKinds, x_branchLos, x_branchHis, x_packet, x_registers, x_cells, x_keyWords, x_keyTaken)) (nI i) o (nI d) (nI s) (nI p) x_safe x_at x_exitLeast x_exitMost x_branches x_faultPlace x_provedLeast x_provedMost x_packetLength x_executed x_ops x_targets x_sources x_offsets x_immediates x_lengths x_kinds x_los x_his x_reached x_branchAt x_branchSafe x_branchKinds x_branchLos x_branchHis x_packet x_registers x_cells x_keyWords x_keyTaken := by
    refine ⟨vp_in_nI hp (by decide), v, nm_r (e' := nI k) (by rw [nI_clamp (n := p) (by omega), c]; exact ek) (br_f (xb_lt0 hk) ?_)⟩
    by_cases z : o = 42
    · rw [if_pos z] at H; exact br_t z H
    · rw [if_neg z] at H; exact br_f z H
  have w : wpX_performMemory (fun u => match u with | (x_safe, x_at, x_exitLeast, x_exitMost, x_branches, x_faultPlace, x_provedLeast, x_provedMost, x_packetLength, x_executed, x_ops, x_targets, x_sources, x_offsets, x_immediates, x_lengths, x_kinds, x_los, x_his, x_reached, x_branchAt, x_branchSafe, x_branchKinds, x_branchLos, x_branchHis, x_packet, x_registers, x_cells, x_keyWords, x_keyTaken) => post 0 (x_safe, x_at, x_exitLeast, x_exitMost, x_branches, x_faultPlace, x_provedLeast, x_provedMost, x_packetLength, x_executed, x_ops, x_targets, x_sources, x_offsets, x_immediates, x_lengths, x_kinds, x_los, x_his, x_reached, x_branchAt, x_branchSafe, x_branchKinds, x_branchLos, x_branchHis, x_packet, x_registers, x_cells, x_keyWords, x_keyTaken)) (x_safe, x_at, x_exitLeast, x_exitMost, x_branches, x_faultPlace, x_provedLeast, x_provedMost, x_packetLength, x_executed, x_ops, x_targets, x_sources, x_offsets, x_immediates, x_lengths, x_kinds, x_los, x_his, x_reached, x_branchAt, x_branchSafe, x_branchKinds, x_branchLos, x_branchHis, x_packet, x_registers, x_cells, x_keyWords, x_keyTaken) (nI i) := by
    refine ⟨v, nm_r (e' := o) (by rw [c]; exact eo) ⟨v, nm_r (e' := nI d) (by rw [c]; exact ed) ⟨v, nm_r (e' := nI s) (by rw [c]; exact es) ?_⟩⟩⟩
    by_cases z : o = 41
    · rw [if_pos z] at ep; subst ep; exact br_t z w38
    · rw [if_neg z] at ep; subst ep; exact br_f z w38
  exact br_f (by decide) (br_f (by decide) (br_f (by decide) (br_f (by decide) (br_f (by decide) (br_f (by decide) (br_t rfl w))))))
theorem xr_byte {post : SX → Prop} {d s k b : Nat} (hk : k < b) (hb : b ≤ 24) (hd : d < 9) (H : post (x_safe, x_at, x_exitLeast, x_exitMost, x_branches, x_faultPlace, x_provedLeast, x_provedMost, nI b, x_executed, x_ops, x_targets, x_sources, x_offsets, x_immediates, x_lengths, x_kinds, x_los, x_his, x_reached, x_branchAt, x_branchSafe, x_branchKinds, x_branchLos, x_branchHis, x_packet, vp_updL x_registers d (x_packet k).toInt64, x_cells, x_keyWords, x_keyTaken)) : wX_performMemory_71 post 42 (nI d) (nI s) (nI k) (nI b) (nI k) x_safe x_at x_exitLeast x_exitMost x_branches x_faultPlace x_provedLeast x_provedMost (nI b) x_executed x_ops x_targets x_sources x_offsets x_immediates x_lengths x_kinds x_los x_his x_reached x_branchAt x_branchSafe x_branchKinds x_branchLos x_branchHis x_packet x_registers x_cells x_keyWords x_keyTaken := by
  refine br_t (by rw [nI_ltI (by omega) (by omega)]; exact hk) (br_t rfl ⟨vp_in_nI (by omega) (by decide), vp_in_nI hd (by decide), nm_r ?_ H⟩)
  rw [nI_clamp (by omega), nI_clamp (by omega)]
theorem xr_load {post : SX → Prop} {d s k : Nat} (hk : k < 22) (hd : d < 9) (H : post (x_safe, x_at, x_exitLeast, x_exitMost, x_branches, x_faultPlace, x_provedLeast, x_provedMost, x_packetLength, x_executed, x_ops, x_targets, x_sources, x_offsets, x_immediates, x_lengths, x_kinds, x_los, x_his, x_reached, x_branchAt, x_branchSafe, x_branchKinds, x_branchLos, x_branchHis, x_packet, vp_updL x_registers d (x_cells k), x_cells, x_keyWords, x_keyTaken)) : wX_performMemory_71 post 40 (nI d) (nI s) (nI k) 22 (nI k) x_safe x_at x_exitLeast x_exitMost x_branches x_faultPlace x_provedLeast x_provedMost x_packetLength x_executed x_ops x_targets x_sources x_offsets x_immediates x_lengths x_kinds x_los x_his x_reached x_branchAt x_branchSafe x_branchKinds x_branchLos x_branchHis x_packet x_registers x_cells x_keyWords x_keyTaken := by
  refine br_t (by rw [xb_lt22 (by omega)]; exact hk) (br_f (by decide) (br_t rfl ⟨vp_in_nI hk (by decide), vp_in_nI hd (by decide), nm_r ?_ H⟩))
  rw [nI_clamp (by omega), nI_clamp (by omega)]
theorem xr_store {post : SX → Prop} {d s k : Nat} (hk : k < 22) (hs : s < 9) (H : post (x_safe, x_at, x_exitLeast, x_exitMost, x_branches, x_faultPlace, x_provedLeast, x_provedMost, x_packetLength, x_executed, x_ops, x_targets, x_sources, x_offsets, x_immediates, x_lengths, x_kinds, x_los, x_his, x_reached, x_branchAt, x_branchSafe, x_branchKinds, x_branchLos, x_branchHis, x_packet, x_registers, vp_updL x_cells k (x_registers s), x_keyWords, x_keyTaken)) : wX_performMemory_71 post 41 (nI d) (nI s) (nI k) 22 (nI k) x_safe x_at x_exitLeast x_exitMost x_branches x_faultPlace x_provedLeast x_provedMost x_packetLength x_executed x_ops x_targets x_sources x_offsets x_immediates x_lengths x_kinds x_los x_his x_reached x_branchAt x_branchSafe x_branchKinds x_branchLos x_branchHis x_packet x_registers x_cells x_keyWords x_keyTaken := by
  refine br_t (by rw [xb_lt22 (by omega)]; exact hk) (br_f (by decide) (br_f (by decide) ⟨vp_in_nI hs (by decide), vp_in_nI hk (by decide), nm_r ?_ H⟩))
  rw [nI_clamp (by omega), nI_clamp (by omega)]
theorem xr_map {post : Int32 → SX → Prop} {i : Nat} {o d : Int32} {sv : Int64} (ho : o = 50 ∨ o = 51 ∨ o = 52) (hi : i < 120) (H : wpX_performMapCall (fun u => match u with | (x_safe, x_at, x_exitLeast, x_exitMost, x_branches, x_faultPlace, x_provedLeast, x_provedMost, x_packetLength, x_executed, x_ops, x_targets, x_sources, x_offsets, x_immediates, x_lengths, x_kinds, x_los, x_his, x_reached, x_branchAt, x_branchSafe, x_branchKinds, x_branchLos, x_branchHis, x_packet, x_registers, x_cells, x_keyWords, x_keyTaken) => post 0 (x_safe, x_at, x_exitLeast, x_exitMost, x_branches, x_faultPlace, x_provedLeast, x_provedMost, x_packetLength, x_executed, x_ops, x_targets, x_sources, x_offsets, x_immediates, x_lengths, x_kinds, x_los, x_his, x_reached, x_branchAt, x_branchSafe, x_branchKinds, x_branchLos, x_branchHis, x_packet, x_registers, x_cells, x_keyWords, x_keyTaken)) (x_safe, x_at, x_exitLeast, x_exitMost, x_branches, x_faultPlace, x_provedLeast, x_provedMost, x_packetLength, x_executed, x_ops, x_targets, x_sources, x_offsets, x_immediates, x_lengths, x_kinds, x_los, x_his, x_reached, x_branchAt, x_branchSafe, x_branchKinds, x_branchLos, x_branchHis, x_packet, x_registers, x_cells, x_keyWords, x_keyTaken) o (x_immediates i)) : wX_perform_69 post (nI i) o d (o / 10) sv x_safe x_at x_exitLeast x_exitMost x_branches x_faultPlace x_provedLeast x_provedMost x_packetLength x_executed x_ops x_targets x_sources x_offsets x_immediates x_lengths x_kinds x_los x_his x_reached x_branchAt x_branchSafe x_branchKinds x_branchLos x_branchHis x_packet x_registers x_cells x_keyWords x_keyTaken := by
  have t : o / 10 = 5 := by rcases ho with rfl | rfl | rfl <;> decide
  rw [t]
  refine br_f (by decide) (br_t (by decide) ⟨vp_in_nI hi (by decide), ?_⟩)
  rw [nI_clamp (by omega)]
  exact H
end
section
variable {y_place : Int32} {y_least : Int64} {y_most : Int64} {y_smallest : Int64} {y_greatest : Int64} {y_ways : Int32} {y_fault : Int32} {y_base : Int32} {y_otherKind : Int32} {y_otherLo : Int64} {y_otherHi : Int64} {y_low : Int64} {y_high : Int64} {y_bytes : Int32} {y_steps : Int32} {y_op : Nat → Int32} {y_first : Nat → Int32} {y_second : Nat → Int32} {y_offset : Nat → Int32} {y_given : Nat → Int32} {y_length : Nat → Int32} {y_there : Nat → Int32} {y_known : Nat → Int32} {y_lo : Nat → Int64} {y_hi : Nat → Int64} {y_at : Nat → Int32} {y_lookups : Nat → Int32} {y_safe : Nat → Int32} {y_met : Nat → Int32} {y_tag : Nat → Int32} {y_word : Nat → Int64} {y_packet : Nat → Int32} {y_keys : Nat → Int64} {y_values : Nat → Int64} {y_many : Nat → Int32}
theorem yr_hold {post : SY → Prop} {r : Nat} {t : Int32} {v : Int64} (hr : r < 14) (ht : k7_ t) : wpY_hold post (y_place, y_least, y_most, y_smallest, y_greatest, y_ways, y_fault, y_base, y_otherKind, y_otherLo, y_otherHi, y_low, y_high, y_bytes, y_steps, y_op, y_first, y_second, y_offset, y_given, y_length, y_there, y_known, y_lo, y_hi, y_at, y_lookups, y_safe, y_met, y_tag, y_word, y_packet, y_keys, y_values, y_many) (nI r) t v ↔ post (y_place, y_least, y_most, y_smallest, y_greatest, y_ways, y_fault, y_base, y_otherKind, y_otherLo, y_otherHi, y_low, y_high, y_bytes, y_steps, y_op, y_first, y_second, y_offset, y_given, y_length, y_there, y_known, y_lo, y_hi, y_at, y_lookups, y_safe, y_met, upd y_tag r t, vp_updL y_word r v, y_packet, y_keys, y_values, y_many) := by
  simp (disch := omega) only [wpY_hold, forall_eq, true_and, and_true, true_implies, not_true_eq_false, false_implies, not_false_eq_true, implies_true, and_self, nI_add, nI_1, nI_clamp, vp_in_nI, xb_10, xb_bt, xb_bf, ys_k7 ht]
theorem yr_hold0 {post : SY → Prop} {t : Int32} {v : Int64} (ht : k7_ t) : wpY_hold post (y_place, y_least, y_most, y_smallest, y_greatest, y_ways, y_fault, y_base, y_otherKind, y_otherLo, y_otherHi, y_low, y_high, y_bytes, y_steps, y_op, y_first, y_second, y_offset, y_given, y_length, y_there, y_known, y_lo, y_hi, y_at, y_lookups, y_safe, y_met, y_tag, y_word, y_packet, y_keys, y_values, y_many) 0 t v ↔ post (y_place, y_least, y_most, y_smallest, y_greatest, y_ways, y_fault, y_base, y_otherKind, y_otherLo, y_otherHi, y_low, y_high, y_bytes, y_steps, y_op, y_first, y_second, y_offset, y_given, y_length, y_there, y_known, y_lo, y_hi, y_at, y_lookups, y_safe, y_met, upd y_tag 0 t, vp_updL y_word 0 v, y_packet, y_keys, y_values, y_many) := yr_hold (r := 0) (by decide) ht
theorem yr_119 {post : SY → Prop} {d : Nat} {x : Int64} (hd : d < 14) (H : post (y_place, y_least, y_most, y_smallest, y_greatest, y_ways, y_fault, y_base, y_otherKind, y_otherLo, y_otherHi, y_low, y_high, y_bytes, y_steps, y_op, y_first, y_second, y_offset, y_given, y_length, y_there, y_known, y_lo, y_hi, y_at, y_lookups, y_safe, y_met, y_tag, vp_updL y_word d (if y_tag d = 1 then x &&& 4294967295 else x), y_packet, y_keys, y_values, y_many)) : wY_calculate_119 post (nI d) x y_place y_least y_most y_smallest y_greatest y_ways y_fault y_base y_otherKind y_otherLo y_otherHi y_low y_high y_bytes y_steps y_op y_first y_second y_offset y_given y_length y_there y_known y_lo y_hi y_at y_lookups y_safe y_met y_tag y_word y_packet y_keys y_values y_many := by
  have v : vp_in (nI d) 14 := vp_in_nI hd (by decide)
  have c : (nI d).toNatClampNeg = d := nI_clamp (by omega)
  refine ⟨v, ?_⟩
  rw [c]
  by_cases z : y_tag d = 1
  · rw [if_pos z] at H; exact br_t z ⟨v, nm_e H⟩
  · rw [if_neg z] at H; exact br_f z ⟨v, nm_e H⟩
theorem yr_calc0 {post : SY → Prop} {d : Nat} {t : Int32} {v : Int64} (hd : d < 14) (ht : k7_ t) (H : post (y_place, y_least, y_most, y_smallest, y_greatest, y_ways, y_fault, y_base, y_otherKind, y_otherLo, y_otherHi, y_low, y_high, y_bytes, y_steps, y_op, y_first, y_second, y_offset, y_given, y_length, y_there, y_known, y_lo, y_hi, y_at, y_lookups, y_safe, y_met, upd y_tag d t, vp_updL y_word d v, y_packet, y_keys, y_values, y_many)) : wpY_calculate post (y_place, y_least, y_most, y_smallest, y_greatest, y_ways, y_fault, y_base, y_otherKind, y_otherLo, y_otherHi, y_low, y_high, y_bytes, y_steps, y_op, y_first, y_second, y_offset, y_given, y_length, y_there, y_known, y_lo, y_hi, y_at, y_lookups, y_safe, y_met, y_tag, y_word, y_packet, y_keys, y_values, y_many) (nI 0) (nI d) t v :=
  ⟨vp_in_nI hd (by decide), nm_e (br_f (by decide) (br_f (by decide) (br_t rfl ((yr_hold hd ht).mpr H))))⟩
theorem yr_calc {post : SY → Prop} {d f : Nat} {t : Int32} {v : Int64} (hd : d < 14) (h1 : 1 ≤ f) (h6 : f ≤ 6) (H : post (y_place, y_least, y_most, y_smallest, y_greatest, y_ways, y_fault, y_base, y_otherKind, y_otherLo, y_otherHi, y_low, y_high, y_bytes, y_steps, y_op, y_first, y_second, y_offset, y_given, y_length, y_there, y_known, y_lo, y_hi, y_at, y_lookups, y_safe, y_met, y_tag, vp_updL y_word d (if y_tag d = 1 then rw_ f (y_word d) v &&& 4294967295 else rw_ f (y_word d) v), y_packet, y_keys, y_values, y_many)) : wpY_calculate post (y_place, y_least, y_most, y_smallest, y_greatest, y_ways, y_fault, y_base, y_otherKind, y_otherLo, y_otherHi, y_low, y_high, y_bytes, y_steps, y_op, y_first, y_second, y_offset, y_given, y_length, y_there, y_known, y_lo, y_hi, y_at, y_lookups, y_safe, y_met, y_tag, y_word, y_packet, y_keys, y_values, y_many) (nI f) (nI d) t v := by
  have e : f = 1 ∨ f = 2 ∨ f = 3 ∨ f = 4 ∨ f = 5 ∨ f = 6 := by omega
  have c : (nI d).toNatClampNeg = d := nI_clamp (by omega)
  refine ⟨vp_in_nI hd (by decide), nm_r (e' := y_word d) (by rw [c]) ?_⟩
  have w := yr_119 hd H
  rcases e with rfl | rfl | rfl | rfl | rfl | rfl
  · exact br_f (by decide) (br_f (by decide) (br_f (by decide) (br_t rfl (nm_e w))))
  · exact br_f (by decide) (br_f (by decide) (br_f (by decide) (br_f (by decide) (br_t rfl (nm_e w)))))
  · exact br_f (by decide) (br_f (by decide) (br_f (by decide) (br_f (by decide) (br_f (by decide) (br_t rfl (nm_e w))))))
  · exact br_f (by decide) (br_f (by decide) (br_f (by decide) (br_f (by decide) (br_f (by decide) (br_f (by decide) (br_t rfl (nm_e w)))))))
  · exact br_f (by decide) (br_f (by decide) (br_f (by decide) (br_f (by decide) (br_f (by decide) (br_f (by decide) (br_f (by decide) (br_t rfl (nm_e w))))))))
  · exact br_f (by decide) (br_t (by decide) (nm_e w))
theorem yr_taken {post : Int32 → Prop} {f : Nat} {x y : Int64} (h1 : 1 ≤ f) (h4 : f ≤ 4) (A : hx_ f x y → post 1) (B : ¬ hx_ f x y → post 0) : wpY_taken post (nI f) x y := by
  have e : f = 1 ∨ f = 2 ∨ f = 3 ∨ f = 4 := by omega
  rcases e with rfl | rfl | rfl | rfl
  · exact br_t rfl (br_c (fun z => A z) (fun z => B z))
  · exact br_f (by decide) (br_t rfl (br_c (fun z => B (fun n => n z)) (fun z => A z)))
  · exact br_f (by decide) (br_f (by decide) (br_t rfl (br_c (fun z => B (fun n => n z)) (fun z => A z))))
  · exact br_f (by decide) (br_f (by decide) (br_f (by decide) (br_c (fun z => B (fun n => n z)) (fun z => A z))))
/-- step: into wY_step_114 -/
theorem yr_114 {post : Int32 → SY → Prop} {i d s : Nat} {o a t : Int32} {v : Int64} (hi : i < 120) (hs : s < 9) (eo : y_op i = o) (e1 : y_first i = nI d) (e2 : y_second i = nI s) {rg : Prop} (er : rg ↔ (¬ o < 10 ∧ o < 20) ∨ ¬ o ≤ 30) (ev : (¬ rg ∧ t = 1 ∧ v = (y_given i).toInt64 &&& 4294967295) ∨ (rg ∧ s = 8 ∧ t = 4 ∧ v = 0) ∨ (rg ∧ ¬ s = 8 ∧ t = y_tag s ∧ v = y_word s)) (H : wY_step_114 post (nI i) a o (nI d) t v y_place y_least y_most y_smallest y_greatest y_ways y_fault y_base y_otherKind y_otherLo y_otherHi y_low y_high y_bytes y_steps y_op y_first y_second y_offset y_given y_length y_there y_known y_lo y_hi y_at y_lookups y_safe y_met y_tag y_word y_packet y_keys y_values y_many) : wpY_step post (y_place, y_least, y_most, y_smallest, y_greatest, y_ways, y_fault, y_base, y_otherKind, y_otherLo, y_otherHi, y_low, y_high, y_bytes, y_steps, y_op, y_first, y_second, y_offset, y_given, y_length, y_there, y_known, y_lo, y_hi, y_at, y_lookups, y_safe, y_met, y_tag, y_word, y_packet, y_keys, y_values, y_many) (nI i) a := by
  have vi : vp_in (nI i) 120 := vp_in_nI hi (by decide)
  have c : (nI i).toNatClampNeg = i := nI_clamp (by omega)
  have vs : vp_in (nI s) 14 := vp_in_nI (by omega) (by decide)
  have cs : (nI s).toNatClampNeg = s := nI_clamp (by omega)
  have yes : rg → wY_step_41 post (nI i) a o (nI d) (nI s) y_place y_least y_most y_smallest y_greatest y_ways y_fault y_base y_otherKind y_otherLo y_otherHi y_low y_high y_bytes y_steps y_op y_first y_second y_offset y_given y_length y_there y_known y_lo y_hi y_at y_lookups y_safe y_met y_tag y_word y_packet y_keys y_values y_many := by
    intro r
    rcases ev with ev | ⟨-, ev⟩ | ⟨-, ev⟩
    · exact absurd r ev.1
    · obtain ⟨z, q1, q2⟩ := ev
      subst q1 q2
      have z8 : nI s = 8 := by rw [z]; rfl
      exact br_f (by decide) (br_t z8 (br_f (by decide) (br_t z8 H)))
    · obtain ⟨z, q1, q2⟩ := ev
      have z8 : ¬ nI s = 8 := by rw [xb_eq8 (by omega)]; exact z
      refine br_f (by decide) (br_f z8 ⟨vs, br_f (by decide) (br_f z8 ⟨vs, ?_⟩)⟩)
      rw [cs, ← q1, ← q2]
      exact H
  have no : ¬ rg → wY_step_46 post (nI i) a o (nI d) (nI s) 0 y_place y_least y_most y_smallest y_greatest y_ways y_fault y_base y_otherKind y_otherLo y_otherHi y_low y_high y_bytes y_steps y_op y_first y_second y_offset y_given y_length y_there y_known y_lo y_hi y_at y_lookups y_safe y_met y_tag y_word y_packet y_keys y_values y_many := by
    intro r
    rcases ev with ⟨-, q1, q2⟩ | ev | ev
    · refine br_t rfl (br_t rfl ⟨vi, ?_⟩)
      rw [c, ← q1, ← q2]
      exact H
    · exact absurd ev.1 r
    · exact absurd ev.1 r
  have w35 : ¬ (¬ o < 10 ∧ o < 20) → wY_step_35 post (nI i) a o (nI d) (nI s) y_place y_least y_most y_smallest y_greatest y_ways y_fault y_base y_otherKind y_otherLo y_otherHi y_low y_high y_bytes y_steps y_op y_first y_second y_offset y_given y_length y_there y_known y_lo y_hi y_at y_lookups y_safe y_met y_tag y_word y_packet y_keys y_values y_many := by
    intro n
    refine br_c (fun z => no ?_) (fun z => yes (er.mpr (Or.inr z)))
    rw [er]; rintro (q | q)
    · exact n q
    · exact q z
  refine ⟨vi, nm_r (e' := o) (by rw [c]; exact eo) ⟨vi, nm_r (e' := nI d) (by rw [c]; exact e1) ⟨vi, nm_r (e' := nI s) (by rw [c]; exact e2) (br_c (fun z => w35 (fun n => n.1 z)) (fun z => br_c (fun y => yes (er.mpr (Or.inl ⟨z, y⟩))) (fun y => w35 (fun n => y n.2))))⟩⟩⟩
theorem yr_arith0 {post : Int32 → SY → Prop} {i d a : Nat} {o t : Int32} {v : Int64} (ho : oa_ o 0) (hd : d < 14) (ht : k7_ t) (H : post (nI (a + 1)) (y_place, y_least, y_most, y_smallest, y_greatest, y_ways, y_fault, y_base, y_otherKind, y_otherLo, y_otherHi, y_low, y_high, y_bytes, y_steps, y_op, y_first, y_second, y_offset, y_given, y_length, y_there, y_known, y_lo, y_hi, y_at, y_lookups, y_safe, y_met, upd y_tag d t, vp_updL y_word d v, y_packet, y_keys, y_values, y_many)) : wY_step_114 post (nI i) (nI a) o (nI d) t v y_place y_least y_most y_smallest y_greatest y_ways y_fault y_base y_otherKind y_otherLo y_otherHi y_low y_high y_bytes y_steps y_op y_first y_second y_offset y_given y_length y_there y_known y_lo y_hi y_at y_lookups y_safe y_met y_tag y_word y_packet y_keys y_values y_many := by
  obtain ⟨f1, -, -, -, f5, -⟩ := oa_f ho
  refine br_f (Int32.not_le.mpr f1) ⟨by decide, ?_⟩
  rw [f5, nI_1]
  exact yr_calc0 hd ht H
theorem yr_arith {post : Int32 → SY → Prop} {i d a f : Nat} {o t : Int32} {v : Int64} (ho : oa_ o f) (h1 : 1 ≤ f) (hd : d < 14) (H : post (nI (a + 1)) (y_place, y_least, y_most, y_smallest, y_greatest, y_ways, y_fault, y_base, y_otherKind, y_otherLo, y_otherHi, y_low, y_high, y_bytes, y_steps, y_op, y_first, y_second, y_offset, y_given, y_length, y_there, y_known, y_lo, y_hi, y_at, y_lookups, y_safe, y_met, y_tag, vp_updL y_word d (if y_tag d = 1 then rw_ f (y_word d) v &&& 4294967295 else rw_ f (y_word d) v), y_packet, y_keys, y_values, y_many)) : wY_step_114 post (nI i) (nI a) o (nI d) t v y_place y_least y_most y_smallest y_greatest y_ways y_fault y_base y_otherKind y_otherLo y_otherHi y_low y_high y_bytes y_steps y_op y_first y_second y_offset y_given y_length y_there y_known y_lo y_hi y_at y_lookups y_safe y_met y_tag y_word y_packet y_keys y_values y_many := by
  obtain ⟨f1, -, -, -, f5, -⟩ := oa_f ho
  refine br_f (Int32.not_le.mpr f1) ⟨by decide, ?_⟩
  rw [f5, nI_1]
  exact yr_calc hd h1 ho.1 H
theorem yr_ja {post : Int32 → SY → Prop} {i a g : Nat} {d t : Int32} {v : Int64} (hi : i < 120) (eo : y_offset i = nI g) (H : post (nI (a + 1 + g)) (y_place, y_least, y_most, y_smallest, y_greatest, y_ways, y_fault, y_base, y_otherKind, y_otherLo, y_otherHi, y_low, y_high, y_bytes, y_steps, y_op, y_first, y_second, y_offset, y_given, y_length, y_there, y_known, y_lo, y_hi, y_at, y_lookups, y_safe, y_met, y_tag, y_word, y_packet, y_keys, y_values, y_many)) : wY_step_114 post (nI i) (nI a) 20 d t v y_place y_least y_most y_smallest y_greatest y_ways y_fault y_base y_otherKind y_otherLo y_otherHi y_low y_high y_bytes y_steps y_op y_first y_second y_offset y_given y_length y_there y_known y_lo y_hi y_at y_lookups y_safe y_met y_tag y_word y_packet y_keys y_values y_many := by
  refine br_t (by decide) (br_t rfl ⟨vp_in_nI hi (by decide), ?_⟩)
  rw [nI_clamp (by omega), eo, nI_1, nI_add]
  exact H
theorem yr_jump {post : Int32 → SY → Prop} {i d a f g : Nat} {o t : Int32} {v : Int64} (hi : i < 120) (ho : oj_ o f) (hd : d < 14) (eo : y_offset i = nI g) (A : hx_ f (y_word d) v → post (nI (a + 1 + g)) (y_place, y_least, y_most, y_smallest, y_greatest, y_ways, y_fault, y_base, y_otherKind, y_otherLo, y_otherHi, y_low, y_high, y_bytes, y_steps, y_op, y_first, y_second, y_offset, y_given, y_length, y_there, y_known, y_lo, y_hi, y_at, y_lookups, y_safe, y_met, y_tag, y_word, y_packet, y_keys, y_values, y_many)) (B : ¬ hx_ f (y_word d) v → post (nI (a + 1)) (y_place, y_least, y_most, y_smallest, y_greatest, y_ways, y_fault, y_base, y_otherKind, y_otherLo, y_otherHi, y_low, y_high, y_bytes, y_steps, y_op, y_first, y_second, y_offset, y_given, y_length, y_there, y_known, y_lo, y_hi, y_at, y_lookups, y_safe, y_met, y_tag, y_word, y_packet, y_keys, y_values, y_many)) : wY_step_114 post (nI i) (nI a) o (nI d) t v y_place y_least y_most y_smallest y_greatest y_ways y_fault y_base y_otherKind y_otherLo y_otherHi y_low y_high y_bytes y_steps y_op y_first y_second y_offset y_given y_length y_there y_known y_lo y_hi y_at y_lookups y_safe y_met y_tag y_word y_packet y_keys y_values y_many := by
  obtain ⟨f1, f2, f3, f4, -⟩ := oj_f ho
  refine br_t (Int32.not_lt.mp f1) (br_f f3 (br_f f2 ⟨by decide, vp_in_nI hd (by decide), ?_⟩))
  rw [f4, nI_clamp (n := d) (by omega)]
  refine yr_taken ho.1 ho.2.1 (fun z => br_f (by decide) ⟨vp_in_nI hi (by decide), ?_⟩) (fun z => br_t rfl ?_)
  · rw [nI_clamp (n := i) (by omega), eo, nI_1, nI_add]
    exact A z
  · rw [nI_1]; exact B z
end
end
section
def uN (x : Int64) : Nat := x.toUInt64.toNat
theorem uN_lt (x : Int64) : uN x < 18446744073709551616 := x.toUInt64.toNat_lt
theorem uN_inj {x y : Int64} (h : uN x = uN y) : x = y := congrArg UInt64.toInt64 (UInt64.toNat_inj.mp h)
theorem uN_add (x y : Int64) : uN (x + y) = (uN x + uN y) % 18446744073709551616 := by
  show (x.toUInt64 + y.toUInt64).toNat = _
  exact UInt64.toNat_add _ _
theorem uN_lo (x : Int64) : uN (x &&& 4294967295) = uN x % 4294967296 := by
  show (x.toUInt64 &&& Int64.toUInt64 4294967295).toNat = _
  rw [UInt64.toNat_and]
  exact Nat.and_two_pow_sub_one_eq_mod _ 32
def inb_ (l h x : Int64) : Prop := ∃ a n c : Nat, a ≤ n ∧ n ≤ c ∧ c < 2 ^ 32 ∧ l = lN a ∧ x = lN n ∧ h = lN c
def wd_ (x : Int64) : Prop := ∃ n : Nat, n < 2 ^ 32 ∧ x = lN n
/-- a slot's value in a run: X's word x, Y's tag t and word w; b bytes of packet; X's taken slots kt, where Y has them π -/
def V_ (k : Int32) (l h x : Int64) (t : Int32) (w : Int64) (b : Nat) (π : Nat → Nat) (kt : Nat → Int32) : Prop :=
  (k = 1 → t = 1 ∧ w = x ∧ inb_ l h x) ∧ (k = 2 → t = 2 ∧ w = x ∧ inb_ l h x) ∧ (k = 3 → t = 3 ∧ w = lN b ∧ x = lN b) ∧ (k = 4 → t = 4 ∧ w = l ∧ x = l &&& 4294967295) ∧
  (k = 5 → t = 5 ∧ ∃ s, s < 8 ∧ ¬ kt s = 0 ∧ w = lN (100 * (8 + π s)) + l ∧ x = (lN (6 + 2 * s) + l) &&& 4294967295) ∧
  (k = 6 → (t = 1 ∧ w = 0 ∧ x = 0) ∨ (t = 5 ∧ ∃ s, s < 8 ∧ ¬ kt s = 0 ∧ w = lN (100 * (8 + π s)) ∧ x = lN (6 + 2 * s)))
def b1_ (x : Int32) : Nat := if x = 0 then 0 else 1
def cn_ (kt : Nat → Int32) (m : Nat) : Nat := b1_ (kt (4 * m)) + b1_ (kt (4 * m + 1)) + b1_ (kt (4 * m + 2)) + b1_ (kt (4 * m + 3))
def M1_ (π : Nat → Nat) (kt : Nat → Int32) (kw ce ks vs : Nat → Int64) (m n : Nat) : Prop :=
  n ≤ 4 ∧ cn_ kt m = n ∧
  (∀ s, 4 * m ≤ s → s < 4 * m + 4 → ¬ kt s = 0 → 4 * m ≤ π s ∧ π s < 4 * m + n ∧ ks (π s) = kw s ∧ vs (2 * π s) = ce (6 + 2 * s) ∧ vs (2 * π s + 1) = ce (6 + 2 * s + 1) ∧ wd_ (ce (6 + 2 * s)) ∧ wd_ (ce (6 + 2 * s + 1))) ∧
  (∀ s t, 4 * m ≤ s → s < 4 * m + 4 → 4 * m ≤ t → t < 4 * m + 4 → ¬ kt s = 0 → ¬ kt t = 0 → (π s = π t ∨ kw s = kw t) → s = t) ∧
  (∀ k, 4 * m ≤ k → k < 4 * m + n → ∃ s, 4 * m ≤ s ∧ s < 4 * m + 4 ∧ ¬ kt s = 0 ∧ π s = k)
def Mp_ (π : Nat → Nat) (kt : Nat → Int32) (kw ce ks vs : Nat → Int64) (mn : Nat → Int32) : Prop := ∀ m, m < 2 → ∃ n, mn m = nI n ∧ M1_ π kt kw ce ks vs m n
def cx_ (rg ce : Nat → Int64) (r : Nat) : Int64 := if r < 8 then rg r else ce (r - 8)
/-- all that may be a VALUE comes from one LOOKUP -/
def Un_ (K : Nat → Int32) (rg ce : Nat → Int64) (tg : Nat → Int32) (wd : Nat → Int64) : Prop := ∀ r t, r < 14 → t < 14 → K (g_ r) = 6 → K (g_ t) = 6 → cx_ rg ce r = cx_ rg ce t ∧ tg r = tg t ∧ wd r = wd t
def Con_ (K : Nat → Int32) (L H : Nat → Int64) (S : Int64) (π : Nat → Nat) (rg ce : Nat → Int64) (kt : Nat → Int32) (kw : Nat → Int64) (tg : Nat → Int32) (wd ks vs : Nat → Int64) (mn : Nat → Int32) (b : Nat) : Prop :=
  (∀ r, r < 14 → V_ (K (g_ r)) (L (g_ r)) (H (g_ r)) (cx_ rg ce r) (tg r) (wd r) b π kt) ∧ rg 8 = 0 ∧ ((∃ sn : Nat, sn ≤ b ∧ S = lN sn) ∧ Un_ K rg ce tg wd) ∧ Mp_ π kt kw ce ks vs mn
theorem V_1 {l h x w : Int64} {b : Nat} {π : Nat → Nat} {kt : Nat → Int32} (e : w = x) (i : inb_ l h x) : V_ 1 l h x 1 w b π kt := ⟨fun _ => ⟨rfl, e, i⟩, fun z => absurd z (by decide), fun z => absurd z (by decide), fun z => absurd z (by decide), fun z => absurd z (by decide), fun z => absurd z (by decide)⟩
theorem V_2 {l h x w : Int64} {b : Nat} {π : Nat → Nat} {kt : Nat → Int32} (e : w = x) (i : inb_ l h x) : V_ 2 l h x 2 w b π kt := ⟨fun z => absurd z (by decide), fun _ => ⟨rfl, e, i⟩, fun z => absurd z (by decide), fun z => absurd z (by decide), fun z => absurd z (by decide), fun z => absurd z (by decide)⟩
theorem V_3 {l h x w : Int64} {b : Nat} {π : Nat → Nat} {kt : Nat → Int32} (e : w = lN b) (i : x = lN b) : V_ 3 l h x 3 w b π kt := ⟨fun z => absurd z (by decide), fun z => absurd z (by decide), fun _ => ⟨rfl, e, i⟩, fun z => absurd z (by decide), fun z => absurd z (by decide), fun z => absurd z (by decide)⟩
theorem V_4 {l h x w : Int64} {b : Nat} {π : Nat → Nat} {kt : Nat → Int32} (e : w = l) (i : x = l &&& 4294967295) : V_ 4 l h x 4 w b π kt := ⟨fun z => absurd z (by decide), fun z => absurd z (by decide), fun z => absurd z (by decide), fun _ => ⟨rfl, e, i⟩, fun z => absurd z (by decide), fun z => absurd z (by decide)⟩
theorem V_5 {l h x w : Int64} {b : Nat} {π : Nat → Nat} {kt : Nat → Int32} (i : ∃ s, s < 8 ∧ ¬ kt s = 0 ∧ w = lN (100 * (8 + π s)) + l ∧ x = (lN (6 + 2 * s) + l) &&& 4294967295) : V_ 5 l h x 5 w b π kt := ⟨fun z => absurd z (by decide), fun z => absurd z (by decide), fun z => absurd z (by decide), fun z => absurd z (by decide), fun _ => ⟨rfl, i⟩, fun z => absurd z (by decide)⟩
theorem V_6 {l h x w : Int64} {t : Int32} {b : Nat} {π : Nat → Nat} {kt : Nat → Int32} (i : (t = 1 ∧ w = 0 ∧ x = 0) ∨ (t = 5 ∧ ∃ s, s < 8 ∧ ¬ kt s = 0 ∧ w = lN (100 * (8 + π s)) ∧ x = lN (6 + 2 * s))) : V_ 6 l h x t w b π kt := ⟨fun z => absurd z (by decide), fun z => absurd z (by decide), fun z => absurd z (by decide), fun z => absurd z (by decide), fun z => absurd z (by decide), fun _ => i⟩
theorem V_0 {l h x w : Int64} {t : Int32} {b : Nat} {π : Nat → Nat} {kt : Nat → Int32} : V_ 0 l h x t w b π kt := ⟨fun z => absurd z (by decide), fun z => absurd z (by decide), fun z => absurd z (by decide), fun z => absurd z (by decide), fun z => absurd z (by decide), fun z => absurd z (by decide)⟩
theorem V_ind {k t : Int32} {l h x w : Int64} {b : Nat} {π π' : Nat → Nat} {kt kt' : Nat → Int32} (v : V_ k l h x t w b π kt) (n5 : ¬ k = 5) (n6 : ¬ k = 6) : V_ k l h x t w b π' kt' := ⟨v.1, v.2.1, v.2.2.1, v.2.2.2.1, fun z => absurd z n5, fun z => absurd z n6⟩
theorem V_t {k t : Int32} {l h x w : Int64} {b : Nat} {π : Nat → Nat} {kt : Nat → Int32} (v : V_ k l h x t w b π kt) (k7 : k7_ k) (n : ¬ k = 0) : k7_ t := by
  unfold k7_
  rcases k7 with z | z | z | z | z | z | z
  · exact absurd z n
  · rw [(v.1 z).1]; simp
  · rw [(v.2.1 z).1]; simp
  · rw [(v.2.2.1 z).1]; simp
  · rw [(v.2.2.2.1 z).1]; simp
  · rw [(v.2.2.2.2.1 z).1]; simp
  · rcases v.2.2.2.2.2 z with q | q
    · rw [q.1]; simp
    · rw [q.1]; simp
section
variable {K : Nat → Int32} {L H : Nat → Int64} {S : Int64} {π : Nat → Nat} {rg ce : Nat → Int64} {kt : Nat → Int32} {kw : Nat → Int64} {tg : Nat → Int32} {wd ks vs : Nat → Int64} {mn : Nat → Int32} {b : Nat}
theorem Un_upd {e : Nat} {k t : Int32} {x w : Int64} {rg' ce' : Nat → Int64} (U : Un_ K rg ce tg wd) (he : e < 14) (x1 : cx_ rg' ce' e = x) (x2 : ∀ r, r < 14 → ¬ r = e → cx_ rg' ce' r = cx_ rg ce r) (u : k = 6 → ∀ r, r < 14 → K (g_ r) = 6 → cx_ rg ce r = x ∧ tg r = t ∧ wd r = w) : Un_ (upd K (g_ e) k) rg' ce' (upd tg e t) (vp_updL wd e w) := by
  intro r q hr hq kr kq
  by_cases a : r = e
  · by_cases c : q = e
    · rw [a, c]; exact ⟨rfl, rfl, rfl⟩
    · have n1 : ¬ g_ q = g_ e := fun z => c (g_inj z)
      rw [a, pk_us] at kr
      rw [pk_un n1] at kq
      obtain ⟨y1, y2, y3⟩ := u kr q hq kq
      rw [a, x1, x2 q hq c, pk_us, pk_un c, pk_uLs, pk_uLn c]
      exact ⟨y1.symm, y2.symm, y3.symm⟩
  · have n1 : ¬ g_ r = g_ e := fun z => a (g_inj z)
    rw [pk_un n1] at kr
    by_cases c : q = e
    · rw [c, pk_us] at kq
      obtain ⟨y1, y2, y3⟩ := u kq r hr kr
      rw [c, x1, x2 r hr a, pk_us, pk_un a, pk_uLs, pk_uLn a]
      exact ⟨y1, y2, y3⟩
    · have n2 : ¬ g_ q = g_ e := fun z => c (g_inj z)
      rw [pk_un n2] at kq
      rw [x2 r hr a, x2 q hq c, pk_un a, pk_un c, pk_uLn a, pk_uLn c]
      exact U r q hr hq kr kq
theorem Con_reg {d : Nat} {k t : Int32} {l h x w : Int64} (C : Con_ K L H S π rg ce kt kw tg wd ks vs mn b) (hd : d < 8) (v : V_ k l h x t w b π kt) (u : k = 6 → ∀ r, r < 14 → K (g_ r) = 6 → cx_ rg ce r = x ∧ tg r = t ∧ wd r = w) : Con_ (upd K d k) (vp_updL L d l) (vp_updL H d h) S π (vp_updL rg d x) ce kt kw (upd tg d t) (vp_updL wd d w) ks vs mn b := by
  have un := Un_upd (e := d) (k := k) (rg' := vp_updL rg d x) (ce' := ce) C.2.2.1.2 (by omega) (by unfold cx_; rw [if_pos hd, pk_uLs]) (fun r _ e => by unfold cx_; rw [pk_uLn e]) u
  rw [g_lo hd] at un
  refine ⟨fun r hr => ?_, by rw [pk_uLn (by omega)]; exact C.2.1, ⟨C.2.2.1.1, un⟩, C.2.2.2⟩
  by_cases e : r = d
  · subst e
    have ex : cx_ (vp_updL rg r x) ce r = x := by unfold cx_; rw [if_pos hd, pk_uLs]
    rw [g_lo hd, pk_us, pk_us, pk_uLs, pk_uLs, pk_uLs, ex]
    exact v
  · have n1 : ¬ g_ r = d := by rw [← g_lo hd]; exact fun z => e (g_inj z)
    have ex : cx_ (vp_updL rg d x) ce r = cx_ rg ce r := by unfold cx_; rw [pk_uLn e]
    rw [pk_un n1, pk_un e, pk_uLn n1, pk_uLn n1, pk_uLn e, ex]
    exact C.1 r hr
theorem Mp_ce {c : Nat} {x : Int64} (hc : c < 6) (M : Mp_ π kt kw ce ks vs mn) : Mp_ π kt kw (vp_updL ce c x) ks vs mn := by
  intro m hm
  obtain ⟨n, e, a1, a2, a3, a4⟩ := M m hm
  refine ⟨n, e, a1, a2, fun s h1 h2 h3 => ?_, a4⟩
  rw [pk_uLn (by omega), pk_uLn (by omega)]
  exact a3 s h1 h2 h3
theorem Con_cell {c : Nat} {k t : Int32} {l h x w : Int64} (C : Con_ K L H S π rg ce kt kw tg wd ks vs mn b) (hc : c < 6) (v : V_ k l h x t w b π kt) (u : k = 6 → ∀ r, r < 14 → K (g_ r) = 6 → cx_ rg ce r = x ∧ tg r = t ∧ wd r = w) : Con_ (upd K (10 + c) k) (vp_updL L (10 + c) l) (vp_updL H (10 + c) h) S π rg (vp_updL ce c x) kt kw (upd tg (8 + c) t) (vp_updL wd (8 + c) w) ks vs mn b := by
  have un := Un_upd (e := 8 + c) (k := k) (rg' := rg) (ce' := vp_updL ce c x) C.2.2.1.2 (by omega) (by unfold cx_; rw [if_neg (by omega), show 8 + c - 8 = c from by omega, pk_uLs]) (fun r _ e => by unfold cx_; split <;> first | rfl | rw [pk_uLn (by omega)]) u
  rw [g_hi] at un
  refine ⟨fun r hr => ?_, C.2.1, ⟨C.2.2.1.1, un⟩, Mp_ce hc C.2.2.2⟩
  by_cases e : r = 8 + c
  · subst e
    have ex : cx_ rg (vp_updL ce c x) (8 + c) = x := by unfold cx_; rw [if_neg (by omega), show 8 + c - 8 = c from by omega, pk_uLs]
    rw [g_hi, pk_us, pk_us, pk_uLs, pk_uLs, pk_uLs, ex]
    exact v
  · have n1 : ¬ g_ r = 10 + c := by rw [← g_hi c]; exact fun z => e (g_inj z)
    have ex : cx_ rg (vp_updL ce c x) r = cx_ rg ce r := by
      unfold cx_; split
      · rfl
      · rw [pk_uLn (by omega)]
    rw [pk_un n1, pk_un e, pk_uLn n1, pk_uLn n1, pk_uLn e, ex]
    exact C.1 r hr
theorem Con_9 {k : Int32} {l h : Int64} (C : Con_ K L H S π rg ce kt kw tg wd ks vs mn b) : Con_ (upd K 9 k) (vp_updL L 9 l) (vp_updL H 9 h) S π rg ce kt kw tg wd ks vs mn b := by
  refine ⟨fun r hr => ?_, C.2.1, ⟨C.2.2.1.1, fun r t hr ht kr kt => ?_⟩, C.2.2.2⟩
  · rw [pk_un (g_9 r), pk_uLn (g_9 r), pk_uLn (g_9 r)]; exact C.1 r hr
  · rw [pk_un (g_9 r)] at kr
    rw [pk_un (g_9 t)] at kt
    exact C.2.2.1.2 r t hr ht kr kt
theorem Con_k9 {o : Int32} {w : Int64} (C : Con_ K L H S π rg ce kt kw tg wd ks vs mn b) : Con_ (k9_ o K) (l9_ o w L) (l9_ o w H) S π rg ce kt kw tg wd ks vs mn b := by
  by_cases r : rg_ o
  · rw [k9_t r, l9_t r, l9_t r]; exact C
  · rw [k9_f r, l9_f r, l9_f r]; exact Con_9 C
/-- a register, the frame too -/
theorem Con_s {s : Nat} (W : WF_ K L H S) (C : Con_ K L H S π rg ce kt kw tg wd ks vs mn b) (hs : s < 9) : V_ (K s) (L s) (H s) (rg s) (if s = 8 then 4 else tg s) (if s = 8 then 0 else wd s) b π kt := by
  by_cases z : s = 8
  · subst z
    rw [if_pos rfl, if_pos rfl, W.2.1, W.2.2.1, C.2.1]
    exact V_4 rfl (by decide)
  · rw [if_neg z, if_neg z]
    have v := C.1 s (by omega)
    rw [g_lo (by omega)] at v
    have ex : cx_ rg ce s = rg s := by unfold cx_; rw [if_pos (by omega)]
    rw [ex] at v
    exact v
theorem Con_su {s : Nat} (W : WF_ K L H S) (C : Con_ K L H S π rg ce kt kw tg wd ks vs mn b) (hs : s < 9) (k6 : K s = 6) : ∀ r, r < 14 → K (g_ r) = 6 → cx_ rg ce r = rg s ∧ tg r = (if s = 8 then 4 else tg s) ∧ wd r = (if s = 8 then 0 else wd s) := by
  intro r hr kr
  have s8 : ¬ s = 8 := by intro z; rw [z, W.2.1] at k6; exact absurd k6 (by decide)
  have ex : cx_ rg ce s = rg s := by unfold cx_; rw [if_pos (by omega)]
  rw [if_neg s8, if_neg s8, ← ex]
  exact C.2.2.1.2 r s hr (by omega) kr (by rw [g_lo (by omega)]; exact k6)
theorem Con_qu {s : Nat} {o imm : Int32} (W : WF_ K L H S) (n9 : nine_ o (imm.toInt64 &&& 4294967295) K L H) (C : Con_ K L H S π rg ce kt kw tg wd ks vs mn b) (hs : s < 9) (k6 : K (q9_ o s) = 6) : ∀ r, r < 14 → K (g_ r) = 6 → cx_ rg ce r = (@ite _ (rg_ o) (Classical.propDecidable _) (rg s) (imm.toInt64 &&& 4294967295)) ∧ tg r = (@ite _ (rg_ o) (Classical.propDecidable _) (if s = 8 then 4 else tg s) 1) ∧ wd r = (@ite _ (rg_ o) (Classical.propDecidable _) (if s = 8 then 0 else wd s) (imm.toInt64 &&& 4294967295)) := by
  by_cases q : rg_ o
  · rw [if_pos q, if_pos q, if_pos q]
    rw [q9_t q] at k6
    exact Con_su W C hs k6
  · rw [q9_f q, (n9 q).1] at k6
    exact absurd k6 (by decide)
theorem Con_q {s : Nat} {o imm : Int32} (W : WF_ K L H S) (n9 : nine_ o (imm.toInt64 &&& 4294967295) K L H) (C : Con_ K L H S π rg ce kt kw tg wd ks vs mn b) (hs : s < 9) : V_ (K (q9_ o s)) (L (q9_ o s)) (H (q9_ o s)) (@ite _ (rg_ o) (Classical.propDecidable _) (rg s) (imm.toInt64 &&& 4294967295)) (@ite _ (rg_ o) (Classical.propDecidable _) (if s = 8 then 4 else tg s) 1) (@ite _ (rg_ o) (Classical.propDecidable _) (if s = 8 then 0 else wd s) (imm.toInt64 &&& 4294967295)) b π kt := by
  by_cases r : rg_ o
  · rw [if_pos r, if_pos r, if_pos r, q9_t r]
    exact Con_s W C hs
  · rw [if_neg r, if_neg r, if_neg r, q9_f r]
    obtain ⟨a1, a2, a3⟩ := n9 r
    rw [a1, a2, a3]
    obtain ⟨m, hm, e⟩ := pf_andw imm.toInt64
    rw [e]
    exact V_1 rfl ⟨m, m, m, Nat.le_refl _, Nat.le_refl _, hm, rfl, rfl, rfl⟩
end
end
section
theorem su_and (n : Nat) : lN n &&& 4294967295 = lN (n % 2 ^ 32) := by
  apply uN_inj
  have u : ∀ k : Nat, uN (lN k) = k % 2 ^ 64 := fun k => by
    show (UInt64.ofNat k).toNat = _
    rw [UInt64.toNat_ofNat']
  rw [uN_lo, u, u]
  omega
theorem su_andw {n : Nat} (h : n < 2 ^ 32) : lN n &&& 4294967295 = lN n := by rw [su_and, Nat.mod_eq_of_lt h]
theorem su_wd (x : Int64) : wd_ (x &&& 4294967295) := by
  obtain ⟨m, hm, e⟩ := pf_andw x
  exact ⟨m, hm, e⟩
/-- what the run makes of two words lies in what the verifier makes of two intervals -/
theorem su_in {f a b c e n m : Nat} (h1 : 1 ≤ f) (h6 : f ≤ 6) (an : a ≤ n) (nb : n ≤ b) (hb : b < 2 ^ 32) (cm : c ≤ m) (me : m ≤ e) (he : e < 2 ^ 32) : inb_ (ab_l (cb_l (nI f) (lN a) (lN b) (lN c) (lN e)) (cb_h (nI f) (lN a) (lN b) (lN c) (lN e))) (ab_h (cb_l (nI f) (lN a) (lN b) (lN c) (lN e)) (cb_h (nI f) (lN a) (lN b) (lN c) (lN e))) (rw_ f (lN n) (lN m) &&& 4294967295) := by
  by_cases ok : ab_ok (cb_l (nI f) (lN a) (lN b) (lN c) (lN e)) (cb_h (nI f) (lN a) (lN b) (lN c) (lN e))
  · rw [ab_l_t ok, ab_h_t ok]
    have ef : f = 1 ∨ f = 2 ∨ f = 3 ∨ f = 4 ∨ f = 5 ∨ f = 6 := by omega
    rcases ef with rfl | rfl | rfl | rfl | rfl | rfl
    · rw [cb_1.1, cb_1.2, lN_add, lN_add] at ok ⊢
      rw [pu_ok (by omega) (by omega)] at ok
      have er : rw_ 1 (lN n) (lN m) = lN (n + m) := by unfold rw_; rw [if_pos rfl, lN_add]
      rw [er, su_andw (by omega)]
      exact ⟨a + c, n + m, b + e, by omega, by omega, by omega, rfl, rfl, rfl⟩
    · rw [cb_2.1, cb_2.2] at ok ⊢
      have h := ok.1
      rw [pu_sub0 (by omega) (by omega)] at h
      have er : rw_ 2 (lN n) (lN m) = lN (n - m) := by unfold rw_; rw [if_neg (by decide), if_pos rfl, lN_sub (by omega)]
      rw [lN_sub (by omega), lN_sub (by omega), er, su_andw (by omega)]
      exact ⟨a - e, n - m, b - c, by omega, by omega, by omega, rfl, rfl, rfl⟩
    · rw [cb_3.1, cb_3.2, lN_mul, lN_mul] at ok ⊢
      have m1 := cb_mulN hb he
      have q1 : a * c ≤ n * m := Nat.mul_le_mul an cm
      have q2 : n * m ≤ b * e := Nat.mul_le_mul nb me
      have h3 : b * e < 2 ^ 63 := by
        apply Classical.byContradiction
        intro z
        exact ok.2.2.1 (cb_big m1 (by omega))
      rw [pu_ok (by omega) h3] at ok
      have er : rw_ 3 (lN n) (lN m) = lN (n * m) := by unfold rw_; rw [if_neg (by decide), if_neg (by decide), if_pos rfl, lN_mul]
      rw [er, su_andw (by omega)]
      exact ⟨a * c, n * m, b * e, q1, q2, by omega, rfl, rfl, rfl⟩
    · rw [cb_4.1, cb_4.2]
      have er : rw_ 4 (lN n) (lN m) = lN (n &&& m) := by unfold rw_; rw [if_neg (by decide), if_neg (by decide), if_neg (by decide), if_pos rfl, wb_and (by omega) (by omega)]
      have q1 : n &&& m ≤ n := Nat.and_le_left
      have q2 : n &&& m ≤ m := Nat.and_le_right
      rw [er, su_andw (by omega)]
      split
      · exact ⟨0, n &&& m, e, by omega, by omega, he, rfl, rfl, rfl⟩
      · exact ⟨0, n &&& m, b, by omega, by omega, hb, rfl, rfl, rfl⟩
    · rw [cb_5.1, cb_5.2, pu_or hb he]
      obtain ⟨k, hk, h2, h3⟩ := on_ex (pu_orlt hb he)
      have pm : 2 ^ k ≤ 2 ^ 32 := Nat.pow_le_pow_right (by decide) hk
      have l1 : b ≤ b ||| e := Nat.left_le_or
      have l2 : e ≤ b ||| e := Nat.right_le_or
      have er : rw_ 5 (lN n) (lN m) = lN (n ||| m) := by unfold rw_; rw [if_neg (by decide), if_neg (by decide), if_neg (by decide), if_neg (by decide), if_pos rfl, wb_or (by omega) (by omega)]
      have q1 : n ≤ n ||| m := Nat.left_le_or
      have q2 : m ≤ n ||| m := Nat.right_le_or
      have q3 : n ||| m < 2 ^ k := Nat.or_lt_two_pow (by omega) (by omega)
      rw [h2, er, su_andw (by omega)]
      split
      · exact ⟨c, n ||| m, 2 ^ k - 1, by omega, by omega, by omega, rfl, rfl, rfl⟩
      · exact ⟨a, n ||| m, 2 ^ k - 1, by omega, by omega, by omega, rfl, rfl, rfl⟩
    · rw [cb_6.1, cb_6.2]
      have er : rw_ 6 (lN n) (lN m) = sh_r (lN n) (lN m) := by unfold rw_; rw [if_neg (by decide), if_neg (by decide), if_neg (by decide), if_neg (by decide), if_neg (by decide)]
      obtain ⟨d, hd⟩ := pu_sh (lN m)
      have q1 : n / 2 ^ d ≤ n := Nat.div_le_self _ _
      rw [er, hd n (by omega), su_andw (by omega)]
      split
      · next z =>
        have z' := (pk_lEQ (by omega) (by omega)).mp z
        have : m = c := by omega
        subst this
        rw [hd a (by omega), hd b hb]
        have q2 : b / 2 ^ d ≤ b := Nat.div_le_self _ _
        exact ⟨a / 2 ^ d, n / 2 ^ d, b / 2 ^ d, Nat.div_le_div_right an, Nat.div_le_div_right nb, by omega, rfl, rfl, rfl⟩
      · exact ⟨0, n / 2 ^ d, b, Nat.zero_le _, by omega, hb, rfl, rfl, rfl⟩
  · rw [ab_l_f ok, ab_h_f ok]
    obtain ⟨k, hk, e⟩ := su_wd (rw_ f (lN n) (lN m))
    rw [e]
    exact ⟨0, k, 4294967295, by omega, by omega, by omega, rfl, rfl, rfl⟩
theorem su_rx {f n m : Nat} (h1 : 1 ≤ f) (h6 : f ≤ 6) (hn : n < 2 ^ 32) (hm : m < 2 ^ 32) : rx_ f (lN n) (lN m) = rw_ f (lN n) (lN m) &&& 4294967295 := by
  unfold rx_
  rw [if_neg (by omega)]
  by_cases z : f ≤ 3
  · rw [if_pos z]
  · rw [if_neg z]
    have ef : f = 4 ∨ f = 5 ∨ f = 6 := by omega
    rcases ef with rfl | rfl | rfl
    · have er : rw_ 4 (lN n) (lN m) = lN (n &&& m) := by unfold rw_; rw [if_neg (by decide), if_neg (by decide), if_neg (by decide), if_pos rfl, wb_and (by omega) (by omega)]
      have q1 : n &&& m ≤ n := Nat.and_le_left
      rw [er, su_andw (by omega)]
    · have er : rw_ 5 (lN n) (lN m) = lN (n ||| m) := by unfold rw_; rw [if_neg (by decide), if_neg (by decide), if_neg (by decide), if_neg (by decide), if_pos rfl, wb_or (by omega) (by omega)]
      rw [er, su_andw (Nat.or_lt_two_pow hn hm)]
    · have er : rw_ 6 (lN n) (lN m) = sh_r (lN n) (lN m) := by unfold rw_; rw [if_neg (by decide), if_neg (by decide), if_neg (by decide), if_neg (by decide), if_neg (by decide)]
      obtain ⟨d, hd⟩ := pu_sh (lN m)
      have q1 : n / 2 ^ d ≤ n := Nat.div_le_self _ _
      rw [er, hd n (by omega), su_andw (by omega)]
theorem su_mask (z y : Int64) : ((z &&& 4294967295) + y) &&& 4294967295 = (z + y) &&& 4294967295 := by
  apply uN_inj
  rw [uN_lo, uN_add, uN_lo, uN_lo, uN_add]
  omega
theorem su_masks (z y : Int64) : ((z &&& 4294967295) - y) &&& 4294967295 = (z - y) &&& 4294967295 := by
  rw [Int64.sub_eq_add_neg, Int64.sub_eq_add_neg, su_mask]
def XS_ (o : Int32) (d s : Nat) (off imm : Int32) (b : Nat) (pX : Nat → Int32) (rg ce kw : Nat → Int64) (kt : Nat → Int32) (r : Int32) (rg' ce' kw' : Nat → Int64) (kt' : Nat → Int32) : Prop := ∀ (x_safe : Int64) (x_at : Int32) (x_exitLeast : Int64) (x_exitMost : Int64) (x_branches : Int32) (x_faultPlace : Int32) (x_provedLeast : Int64) (x_provedMost : Int64) (x_packetLength : Int32) (x_executed : Int32) (x_ops : Nat → Int32) (x_targets : Nat → Int32) (x_sources : Nat → Int32) (x_offsets : Nat → Int32) (x_immediates : Nat → Int32) (x_lengths : Nat → Int32) (x_kinds : Nat → Int32) (x_los : Nat → Int64) (x_his : Nat → Int64) (x_reached : Nat → Int32) (x_branchAt : Nat → Int32) (x_branchSafe : Nat → Int64) (x_branchKinds : Nat → Int32) (x_branchLos : Nat → Int64) (x_branchHis : Nat → Int64) (x_packet : Nat → Int32) (x_registers : Nat → Int64) (x_cells : Nat → Int64) (x_keyWords : Nat → Int64) (x_keyTaken : Nat → Int32) (i : Nat) (post : Int32 → SX → Prop), i < 120 → x_ops i = o → x_targets i = nI d → x_sources i = nI s → x_offsets i = off → x_immediates i = imm → post r (x_safe, x_at, x_exitLeast, x_exitMost, x_branches, x_faultPlace, x_provedLeast, x_provedMost, nI b, x_executed, x_ops, x_targets, x_sources, x_offsets, x_immediates, x_lengths, x_kinds, x_los, x_his, x_reached, x_branchAt, x_branchSafe, x_branchKinds, x_branchLos, x_branchHis, pX, rg', ce', kw', kt') → wpX_perform post (x_safe, x_at, x_exitLeast, x_exitMost, x_branches, x_faultPlace, x_provedLeast, x_provedMost, nI b, x_executed, x_ops, x_targets, x_sources, x_offsets, x_immediates, x_lengths, x_kinds, x_los, x_his, x_reached, x_branchAt, x_branchSafe, x_branchKinds, x_branchLos, x_branchHis, pX, rg, ce, kw, kt) (nI i)
def YS_ (o : Int32) (d s : Nat) (off imm : Int32) (b : Nat) (pY : Nat → Int32) (tg : Nat → Int32) (wd ks vs : Nat → Int64) (mn : Nat → Int32) (δ : Nat) (tg' : Nat → Int32) (wd' ks' vs' : Nat → Int64) (mn' : Nat → Int32) : Prop := ∀ (y_place : Int32) (y_least : Int64) (y_most : Int64) (y_smallest : Int64) (y_greatest : Int64) (y_ways : Int32) (y_fault : Int32) (y_base : Int32) (y_otherKind : Int32) (y_otherLo : Int64) (y_otherHi : Int64) (y_low : Int64) (y_high : Int64) (y_bytes : Int32) (y_steps : Int32) (y_op : Nat → Int32) (y_first : Nat → Int32) (y_second : Nat → Int32) (y_offset : Nat → Int32) (y_given : Nat → Int32) (y_length : Nat → Int32) (y_there : Nat → Int32) (y_known : Nat → Int32) (y_lo : Nat → Int64) (y_hi : Nat → Int64) (y_at : Nat → Int32) (y_lookups : Nat → Int32) (y_safe : Nat → Int32) (y_met : Nat → Int32) (y_tag : Nat → Int32) (y_word : Nat → Int64) (y_packet : Nat → Int32) (y_keys : Nat → Int64) (y_values : Nat → Int64) (y_many : Nat → Int32) (i a : Nat) (post : Int32 → SY → Prop), i < 120 → y_op i = o → y_first i = nI d → y_second i = nI s → y_offset i = off → y_given i = imm → post (nI (a + δ)) (y_place, y_least, y_most, y_smallest, y_greatest, y_ways, y_fault, y_base, y_otherKind, y_otherLo, y_otherHi, y_low, y_high, nI b, y_steps, y_op, y_first, y_second, y_offset, y_given, y_length, y_there, y_known, y_lo, y_hi, y_at, y_lookups, y_safe, y_met, tg', wd', pY, ks', vs', mn') → wpY_step post (y_place, y_least, y_most, y_smallest, y_greatest, y_ways, y_fault, y_base, y_otherKind, y_otherLo, y_otherHi, y_low, y_high, nI b, y_steps, y_op, y_first, y_second, y_offset, y_given, y_length, y_there, y_known, y_lo, y_hi, y_at, y_lookups, y_safe, y_met, tg, wd, pY, ks, vs, mn) (nI i) (nI a)
def SP_ (o : Int32) (d s : Nat) (off imm : Int32) (K : Nat → Int32) (L H : Nat → Int64) (S : Int64) (K' : Nat → Int32) (L' H' : Nat → Int64) : Prop := ∀ (π : Nat → Nat) (rg ce : Nat → Int64) (kt : Nat → Int32) (kw : Nat → Int64) (tg : Nat → Int32) (wd ks vs : Nat → Int64) (mn : Nat → Int32) (b : Nat) (pX pY : Nat → Int32), Con_ K L H S π rg ce kt kw tg wd ks vs mn b → b ≤ 24 → (∀ j, pX j = pY j &&& 255) → ∃ (π' : Nat → Nat) (rg' ce' : Nat → Int64) (kt' : Nat → Int32) (kw' : Nat → Int64) (tg' : Nat → Int32) (wd' ks' vs' : Nat → Int64) (mn' : Nat → Int32), Con_ K' L' H' S π' rg' ce' kt' kw' tg' wd' ks' vs' mn' b ∧ XS_ o d s off imm b pX rg ce kw kt 0 rg' ce' kw' kt' ∧ YS_ o d s off imm b pY tg wd ks vs mn 1 tg' wd' ks' vs' mn'
/-- the second operand of arithmetic and of jumps -/
noncomputable def so_ (o imm : Int32) (rg : Nat → Int64) (s : Nat) : Int64 := @ite _ (rg_ o) (Classical.propDecidable _) (rg s) (imm.toInt64 &&& 4294967295)
noncomputable def ts_ (o : Int32) (tg : Nat → Int32) (s : Nat) : Int32 := @ite _ (rg_ o) (Classical.propDecidable _) (if s = 8 then 4 else tg s) 1
noncomputable def ws_ (o imm : Int32) (wd : Nat → Int64) (s : Nat) : Int64 := @ite _ (rg_ o) (Classical.propDecidable _) (if s = 8 then 0 else wd s) (imm.toInt64 &&& 4294967295)
section
variable {o off imm : Int32} {d s f : Nat} {K : Nat → Int32} {L H : Nat → Int64} {S : Int64}
theorem xs_ar {b : Nat} {pX : Nat → Int32} {rg ce kw : Nat → Int64} {kt : Nat → Int32} (ho : oa_ o f) (hd : d < 8) (hs : s < 9) : XS_ o d s off imm b pX rg ce kw kt 0 (vp_updL rg d (rx_ f (rg d) (so_ o imm rg s))) ce kw kt := by
  intro x_safe x_at x_exitLeast x_exitMost x_branches x_faultPlace x_provedLeast x_provedMost x_packetLength x_executed x_ops x_targets x_sources x_offsets x_immediates x_lengths x_kinds x_los x_his x_reached x_branchAt x_branchSafe x_branchKinds x_branchLos x_branchHis x_packet x_registers x_cells x_keyWords x_keyTaken i post hi eo e1 e2 e3 e4 P
  refine xr_69 hi hs eo e1 e2 (sv := so_ o imm rg s) ?_ (xr_arith ho (by omega) P)
  obtain ⟨-, -, -, -, -, q | q⟩ := oa_f ho
  · rw [if_pos (Or.inl q.2.2)]; unfold so_; rw [if_pos q.1]
  · rw [if_neg (by rw [q.2.2]; decide), e4]; unfold so_; rw [if_neg q.1]
theorem ys_op {y_tag : Nat → Int32} {y_word : Nat → Int64} {y_given : Nat → Int32} {i : Nat} (hr : (rg_ o ↔ (¬ o < 10 ∧ o < 20) ∨ ¬ o ≤ 30)) (eg : y_given i = imm) : (¬ rg_ o ∧ ts_ o y_tag s = 1 ∧ ws_ o imm y_word s = (y_given i).toInt64 &&& 4294967295) ∨ (rg_ o ∧ s = 8 ∧ ts_ o y_tag s = 4 ∧ ws_ o imm y_word s = 0) ∨ (rg_ o ∧ ¬ s = 8 ∧ ts_ o y_tag s = y_tag s ∧ ws_ o imm y_word s = y_word s) := by
  unfold ts_ ws_
  by_cases r : rg_ o
  · rw [if_pos r, if_pos r]
    by_cases z : s = 8
    · rw [if_pos z, if_pos z]; exact Or.inr (Or.inl ⟨r, z, rfl, rfl⟩)
    · rw [if_neg z, if_neg z]; exact Or.inr (Or.inr ⟨r, z, rfl, rfl⟩)
  · rw [if_neg r, if_neg r, eg]; exact Or.inl ⟨r, rfl, rfl⟩
theorem oa_rg (ho : oa_ o f) : rg_ o ↔ (¬ o < 10 ∧ o < 20) ∨ ¬ o ≤ 30 := by
  obtain ⟨h6, h⟩ := ho
  have e : f = 0 ∨ f = 1 ∨ f = 2 ∨ f = 3 ∨ f = 4 ∨ f = 5 ∨ f = 6 := by omega
  unfold rg_
  rcases e with rfl | rfl | rfl | rfl | rfl | rfl | rfl <;> rcases h with rfl | rfl <;> decide
theorem sp_a0 (ho : oa_ o 0) (hd : d < 8) (hs : s < 9) (W : WF_ K L H S) (n9 : nine_ o (imm.toInt64 &&& 4294967295) K L H) (u : ¬ K (q9_ o s) = 0) : SP_ o d s off imm K L H S (upd K d (K (q9_ o s))) (vp_updL L d (L (q9_ o s))) (vp_updL H d (H (q9_ o s))) := by
  intro π rg ce kt kw tg wd ks vs mn b pX pY C hb hp
  have v := Con_q W n9 C hs
  refine ⟨π, _, ce, kt, kw, _, _, ks, vs, mn, Con_reg C hd v (Con_qu W n9 C hs), xs_ar ho hd hs, ?_⟩
  intro y_place y_least y_most y_smallest y_greatest y_ways y_fault y_base y_otherKind y_otherLo y_otherHi y_low y_high y_bytes y_steps y_op y_first y_second y_offset y_given y_length y_there y_known y_lo y_hi y_at y_lookups y_safe y_met y_tag y_word y_packet y_keys y_values y_many i a post hi eo e1 e2 e3 e4 P
  refine yr_114 hi hs eo e1 e2 (oa_rg ho) (ys_op (oa_rg ho) e4) (yr_arith0 ho (by omega) (V_t v (W.1 _ (q9_16 hs)).1 u) P)
theorem sp_aS (ho : oa_ o f) (h1 : 1 ≤ f) (hd : d < 8) (hs : s < 9) (W : WF_ K L H S) (n9 : nine_ o (imm.toInt64 &&& 4294967295) K L H) (k : K (q9_ o s) = 1) (k1 : K d = 1) {l h : Int64} (el : l = ab_l (cb_l (nI f) (L d) (H d) (L (q9_ o s)) (H (q9_ o s))) (cb_h (nI f) (L d) (H d) (L (q9_ o s)) (H (q9_ o s)))) (eh : h = ab_h (cb_l (nI f) (L d) (H d) (L (q9_ o s)) (H (q9_ o s))) (cb_h (nI f) (L d) (H d) (L (q9_ o s)) (H (q9_ o s)))) : SP_ o d s off imm K L H S K (vp_updL L d l) (vp_updL H d h) := by
  intro π rg ce kt kw tg wd ks vs mn b pX pY C hb hp
  have v := Con_q W n9 C hs
  have vd := Con_s W C (s := d) (by omega)
  rw [if_neg (by omega), if_neg (by omega)] at vd
  obtain ⟨t1, t2, a, n, c, an, nc, hc, ea, en, ec⟩ := vd.1 k1
  obtain ⟨s1, s2, p, m, e, pm, me, he, ep, em, ee⟩ := v.1 k
  have X := xs_ar (off := off) (imm := imm) (b := b) (pX := pX) (rg := rg) (ce := ce) (kw := kw) (kt := kt) ho hd hs
  have eso : so_ o imm rg s = lN m := em
  have ews : ws_ o imm wd s = lN m := s2.trans em
  rw [en, eso, su_rx h1 ho.1 (by omega) (by omega)] at X
  have I := su_in h1 ho.1 an nc hc pm me he
  rw [← ea, ← ec, ← ep, ← ee, ← el, ← eh] at I
  refine ⟨π, _, ce, kt, kw, upd tg d 1, vp_updL wd d (rw_ f (lN n) (lN m) &&& 4294967295), ks, vs, mn, ?_, X, ?_⟩
  · have G := Con_reg (d := d) C hd (V_1 (w := rw_ f (lN n) (lN m) &&& 4294967295) rfl I) (fun z => absurd z (by decide))
    rw [xb_updid k1] at G
    exact G
  · intro y_place y_least y_most y_smallest y_greatest y_ways y_fault y_base y_otherKind y_otherLo y_otherHi y_low y_high y_bytes y_steps y_op y_first y_second y_offset y_given y_length y_there y_known y_lo y_hi y_at y_lookups y_safe y_met y_tag y_word y_packet y_keys y_values y_many i a' post hi eo e1 e2 e3 e4 P
    refine yr_114 hi hs eo e1 e2 (oa_rg ho) (ys_op (oa_rg ho) e4) (yr_arith ho h1 (by omega) ?_)
    rw [xb_updid t1] at P
    rw [if_pos t1, t2, en, ews]
    exact P
theorem sp_aP (ho : oa_ o 1) (hd : d < 8) (hs : s < 9) (W : WF_ K L H S) (n9 : nine_ o (imm.toInt64 &&& 4294967295) K L H) (k : K (q9_ o s) = 1) (k1 : K d = 2) (hh : H d + H (q9_ o s) ≤ 255) : SP_ o d s off imm K L H S (upd K d 2) (vp_updL L d (L d + L (q9_ o s))) (vp_updL H d (H d + H (q9_ o s))) := by
  intro π rg ce kt kw tg wd ks vs mn b pX pY C hb hp
  have v := Con_q W n9 C hs
  have vd := Con_s W C (s := d) (by omega)
  rw [if_neg (by omega), if_neg (by omega)] at vd
  obtain ⟨t1, t2, a, n, c, an, nc, hc, ea, en, ec⟩ := vd.2.1 k1
  obtain ⟨s1, s2, p, m, e, pm, me, he, ep, em, ee⟩ := v.1 k
  have X := xs_ar (off := off) (imm := imm) (b := b) (pX := pX) (rg := rg) (ce := ce) (kw := kw) (kt := kt) ho hd hs
  have eso : so_ o imm rg s = lN m := em
  have ews : ws_ o imm wd s = lN m := s2.trans em
  have e255 : (255 : Int64) = lN 255 := by rfl
  rw [ec, ee, lN_add, e255, pk_lLE (by omega) (by omega)] at hh
  have er : rw_ 1 (lN n) (lN m) = lN (n + m) := by unfold rw_; rw [if_pos rfl, lN_add]
  rw [en, eso, su_rx (by decide) (by decide) (by omega) (by omega), er, su_andw (by omega)] at X
  refine ⟨π, _, ce, kt, kw, upd tg d 2, vp_updL wd d (lN (n + m)), ks, vs, mn, ?_, X, ?_⟩
  · rw [ea, ec, ep, ee, lN_add, lN_add]
    exact Con_reg (d := d) C hd (V_2 rfl ⟨a + p, n + m, c + e, by omega, by omega, by omega, rfl, rfl, rfl⟩) (fun z => absurd z (by decide))
  · intro y_place y_least y_most y_smallest y_greatest y_ways y_fault y_base y_otherKind y_otherLo y_otherHi y_low y_high y_bytes y_steps y_op y_first y_second y_offset y_given y_length y_there y_known y_lo y_hi y_at y_lookups y_safe y_met y_tag y_word y_packet y_keys y_values y_many i a' post hi eo e1 e2 e3 e4 P
    refine yr_114 hi hs eo e1 e2 (oa_rg ho) (ys_op (oa_rg ho) e4) (yr_arith ho (by decide) (by omega) ?_)
    rw [xb_updid t1] at P
    rw [if_neg (by rw [t1]; decide), t2, en, ews, er]
    exact P
theorem sp_aC (ho : oa_ o f) (hf : f = 1 ∨ f = 2) (hd : d < 8) (hs : s < 9) (W : WF_ K L H S) (n9 : nine_ o (imm.toInt64 &&& 4294967295) K L H) (k : K (q9_ o s) = 1) (k1 : K d = 4 ∨ K d = 5) (a1 : L (q9_ o s) = H (q9_ o s)) {l : Int64} (el : l = if f = 1 then L d + L (q9_ o s) else L d - L (q9_ o s)) : SP_ o d s off imm K L H S (upd K d (K d)) (vp_updL L d l) (vp_updL H d l) := by
  intro π rg ce kt kw tg wd ks vs mn b pX pY C hb hp
  have v := Con_q W n9 C hs
  have vd := Con_s W C (s := d) (by omega)
  rw [if_neg (by omega), if_neg (by omega)] at vd
  obtain ⟨s1, s2, p, m, e, pm, me, he, ep, em, ee⟩ := v.1 k
  have pe : p = e := by rw [ep, ee] at a1; exact (pk_lEQ (by omega) (by omega)).mp a1
  have mp : m = p := by omega
  subst mp
  have eso : so_ o imm rg s = L (q9_ o s) := em.trans ep.symm
  have ews : ws_ o imm wd s = L (q9_ o s) := (s2.trans em).trans ep.symm
  have X := xs_ar (off := off) (imm := imm) (b := b) (pX := pX) (rg := rg) (ce := ce) (kw := kw) (kt := kt) ho hd hs
  rw [eso] at X
  have t5 : tg d = 4 ∨ tg d = 5 := by
    rcases k1 with k1 | k1
    · exact Or.inl (vd.2.2.2.1 k1).1
    · exact Or.inr (vd.2.2.2.2.1 k1).1
  refine ⟨π, _, ce, kt, kw, upd tg d (tg d), vp_updL wd d (rw_ f (wd d) (L (q9_ o s))), ks, vs, mn, Con_reg (d := d) C hd ?_ (fun z => by rcases k1 with q | q <;> rw [q] at z <;> exact absurd z (by decide)), X, ?_⟩
  · have er : ∀ z y : Int64, rw_ f z y = if f = 1 then z + y else z - y := by
      intro z y; unfold rw_; rcases hf with rfl | rfl
      · rfl
      · rfl
    have ex : ∀ z y : Int64, rx_ f z y = (if f = 1 then z + y else z - y) &&& 4294967295 := by
      intro z y; unfold rx_
      rw [if_neg (by omega), if_pos (by omega), er]
    rw [er, ex]
    rcases k1 with k1 | k1
    · obtain ⟨q1, q2, q3⟩ := vd.2.2.2.1 k1
      rw [k1, q1, q2, q3, el]
      refine V_4 rfl ?_
      rcases hf with rfl | rfl
      · exact su_mask _ _
      · exact su_masks _ _
    · obtain ⟨q1, j, hj, q4, q2, q3⟩ := vd.2.2.2.2.1 k1
      rw [k1, q1, q2, q3, el]
      refine V_5 ⟨j, hj, q4, ?_, ?_⟩
      · rcases hf with rfl | rfl
        · exact Int64.add_assoc _ _ _
        · show lN _ + L d - L (q9_ o s) = lN _ + (L d - L (q9_ o s))
          rw [Int64.sub_eq_add_neg, Int64.sub_eq_add_neg, Int64.add_assoc]
      · rcases hf with rfl | rfl
        · show (((lN (6 + 2 * j) + L d) &&& 4294967295) + L (q9_ o s)) &&& 4294967295 = (lN (6 + 2 * j) + (L d + L (q9_ o s))) &&& 4294967295
          rw [su_mask, Int64.add_assoc]
        · show (((lN (6 + 2 * j) + L d) &&& 4294967295) - L (q9_ o s)) &&& 4294967295 = (lN (6 + 2 * j) + (L d - L (q9_ o s))) &&& 4294967295
          rw [su_masks, Int64.sub_eq_add_neg, Int64.sub_eq_add_neg, Int64.add_assoc]
  · intro y_place y_least y_most y_smallest y_greatest y_ways y_fault y_base y_otherKind y_otherLo y_otherHi y_low y_high y_bytes y_steps y_op y_first y_second y_offset y_given y_length y_there y_known y_lo y_hi y_at y_lookups y_safe y_met y_tag y_word y_packet y_keys y_values y_many i a' post hi eo e1 e2 e3 e4 P
    refine yr_114 hi hs eo e1 e2 (oa_rg ho) (ys_op (oa_rg ho) e4) (yr_arith ho (by omega) (by omega) ?_)
    rw [xb_updid rfl] at P
    rw [if_neg (by rcases t5 with z | z <;> rw [z] <;> decide), ews]
    exact P
end
end
section
theorem sm_i (l : Int64) : (l &&& 4294967295).toInt32 = l.toInt32 := by
  rw [Int64.toInt32_and]
  have : (4294967295 : Int64).toInt32 = -1 := by rfl
  rw [this]
  exact Int32.and_neg_one
theorem sm_ix {l : Int64} {off : Int32} {c : Nat} (e : l + off.toInt64 = lN c) : l.toInt32 + off = nI c := by
  have := congrArg Int64.toInt32 e
  rw [Int64.toInt32_add, Int32.toInt32_toInt64, lN_i] at this
  exact this
/-- a byte's place -/
theorem sm_byte {a n c sn : Nat} {off : Int32} (an : a ≤ n) (nc : n ≤ c) (hc : c < 256) (hs : sn ≤ 24) (nf : ¬ far_ off) (b1 : ¬ lN a + off.toInt64 < 0) (b2 : lN c + off.toInt64 < lN sn) : ∃ k : Nat, k < sn ∧ (lN n).toInt32 + off = nI k := by
  have f1 : ¬ off < -100 := fun z => nf (Or.inl z)
  have f2 : off ≤ 100 := Classical.byContradiction fun z => nf (Or.inr z)
  rw [Int32.lt_iff_toInt_lt] at f1
  rw [Int32.le_iff_toInt_le] at f2
  have c1 : (-100 : Int32).toInt = -100 := by decide
  have c2 : (100 : Int32).toInt = 100 := by decide
  rw [c1] at f1
  rw [c2] at f2
  have t : ∀ x : Nat, x < 256 → (lN x + off.toInt64).toInt = (x : Int) + off.toInt := by
    intro x hx
    rw [Int64.toInt_add, pk_lT (by omega), Int32.toInt_toInt64, Int.bmod_eq_of_le (by omega) (by omega)]
  rw [pu_lt0, t a (by omega)] at b1
  rw [Int64.lt_iff_toInt_lt, t c hc, pk_lT (by omega)] at b2
  refine ⟨((n : Int) + off.toInt).toNat, by omega, ?_⟩
  apply sm_ix
  apply Int64.toInt_inj.mp
  rw [t n (by omega), pk_lT (by omega)]
  omega
section
variable {y_place : Int32} {y_least : Int64} {y_most : Int64} {y_smallest : Int64} {y_greatest : Int64} {y_ways : Int32} {y_fault : Int32} {y_base : Int32} {y_otherKind : Int32} {y_otherLo : Int64} {y_otherHi : Int64} {y_low : Int64} {y_high : Int64} {y_bytes : Int32} {y_steps : Int32} {y_op : Nat → Int32} {y_first : Nat → Int32} {y_second : Nat → Int32} {y_offset : Nat → Int32} {y_given : Nat → Int32} {y_length : Nat → Int32} {y_there : Nat → Int32} {y_known : Nat → Int32} {y_lo : Nat → Int64} {y_hi : Nat → Int64} {y_at : Nat → Int32} {y_lookups : Nat → Int32} {y_safe : Nat → Int32} {y_met : Nat → Int32} {y_tag : Nat → Int32} {y_word : Nat → Int64} {y_packet : Nat → Int32} {y_keys : Nat → Int64} {y_values : Nat → Int64} {y_many : Nat → Int32}
theorem yr_m {post : Int32 → SY → Prop} {i d a : Nat} {o t : Int32} {v : Int64} (ho : o = 40 ∨ o = 41 ∨ o = 42 ∨ o = 50 ∨ o = 51 ∨ o = 52) (hi : i < 120) (hd : d < 14) (A : o = 40 → wpY_load (fun u => match u with | (y_place, y_least, y_most, y_smallest, y_greatest, y_ways, y_fault, y_base, y_otherKind, y_otherLo, y_otherHi, y_low, y_high, y_bytes, y_steps, y_op, y_first, y_second, y_offset, y_given, y_length, y_there, y_known, y_lo, y_hi, y_at, y_lookups, y_safe, y_met, y_tag, y_word, y_packet, y_keys, y_values, y_many) => post (nI (a + 1)) (y_place, y_least, y_most, y_smallest, y_greatest, y_ways, y_fault, y_base, y_otherKind, y_otherLo, y_otherHi, y_low, y_high, y_bytes, y_steps, y_op, y_first, y_second, y_offset, y_given, y_length, y_there, y_known, y_lo, y_hi, y_at, y_lookups, y_safe, y_met, y_tag, y_word, y_packet, y_keys, y_values, y_many)) (y_place, y_least, y_most, y_smallest, y_greatest, y_ways, y_fault, y_base, y_otherKind, y_otherLo, y_otherHi, y_low, y_high, y_bytes, y_steps, y_op, y_first, y_second, y_offset, y_given, y_length, y_there, y_known, y_lo, y_hi, y_at, y_lookups, y_safe, y_met, y_tag, y_word, y_packet, y_keys, y_values, y_many) (nI d) t (v + (y_offset i).toInt64)) (B : o = 41 → wpY_store (fun u => match u with | (y_place, y_least, y_most, y_smallest, y_greatest, y_ways, y_fault, y_base, y_otherKind, y_otherLo, y_otherHi, y_low, y_high, y_bytes, y_steps, y_op, y_first, y_second, y_offset, y_given, y_length, y_there, y_known, y_lo, y_hi, y_at, y_lookups, y_safe, y_met, y_tag, y_word, y_packet, y_keys, y_values, y_many) => post (nI (a + 1)) (y_place, y_least, y_most, y_smallest, y_greatest, y_ways, y_fault, y_base, y_otherKind, y_otherLo, y_otherHi, y_low, y_high, y_bytes, y_steps, y_op, y_first, y_second, y_offset, y_given, y_length, y_there, y_known, y_lo, y_hi, y_at, y_lookups, y_safe, y_met, y_tag, y_word, y_packet, y_keys, y_values, y_many)) (y_place, y_least, y_most, y_smallest, y_greatest, y_ways, y_fault, y_base, y_otherKind, y_otherLo, y_otherHi, y_low, y_high, y_bytes, y_steps, y_op, y_first, y_second, y_offset, y_given, y_length, y_there, y_known, y_lo, y_hi, y_at, y_lookups, y_safe, y_met, y_tag, y_word, y_packet, y_keys, y_values, y_many) (y_tag d) (y_word d + (y_offset i).toInt64) t v) (C : o = 42 → vp_in (v.toInt32 + y_offset i) 24 ∧ wpY_hold (fun u => match u with | (y_place, y_least, y_most, y_smallest, y_greatest, y_ways, y_fault, y_base, y_otherKind, y_otherLo, y_otherHi, y_low, y_high, y_bytes, y_steps, y_op, y_first, y_second, y_offset, y_given, y_length, y_there, y_known, y_lo, y_hi, y_at, y_lookups, y_safe, y_met, y_tag, y_word, y_packet, y_keys, y_values, y_many) => post (nI (a + 1)) (y_place, y_least, y_most, y_smallest, y_greatest, y_ways, y_fault, y_base, y_otherKind, y_otherLo, y_otherHi, y_low, y_high, y_bytes, y_steps, y_op, y_first, y_second, y_offset, y_given, y_length, y_there, y_known, y_lo, y_hi, y_at, y_lookups, y_safe, y_met, y_tag, y_word, y_packet, y_keys, y_values, y_many)) (y_place, y_least, y_most, y_smallest, y_greatest, y_ways, y_fault, y_base, y_otherKind, y_otherLo, y_otherHi, y_low, y_high, y_bytes, y_steps, y_op, y_first, y_second, y_offset, y_given, y_length, y_there, y_known, y_lo, y_hi, y_at, y_lookups, y_safe, y_met, y_tag, y_word, y_packet, y_keys, y_values, y_many) (nI d) 1 ((y_packet (v.toInt32 + y_offset i).toNatClampNeg &&& 255).toInt64)) (D : o = 50 ∨ o = 51 ∨ o = 52 → wpY_maps (fun u => match u with | (y_place, y_least, y_most, y_smallest, y_greatest, y_ways, y_fault, y_base, y_otherKind, y_otherLo, y_otherHi, y_low, y_high, y_bytes, y_steps, y_op, y_first, y_second, y_offset, y_given, y_length, y_there, y_known, y_lo, y_hi, y_at, y_lookups, y_safe, y_met, y_tag, y_word, y_packet, y_keys, y_values, y_many) => post (nI (a + 1)) (y_place, y_least, y_most, y_smallest, y_greatest, y_ways, y_fault, y_base, y_otherKind, y_otherLo, y_otherHi, y_low, y_high, y_bytes, y_steps, y_op, y_first, y_second, y_offset, y_given, y_length, y_there, y_known, y_lo, y_hi, y_at, y_lookups, y_safe, y_met, y_tag, y_word, y_packet, y_keys, y_values, y_many)) (y_place, y_least, y_most, y_smallest, y_greatest, y_ways, y_fault, y_base, y_otherKind, y_otherLo, y_otherHi, y_low, y_high, y_bytes, y_steps, y_op, y_first, y_second, y_offset, y_given, y_length, y_there, y_known, y_lo, y_hi, y_at, y_lookups, y_safe, y_met, y_tag, y_word, y_packet, y_keys, y_values, y_many) o (y_given i)) : wY_step_114 post (nI i) (nI a) o (nI d) t v y_place y_least y_most y_smallest y_greatest y_ways y_fault y_base y_otherKind y_otherLo y_otherHi y_low y_high y_bytes y_steps y_op y_first y_second y_offset y_given y_length y_there y_known y_lo y_hi y_at y_lookups y_safe y_met y_tag y_word y_packet y_keys y_values y_many := by
  have vi : vp_in (nI i) 120 := vp_in_nI hi (by decide)
  have ci : (nI i).toNatClampNeg = i := nI_clamp (by omega)
  have vd : vp_in (nI d) 14 := vp_in_nI hd (by decide)
  have cd : (nI d).toNatClampNeg = d := nI_clamp (by omega)
  have h20 : 20 ≤ o ∧ ¬ o = 20 ∧ 40 ≤ o := by rcases ho with rfl | rfl | rfl | rfl | rfl | rfl <;> decide
  refine br_t h20.1 (br_f h20.2.1 (br_t h20.2.2 (br_c (fun z => ⟨vi, ?_⟩) (fun n0 => br_c (fun z => ⟨vd, vd, vi, ?_⟩) (fun n1 => br_c (fun z => ⟨vi, ?_⟩) (fun n2 => ⟨vi, ?_⟩))))))
  · rw [ci, nI_1]; exact A z
  · rw [ci, cd, nI_1]; exact B z
  · rw [ci, nI_1]; exact C z
  · rw [ci, nI_1]
    refine D ?_
    rcases ho with h | h | h | h
    · exact absurd h n0
    · exact absurd h n1
    · exact absurd h n2
    · exact h
theorem yr_loadF {post : SY → Prop} {d c : Nat} {v : Int64} (hc : c < 6) (hd : d < 14) (ev : v = lN c) (ht : k7_ (y_tag (8 + c))) (H : post (y_place, y_least, y_most, y_smallest, y_greatest, y_ways, y_fault, y_base, y_otherKind, y_otherLo, y_otherHi, y_low, y_high, y_bytes, y_steps, y_op, y_first, y_second, y_offset, y_given, y_length, y_there, y_known, y_lo, y_hi, y_at, y_lookups, y_safe, y_met, upd y_tag d (y_tag (8 + c)), vp_updL y_word d (y_word (8 + c)), y_packet, y_keys, y_values, y_many)) : wpY_load post (y_place, y_least, y_most, y_smallest, y_greatest, y_ways, y_fault, y_base, y_otherKind, y_otherLo, y_otherHi, y_low, y_high, y_bytes, y_steps, y_op, y_first, y_second, y_offset, y_given, y_length, y_there, y_known, y_lo, y_hi, y_at, y_lookups, y_safe, y_met, y_tag, y_word, y_packet, y_keys, y_values, y_many) (nI d) 4 v := by
  have v1 : vp_in (8 + v.toInt32) 14 := by rw [ev, lN_i, xb_add8]; exact vp_in_nI (by omega) (by decide)
  have c1 : (8 + v.toInt32).toNatClampNeg = 8 + c := by rw [ev, lN_i, xb_add8]; exact nI_clamp (by omega)
  refine br_t rfl ⟨v1, v1, ?_⟩
  rw [c1]
  exact (yr_hold hd ht).mpr H
theorem yr_vix {k c : Nat} {v : Int64} (hk : k < 8) (hc : c < 2) (ev : v = lN (100 * (8 + k) + c)) : (((((v / 100) - 8).toInt32) * 2) + ((v - v / 100 * 100).toInt32)) = nI (2 * k + c) := by
  have e100 : (100 : Int64) = lN 100 := by rfl
  have e8 : (8 : Int64) = lN 8 := by rfl
  have e1 : v / 100 = lN (8 + k) := by
    rw [ev, e100, pk_lDiv (by omega) (by omega) (by omega)]
    congr 1; omega
  have e2 : v - v / 100 * 100 = lN c := by
    rw [ev, e100, pk_lRem (by omega) (by omega) (by omega)]
    congr 1; omega
  rw [e2, e1, e8, lN_sub (by omega), lN_i, lN_i, xb_mur2, nI_add]
  congr 1; omega
theorem yr_loadV {post : SY → Prop} {d k c : Nat} {t : Int32} {v : Int64} (ht : ¬ t = 4) (hk : k < 8) (hc : c < 2) (hd : d < 14) (ev : v = lN (100 * (8 + k) + c)) (H : post (y_place, y_least, y_most, y_smallest, y_greatest, y_ways, y_fault, y_base, y_otherKind, y_otherLo, y_otherHi, y_low, y_high, y_bytes, y_steps, y_op, y_first, y_second, y_offset, y_given, y_length, y_there, y_known, y_lo, y_hi, y_at, y_lookups, y_safe, y_met, upd y_tag d 1, vp_updL y_word d (y_values (2 * k + c)), y_packet, y_keys, y_values, y_many)) : wpY_load post (y_place, y_least, y_most, y_smallest, y_greatest, y_ways, y_fault, y_base, y_otherKind, y_otherLo, y_otherHi, y_low, y_high, y_bytes, y_steps, y_op, y_first, y_second, y_offset, y_given, y_length, y_there, y_known, y_lo, y_hi, y_at, y_lookups, y_safe, y_met, y_tag, y_word, y_packet, y_keys, y_values, y_many) (nI d) t v := by
  have e := yr_vix hk hc ev
  refine br_f ht ⟨by decide, by decide, by rw [e]; exact vp_in_nI (by omega) (by decide), ?_⟩
  rw [e, nI_clamp (n := 2 * k + c) (by omega)]
  exact (yr_hold hd (by unfold k7_; simp)).mpr H
theorem yr_storeF {post : SY → Prop} {c : Nat} {t : Int32} {v w : Int64} (hc : c < 6) (ht : k7_ t) (ev : v = lN c) (H : post (y_place, y_least, y_most, y_smallest, y_greatest, y_ways, y_fault, y_base, y_otherKind, y_otherLo, y_otherHi, y_low, y_high, y_bytes, y_steps, y_op, y_first, y_second, y_offset, y_given, y_length, y_there, y_known, y_lo, y_hi, y_at, y_lookups, y_safe, y_met, upd y_tag (8 + c) t, vp_updL y_word (8 + c) w, y_packet, y_keys, y_values, y_many)) : wpY_store post (y_place, y_least, y_most, y_smallest, y_greatest, y_ways, y_fault, y_base, y_otherKind, y_otherLo, y_otherHi, y_low, y_high, y_bytes, y_steps, y_op, y_first, y_second, y_offset, y_given, y_length, y_there, y_known, y_lo, y_hi, y_at, y_lookups, y_safe, y_met, y_tag, y_word, y_packet, y_keys, y_values, y_many) 4 v t w := by
  refine br_t rfl ?_
  rw [ev, lN_i, xb_add8]
  exact (yr_hold (by omega) ht).mpr H
theorem yr_storeV {post : SY → Prop} {k c : Nat} {t0 t : Int32} {v w : Int64} (ht : ¬ t0 = 4) (hk : k < 8) (hc : c < 2) (ev : v = lN (100 * (8 + k) + c)) (H : post (y_place, y_least, y_most, y_smallest, y_greatest, y_ways, y_fault, y_base, y_otherKind, y_otherLo, y_otherHi, y_low, y_high, y_bytes, y_steps, y_op, y_first, y_second, y_offset, y_given, y_length, y_there, y_known, y_lo, y_hi, y_at, y_lookups, y_safe, y_met, y_tag, y_word, y_packet, y_keys, vp_updL y_values (2 * k + c) w, y_many)) : wpY_store post (y_place, y_least, y_most, y_smallest, y_greatest, y_ways, y_fault, y_base, y_otherKind, y_otherLo, y_otherHi, y_low, y_high, y_bytes, y_steps, y_op, y_first, y_second, y_offset, y_given, y_length, y_there, y_known, y_lo, y_hi, y_at, y_lookups, y_safe, y_met, y_tag, y_word, y_packet, y_keys, y_values, y_many) t0 v t w := by
  have e := yr_vix hk hc ev
  refine br_f ht ⟨by decide, by decide, by rw [e]; exact vp_in_nI (by omega) (by decide), ?_⟩
  rw [e, nI_clamp (n := 2 * k + c) (by omega)]
  exact nm_e H
end
section
variable {o off imm : Int32} {d s : Nat} {K : Nat → Int32} {L H : Nat → Int64} {S : Int64}
theorem om_rg {f : Prop} (ho : o = 40 ∨ o = 41 ∨ o = 42 ∨ o = 50 ∨ o = 51 ∨ o = 52) : True ↔ (¬ o < 10 ∧ o < 20) ∨ ¬ o ≤ 30 := by rcases ho with rfl | rfl | rfl | rfl | rfl | rfl <;> decide
theorem ys_om {y_tag : Nat → Int32} {y_word : Nat → Int64} {y_given : Nat → Int32} {i : Nat} : (¬ True ∧ (if s = 8 then 4 else y_tag s) = 1 ∧ (if s = 8 then 0 else y_word s) = (y_given i).toInt64 &&& 4294967295) ∨ (True ∧ s = 8 ∧ (if s = 8 then 4 else y_tag s) = 4 ∧ (if s = 8 then 0 else y_word s) = 0) ∨ (True ∧ ¬ s = 8 ∧ (if s = 8 then 4 else y_tag s) = y_tag s ∧ (if s = 8 then 0 else y_word s) = y_word s) := by
  by_cases z : s = 8
  · rw [if_pos z, if_pos z]; exact Or.inr (Or.inl ⟨trivial, z, rfl, rfl⟩)
  · rw [if_neg z, if_neg z]; exact Or.inr (Or.inr ⟨trivial, z, rfl, rfl⟩)
theorem xs_sv {x_immediates : Nat → Int32} {x_registers : Nat → Int64} {i : Nat} (ho : o = 40 ∨ o = 41 ∨ o = 42 ∨ o = 50 ∨ o = 51 ∨ o = 52) : (x_immediates i).toInt64 &&& 4294967295 = if o / 10 = 1 ∨ o / 10 = 3 then x_registers s else (x_immediates i).toInt64 &&& 4294967295 := by
  rw [if_neg]
  rcases ho with rfl | rfl | rfl | rfl | rfl | rfl <;> decide
theorem sp_bO (hd : d < 8) (hs : s < 9) (W : WF_ K L H S) (k : K s = 2) (bb : ¬ bb_ (L s) (H s) S off) : SP_ 42 d s off imm K L H S (upd K d 1) (vp_updL L d 0) (vp_updL H d 255) := by
  intro π rg ce kt kw tg wd ks vs mn b pX pY C hb hp
  have v := Con_s W C hs
  obtain ⟨t1, t2, a, n, c, an, nc, hc, ea, en, ec⟩ := v.2.1 k
  obtain ⟨a', c', ac', hc', ea', ec'⟩ := (W.1 s (by omega)).2.2.1 k
  have cc : c = c' := (pk_lEQ (by omega) (by omega)).mp (ec.symm.trans ec')
  obtain ⟨sn, hsn, eS⟩ := C.2.2.1.1
  have nf : ¬ far_ off := fun z => bb (Or.inl z)
  have b1 : ¬ L s + off.toInt64 < 0 := fun z => bb (Or.inr (Or.inl z))
  have b2 : H s + off.toInt64 < S := Classical.byContradiction fun z => bb (Or.inr (Or.inr z))
  rw [ea] at b1
  rw [ec, eS] at b2
  obtain ⟨j, hj, ej⟩ := sm_byte an nc (by omega) (by omega) nf b1 b2
  obtain ⟨y, hy, ey⟩ := pk_andE (pY j) (m := 255) 8 (by decide)
  have px : pX j = nI y := by rw [hp j, ey]
  refine ⟨π, vp_updL rg d (lN y), ce, kt, kw, upd tg d 1, vp_updL wd d (lN y), ks, vs, mn, Con_reg C hd (V_1 rfl ⟨0, y, 255, by omega, by omega, by omega, rfl, rfl, rfl⟩) (fun z => absurd z (by decide)), ?_, ?_⟩
  · intro x_safe x_at x_exitLeast x_exitMost x_branches x_faultPlace x_provedLeast x_provedMost x_packetLength x_executed x_ops x_targets x_sources x_offsets x_immediates x_lengths x_kinds x_los x_his x_reached x_branchAt x_branchSafe x_branchKinds x_branchLos x_branchHis x_packet x_registers x_cells x_keyWords x_keyTaken i post hi eo e1 e2 e3 e4 P
    refine xr_69 hi hs eo e1 e2 (xs_sv (by simp)) (xr_mem (k := j) (p := s) (by simp) hi hs eo e1 e2 (by rw [if_neg (by decide)]) (by rw [en, e3]; exact ej) (by omega) ?_)
    rw [if_pos rfl]
    refine xr_byte (by omega) hb (by omega) ?_
    rw [px, nI_l (by omega)]
    exact P
  · intro y_place y_least y_most y_smallest y_greatest y_ways y_fault y_base y_otherKind y_otherLo y_otherHi y_low y_high y_bytes y_steps y_op y_first y_second y_offset y_given y_length y_there y_known y_lo y_hi y_at y_lookups y_safe y_met y_tag y_word y_packet y_keys y_values y_many i a2 post hi eo e1 e2 e3 e4 P
    refine yr_114 hi hs eo e1 e2 (rg := True) (om_rg (f := True) (by simp)) ys_om (yr_m (by simp) hi (by omega) (fun z => absurd z (by decide)) (fun z => absurd z (by decide)) (fun _ => ?_) (fun z => absurd z (by decide)))
    rw [t2, en, e3, ej]
    refine ⟨vp_in_nI (by omega) (by decide), (yr_hold (by omega) (by unfold k7_; simp)).mpr ?_⟩
    rw [nI_clamp (n := j) (by omega), ey, nI_l (by omega)]
    exact P
/-- a cell of the stack -/
theorem sp_cSL {c : Nat} (hd : d < 8) (hs : s < 9) (W : WF_ K L H S) (k : K s = 4) (ec : L s + off.toInt64 = lN c) (hc : c < 6) (kc : ¬ K (10 + c) = 0) : SP_ 40 d s off imm K L H S (upd K d (K (10 + c))) (vp_updL L d (L (10 + c))) (vp_updL H d (H (10 + c))) := by
  intro π rg ce kt kw tg wd ks vs mn b pX pY C hb hp
  have v := Con_s W C hs
  obtain ⟨t1, t2, t3⟩ := v.2.2.2.1 k
  have vc := C.1 (8 + c) (by omega)
  have ex : cx_ rg ce (8 + c) = ce c := by unfold cx_; rw [if_neg (by omega)]; congr 1; omega
  rw [g_hi, ex] at vc
  refine ⟨π, vp_updL rg d (ce c), ce, kt, kw, upd tg d (tg (8 + c)), vp_updL wd d (wd (8 + c)), ks, vs, mn, Con_reg C hd vc (fun k6 r hr kr => by rw [← ex]; exact C.2.2.1.2 r (8 + c) hr (by omega) kr (by rw [g_hi]; exact k6)), ?_, ?_⟩
  · intro x_safe x_at x_exitLeast x_exitMost x_branches x_faultPlace x_provedLeast x_provedMost x_packetLength x_executed x_ops x_targets x_sources x_offsets x_immediates x_lengths x_kinds x_los x_his x_reached x_branchAt x_branchSafe x_branchKinds x_branchLos x_branchHis x_packet x_registers x_cells x_keyWords x_keyTaken i post hi eo e1 e2 e3 e4 P
    refine xr_69 hi hs eo e1 e2 (xs_sv (by simp)) (xr_mem (k := c) (p := s) (by simp) hi hs eo e1 e2 (by rw [if_neg (by decide)]) (by rw [t3, sm_i, e3]; exact sm_ix ec) (by omega) ?_)
    rw [if_neg (by decide)]
    exact xr_load (by omega) (by omega) P
  · intro y_place y_least y_most y_smallest y_greatest y_ways y_fault y_base y_otherKind y_otherLo y_otherHi y_low y_high y_bytes y_steps y_op y_first y_second y_offset y_given y_length y_there y_known y_lo y_hi y_at y_lookups y_safe y_met y_tag y_word y_packet y_keys y_values y_many i a2 post hi eo e1 e2 e3 e4 P
    refine yr_114 hi hs eo e1 e2 (rg := True) (om_rg (f := True) (by simp)) ys_om (yr_m (by simp) hi (by omega) (fun _ => ?_) (fun z => absurd z (by decide)) (fun z => absurd z (by decide)) (fun z => absurd z (by decide)))
    rw [t1, t2, e3, ec]
    exact yr_loadF hc (by omega) rfl (V_t vc (W.1 _ (by omega)).1 kc) P
theorem sp_cSS {c : Nat} (hd : d < 8) (hs : s < 9) (W : WF_ K L H S) (u2 : ¬ K s = 0) (k : K d = 4) (ec : L d + off.toInt64 = lN c) (hc : c < 6) : SP_ 41 d s off imm K L H S (upd K (10 + c) (K s)) (vp_updL L (10 + c) (L s)) (vp_updL H (10 + c) (H s)) := by
  intro π rg ce kt kw tg wd ks vs mn b pX pY C hb hp
  have v := Con_s W C hs
  have vd := Con_s W C (s := d) (by omega)
  rw [if_neg (by omega), if_neg (by omega)] at vd
  obtain ⟨t1, t2, t3⟩ := vd.2.2.2.1 k
  refine ⟨π, rg, vp_updL ce c (rg s), kt, kw, _, _, ks, vs, mn, Con_cell C hc v (Con_su W C hs), ?_, ?_⟩
  · intro x_safe x_at x_exitLeast x_exitMost x_branches x_faultPlace x_provedLeast x_provedMost x_packetLength x_executed x_ops x_targets x_sources x_offsets x_immediates x_lengths x_kinds x_los x_his x_reached x_branchAt x_branchSafe x_branchKinds x_branchLos x_branchHis x_packet x_registers x_cells x_keyWords x_keyTaken i post hi eo e1 e2 e3 e4 P
    refine xr_69 hi hs eo e1 e2 (xs_sv (by simp)) (xr_mem (k := c) (p := d) (by simp) hi (by omega) eo e1 e2 (by rw [if_pos rfl]) (by rw [t3, sm_i, e3]; exact sm_ix ec) (by omega) ?_)
    rw [if_neg (by decide)]
    exact xr_store (by omega) hs P
  · intro y_place y_least y_most y_smallest y_greatest y_ways y_fault y_base y_otherKind y_otherLo y_otherHi y_low y_high y_bytes y_steps y_op y_first y_second y_offset y_given y_length y_there y_known y_lo y_hi y_at y_lookups y_safe y_met y_tag y_word y_packet y_keys y_values y_many i a2 post hi eo e1 e2 e3 e4 P
    refine yr_114 hi hs eo e1 e2 (rg := True) (om_rg (f := True) (by simp)) ys_om (yr_m (by simp) hi (by omega) (fun z => absurd z (by decide)) (fun _ => ?_) (fun z => absurd z (by decide)) (fun z => absurd z (by decide)))
    rw [t1, t2, e3, ec]
    exact yr_storeF hc (V_t v (W.1 s (by omega)).1 u2) rfl P
/-- where a VALUE points -/
theorem sm_val {π : Nat → Nat} {kt : Nat → Int32} {kw ce ks vs : Nat → Int64} {mn : Nat → Int32} {j : Nat} (M : Mp_ π kt kw ce ks vs mn) (hj : j < 8) (tj : ¬ kt j = 0) : π j < 8 ∧ ∀ c, c < 2 → vs (2 * π j + c) = ce (6 + 2 * j + c) ∧ wd_ (ce (6 + 2 * j + c)) := by
  obtain ⟨n, -, h4, -, h, -⟩ := M (j / 4) (by omega)
  obtain ⟨q1, q2, q3, q4, q5, q6, q7⟩ := h j (by omega) (by omega) tj
  refine ⟨by omega, fun c hc => ?_⟩
  have : c = 0 ∨ c = 1 := by omega
  rcases this with rfl | rfl
  · exact ⟨q4, q6⟩
  · exact ⟨q5, q7⟩
theorem sm_vx {x l : Int64} {j c : Nat} (ex : x = (lN (6 + 2 * j) + l) &&& 4294967295) (ec : l + off.toInt64 = lN c) : x.toInt32 + off = nI (6 + 2 * j + c) := by
  rw [ex, sm_i, Int64.toInt32_add, lN_i, Int32.add_assoc, sm_ix ec, nI_add]
theorem sm_vy {w l : Int64} {p c : Nat} (ew : w = lN (100 * (8 + p)) + l) (ec : l + off.toInt64 = lN c) : w + off.toInt64 = lN (100 * (8 + p) + c) := by
  rw [ew, Int64.add_assoc, ec, lN_add]
theorem sp_cVL {c : Nat} (hd : d < 8) (hs : s < 9) (W : WF_ K L H S) (k : K s = 5) (ec : L s + off.toInt64 = lN c) (hc : c < 2) : SP_ 40 d s off imm K L H S (upd K d 1) (vp_updL L d 0) (vp_updL H d 4294967295) := by
  intro π rg ce kt kw tg wd ks vs mn b pX pY C hb hp
  have v := Con_s W C hs
  obtain ⟨t1, j, hj, tj, t2, t3⟩ := v.2.2.2.2.1 k
  obtain ⟨p8, hv⟩ := sm_val C.2.2.2 hj tj
  obtain ⟨q1, y, hy, ey⟩ := hv c hc
  refine ⟨π, vp_updL rg d (lN y), ce, kt, kw, upd tg d 1, vp_updL wd d (lN y), ks, vs, mn, Con_reg C hd (V_1 rfl ⟨0, y, 4294967295, by omega, by omega, by omega, rfl, rfl, rfl⟩) (fun z => absurd z (by decide)), ?_, ?_⟩
  · intro x_safe x_at x_exitLeast x_exitMost x_branches x_faultPlace x_provedLeast x_provedMost x_packetLength x_executed x_ops x_targets x_sources x_offsets x_immediates x_lengths x_kinds x_los x_his x_reached x_branchAt x_branchSafe x_branchKinds x_branchLos x_branchHis x_packet x_registers x_cells x_keyWords x_keyTaken i post hi eo e1 e2 e3 e4 P
    refine xr_69 hi hs eo e1 e2 (xs_sv (by simp)) (xr_mem (k := 6 + 2 * j + c) (p := s) (by simp) hi hs eo e1 e2 (by rw [if_neg (by decide)]) (by rw [e3]; exact sm_vx t3 ec) (by omega) ?_)
    rw [if_neg (by decide)]
    refine xr_load (by omega) (by omega) ?_
    rw [ey]; exact P
  · intro y_place y_least y_most y_smallest y_greatest y_ways y_fault y_base y_otherKind y_otherLo y_otherHi y_low y_high y_bytes y_steps y_op y_first y_second y_offset y_given y_length y_there y_known y_lo y_hi y_at y_lookups y_safe y_met y_tag y_word y_packet y_keys y_values y_many i a2 post hi eo e1 e2 e3 e4 P
    refine yr_114 hi hs eo e1 e2 (rg := True) (om_rg (f := True) (by simp)) ys_om (yr_m (by simp) hi (by omega) (fun _ => ?_) (fun z => absurd z (by decide)) (fun z => absurd z (by decide)) (fun z => absurd z (by decide)))
    rw [t1, e3, sm_vy t2 ec]
    refine yr_loadV (by decide) p8 hc (by omega) rfl ?_
    rw [q1, ey]; exact P
theorem sp_cVS {c : Nat} (hd : d < 8) (hs : s < 9) (W : WF_ K L H S) (k : K d = 5) (ec : L d + off.toInt64 = lN c) (hc : c < 2) (k1 : K s = 1) : SP_ 41 d s off imm K L H S K L H := by
  intro π rg ce kt kw tg wd ks vs mn b pX pY C hb hp
  have v := Con_s W C hs
  have vd := Con_s W C (s := d) (by omega)
  rw [if_neg (by omega), if_neg (by omega)] at vd
  obtain ⟨t1, j, hj, tj, t2, t3⟩ := vd.2.2.2.2.1 k
  obtain ⟨s1, s2, a, n, e, an, ne, he, ea, en, ee⟩ := v.1 k1
  obtain ⟨p8, hv⟩ := sm_val C.2.2.2 hj tj
  refine ⟨π, rg, vp_updL ce (6 + 2 * j + c) (rg s), kt, kw, tg, wd, ks, vp_updL vs (2 * π j + c) (rg s), mn, ⟨fun r hr => ?_, C.2.1, ⟨C.2.2.1.1, fun r t hr ht kr kt => ?_⟩, ?_⟩, ?_, ?_⟩
  · have ex : cx_ rg (vp_updL ce (6 + 2 * j + c) (rg s)) r = cx_ rg ce r := by
      unfold cx_; split
      · rfl
      · rw [pk_uLn (by omega)]
    rw [ex]; exact C.1 r hr
  · have ex : ∀ r, r < 14 → cx_ rg (vp_updL ce (6 + 2 * j + c) (rg s)) r = cx_ rg ce r := by
      intro r hr
      unfold cx_; split
      · rfl
      · rw [pk_uLn (by omega)]
    rw [ex r hr, ex t ht]; exact C.2.2.1.2 r t hr ht kr kt
  · intro m hm
    obtain ⟨nn, e0, a1, a2, a3, a4, a5⟩ := C.2.2.2 m hm
    refine ⟨nn, e0, a1, a2, fun t h1 h2 h3 => ?_, a4, a5⟩
    obtain ⟨q1, q2, q3, q4, q5, q6, q7⟩ := a3 t h1 h2 h3
    by_cases z : t = j
    · subst z
      have wds : wd_ (rg s) := ⟨n, by omega, en⟩
      have : c = 0 ∨ c = 1 := by omega
      rcases this with rfl | rfl
      · refine ⟨q1, q2, q3, ?_, ?_, ?_, ?_⟩
        · rw [Nat.add_zero, Nat.add_zero, pk_uLs, pk_uLs]
        · rw [pk_uLn (by omega), pk_uLn (by omega)]; exact q5
        · rw [Nat.add_zero, pk_uLs]; exact wds
        · rw [pk_uLn (by omega)]; exact q7
      · refine ⟨q1, q2, q3, ?_, ?_, ?_, ?_⟩
        · rw [pk_uLn (by omega), pk_uLn (by omega)]; exact q4
        · rw [pk_uLs, pk_uLs]
        · rw [pk_uLn (by omega)]; exact q6
        · rw [pk_uLs]; exact wds
    · have np : ¬ π t = π j := by
        intro zz
        obtain ⟨nj, -, b1, -, b3, b4, -⟩ := C.2.2.2 (j / 4) (by omega)
        obtain ⟨r1, r2, -⟩ := b3 j (by omega) (by omega) tj
        have jm : j / 4 = m := by omega
        exact z (a4 t j h1 h2 (by omega) (by omega) h3 tj (Or.inl zz))
      rw [pk_uLn (by omega), pk_uLn (by omega), pk_uLn (by omega), pk_uLn (by omega)]
      exact ⟨q1, q2, q3, q4, q5, q6, q7⟩
  · intro x_safe x_at x_exitLeast x_exitMost x_branches x_faultPlace x_provedLeast x_provedMost x_packetLength x_executed x_ops x_targets x_sources x_offsets x_immediates x_lengths x_kinds x_los x_his x_reached x_branchAt x_branchSafe x_branchKinds x_branchLos x_branchHis x_packet x_registers x_cells x_keyWords x_keyTaken i post hi eo e1 e2 e3 e4 P
    refine xr_69 hi hs eo e1 e2 (xs_sv (by simp)) (xr_mem (k := 6 + 2 * j + c) (p := d) (by simp) hi (by omega) eo e1 e2 (by rw [if_pos rfl]) (by rw [e3]; exact sm_vx t3 ec) (by omega) ?_)
    rw [if_neg (by decide)]
    exact xr_store (by omega) hs P
  · intro y_place y_least y_most y_smallest y_greatest y_ways y_fault y_base y_otherKind y_otherLo y_otherHi y_low y_high y_bytes y_steps y_op y_first y_second y_offset y_given y_length y_there y_known y_lo y_hi y_at y_lookups y_safe y_met y_tag y_word y_packet y_keys y_values y_many i a2 post hi eo e1 e2 e3 e4 P
    refine yr_114 hi hs eo e1 e2 (rg := True) (om_rg (f := True) (by simp)) ys_om (yr_m (by simp) hi (by omega) (fun z => absurd z (by decide)) (fun _ => ?_) (fun z => absurd z (by decide)) (fun z => absurd z (by decide)))
    rw [t1, e3, sm_vy t2 ec, s2]
    exact yr_storeV (by decide) p8 hc rfl P
end
end
section
section
variable {x_safe : Int64} {x_at : Int32} {x_exitLeast : Int64} {x_exitMost : Int64} {x_branches : Int32} {x_faultPlace : Int32} {x_provedLeast : Int64} {x_provedMost : Int64} {x_packetLength : Int32} {x_executed : Int32} {x_ops : Nat → Int32} {x_targets : Nat → Int32} {x_sources : Nat → Int32} {x_offsets : Nat → Int32} {x_immediates : Nat → Int32} {x_lengths : Nat → Int32} {x_kinds : Nat → Int32} {x_los : Nat → Int64} {x_his : Nat → Int64} {x_reached : Nat → Int32} {x_branchAt : Nat → Int32} {x_branchSafe : Nat → Int64} {x_branchKinds : Nat → Int32} {x_branchLos : Nat → Int64} {x_branchHis : Nat → Int64} {x_packet : Nat → Int32} {x_registers : Nat → Int64} {x_cells : Nat → Int64} {x_keyWords : Nat → Int64} {x_keyTaken : Nat → Int32}
theorem xr_slotL {post : Int32 → Prop} {m : Nat} {key : Int64} (hm : m < 2) (A : ∀ s, 4 * m ≤ s → s < 4 * m + 4 → ¬ x_keyTaken s = 0 → x_keyWords s = key → post (nI s)) (B : (∀ s, 4 * m ≤ s → s < 4 * m + 4 → ¬ x_keyTaken s = 0 → ¬ x_keyWords s = key) → post (-1)) : ∀ d j : Nat, j + d = 4 → (∀ s, 4 * m ≤ s → s < 4 * m + j → ¬ x_keyTaken s = 0 → ¬ x_keyWords s = key) → wX_slotOfKey_14 post (nI m) key x_safe x_at x_exitLeast x_exitMost x_branches x_faultPlace x_provedLeast x_provedMost x_packetLength x_executed x_ops x_targets x_sources x_offsets x_immediates x_lengths x_kinds x_los x_his x_reached x_branchAt x_branchSafe x_branchKinds x_branchLos x_branchHis x_packet x_registers x_cells x_keyWords x_keyTaken (d + 1) (nI j) := by
  intro d
  induction d with
  | zero =>
    intro j hj h
    have : j = 4 := by omega
    subst this
    exact br_t (by decide) (B h)
  | succ d ih =>
    intro j hj h
    have v : vp_in (nI (4 * m + j)) 8 := vp_in_nI (by omega) (by decide)
    have c : (nI (4 * m + j)).toNatClampNeg = 4 * m + j := nI_clamp (by omega)
    have nx : (¬ x_keyTaken (4 * m + j) = 0 → ¬ x_keyWords (4 * m + j) = key) → wX_slotOfKey_14 post (nI m) key x_safe x_at x_exitLeast x_exitMost x_branches x_faultPlace x_provedLeast x_provedMost x_packetLength x_executed x_ops x_targets x_sources x_offsets x_immediates x_lengths x_kinds x_los x_his x_reached x_branchAt x_branchSafe x_branchKinds x_branchLos x_branchHis x_packet x_registers x_cells x_keyWords x_keyTaken (d + 1) (nI (j + 1)) := by
      intro q
      refine ih (j + 1) (by omega) (fun s h1 h2 h3 => ?_)
      by_cases z : s = 4 * m + j
      · subst z; exact q h3
      · exact h s h1 (by omega) h3
    refine br_f (by rw [xb_le4 (by omega)]; omega) (nm_r (e' := nI (4 * m + j)) (by rw [xb_mur4, nI_add, Nat.mul_comm]) ⟨v, ?_⟩)
    rw [c]
    refine br_c (fun z => nm_r (nI_1 j) (nx (fun n => absurd z n))) (fun z => ⟨v, br_c (fun y => A _ (by omega) (by omega) z y) (fun y => nm_r (nI_1 j) (nx (fun _ => y)))⟩)
theorem xr_slot {post : Int32 → Prop} {m : Nat} {key : Int64} (hm : m < 2) (A : ∀ s, 4 * m ≤ s → s < 4 * m + 4 → ¬ x_keyTaken s = 0 → x_keyWords s = key → post (nI s)) (B : (∀ s, 4 * m ≤ s → s < 4 * m + 4 → ¬ x_keyTaken s = 0 → ¬ x_keyWords s = key) → post (-1)) : wpX_slotOfKey post (x_safe, x_at, x_exitLeast, x_exitMost, x_branches, x_faultPlace, x_provedLeast, x_provedMost, x_packetLength, x_executed, x_ops, x_targets, x_sources, x_offsets, x_immediates, x_lengths, x_kinds, x_los, x_his, x_reached, x_branchAt, x_branchSafe, x_branchKinds, x_branchLos, x_branchHis, x_packet, x_registers, x_cells, x_keyWords, x_keyTaken) (nI m) key := by
  refine br_f (xb_lt0 (by omega)) (br_t (by rw [xb_lt2 (by omega)]; exact hm) ⟨5, ?_⟩)
  exact xr_slotL hm A B 4 0 rfl (fun s h1 h2 => absurd h2 (by omega))
theorem xr_freeL {post : Int32 → Prop} {m : Nat} (hm : m < 2) (A : ∀ s, 4 * m ≤ s → s < 4 * m + 4 → x_keyTaken s = 0 → (∀ t, 4 * m ≤ t → t < s → ¬ x_keyTaken t = 0) → post (nI s)) (B : (∀ s, 4 * m ≤ s → s < 4 * m + 4 → ¬ x_keyTaken s = 0) → post (-1)) : ∀ d j : Nat, j + d = 4 → (∀ s, 4 * m ≤ s → s < 4 * m + j → ¬ x_keyTaken s = 0) → wX_freeSlot_13 post (nI m) x_safe x_at x_exitLeast x_exitMost x_branches x_faultPlace x_provedLeast x_provedMost x_packetLength x_executed x_ops x_targets x_sources x_offsets x_immediates x_lengths x_kinds x_los x_his x_reached x_branchAt x_branchSafe x_branchKinds x_branchLos x_branchHis x_packet x_registers x_cells x_keyWords x_keyTaken (d + 1) (nI j) := by
  intro d
  induction d with
  | zero =>
    intro j hj h
    have : j = 4 := by omega
    subst this
    exact br_t (by decide) (B h)
  | succ d ih =>
    intro j hj h
    have v : vp_in (nI (4 * m + j)) 8 := vp_in_nI (by omega) (by decide)
    have c : (nI (4 * m + j)).toNatClampNeg = 4 * m + j := nI_clamp (by omega)
    refine br_f (by rw [xb_le4 (by omega)]; omega) (nm_r (e' := nI (4 * m + j)) (by rw [xb_mur4, nI_add, Nat.mul_comm]) ⟨v, ?_⟩)
    rw [c]
    refine br_c (fun z => A _ (by omega) (by omega) z h) (fun z => nm_r (nI_1 j) (ih (j + 1) (by omega) (fun s h1 h2 => ?_)))
    by_cases y : s = 4 * m + j
    · subst y; exact z
    · exact h s h1 (by omega)
theorem xr_free {post : Int32 → Prop} {m : Nat} (hm : m < 2) (A : ∀ s, 4 * m ≤ s → s < 4 * m + 4 → x_keyTaken s = 0 → (∀ t, 4 * m ≤ t → t < s → ¬ x_keyTaken t = 0) → post (nI s)) (B : (∀ s, 4 * m ≤ s → s < 4 * m + 4 → ¬ x_keyTaken s = 0) → post (-1)) : wpX_freeSlot post (x_safe, x_at, x_exitLeast, x_exitMost, x_branches, x_faultPlace, x_provedLeast, x_provedMost, x_packetLength, x_executed, x_ops, x_targets, x_sources, x_offsets, x_immediates, x_lengths, x_kinds, x_los, x_his, x_reached, x_branchAt, x_branchSafe, x_branchKinds, x_branchLos, x_branchHis, x_packet, x_registers, x_cells, x_keyWords, x_keyTaken) (nI m) := by
  refine br_f (xb_lt0 (by omega)) (br_t (by rw [xb_lt2 (by omega)]; exact hm) ⟨5, ?_⟩)
  exact xr_freeL hm A B 4 0 rfl (fun s h1 h2 => absurd h2 (by omega))
theorem xr_put {post : SX → Prop} {s : Nat} {key p q : Int64} (hs : s < 8) (H : post (x_safe, x_at, x_exitLeast, x_exitMost, x_branches, x_faultPlace, x_provedLeast, x_provedMost, x_packetLength, x_executed, x_ops, x_targets, x_sources, x_offsets, x_immediates, x_lengths, x_kinds, x_los, x_his, x_reached, x_branchAt, x_branchSafe, x_branchKinds, x_branchLos, x_branchHis, x_packet, x_registers, vp_updL (vp_updL x_cells (6 + 2 * s) p) (6 + 2 * s + 1) q, vp_updL x_keyWords s key, upd x_keyTaken s 1)) : wpX_putKey post (x_safe, x_at, x_exitLeast, x_exitMost, x_branches, x_faultPlace, x_provedLeast, x_provedMost, x_packetLength, x_executed, x_ops, x_targets, x_sources, x_offsets, x_immediates, x_lengths, x_kinds, x_los, x_his, x_reached, x_branchAt, x_branchSafe, x_branchKinds, x_branchLos, x_branchHis, x_packet, x_registers, x_cells, x_keyWords, x_keyTaken) (nI s) key p q := by
  have v : vp_in (nI s) 8 := vp_in_nI hs (by decide)
  have c : (nI s).toNatClampNeg = s := nI_clamp (by omega)
  have e : 6 + nI s * 2 = nI (6 + 2 * s) := by rw [xb_mur2, xb_add6, Nat.mul_comm]
  have e2 : 6 + nI s * 2 + 1 = nI (6 + 2 * s + 1) := by rw [e, nI_1]
  refine ⟨v, nm_r (e' := upd x_keyTaken s 1) (by rw [c, xb_bt]) ⟨v, nm_r (e' := vp_updL x_keyWords s key) (by rw [c]) ⟨by rw [e]; exact vp_in_nI (by omega) (by decide), nm_r (e' := vp_updL x_cells (6 + 2 * s) p) (by rw [e, nI_clamp (by omega)]) ⟨by rw [e2]; exact vp_in_nI (by omega) (by decide), nm_r (e' := vp_updL (vp_updL x_cells (6 + 2 * s) p) (6 + 2 * s + 1) q) (by rw [e2, nI_clamp (by omega)]) H⟩⟩⟩⟩
end
section
variable {y_place : Int32} {y_least : Int64} {y_most : Int64} {y_smallest : Int64} {y_greatest : Int64} {y_ways : Int32} {y_fault : Int32} {y_base : Int32} {y_otherKind : Int32} {y_otherLo : Int64} {y_otherHi : Int64} {y_low : Int64} {y_high : Int64} {y_bytes : Int32} {y_steps : Int32} {y_op : Nat → Int32} {y_first : Nat → Int32} {y_second : Nat → Int32} {y_offset : Nat → Int32} {y_given : Nat → Int32} {y_length : Nat → Int32} {y_there : Nat → Int32} {y_known : Nat → Int32} {y_lo : Nat → Int64} {y_hi : Nat → Int64} {y_at : Nat → Int32} {y_lookups : Nat → Int32} {y_safe : Nat → Int32} {y_met : Nat → Int32} {y_tag : Nat → Int32} {y_word : Nat → Int64} {y_packet : Nat → Int32} {y_keys : Nat → Int64} {y_values : Nat → Int64} {y_many : Nat → Int32}
theorem yr_findL {post : Int32 → Prop} {m n : Nat} {key : Int64} (hm : m < 2) (hn : n ≤ 4) (en : y_many m = nI n) (A : ∀ k, 4 * m ≤ k → k < 4 * m + n → y_keys k = key → post (nI k)) (B : (∀ k, 4 * m ≤ k → k < 4 * m + n → ¬ y_keys k = key) → post (-1)) : ∀ d j : Nat, j + d = 4 * m + n → 4 * m ≤ j → (∀ k, 4 * m ≤ k → k < j → ¬ y_keys k = key) → wY_find_5 post (nI m) key y_place y_least y_most y_smallest y_greatest y_ways y_fault y_base y_otherKind y_otherLo y_otherHi y_low y_high y_bytes y_steps y_op y_first y_second y_offset y_given y_length y_there y_known y_lo y_hi y_at y_lookups y_safe y_met y_tag y_word y_packet y_keys y_values y_many (d + 1) (nI j) := by
  intro d
  have v : vp_in (nI m) 2 := vp_in_nI hm (by decide)
  have c : (nI m).toNatClampNeg = m := nI_clamp (by omega)
  have e : 4 * nI m + y_many (nI m).toNatClampNeg = nI (4 * m + n) := by rw [c, en, xb_mul4, nI_add]
  induction d with
  | zero =>
    intro j hj h4 h
    refine ⟨v, ?_⟩
    rw [e]
    exact br_t (by rw [nI_leI (by omega) (by omega)]; omega) (B (fun k h1 h2 => h k h1 (by omega)))
  | succ d ih =>
    intro j hj h4 h
    refine ⟨v, ?_⟩
    rw [e]
    refine br_f (by rw [nI_leI (by omega) (by omega)]; omega) ⟨vp_in_nI (by omega) (by decide), ?_⟩
    rw [nI_clamp (n := j) (by omega)]
    refine br_c (fun z => A j h4 (by omega) z) (fun z => nm_r (nI_1 j) (ih (j + 1) (by omega) (by omega) (fun k h1 h2 => ?_)))
    by_cases y : k = j
    · subst y; exact z
    · exact h k h1 (by omega)
theorem yr_find {post : Int32 → Prop} {m n : Nat} {key : Int64} (hm : m < 2) (hn : n ≤ 4) (en : y_many m = nI n) (A : ∀ k, 4 * m ≤ k → k < 4 * m + n → y_keys k = key → post (nI k)) (B : (∀ k, 4 * m ≤ k → k < 4 * m + n → ¬ y_keys k = key) → post (-1)) : wpY_find post (y_place, y_least, y_most, y_smallest, y_greatest, y_ways, y_fault, y_base, y_otherKind, y_otherLo, y_otherHi, y_low, y_high, y_bytes, y_steps, y_op, y_first, y_second, y_offset, y_given, y_length, y_there, y_known, y_lo, y_hi, y_at, y_lookups, y_safe, y_met, y_tag, y_word, y_packet, y_keys, y_values, y_many) (nI m) key := by
  refine nm_r (xb_mul4 m) ⟨n + 1, ?_⟩
  exact yr_findL hm hn en A B n (4 * m) rfl (Nat.le_refl _) (fun k h1 h2 => absurd h2 (by omega))
end
/-- a key is in X's map and in Y's, or in neither -/
theorem mp_find {π : Nat → Nat} {kt : Nat → Int32} {kw ce ks vs : Nat → Int64} {m n : Nat} (M : M1_ π kt kw ce ks vs m n) (key : Int64) : (∃ s, 4 * m ≤ s ∧ s < 4 * m + 4 ∧ ¬ kt s = 0 ∧ kw s = key ∧ (∀ t, 4 * m ≤ t → t < 4 * m + 4 → ¬ kt t = 0 → kw t = key → t = s) ∧ (∀ k, 4 * m ≤ k → k < 4 * m + n → ks k = key → k = π s) ∧ 4 * m ≤ π s ∧ π s < 4 * m + n ∧ ks (π s) = key) ∨ ((∀ s, 4 * m ≤ s → s < 4 * m + 4 → ¬ kt s = 0 → ¬ kw s = key) ∧ (∀ k, 4 * m ≤ k → k < 4 * m + n → ¬ ks k = key)) := by
  obtain ⟨a1, a2, a3, a4, a5⟩ := M
  by_cases q : ∃ s, 4 * m ≤ s ∧ s < 4 * m + 4 ∧ ¬ kt s = 0 ∧ kw s = key
  · left
    obtain ⟨s, h1, h2, h3, h4⟩ := q
    obtain ⟨q1, q2, q3, -⟩ := a3 s h1 h2 h3
    refine ⟨s, h1, h2, h3, h4, fun t t1 t2 t3 t4 => a4 t s t1 t2 h1 h2 t3 h3 (Or.inr (t4.trans h4.symm)), fun k k1 k2 k3 => ?_, q1, q2, q3.trans h4⟩
    obtain ⟨t, t1, t2, t3, t4⟩ := a5 k k1 k2
    obtain ⟨-, -, r3, -⟩ := a3 t t1 t2 t3
    have : t = s := a4 t s t1 t2 h1 h2 t3 h3 (Or.inr (by rw [← r3, t4, k3, h4]))
    rw [← this, t4]
  · right
    have nx : ∀ s, 4 * m ≤ s → s < 4 * m + 4 → ¬ kt s = 0 → ¬ kw s = key := fun s h1 h2 h3 h4 => q ⟨s, h1, h2, h3, h4⟩
    refine ⟨nx, fun k k1 k2 k3 => ?_⟩
    obtain ⟨t, t1, t2, t3, t4⟩ := a5 k k1 k2
    obtain ⟨-, -, r3, -⟩ := a3 t t1 t2 t3
    exact nx t t1 t2 t3 (by rw [← r3, t4, k3])
theorem M1_cong {π π' : Nat → Nat} {kt kt' : Nat → Int32} {kw ce ks vs kw' ce' ks' vs' : Nat → Int64} {m n : Nat} (M : M1_ π kt kw ce ks vs m n) (hx : ∀ s, 4 * m ≤ s → s < 4 * m + 4 → kt' s = kt s ∧ kw' s = kw s ∧ ce' (6 + 2 * s) = ce (6 + 2 * s) ∧ ce' (6 + 2 * s + 1) = ce (6 + 2 * s + 1) ∧ π' s = π s) (hy : ∀ k, 4 * m ≤ k → k < 4 * m + 4 → ks' k = ks k ∧ vs' (2 * k) = vs (2 * k) ∧ vs' (2 * k + 1) = vs (2 * k + 1)) : M1_ π' kt' kw' ce' ks' vs' m n := by
  obtain ⟨a1, a2, a3, a4, a5⟩ := M
  refine ⟨a1, ?_, fun s h1 h2 h3 => ?_, fun s t h1 h2 h3 h4 h5 h6 h7 => ?_, fun k h1 h2 => ?_⟩
  · unfold cn_ at a2 ⊢
    rw [(hx (4 * m) (by omega) (by omega)).1, (hx (4 * m + 1) (by omega) (by omega)).1, (hx (4 * m + 2) (by omega) (by omega)).1, (hx (4 * m + 3) (by omega) (by omega)).1]
    exact a2
  · obtain ⟨x1, x2, x3, x4, x5⟩ := hx s h1 h2
    rw [x1] at h3
    obtain ⟨q1, q2, q3, q4, q5, q6, q7⟩ := a3 s h1 h2 h3
    obtain ⟨y1, y2, y3⟩ := hy (π s) q1 (by omega)
    rw [x2, x3, x4, x5, y1, y2, y3]
    exact ⟨q1, q2, q3, q4, q5, q6, q7⟩
  · obtain ⟨x1, x2, -, -, x5⟩ := hx s h1 h2
    obtain ⟨z1, z2, -, -, z5⟩ := hx t h3 h4
    rw [x1] at h5
    rw [z1] at h6
    rw [x2, x5, z2, z5] at h7
    exact a4 s t h1 h2 h3 h4 h5 h6 h7
  · obtain ⟨s, s1, s2, s3, s4⟩ := a5 k h1 h2
    obtain ⟨x1, -, -, -, x5⟩ := hx s s1 s2
    exact ⟨s, s1, s2, by rw [x1]; exact s3, by rw [x5]; exact s4⟩
theorem b1_0 {x : Int32} (h : x = 0) : b1_ x = 0 := by unfold b1_; exact if_pos h
theorem b1_1 {x : Int32} (h : ¬ x = 0) : b1_ x = 1 := by unfold b1_; exact if_neg h
theorem b1_le (x : Int32) : b1_ x ≤ 1 := by unfold b1_; split <;> omega
theorem cn_u {kt : Nat → Int32} {m s : Nat} (v : Int32) (h1 : 4 * m ≤ s) (h2 : s < 4 * m + 4) : cn_ (upd kt s v) m + b1_ (kt s) = cn_ kt m + b1_ v := by
  have e : s = 4 * m ∨ s = 4 * m + 1 ∨ s = 4 * m + 2 ∨ s = 4 * m + 3 := by omega
  unfold cn_
  rcases e with rfl | rfl | rfl | rfl
  · rw [pk_us, pk_un (by omega), pk_un (by omega), pk_un (by omega)]; omega
  · rw [pk_us, pk_un (by omega), pk_un (by omega), pk_un (by omega)]; omega
  · rw [pk_us, pk_un (by omega), pk_un (by omega), pk_un (by omega)]; omega
  · rw [pk_us, pk_un (by omega), pk_un (by omega), pk_un (by omega)]; omega
theorem cn_free {kt : Nat → Int32} {m : Nat} (h : cn_ kt m < 4) : ∃ s, 4 * m ≤ s ∧ s < 4 * m + 4 ∧ kt s = 0 ∧ ∀ t, 4 * m ≤ t → t < s → ¬ kt t = 0 := by
  by_cases a : kt (4 * m) = 0
  · exact ⟨4 * m, by omega, by omega, a, fun t h1 h2 => absurd h2 (by omega)⟩
  · by_cases b : kt (4 * m + 1) = 0
    · refine ⟨4 * m + 1, by omega, by omega, b, fun t h1 h2 => ?_⟩
      have : t = 4 * m := by omega
      subst this; exact a
    · by_cases c : kt (4 * m + 2) = 0
      · refine ⟨4 * m + 2, by omega, by omega, c, fun t h1 h2 => ?_⟩
        have : t = 4 * m ∨ t = 4 * m + 1 := by omega
        rcases this with rfl | rfl
        · exact a
        · exact b
      · by_cases d : kt (4 * m + 3) = 0
        · refine ⟨4 * m + 3, by omega, by omega, d, fun t h1 h2 => ?_⟩
          have : t = 4 * m ∨ t = 4 * m + 1 ∨ t = 4 * m + 2 := by omega
          rcases this with rfl | rfl | rfl
          · exact a
          · exact b
          · exact c
        · unfold cn_ at h
          rw [b1_1 a, b1_1 b, b1_1 c, b1_1 d] at h
          omega
theorem cn_full {kt : Nat → Int32} {m : Nat} (h : cn_ kt m = 4) : ∀ s, 4 * m ≤ s → s < 4 * m + 4 → ¬ kt s = 0 := by
  intro s h1 h2 z
  have := cn_u (kt := kt) 1 h1 h2
  rw [b1_0 z, b1_1 (by decide)] at this
  have l : cn_ (upd kt s 1) m ≤ 4 := by
    unfold cn_
    have q1 := b1_le (upd kt s 1 (4 * m))
    have q2 := b1_le (upd kt s 1 (4 * m + 1))
    have q3 := b1_le (upd kt s 1 (4 * m + 2))
    have q4 := b1_le (upd kt s 1 (4 * m + 3))
    omega
  omega
end
section
def pn_ (π : Nat → Nat) (s v : Nat) : Nat → Nat := fun j => if j = s then v else π j
theorem pn_s {π : Nat → Nat} {s v j : Nat} (h : j = s) : pn_ π s v j = v := by unfold pn_; exact if_pos h
theorem pn_n {π : Nat → Nat} {s v j : Nat} (h : ¬ j = s) : pn_ π s v j = π j := by unfold pn_; exact if_neg h
def pd_ (π : Nat → Nat) (m l v : Nat) : Nat → Nat := fun j => if 4 * m ≤ j ∧ j < 4 * m + 4 ∧ π j = l then v else π j
theorem pd_t {π : Nat → Nat} {m l v j : Nat} (h : 4 * m ≤ j ∧ j < 4 * m + 4 ∧ π j = l) : pd_ π m l v j = v := by unfold pd_; exact if_pos h
theorem pd_f {π : Nat → Nat} {m l v j : Nat} (h : ¬ (4 * m ≤ j ∧ j < 4 * m + 4 ∧ π j = l)) : pd_ π m l v j = π j := by unfold pd_; exact if_neg h
section
variable {π : Nat → Nat} {kt : Nat → Int32} {kw ce ks vs : Nat → Int64} {mn : Nat → Int32} {m n s : Nat} {key p q : Int64}
theorem mp_upd (M : Mp_ π kt kw ce ks vs mn) (hm : m < 2) (h1 : 4 * m ≤ s) (h2 : s < 4 * m + 4) (h3 : ¬ kt s = 0) (h4 : kw s = key) (wp : wd_ p) (wq : wd_ q) : Mp_ π (upd kt s 1) (vp_updL kw s key) (vp_updL (vp_updL ce (6 + 2 * s) p) (6 + 2 * s + 1) q) (vp_updL ks (π s) key) (vp_updL (vp_updL vs (2 * π s) p) (2 * π s + 1) q) mn := by
  have ek : vp_updL kw s key = kw := xb_updLid h4
  intro m2 hm2
  obtain ⟨n2, e2, M2⟩ := M m2 hm2
  obtain ⟨n, e, a1, a2, a3, a4, a5⟩ := M m hm
  obtain ⟨q1, q2, q3, q4, q5, q6, q7⟩ := a3 s h1 h2 h3
  have es : vp_updL ks (π s) key = ks := xb_updLid (q3.trans h4)
  rw [ek, es]
  by_cases z : m2 = m
  · subst z
    refine ⟨n, e, a1, ?_, fun t t1 t2 t3 => ?_, fun t u t1 t2 u1 u2 t3 u3 tu => ?_, fun k k1 k2 => ?_⟩
    · have := cn_u (kt := kt) 1 h1 h2
      rw [b1_1 h3, b1_1 (by decide)] at this
      omega
    · by_cases y : t = s
      · subst y
        refine ⟨q1, q2, q3, ?_, ?_, ?_, ?_⟩
        · rw [pk_uLn (by omega), pk_uLs, pk_uLn (by omega), pk_uLs]
        · rw [pk_uLs, pk_uLs]
        · rw [pk_uLn (by omega), pk_uLs]; exact wp
        · rw [pk_uLs]; exact wq
      · rw [pk_un y] at t3
        have np : ¬ π t = π s := fun zz => y (a4 t s t1 t2 h1 h2 t3 h3 (Or.inl zz))
        rw [pk_uLn (by omega), pk_uLn (by omega), pk_uLn (by omega), pk_uLn (by omega), pk_uLn (by omega), pk_uLn (by omega), pk_uLn (by omega), pk_uLn (by omega)]
        exact a3 t t1 t2 t3
    · have g : ∀ j, ¬ upd kt s 1 j = 0 → ¬ kt j = 0 := by
        intro j hj
        by_cases y : j = s
        · rw [y]; exact h3
        · rw [pk_un y] at hj; exact hj
      exact a4 t u t1 t2 u1 u2 (g t t3) (g u u3) tu
    · obtain ⟨t, t1, t2, t3, t4⟩ := a5 k k1 k2
      refine ⟨t, t1, t2, ?_, t4⟩
      by_cases y : t = s
      · rw [y, pk_us]; decide
      · rw [pk_un y]; exact t3
  · refine ⟨n2, e2, M1_cong M2 (fun t t1 t2 => ⟨pk_un (by omega), rfl, ?_, ?_, rfl⟩) (fun k k1 k2 => ⟨rfl, ?_, ?_⟩)⟩
    · rw [pk_uLn (by omega), pk_uLn (by omega)]
    · rw [pk_uLn (by omega), pk_uLn (by omega)]
    · rw [pk_uLn (by omega), pk_uLn (by omega)]
    · rw [pk_uLn (by omega), pk_uLn (by omega)]
theorem mp_new (M : Mp_ π kt kw ce ks vs mn) (hm : m < 2) (e : mn m = nI n) (hn : n < 4) (M0 : M1_ π kt kw ce ks vs m n) (h1 : 4 * m ≤ s) (h2 : s < 4 * m + 4) (h3 : kt s = 0) (nk : ∀ s, 4 * m ≤ s → s < 4 * m + 4 → ¬ kt s = 0 → ¬ kw s = key) (wp : wd_ p) (wq : wd_ q) : Mp_ (pn_ π s (4 * m + n)) (upd kt s 1) (vp_updL kw s key) (vp_updL (vp_updL ce (6 + 2 * s) p) (6 + 2 * s + 1) q) (vp_updL ks (4 * m + n) key) (vp_updL (vp_updL vs (2 * (4 * m + n)) p) (2 * (4 * m + n) + 1) q) (upd mn m (nI (n + 1))) := by
  intro m2 hm2
  obtain ⟨n2, e2, M2⟩ := M m2 hm2
  obtain ⟨a1, a2, a3, a4, a5⟩ := M0
  have g : ∀ j, ¬ upd kt s 1 j = 0 → j = s ∨ (¬ j = s ∧ ¬ kt j = 0) := by
    intro j hj
    by_cases y : j = s
    · exact Or.inl y
    · rw [pk_un y] at hj; exact Or.inr ⟨y, hj⟩
  by_cases z : m2 = m
  · subst z
    refine ⟨n + 1, pk_us, by omega, ?_, fun t t1 t2 t3 => ?_, fun t u t1 t2 u1 u2 t3 u3 tu => ?_, fun k k1 k2 => ?_⟩
    · have := cn_u (kt := kt) 1 h1 h2
      rw [b1_0 h3, b1_1 (by decide)] at this
      omega
    · rcases g t t3 with y | ⟨y, t3⟩
      · subst y
        rw [pn_s rfl]
        refine ⟨by omega, by omega, ?_, ?_, ?_, ?_, ?_⟩
        · rw [pk_uLs, pk_uLs]
        · rw [pk_uLn (by omega), pk_uLs, pk_uLn (by omega), pk_uLs]
        · rw [pk_uLs, pk_uLs]
        · rw [pk_uLn (by omega), pk_uLs]; exact wp
        · rw [pk_uLs]; exact wq
      · obtain ⟨q1, q2, q3, q4, q5, q6, q7⟩ := a3 t t1 t2 t3
        rw [pn_n y, pk_uLn (k := 4 * m2 + n) (by omega), pk_uLn y, pk_uLn (by omega), pk_uLn (by omega), pk_uLn (by omega), pk_uLn (by omega), pk_uLn (by omega), pk_uLn (by omega), pk_uLn (by omega), pk_uLn (by omega)]
        exact ⟨q1, by omega, q3, q4, q5, q6, q7⟩
    · rcases g t t3 with y | ⟨y, t3⟩
      · rcases g u u3 with x | ⟨x, u3⟩
        · rw [y, x]
        · exfalso
          obtain ⟨q1, q2, -⟩ := a3 u u1 u2 u3
          rcases tu with w | w
          · rw [pn_s y, pn_n x] at w; omega
          · rw [y, pk_uLs, pk_uLn x] at w
            exact nk u u1 u2 u3 w.symm
      · rcases g u u3 with x | ⟨x, u3⟩
        · exfalso
          obtain ⟨q1, q2, -⟩ := a3 t t1 t2 t3
          rcases tu with w | w
          · rw [pn_n y, pn_s x] at w; omega
          · rw [x, pk_uLs, pk_uLn y] at w
            exact nk t t1 t2 t3 w
        · rw [pn_n y, pn_n x, pk_uLn y, pk_uLn x] at tu
          exact a4 t u t1 t2 u1 u2 t3 u3 tu
    · by_cases y : k = 4 * m2 + n
      · exact ⟨s, h1, h2, by rw [pk_us]; decide, by rw [pn_s rfl, y]⟩
      · obtain ⟨t, t1, t2, t3, t4⟩ := a5 k k1 (by omega)
        have ts : ¬ t = s := fun w => t3 (by rw [w]; exact h3)
        exact ⟨t, t1, t2, by rw [pk_un ts]; exact t3, by rw [pn_n ts]; exact t4⟩
  · refine ⟨n2, by rw [pk_un z]; exact e2, M1_cong M2 (fun t t1 t2 => ⟨pk_un (by omega), pk_uLn (by omega), ?_, ?_, pn_n (by omega)⟩) (fun k k1 k2 => ⟨pk_uLn (by omega), ?_, ?_⟩)⟩
    · rw [pk_uLn (by omega), pk_uLn (by omega)]
    · rw [pk_uLn (by omega), pk_uLn (by omega)]
    · rw [pk_uLn (by omega), pk_uLn (by omega)]
    · rw [pk_uLn (by omega), pk_uLn (by omega)]
theorem mp_del {l : Nat} (M : Mp_ π kt kw ce ks vs mn) (hm : m < 2) (e : mn m = nI n) (M0 : M1_ π kt kw ce ks vs m n) (h1 : 4 * m ≤ s) (h2 : s < 4 * m + 4) (h3 : ¬ kt s = 0) (el : l + 1 = 4 * m + n) : Mp_ (pd_ π m l (π s)) (upd kt s 0) kw ce (vp_updL ks (π s) (ks l)) (vp_updL (vp_updL vs (2 * π s) (vs (2 * l))) (2 * π s + 1) (vs (2 * l + 1))) (upd mn m (nI (n - 1))) := by
  intro m2 hm2
  obtain ⟨n2, e2, M2⟩ := M m2 hm2
  obtain ⟨a1, a2, a3, a4, a5⟩ := M0
  obtain ⟨q1, q2, q3, q4, q5, q6, q7⟩ := a3 s h1 h2 h3
  have g : ∀ j, ¬ upd kt s 0 j = 0 → ¬ j = s ∧ ¬ kt j = 0 := by
    intro j hj
    by_cases y : j = s
    · rw [y, pk_us] at hj; exact absurd rfl hj
    · rw [pk_un y] at hj; exact ⟨y, hj⟩
  by_cases z : m2 = m
  · subst z
    refine ⟨n - 1, pk_us, by omega, ?_, fun t t1 t2 t3 => ?_, fun t u t1 t2 u1 u2 t3 u3 tu => ?_, fun k k1 k2 => ?_⟩
    · have := cn_u (kt := kt) 0 h1 h2
      rw [b1_1 h3, b1_0 rfl] at this
      omega
    · obtain ⟨y, t3⟩ := g t t3
      obtain ⟨r1, r2, r3, r4, r5, r6, r7⟩ := a3 t t1 t2 t3
      have np : ¬ π t = π s := fun zz => y (a4 t s t1 t2 h1 h2 t3 h3 (Or.inl zz))
      by_cases w : π t = l
      · rw [pd_t ⟨t1, t2, w⟩]
        refine ⟨q1, by omega, ?_, ?_, ?_, r6, r7⟩
        · rw [pk_uLs, ← w]; exact r3
        · rw [pk_uLn (by omega), pk_uLs, ← w]; exact r4
        · rw [pk_uLs, ← w]; exact r5
      · rw [pd_f (fun x => w x.2.2), pk_uLn np, pk_uLn (by omega), pk_uLn (by omega), pk_uLn (by omega), pk_uLn (by omega)]
        exact ⟨r1, by omega, r3, r4, r5, r6, r7⟩
    · obtain ⟨y, t3⟩ := g t t3
      obtain ⟨x, u3⟩ := g u u3
      refine a4 t u t1 t2 u1 u2 t3 u3 ?_
      rcases tu with tu | tu
      · left
        have nt : ¬ π t = π s := fun zz => y (a4 t s t1 t2 h1 h2 t3 h3 (Or.inl zz))
        have nu : ¬ π u = π s := fun zz => x (a4 u s u1 u2 h1 h2 u3 h3 (Or.inl zz))
        by_cases w : π t = l
        · by_cases v : π u = l
          · rw [w, v]
          · rw [pd_t ⟨t1, t2, w⟩, pd_f (fun x => v x.2.2)] at tu
            exact absurd tu.symm nu
        · by_cases v : π u = l
          · rw [pd_f (fun x => w x.2.2), pd_t ⟨u1, u2, v⟩] at tu
            exact absurd tu nt
          · rw [pd_f (fun x => w x.2.2), pd_f (fun x => v x.2.2)] at tu
            exact tu
      · exact Or.inr tu
    · by_cases y : k = π s
      · obtain ⟨t, t1, t2, t3, t4⟩ := a5 l (by omega) (by omega)
        have ts : ¬ t = s := by
          intro w
          rw [w] at t4; omega
        exact ⟨t, t1, t2, by rw [pk_un ts]; exact t3, by rw [pd_t ⟨t1, t2, t4⟩, y]⟩
      · obtain ⟨t, t1, t2, t3, t4⟩ := a5 k k1 (by omega)
        have ts : ¬ t = s := fun w => y (by rw [← t4, w])
        exact ⟨t, t1, t2, by rw [pk_un ts]; exact t3, by rw [pd_f (fun w => absurd w.2.2 (by omega))]; exact t4⟩
  · refine ⟨n2, by rw [pk_un z]; exact e2, M1_cong M2 (fun t t1 t2 => ⟨pk_un (by omega), rfl, rfl, rfl, pd_f (by omega)⟩) (fun k k1 k2 => ⟨pk_uLn (by omega), ?_, ?_⟩)⟩
    · rw [pk_uLn (by omega), pk_uLn (by omega)]
    · rw [pk_uLn (by omega), pk_uLn (by omega)]
end
end
section
theorem sx_100 (n : Nat) : (100 : Int32) * nI n = nI (100 * n) := pk_mul 100 n
theorem sx_m1 : ¬ (0 : Int32) ≤ -1 := by decide
theorem sx_uu {f : Nat → Int64} {k : Nat} {x y : Int64} : vp_updL (vp_updL f k x) k y = vp_updL f k y := by
  funext j; unfold vp_updL; split <;> rfl
section
variable {x_safe : Int64} {x_at : Int32} {x_exitLeast : Int64} {x_exitMost : Int64} {x_branches : Int32} {x_faultPlace : Int32} {x_provedLeast : Int64} {x_provedMost : Int64} {x_packetLength : Int32} {x_executed : Int32} {x_ops : Nat → Int32} {x_targets : Nat → Int32} {x_sources : Nat → Int32} {x_offsets : Nat → Int32} {x_immediates : Nat → Int32} {x_lengths : Nat → Int32} {x_kinds : Nat → Int32} {x_los : Nat → Int64} {x_his : Nat → Int64} {x_reached : Nat → Int32} {x_branchAt : Nat → Int32} {x_branchSafe : Nat → Int64} {x_branchKinds : Nat → Int32} {x_branchLos : Nat → Int64} {x_branchHis : Nat → Int64} {x_packet : Nat → Int32} {x_registers : Nat → Int64} {x_cells : Nat → Int64} {x_keyWords : Nat → Int64} {x_keyTaken : Nat → Int32}
theorem xr_mc50 {post : SX → Prop} {m : Nat} (hm : m < 2) (A : ∀ s, 4 * m ≤ s → s < 4 * m + 4 → ¬ x_keyTaken s = 0 → x_keyWords s = x_registers 1 → post (x_safe, x_at, x_exitLeast, x_exitMost, x_branches, x_faultPlace, x_provedLeast, x_provedMost, x_packetLength, x_executed, x_ops, x_targets, x_sources, x_offsets, x_immediates, x_lengths, x_kinds, x_los, x_his, x_reached, x_branchAt, x_branchSafe, x_branchKinds, x_branchLos, x_branchHis, x_packet, vp_updL x_registers 0 (lN (6 + 2 * s)), x_cells, x_keyWords, x_keyTaken)) (B : (∀ s, 4 * m ≤ s → s < 4 * m + 4 → ¬ x_keyTaken s = 0 → ¬ x_keyWords s = x_registers 1) → post (x_safe, x_at, x_exitLeast, x_exitMost, x_branches, x_faultPlace, x_provedLeast, x_provedMost, x_packetLength, x_executed, x_ops, x_targets, x_sources, x_offsets, x_immediates, x_lengths, x_kinds, x_los, x_his, x_reached, x_branchAt, x_branchSafe, x_branchKinds, x_branchLos, x_branchHis, x_packet, vp_updL x_registers 0 0, x_cells, x_keyWords, x_keyTaken)) : wpX_performMapCall post (x_safe, x_at, x_exitLeast, x_exitMost, x_branches, x_faultPlace, x_provedLeast, x_provedMost, x_packetLength, x_executed, x_ops, x_targets, x_sources, x_offsets, x_immediates, x_lengths, x_kinds, x_los, x_his, x_reached, x_branchAt, x_branchSafe, x_branchKinds, x_branchLos, x_branchHis, x_packet, x_registers, x_cells, x_keyWords, x_keyTaken) 50 (nI m) := by
  unfold wpX_performMapCall
  refine xr_slot hm (fun s h1 h2 h3 h4 => ?_) (fun h => ?_)
  · refine br_t rfl (br_t (nI_pos' (by omega)) (nm_r (e' := vp_updL x_registers 0 (lN (6 + 2 * s))) ?_ (A s h1 h2 h3 h4)))
    rw [xb_mur2, xb_add6, nI_l (by omega), Nat.mul_comm]
  · exact br_t rfl (br_f sx_m1 (nm_e (B h)))
theorem xr_mc52 {post : SX → Prop} {m : Nat} (hm : m < 2) (A : ∀ s, 4 * m ≤ s → s < 4 * m + 4 → ¬ x_keyTaken s = 0 → x_keyWords s = x_registers 1 → post (x_safe, x_at, x_exitLeast, x_exitMost, x_branches, x_faultPlace, x_provedLeast, x_provedMost, x_packetLength, x_executed, x_ops, x_targets, x_sources, x_offsets, x_immediates, x_lengths, x_kinds, x_los, x_his, x_reached, x_branchAt, x_branchSafe, x_branchKinds, x_branchLos, x_branchHis, x_packet, vp_updL x_registers 0 1, x_cells, x_keyWords, upd x_keyTaken s 0)) (B : (∀ s, 4 * m ≤ s → s < 4 * m + 4 → ¬ x_keyTaken s = 0 → ¬ x_keyWords s = x_registers 1) → post (x_safe, x_at, x_exitLeast, x_exitMost, x_branches, x_faultPlace, x_provedLeast, x_provedMost, x_packetLength, x_executed, x_ops, x_targets, x_sources, x_offsets, x_immediates, x_lengths, x_kinds, x_los, x_his, x_reached, x_branchAt, x_branchSafe, x_branchKinds, x_branchLos, x_branchHis, x_packet, vp_updL x_registers 0 0, x_cells, x_keyWords, x_keyTaken)) : wpX_performMapCall post (x_safe, x_at, x_exitLeast, x_exitMost, x_branches, x_faultPlace, x_provedLeast, x_provedMost, x_packetLength, x_executed, x_ops, x_targets, x_sources, x_offsets, x_immediates, x_lengths, x_kinds, x_los, x_his, x_reached, x_branchAt, x_branchSafe, x_branchKinds, x_branchLos, x_branchHis, x_packet, x_registers, x_cells, x_keyWords, x_keyTaken) 52 (nI m) := by
  have v0 : vp_in 0 9 := vp_in_nI (n := 0) (by decide) (by decide)
  have c0 : (0 : Int32).toNatClampNeg = 0 := by rfl
  unfold wpX_performMapCall
  refine xr_slot hm (fun s h1 h2 h3 h4 => ?_) (fun h => ?_)
  · exact br_f (by decide) (br_t rfl (br_t (nI_pos' (by omega)) ⟨v0, nm_r (e' := vp_updL x_registers 0 1) (by rw [c0]) (br_f (xb_lt0 (by omega)) ⟨vp_in_nI (by omega) (by decide), nm_r (e' := upd x_keyTaken s 0) (by rw [nI_clamp (by omega), xb_bf]) (A s h1 h2 h3 h4)⟩)⟩))
  · exact br_f (by decide) (br_t rfl (br_f sx_m1 ⟨v0, nm_r (e' := vp_updL x_registers 0 0) (by rw [c0]) (br_t (by decide) (B h))⟩))
theorem xr_mc86 {post : SX → Prop} {s : Nat} (hs : s < 8) (P : post (x_safe, x_at, x_exitLeast, x_exitMost, x_branches, x_faultPlace, x_provedLeast, x_provedMost, x_packetLength, x_executed, x_ops, x_targets, x_sources, x_offsets, x_immediates, x_lengths, x_kinds, x_los, x_his, x_reached, x_branchAt, x_branchSafe, x_branchKinds, x_branchLos, x_branchHis, x_packet, vp_updL x_registers 0 0, vp_updL (vp_updL x_cells (6 + 2 * s) (x_registers 2)) (6 + 2 * s + 1) (x_registers 3), vp_updL x_keyWords s (x_registers 1), upd x_keyTaken s 1)) : wX_performMapCall_86 post (nI s) x_safe x_at x_exitLeast x_exitMost x_branches x_faultPlace x_provedLeast x_provedMost x_packetLength x_executed x_ops x_targets x_sources x_offsets x_immediates x_lengths x_kinds x_los x_his x_reached x_branchAt x_branchSafe x_branchKinds x_branchLos x_branchHis x_packet x_registers x_cells x_keyWords x_keyTaken := by
  have v0 : vp_in 0 9 := vp_in_nI (n := 0) (by decide) (by decide)
  have c0 : (0 : Int32).toNatClampNeg = 0 := by rfl
  refine br_t (nI_pos' (by omega)) ⟨v0, nm_r (e' := vp_updL x_registers 0 0) (by rw [c0]) (br_f (xb_lt0 (by omega)) ?_)⟩
  rw [pk_uLn (by decide), pk_uLn (by decide), pk_uLn (by decide)]
  exact xr_put hs P
theorem xr_mc51 {post : SX → Prop} {m : Nat} (hm : m < 2) (A : ∀ s, 4 * m ≤ s → s < 4 * m + 4 → ¬ x_keyTaken s = 0 → x_keyWords s = x_registers 1 → post (x_safe, x_at, x_exitLeast, x_exitMost, x_branches, x_faultPlace, x_provedLeast, x_provedMost, x_packetLength, x_executed, x_ops, x_targets, x_sources, x_offsets, x_immediates, x_lengths, x_kinds, x_los, x_his, x_reached, x_branchAt, x_branchSafe, x_branchKinds, x_branchLos, x_branchHis, x_packet, vp_updL x_registers 0 0, vp_updL (vp_updL x_cells (6 + 2 * s) (x_registers 2)) (6 + 2 * s + 1) (x_registers 3), vp_updL x_keyWords s (x_registers 1), upd x_keyTaken s 1)) (B : (∀ s, 4 * m ≤ s → s < 4 * m + 4 → ¬ x_keyTaken s = 0 → ¬ x_keyWords s = x_registers 1) → ∀ s, 4 * m ≤ s → s < 4 * m + 4 → x_keyTaken s = 0 → (∀ t, 4 * m ≤ t → t < s → ¬ x_keyTaken t = 0) → post (x_safe, x_at, x_exitLeast, x_exitMost, x_branches, x_faultPlace, x_provedLeast, x_provedMost, x_packetLength, x_executed, x_ops, x_targets, x_sources, x_offsets, x_immediates, x_lengths, x_kinds, x_los, x_his, x_reached, x_branchAt, x_branchSafe, x_branchKinds, x_branchLos, x_branchHis, x_packet, vp_updL x_registers 0 0, vp_updL (vp_updL x_cells (6 + 2 * s) (x_registers 2)) (6 + 2 * s + 1) (x_registers 3), vp_updL x_keyWords s (x_registers 1), upd x_keyTaken s 1)) (C : (∀ s, 4 * m ≤ s → s < 4 * m + 4 → ¬ x_keyTaken s = 0 → ¬ x_keyWords s = x_registers 1) → (∀ s, 4 * m ≤ s → s < 4 * m + 4 → ¬ x_keyTaken s = 0) → post (x_safe, x_at, x_exitLeast, x_exitMost, x_branches, x_faultPlace, x_provedLeast, x_provedMost, x_packetLength, x_executed, x_ops, x_targets, x_sources, x_offsets, x_immediates, x_lengths, x_kinds, x_los, x_his, x_reached, x_branchAt, x_branchSafe, x_branchKinds, x_branchLos, x_branchHis, x_packet, vp_updL x_registers 0 1, x_cells, x_keyWords, x_keyTaken)) : wpX_performMapCall post (x_safe, x_at, x_exitLeast, x_exitMost, x_branches, x_faultPlace, x_provedLeast, x_provedMost, x_packetLength, x_executed, x_ops, x_targets, x_sources, x_offsets, x_immediates, x_lengths, x_kinds, x_los, x_his, x_reached, x_branchAt, x_branchSafe, x_branchKinds, x_branchLos, x_branchHis, x_packet, x_registers, x_cells, x_keyWords, x_keyTaken) 51 (nI m) := by
  have v0 : vp_in 0 9 := vp_in_nI (n := 0) (by decide) (by decide)
  have c0 : (0 : Int32).toNatClampNeg = 0 := by rfl
  unfold wpX_performMapCall
  refine xr_slot hm (fun s h1 h2 h3 h4 => ?_) (fun h => ?_)
  · exact br_f (by decide) (br_f (by decide) (br_t (nI_pos' (by omega)) (xr_mc86 (by omega) (A s h1 h2 h3 h4))))
  · refine br_f (by decide) (br_f (by decide) (br_f sx_m1 ?_))
    refine xr_free hm (fun s h1 h2 h3 h4 => ?_) (fun g => ?_)
    · exact xr_mc86 (by omega) (B h s h1 h2 h3 h4)
    · exact br_f sx_m1 ⟨v0, nm_r (e' := vp_updL x_registers 0 1) (by rw [c0]) (br_t (by decide) (C h g))⟩
end
section
variable {y_place : Int32} {y_least : Int64} {y_most : Int64} {y_smallest : Int64} {y_greatest : Int64} {y_ways : Int32} {y_fault : Int32} {y_base : Int32} {y_otherKind : Int32} {y_otherLo : Int64} {y_otherHi : Int64} {y_low : Int64} {y_high : Int64} {y_bytes : Int32} {y_steps : Int32} {y_op : Nat → Int32} {y_first : Nat → Int32} {y_second : Nat → Int32} {y_offset : Nat → Int32} {y_given : Nat → Int32} {y_length : Nat → Int32} {y_there : Nat → Int32} {y_known : Nat → Int32} {y_lo : Nat → Int64} {y_hi : Nat → Int64} {y_at : Nat → Int32} {y_lookups : Nat → Int32} {y_safe : Nat → Int32} {y_met : Nat → Int32} {y_tag : Nat → Int32} {y_word : Nat → Int64} {y_packet : Nat → Int32} {y_keys : Nat → Int64} {y_values : Nat → Int64} {y_many : Nat → Int32}
theorem yr_mp50 {post : SY → Prop} {m n : Nat} (hm : m < 2) (hn : n ≤ 4) (en : y_many m = nI n) (A : ∀ k, 4 * m ≤ k → k < 4 * m + n → y_keys k = y_word 1 → post (y_place, y_least, y_most, y_smallest, y_greatest, y_ways, y_fault, y_base, y_otherKind, y_otherLo, y_otherHi, y_low, y_high, y_bytes, y_steps, y_op, y_first, y_second, y_offset, y_given, y_length, y_there, y_known, y_lo, y_hi, y_at, y_lookups, y_safe, y_met, upd y_tag 0 5, vp_updL y_word 0 (lN (100 * (8 + k))), y_packet, y_keys, y_values, y_many)) (B : (∀ k, 4 * m ≤ k → k < 4 * m + n → ¬ y_keys k = y_word 1) → post (y_place, y_least, y_most, y_smallest, y_greatest, y_ways, y_fault, y_base, y_otherKind, y_otherLo, y_otherHi, y_low, y_high, y_bytes, y_steps, y_op, y_first, y_second, y_offset, y_given, y_length, y_there, y_known, y_lo, y_hi, y_at, y_lookups, y_safe, y_met, upd y_tag 0 1, vp_updL y_word 0 0, y_packet, y_keys, y_values, y_many)) : wpY_maps post (y_place, y_least, y_most, y_smallest, y_greatest, y_ways, y_fault, y_base, y_otherKind, y_otherLo, y_otherHi, y_low, y_high, y_bytes, y_steps, y_op, y_first, y_second, y_offset, y_given, y_length, y_there, y_known, y_lo, y_hi, y_at, y_lookups, y_safe, y_met, y_tag, y_word, y_packet, y_keys, y_values, y_many) 50 (nI m) := by
  unfold wpY_maps
  refine yr_find hm hn en (fun k h1 h2 h3 => ?_) (fun h => ?_)
  · refine br_t rfl (br_t (nI_pos' (by omega)) ?_)
    rw [xb_add8, sx_100, nI_l (by omega)]
    exact (yr_hold0 (by unfold k7_; simp)).mpr (A k h1 h2 h3)
  · exact br_t rfl (br_f sx_m1 ((yr_hold0 (by unfold k7_; simp)).mpr (B h)))
theorem yr_u46 {post : SY → Prop} {k : Nat} (hk : k < 8) (H : post (y_place, y_least, y_most, y_smallest, y_greatest, y_ways, y_fault, y_base, y_otherKind, y_otherLo, y_otherHi, y_low, y_high, y_bytes, y_steps, y_op, y_first, y_second, y_offset, y_given, y_length, y_there, y_known, y_lo, y_hi, y_at, y_lookups, y_safe, y_met, y_tag, y_word, y_packet, vp_updL y_keys k (y_word 1), vp_updL (vp_updL y_values (2 * k) (y_word 2)) (2 * k + 1) (y_word 3), y_many)) : wY_update_46 post (nI k) y_place y_least y_most y_smallest y_greatest y_ways y_fault y_base y_otherKind y_otherLo y_otherHi y_low y_high y_bytes y_steps y_op y_first y_second y_offset y_given y_length y_there y_known y_lo y_hi y_at y_lookups y_safe y_met y_tag y_word y_packet y_keys y_values y_many := by
  refine ⟨vp_in_nI hk (by decide), nm_r (e' := vp_updL y_keys k (y_word 1)) (by rw [nI_clamp (by omega)]) ⟨by rw [xb_mul2]; exact vp_in_nI (by omega) (by decide), nm_r (e' := vp_updL y_values (2 * k) (y_word 2)) (by rw [xb_mul2, nI_clamp (by omega)]) ⟨by rw [xb_mul2, nI_1]; exact vp_in_nI (by omega) (by decide), nm_r ?_ H⟩⟩⟩
  rw [xb_mul2, nI_1, nI_clamp (by omega)]
theorem yr_mp51 {post : SY → Prop} {m n : Nat} (hm : m < 2) (hn : n ≤ 4) (en : y_many m = nI n) (A : ∀ k, 4 * m ≤ k → k < 4 * m + n → y_keys k = y_word 1 → post (y_place, y_least, y_most, y_smallest, y_greatest, y_ways, y_fault, y_base, y_otherKind, y_otherLo, y_otherHi, y_low, y_high, y_bytes, y_steps, y_op, y_first, y_second, y_offset, y_given, y_length, y_there, y_known, y_lo, y_hi, y_at, y_lookups, y_safe, y_met, upd y_tag 0 1, vp_updL y_word 0 0, y_packet, vp_updL y_keys k (y_word 1), vp_updL (vp_updL y_values (2 * k) (y_word 2)) (2 * k + 1) (y_word 3), y_many)) (B : (∀ k, 4 * m ≤ k → k < 4 * m + n → ¬ y_keys k = y_word 1) → n < 4 → post (y_place, y_least, y_most, y_smallest, y_greatest, y_ways, y_fault, y_base, y_otherKind, y_otherLo, y_otherHi, y_low, y_high, y_bytes, y_steps, y_op, y_first, y_second, y_offset, y_given, y_length, y_there, y_known, y_lo, y_hi, y_at, y_lookups, y_safe, y_met, upd y_tag 0 1, vp_updL y_word 0 0, y_packet, vp_updL y_keys (4 * m + n) (y_word 1), vp_updL (vp_updL y_values (2 * (4 * m + n)) (y_word 2)) (2 * (4 * m + n) + 1) (y_word 3), upd y_many m (nI (n + 1)))) (C : (∀ k, 4 * m ≤ k → k < 4 * m + n → ¬ y_keys k = y_word 1) → n = 4 → post (y_place, y_least, y_most, y_smallest, y_greatest, y_ways, y_fault, y_base, y_otherKind, y_otherLo, y_otherHi, y_low, y_high, y_bytes, y_steps, y_op, y_first, y_second, y_offset, y_given, y_length, y_there, y_known, y_lo, y_hi, y_at, y_lookups, y_safe, y_met, upd y_tag 0 1, vp_updL y_word 0 1, y_packet, y_keys, y_values, y_many)) : wpY_maps post (y_place, y_least, y_most, y_smallest, y_greatest, y_ways, y_fault, y_base, y_otherKind, y_otherLo, y_otherHi, y_low, y_high, y_bytes, y_steps, y_op, y_first, y_second, y_offset, y_given, y_length, y_there, y_known, y_lo, y_hi, y_at, y_lookups, y_safe, y_met, y_tag, y_word, y_packet, y_keys, y_values, y_many) 51 (nI m) := by
  have w1 : vp_updL y_word 0 0 1 = y_word 1 := pk_uLn (by decide)
  have w2 : vp_updL y_word 0 0 2 = y_word 2 := pk_uLn (by decide)
  have w3 : vp_updL y_word 0 0 3 = y_word 3 := pk_uLn (by decide)
  have v : vp_in (nI m) 2 := vp_in_nI hm (by decide)
  have c : (nI m).toNatClampNeg = m := nI_clamp (by omega)
  unfold wpY_maps
  refine yr_find hm hn en (fun k h1 h2 h3 => ?_) (fun h => ?_)
  · have G := A k h1 h2 h3
    rw [← w1, ← w2, ← w3] at G
    refine br_f (by decide) ((yr_hold0 (by unfold k7_; simp)).mpr ?_)
    refine br_t rfl ?_
    exact br_t (nI_pos' (by omega)) (br_t (nI_pos' (by omega)) (yr_u46 (by omega) G))
  · refine br_f (by decide) ((yr_hold0 (by unfold k7_; simp)).mpr ?_)
    refine br_t rfl ?_
    refine br_f sx_m1 ⟨v, ?_⟩
    rw [c, en]
    refine br_c (fun z => ?_) (fun z => br_f sx_m1 ⟨v, v, ?_⟩)
    · rw [xb_eq4 (by omega)] at z
      refine nm_r (e' := vp_updL y_word 0 1) sx_uu (C h z)
    · rw [xb_eq4 (by omega)] at z
      have G := B h (by omega)
      rw [← w1, ← w2, ← w3] at G
      refine nm_r (e' := upd y_many m (nI (n + 1))) (by rw [c, en, nI_1, xb_nb (by omega), xb_vb (by omega)]) ?_
      rw [c, en, xb_mul4, nI_add]
      exact yr_u46 (by omega) G
theorem yr_mp52 {post : SY → Prop} {m n : Nat} (hm : m < 2) (hn : n ≤ 4) (en : y_many m = nI n) (A : ∀ k l, 4 * m ≤ k → k < 4 * m + n → y_keys k = y_word 1 → l + 1 = 4 * m + n → post (y_place, y_least, y_most, y_smallest, y_greatest, y_ways, y_fault, y_base, y_otherKind, y_otherLo, y_otherHi, y_low, y_high, y_bytes, y_steps, y_op, y_first, y_second, y_offset, y_given, y_length, y_there, y_known, y_lo, y_hi, y_at, y_lookups, y_safe, y_met, upd y_tag 0 1, vp_updL y_word 0 1, y_packet, vp_updL y_keys k (y_keys l), vp_updL (vp_updL y_values (2 * k) (y_values (2 * l))) (2 * k + 1) (y_values (2 * l + 1)), upd y_many m (nI (n - 1)))) (B : (∀ k, 4 * m ≤ k → k < 4 * m + n → ¬ y_keys k = y_word 1) → post (y_place, y_least, y_most, y_smallest, y_greatest, y_ways, y_fault, y_base, y_otherKind, y_otherLo, y_otherHi, y_low, y_high, y_bytes, y_steps, y_op, y_first, y_second, y_offset, y_given, y_length, y_there, y_known, y_lo, y_hi, y_at, y_lookups, y_safe, y_met, upd y_tag 0 1, vp_updL y_word 0 0, y_packet, y_keys, y_values, y_many)) : wpY_maps post (y_place, y_least, y_most, y_smallest, y_greatest, y_ways, y_fault, y_base, y_otherKind, y_otherLo, y_otherHi, y_low, y_high, y_bytes, y_steps, y_op, y_first, y_second, y_offset, y_given, y_length, y_there, y_known, y_lo, y_hi, y_at, y_lookups, y_safe, y_met, y_tag, y_word, y_packet, y_keys, y_values, y_many) 52 (nI m) := by
  have v : vp_in (nI m) 2 := vp_in_nI hm (by decide)
  have c : (nI m).toNatClampNeg = m := nI_clamp (by omega)
  unfold wpY_maps
  refine yr_find hm hn en (fun k h1 h2 h3 => ?_) (fun h => ?_)
  rotate_left
  · refine br_f (by decide) ((yr_hold0 (by unfold k7_; simp)).mpr ?_)
    exact br_f (by decide) (br_f sx_m1 (B h))
  refine br_f (by decide) ((yr_hold0 (by unfold k7_; simp)).mpr ?_)
  refine br_f (by decide) (br_t (nI_pos' (by omega)) ?_)
  obtain ⟨l, el⟩ : ∃ l, l + 1 = 4 * m + n := ⟨4 * m + n - 1, by omega⟩
  have G := A k l h1 h2 h3 el
  have e1 : (nI n - 1).toInt8.toInt32 = nI (n - 1) := by rw [xb_s1 (by omega), xb_nb (by omega)]
  have vk : vp_in (nI k) 8 := vp_in_nI (by omega) (by decide)
  have ck : (nI k).toNatClampNeg = k := nI_clamp (by omega)
  have vl : vp_in (nI l) 8 := vp_in_nI (by omega) (by decide)
  have cl : (nI l).toNatClampNeg = l := nI_clamp (by omega)
  have v2 : ∀ j, j < 8 → vp_in (2 * nI j) 16 ∧ (2 * nI j).toNatClampNeg = 2 * j ∧ vp_in (2 * nI j + 1) 16 ∧ (2 * nI j + 1).toNatClampNeg = 2 * j + 1 := by
    intro j hj
    rw [xb_mul2, nI_1]
    exact ⟨vp_in_nI (by omega) (by decide), nI_clamp (by omega), vp_in_nI (by omega) (by decide), nI_clamp (by omega)⟩
  obtain ⟨k1, k2, k3, k4⟩ := v2 k (by omega)
  obtain ⟨l1, l2, l3, l4⟩ := v2 l (by omega)
  refine nm_r (e' := vp_updL y_word 0 1) sx_uu ⟨v, v, nm_r (e' := upd y_many m (nI (n - 1))) (by rw [c, en, e1, xb_vb (by omega)]) (nm_r (e' := nI l) (by rw [c, en, e1, xb_mul4, nI_add]; congr 1; omega) ⟨vl, vk, nm_r (by rw [ck, cl]) ⟨l1, k1, nm_r (e' := vp_updL y_values (2 * k) (y_values (2 * l))) (by rw [k2, l2]) ⟨l3, k3, nm_r ?_ G⟩⟩⟩)⟩
  rw [k4, l4]
  congr 1
  by_cases z : k = l
  · subst z
    rw [pk_uLn (by omega)]
  · rw [pk_uLn (by omega)]
end
section
variable {o off imm : Int32} {d s : Nat} {K : Nat → Int32} {L H : Nat → Int64} {S : Int64}
theorem Con_wipe {π π' : Nat → Nat} {rg ce ce' : Nat → Int64} {kt kt' : Nat → Int32} {kw kw' : Nat → Int64} {tg : Nat → Int32} {wd ks ks' vs vs' : Nat → Int64} {mn mn' : Nat → Int32} {b : Nat} (C : Con_ K L H S π rg ce kt kw tg wd ks vs mn b) (hc : ∀ c, c < 6 → ce' c = ce c) (M : Mp_ π' kt' kw' ce' ks' vs' mn') : Con_ (mK_ K 16) (mL_ K L 16) (mL_ K H 16) S π' rg ce' kt' kw' tg wd ks' vs' mn' b := by
  refine ⟨fun r hr => ?_, C.2.1, ⟨C.2.2.1.1, fun r t hr _ k6 _ => ?_⟩, M⟩
  rotate_left
  · exfalso
    by_cases z : wi_ K 16 (g_ r)
    · have e1 : mK_ K 16 (g_ r) = 0 := by unfold mK_; exact if_pos z
      rw [e1] at k6; exact absurd k6 (by decide)
    · have e1 : mK_ K 16 (g_ r) = K (g_ r) := by unfold mK_; exact if_neg z
      rw [e1] at k6
      exact z ⟨g_16 hr, Or.inr (Or.inr k6)⟩
  have v := C.1 r hr
  have g16 := g_16 hr
  have ex : cx_ rg ce' r = cx_ rg ce r := by
    unfold cx_; split
    · rfl
    · exact hc _ (by omega)
  by_cases z : wi_ K 16 (g_ r)
  · have e1 : mK_ K 16 (g_ r) = 0 := by unfold mK_; exact if_pos z
    rw [e1]; exact V_0
  · have e1 : mK_ K 16 (g_ r) = K (g_ r) := by unfold mK_; exact if_neg z
    have e3 : mL_ K L 16 (g_ r) = L (g_ r) := by unfold mL_; exact if_neg z
    have e4 : mL_ K H 16 (g_ r) = H (g_ r) := by unfold mL_; exact if_neg z
    rw [e1, e3, e4, ex]
    exact V_ind v (fun n => z ⟨g16, Or.inr (Or.inl n)⟩) (fun n => z ⟨g16, Or.inr (Or.inr n)⟩)
theorem mK_n6 {P : Nat → Prop} : ∀ r, r < 14 → mK_ K 16 (g_ r) = 6 → P r := by
  intro r hr k6
  exfalso
  by_cases z : wi_ K 16 (g_ r)
  · have e1 : mK_ K 16 (g_ r) = 0 := by unfold mK_; exact if_pos z
    rw [e1] at k6; exact absurd k6 (by decide)
  · have e1 : mK_ K 16 (g_ r) = K (g_ r) := by unfold mK_; exact if_neg z
    rw [e1] at k6
    exact z ⟨g_16 hr, Or.inr (Or.inr k6)⟩
theorem V_01 {x : Nat} (h : x ≤ 1) {b : Nat} {π : Nat → Nat} {kt : Nat → Int32} : V_ 1 0 1 (lN x) 1 (lN x) b π kt := V_1 rfl ⟨0, x, 1, by omega, h, by omega, rfl, rfl, rfl⟩
theorem sp_50 (hd : d < 8) (hs : s < 9) (W : WF_ K L H S) (g : ¬ (imm < 0 ∨ ¬ imm < 2)) (k : sk_ 50 K) : SP_ 50 d s off imm K L H S (upd (mK_ K 16) 0 6) (vp_updL (mL_ K L 16) 0 0) (vp_updL (mL_ K H 16) 0 0) := by
  intro π rg ce kt kw tg wd ks vs mn b pX pY C hb hp
  obtain ⟨m, hm31, em⟩ := nI_of (x := imm) (fun z => g (Or.inl z))
  subst em
  have hm : m < 2 := by
    have : nI m < 2 := Classical.byContradiction fun z => g (Or.inr z)
    rw [xb_lt2 hm31] at this; exact this
  have v1 := Con_s W C (s := 1) (by omega)
  rw [if_neg (by omega), if_neg (by omega)] at v1
  obtain ⟨t1, t2, -⟩ := v1.1 k.1
  obtain ⟨n, en, M⟩ := C.2.2.2 m hm
  have C0 := Con_wipe C (fun c _ => rfl) C.2.2.2
  rcases mp_find M (rg 1) with ⟨j, j1, j2, j3, j4, jx, jy, j5, j6, j7⟩ | ⟨nx, ny⟩
  · refine ⟨π, vp_updL rg 0 (lN (6 + 2 * j)), ce, kt, kw, upd tg 0 5, vp_updL wd 0 (lN (100 * (8 + π j))), ks, vs, mn, Con_reg C0 (by decide) (V_6 (Or.inr ⟨rfl, j, by omega, j3, rfl, rfl⟩)) (fun _ => mK_n6), ?_, ?_⟩
    · intro x_safe x_at x_exitLeast x_exitMost x_branches x_faultPlace x_provedLeast x_provedMost x_packetLength x_executed x_ops x_targets x_sources x_offsets x_immediates x_lengths x_kinds x_los x_his x_reached x_branchAt x_branchSafe x_branchKinds x_branchLos x_branchHis x_packet x_registers x_cells x_keyWords x_keyTaken i post hi eo e1 e2 e3 e4 P
      refine xr_69 hi hs eo e1 e2 (xs_sv (by simp)) (xr_map (by simp) hi ?_)
      rw [e4]
      refine xr_mc50 hm (fun t h1 h2 h3 h4 => ?_) (fun h => absurd j4 (h j j1 j2 j3))
      rw [jx t h1 h2 h3 h4]; exact P
    · intro y_place y_least y_most y_smallest y_greatest y_ways y_fault y_base y_otherKind y_otherLo y_otherHi y_low y_high y_bytes y_steps y_op y_first y_second y_offset y_given y_length y_there y_known y_lo y_hi y_at y_lookups y_safe y_met y_tag y_word y_packet y_keys y_values y_many i a2 post hi eo e1 e2 e3 e4 P
      refine yr_114 hi hs eo e1 e2 (rg := True) (om_rg (f := True) (by simp)) ys_om (yr_m (by simp) hi (by omega) (fun z => absurd z (by decide)) (fun z => absurd z (by decide)) (fun z => absurd z (by decide)) (fun _ => ?_))
      rw [e4]
      refine yr_mp50 hm M.1 en (fun k h1 h2 h3 => ?_) (fun h => absurd (j7.trans t2.symm) (h _ j5 j6))
      rw [jy k h1 h2 (h3.trans t2)]; exact P
  · refine ⟨π, vp_updL rg 0 0, ce, kt, kw, upd tg 0 1, vp_updL wd 0 0, ks, vs, mn, Con_reg C0 (by decide) (V_6 (Or.inl ⟨rfl, rfl, rfl⟩)) (fun _ => mK_n6), ?_, ?_⟩
    · intro x_safe x_at x_exitLeast x_exitMost x_branches x_faultPlace x_provedLeast x_provedMost x_packetLength x_executed x_ops x_targets x_sources x_offsets x_immediates x_lengths x_kinds x_los x_his x_reached x_branchAt x_branchSafe x_branchKinds x_branchLos x_branchHis x_packet x_registers x_cells x_keyWords x_keyTaken i post hi eo e1 e2 e3 e4 P
      refine xr_69 hi hs eo e1 e2 (xs_sv (by simp)) (xr_map (by simp) hi ?_)
      rw [e4]
      exact xr_mc50 hm (fun t h1 h2 h3 h4 => absurd h4 (nx t h1 h2 h3)) (fun _ => P)
    · intro y_place y_least y_most y_smallest y_greatest y_ways y_fault y_base y_otherKind y_otherLo y_otherHi y_low y_high y_bytes y_steps y_op y_first y_second y_offset y_given y_length y_there y_known y_lo y_hi y_at y_lookups y_safe y_met y_tag y_word y_packet y_keys y_values y_many i a2 post hi eo e1 e2 e3 e4 P
      refine yr_114 hi hs eo e1 e2 (rg := True) (om_rg (f := True) (by simp)) ys_om (yr_m (by simp) hi (by omega) (fun z => absurd z (by decide)) (fun z => absurd z (by decide)) (fun z => absurd z (by decide)) (fun _ => ?_))
      rw [e4]
      exact yr_mp50 hm M.1 en (fun k h1 h2 h3 => absurd (h3.trans t2) (ny k h1 h2)) (fun _ => P)
theorem sp_52 (hd : d < 8) (hs : s < 9) (W : WF_ K L H S) (g : ¬ (imm < 0 ∨ ¬ imm < 2)) (k : sk_ 52 K) : SP_ 52 d s off imm K L H S (upd (mK_ K 16) 0 1) (vp_updL (mL_ K L 16) 0 0) (vp_updL (mL_ K H 16) 0 1) := by
  intro π rg ce kt kw tg wd ks vs mn b pX pY C hb hp
  obtain ⟨m, hm31, em⟩ := nI_of (x := imm) (fun z => g (Or.inl z))
  subst em
  have hm : m < 2 := by
    have : nI m < 2 := Classical.byContradiction fun z => g (Or.inr z)
    rw [xb_lt2 hm31] at this; exact this
  have v1 := Con_s W C (s := 1) (by omega)
  rw [if_neg (by omega), if_neg (by omega)] at v1
  obtain ⟨t1, t2, -⟩ := v1.1 k.1
  obtain ⟨n, en, M⟩ := C.2.2.2 m hm
  rcases mp_find M (rg 1) with ⟨j, j1, j2, j3, j4, jx, jy, j5, j6, j7⟩ | ⟨nx, ny⟩
  · obtain ⟨l, el⟩ : ∃ l, l + 1 = 4 * m + n := ⟨4 * m + n - 1, by omega⟩
    have C0 := Con_wipe C (fun c _ => rfl) (mp_del C.2.2.2 hm en M j1 j2 j3 el)
    refine ⟨_, vp_updL rg 0 1, ce, _, kw, upd tg 0 1, vp_updL wd 0 1, _, _, _, Con_reg C0 (by decide) (V_01 (x := 1) (by omega)) (fun z => absurd z (by decide)), ?_, ?_⟩
    · intro x_safe x_at x_exitLeast x_exitMost x_branches x_faultPlace x_provedLeast x_provedMost x_packetLength x_executed x_ops x_targets x_sources x_offsets x_immediates x_lengths x_kinds x_los x_his x_reached x_branchAt x_branchSafe x_branchKinds x_branchLos x_branchHis x_packet x_registers x_cells x_keyWords x_keyTaken i post hi eo e1 e2 e3 e4 P
      refine xr_69 hi hs eo e1 e2 (xs_sv (by simp)) (xr_map (by simp) hi ?_)
      rw [e4]
      refine xr_mc52 hm (fun t h1 h2 h3 h4 => ?_) (fun h => absurd j4 (h j j1 j2 j3))
      rw [jx t h1 h2 h3 h4]; exact P
    · intro y_place y_least y_most y_smallest y_greatest y_ways y_fault y_base y_otherKind y_otherLo y_otherHi y_low y_high y_bytes y_steps y_op y_first y_second y_offset y_given y_length y_there y_known y_lo y_hi y_at y_lookups y_safe y_met y_tag y_word y_packet y_keys y_values y_many i a2 post hi eo e1 e2 e3 e4 P
      refine yr_114 hi hs eo e1 e2 (rg := True) (om_rg (f := True) (by simp)) ys_om (yr_m (by simp) hi (by omega) (fun z => absurd z (by decide)) (fun z => absurd z (by decide)) (fun z => absurd z (by decide)) (fun _ => ?_))
      rw [e4]
      refine yr_mp52 hm M.1 en (fun k l2 h1 h2 h3 h4 => ?_) (fun h => absurd (j7.trans t2.symm) (h _ j5 j6))
      have : l2 = l := by omega
      subst this
      rw [jy k h1 h2 (h3.trans t2)]; exact P
  · have C0 := Con_wipe C (fun c _ => rfl) C.2.2.2
    refine ⟨π, vp_updL rg 0 0, ce, kt, kw, upd tg 0 1, vp_updL wd 0 0, ks, vs, mn, Con_reg C0 (by decide) (V_01 (x := 0) (by omega)) (fun z => absurd z (by decide)), ?_, ?_⟩
    · intro x_safe x_at x_exitLeast x_exitMost x_branches x_faultPlace x_provedLeast x_provedMost x_packetLength x_executed x_ops x_targets x_sources x_offsets x_immediates x_lengths x_kinds x_los x_his x_reached x_branchAt x_branchSafe x_branchKinds x_branchLos x_branchHis x_packet x_registers x_cells x_keyWords x_keyTaken i post hi eo e1 e2 e3 e4 P
      refine xr_69 hi hs eo e1 e2 (xs_sv (by simp)) (xr_map (by simp) hi ?_)
      rw [e4]
      exact xr_mc52 hm (fun t h1 h2 h3 h4 => absurd h4 (nx t h1 h2 h3)) (fun _ => P)
    · intro y_place y_least y_most y_smallest y_greatest y_ways y_fault y_base y_otherKind y_otherLo y_otherHi y_low y_high y_bytes y_steps y_op y_first y_second y_offset y_given y_length y_there y_known y_lo y_hi y_at y_lookups y_safe y_met y_tag y_word y_packet y_keys y_values y_many i a2 post hi eo e1 e2 e3 e4 P
      refine yr_114 hi hs eo e1 e2 (rg := True) (om_rg (f := True) (by simp)) ys_om (yr_m (by simp) hi (by omega) (fun z => absurd z (by decide)) (fun z => absurd z (by decide)) (fun z => absurd z (by decide)) (fun _ => ?_))
      rw [e4]
      exact yr_mp52 hm M.1 en (fun k l2 h1 h2 h3 _ => absurd (h3.trans t2) (ny k h1 h2)) (fun _ => P)
theorem sp_51 (hd : d < 8) (hs : s < 9) (W : WF_ K L H S) (g : ¬ (imm < 0 ∨ ¬ imm < 2)) (k : sk_ 51 K) : SP_ 51 d s off imm K L H S (upd (mK_ K 16) 0 1) (vp_updL (mL_ K L 16) 0 0) (vp_updL (mL_ K H 16) 0 1) := by
  intro π rg ce kt kw tg wd ks vs mn b pX pY C hb hp
  obtain ⟨m, hm31, em⟩ := nI_of (x := imm) (fun z => g (Or.inl z))
  subst em
  have hm : m < 2 := by
    have : nI m < 2 := Classical.byContradiction fun z => g (Or.inr z)
    rw [xb_lt2 hm31] at this; exact this
  have rd : ∀ r, r < 8 → K r = 1 → wd r = rg r ∧ wd_ (rg r) := by
    intro r hr kr
    have v1 := Con_s W C (s := r) (by omega)
    rw [if_neg (by omega), if_neg (by omega)] at v1
    obtain ⟨-, t2, a, n, c, -, h1, h2, -, h3, -⟩ := v1.1 kr
    exact ⟨t2, n, by omega, h3⟩
  obtain ⟨t1, -⟩ := rd 1 (by omega) k.1
  obtain ⟨t2, w2⟩ := rd 2 (by omega) (k.2 rfl).1
  obtain ⟨t3, w3⟩ := rd 3 (by omega) (k.2 rfl).2
  obtain ⟨n, en, M⟩ := C.2.2.2 m hm
  have keep : ∀ (t : Nat) (p q : Int64), ∀ c, c < 6 → vp_updL (vp_updL ce (6 + 2 * t) p) (6 + 2 * t + 1) q c = ce c := by
    intro t p q c hc
    rw [pk_uLn (by omega), pk_uLn (by omega)]
  rcases mp_find M (rg 1) with ⟨j, j1, j2, j3, j4, jx, jy, j5, j6, j7⟩ | ⟨nx, ny⟩
  · have C0 := Con_wipe C (keep j (rg 2) (rg 3)) (mp_upd C.2.2.2 hm j1 j2 j3 j4 w2 w3)
    refine ⟨_, vp_updL rg 0 0, _, _, _, upd tg 0 1, vp_updL wd 0 0, _, _, _, Con_reg C0 (by decide) (V_01 (x := 0) (by omega)) (fun z => absurd z (by decide)), ?_, ?_⟩
    · intro x_safe x_at x_exitLeast x_exitMost x_branches x_faultPlace x_provedLeast x_provedMost x_packetLength x_executed x_ops x_targets x_sources x_offsets x_immediates x_lengths x_kinds x_los x_his x_reached x_branchAt x_branchSafe x_branchKinds x_branchLos x_branchHis x_packet x_registers x_cells x_keyWords x_keyTaken i post hi eo e1 e2 e3 e4 P
      refine xr_69 hi hs eo e1 e2 (xs_sv (by simp)) (xr_map (by simp) hi ?_)
      rw [e4]
      refine xr_mc51 hm (fun t h1 h2 h3 h4 => ?_) (fun h => absurd j4 (h j j1 j2 j3)) (fun h => absurd j4 (h j j1 j2 j3))
      rw [jx t h1 h2 h3 h4]; exact P
    · intro y_place y_least y_most y_smallest y_greatest y_ways y_fault y_base y_otherKind y_otherLo y_otherHi y_low y_high y_bytes y_steps y_op y_first y_second y_offset y_given y_length y_there y_known y_lo y_hi y_at y_lookups y_safe y_met y_tag y_word y_packet y_keys y_values y_many i a2 post hi eo e1 e2 e3 e4 P
      refine yr_114 hi hs eo e1 e2 (rg := True) (om_rg (f := True) (by simp)) ys_om (yr_m (by simp) hi (by omega) (fun z => absurd z (by decide)) (fun z => absurd z (by decide)) (fun z => absurd z (by decide)) (fun _ => ?_))
      rw [e4]
      refine yr_mp51 hm M.1 en (fun k h1 h2 h3 => ?_) (fun h => absurd (j7.trans t1.symm) (h _ j5 j6)) (fun h => absurd (j7.trans t1.symm) (h _ j5 j6))
      rw [jy k h1 h2 (h3.trans t1), t1, t2, t3]; exact P
  · by_cases n4 : n < 4
    · obtain ⟨j, j1, j2, j3, j4⟩ := cn_free (kt := kt) (m := m) (by rw [M.2.1]; exact n4)
      have C0 := Con_wipe C (keep j (rg 2) (rg 3)) (mp_new (s := j) (key := rg 1) C.2.2.2 hm en n4 M j1 j2 j3 nx w2 w3)
      refine ⟨_, vp_updL rg 0 0, _, _, _, upd tg 0 1, vp_updL wd 0 0, _, _, _, Con_reg C0 (by decide) (V_01 (x := 0) (by omega)) (fun z => absurd z (by decide)), ?_, ?_⟩
      · intro x_safe x_at x_exitLeast x_exitMost x_branches x_faultPlace x_provedLeast x_provedMost x_packetLength x_executed x_ops x_targets x_sources x_offsets x_immediates x_lengths x_kinds x_los x_his x_reached x_branchAt x_branchSafe x_branchKinds x_branchLos x_branchHis x_packet x_registers x_cells x_keyWords x_keyTaken i post hi eo e1 e2 e3 e4 P
        refine xr_69 hi hs eo e1 e2 (xs_sv (by simp)) (xr_map (by simp) hi ?_)
        rw [e4]
        refine xr_mc51 hm (fun t h1 h2 h3 h4 => absurd h4 (nx t h1 h2 h3)) (fun _ t h1 h2 h3 h4 => ?_) (fun _ h => absurd j3 (h j j1 j2))
        have : t = j := by
          by_cases z : t < j
          · exact absurd h3 (j4 t h1 z)
          · by_cases y : j < t
            · exact absurd j3 (h4 j j1 y)
            · omega
        rw [this]; exact P
      · intro y_place y_least y_most y_smallest y_greatest y_ways y_fault y_base y_otherKind y_otherLo y_otherHi y_low y_high y_bytes y_steps y_op y_first y_second y_offset y_given y_length y_there y_known y_lo y_hi y_at y_lookups y_safe y_met y_tag y_word y_packet y_keys y_values y_many i a2 post hi eo e1 e2 e3 e4 P
        refine yr_114 hi hs eo e1 e2 (rg := True) (om_rg (f := True) (by simp)) ys_om (yr_m (by simp) hi (by omega) (fun z => absurd z (by decide)) (fun z => absurd z (by decide)) (fun z => absurd z (by decide)) (fun _ => ?_))
        rw [e4]
        refine yr_mp51 hm M.1 en (fun k h1 h2 h3 => absurd (h3.trans t1) (ny k h1 h2)) (fun _ _ => ?_) (fun _ z => absurd n4 (by omega))
        rw [t1, t2, t3]; exact P
    · have C0 := Con_wipe C (fun c _ => rfl) C.2.2.2
      have n4' : n = 4 := by have := M.1; omega
      have fl := cn_full (kt := kt) (m := m) (by rw [M.2.1]; exact n4')
      refine ⟨π, vp_updL rg 0 1, ce, kt, kw, upd tg 0 1, vp_updL wd 0 1, ks, vs, mn, Con_reg C0 (by decide) (V_01 (x := 1) (by omega)) (fun z => absurd z (by decide)), ?_, ?_⟩
      · intro x_safe x_at x_exitLeast x_exitMost x_branches x_faultPlace x_provedLeast x_provedMost x_packetLength x_executed x_ops x_targets x_sources x_offsets x_immediates x_lengths x_kinds x_los x_his x_reached x_branchAt x_branchSafe x_branchKinds x_branchLos x_branchHis x_packet x_registers x_cells x_keyWords x_keyTaken i post hi eo e1 e2 e3 e4 P
        refine xr_69 hi hs eo e1 e2 (xs_sv (by simp)) (xr_map (by simp) hi ?_)
        rw [e4]
        exact xr_mc51 hm (fun t h1 h2 h3 h4 => absurd h4 (nx t h1 h2 h3)) (fun _ t h1 h2 h3 _ => absurd h3 (fl t h1 h2)) (fun _ _ => P)
      · intro y_place y_least y_most y_smallest y_greatest y_ways y_fault y_base y_otherKind y_otherLo y_otherHi y_low y_high y_bytes y_steps y_op y_first y_second y_offset y_given y_length y_there y_known y_lo y_hi y_at y_lookups y_safe y_met y_tag y_word y_packet y_keys y_values y_many i a2 post hi eo e1 e2 e3 e4 P
        refine yr_114 hi hs eo e1 e2 (rg := True) (om_rg (f := True) (by simp)) ys_om (yr_m (by simp) hi (by omega) (fun z => absurd z (by decide)) (fun z => absurd z (by decide)) (fun z => absurd z (by decide)) (fun _ => ?_))
        rw [e4]
        exact yr_mp51 hm M.1 en (fun k h1 h2 h3 => absurd (h3.trans t1) (ny k h1 h2)) (fun _ z => absurd z n4) (fun _ _ => P)
end
end
section
def SG_ (o : Int32) (d s : Nat) (off imm : Int32) (g : Nat) (K : Nat → Int32) (L H : Nat → Int64) (S : Int64) : Prop := ∀ (π : Nat → Nat) (rg ce : Nat → Int64) (kt : Nat → Int32) (kw : Nat → Int64) (tg : Nat → Int32) (wd ks vs : Nat → Int64) (mn : Nat → Int32) (b : Nat) (pX pY : Nat → Int32), Con_ K L H S π rg ce kt kw tg wd ks vs mn b → b ≤ 24 → XS_ o d s off imm b pX rg ce kw kt 1 rg ce kw kt ∧ YS_ o d s off imm b pY tg wd ks vs mn (1 + g) tg wd ks vs mn
def SB_ (o : Int32) (d s : Nat) (off imm : Int32) (g : Nat) (K : Nat → Int32) (L H : Nat → Int64) (S : Int64) (KG : Nat → Int32) (LG HG : Nat → Int64) (SG : Int64) (KN : Nat → Int32) (LN HN : Nat → Int64) (SN : Int64) : Prop := ∀ (π : Nat → Nat) (rg ce : Nat → Int64) (kt : Nat → Int32) (kw : Nat → Int64) (tg : Nat → Int32) (wd ks vs : Nat → Int64) (mn : Nat → Int32) (b : Nat) (pX pY : Nat → Int32), Con_ K L H S π rg ce kt kw tg wd ks vs mn b → b ≤ 24 → (Con_ KG LG HG SG π rg ce kt kw tg wd ks vs mn b ∧ XS_ o d s off imm b pX rg ce kw kt 1 rg ce kw kt ∧ YS_ o d s off imm b pY tg wd ks vs mn (1 + g) tg wd ks vs mn) ∨ (Con_ KN LN HN SN π rg ce kt kw tg wd ks vs mn b ∧ XS_ o d s off imm b pX rg ce kw kt 0 rg ce kw kt ∧ YS_ o d s off imm b pY tg wd ks vs mn 1 tg wd ks vs mn)
theorem hx_op {f : Nat} {x y : Int64} (h1 : 1 ≤ f) (h4 : f ≤ 4) (n : ¬ hx_ f x y) : hx_ (op_ f) x y := by
  have e : f = 1 ∨ f = 2 ∨ f = 3 ∨ f = 4 := by omega
  rcases e with rfl | rfl | rfl | rfl
  · exact n
  · exact Classical.byContradiction n
  · have := Classical.byContradiction n
    exact Int64.not_lt.mpr this
  · have := Classical.byContradiction n
    exact Int64.not_le.mpr this
def hN_ (f n m : Nat) : Prop := if f = 1 then n = m else if f = 2 then ¬ n = m else if f = 3 then n < m else m ≤ n
theorem hx_N {f n m : Nat} (hn : n < 2 ^ 32) (hm : m < 2 ^ 32) : hx_ f (lN n) (lN m) ↔ hN_ f n m := by
  unfold hx_ hN_
  split
  · exact pk_lEQ (by omega) (by omega)
  · split
    · rw [pk_lEQ (by omega) (by omega)]
    · split
      · rw [pk_lLE (by omega) (by omega)]; omega
      · rw [pk_lLT (by omega) (by omega)]; omega
theorem cu_in {f a b c n : Nat} (h1 : 1 ≤ f) (h4 : f ≤ 4) (an : a ≤ n) (nb : n ≤ b) (hb : b < 2 ^ 32) (hc : c < 2 ^ 32) (h : hN_ f n c) : inb_ (cu_l f (lN c) (lN a) (lN b)) (cu_h f (lN c) (lN a) (lN b)) (lN n) := by
  have ef : f = 1 ∨ f = 2 ∨ f = 3 ∨ f = 4 := by omega
  rcases ef with rfl | rfl | rfl | rfl
  · simp [hN_] at h
    subst h
    exact ⟨n, n, n, Nat.le_refl _, Nat.le_refl _, hc, by simp [cu_l], rfl, by simp [cu_h]⟩
  · simp [hN_] at h
    refine ⟨if a = c then c + 1 else a, n, if b = c then c - 1 else b, ?_, ?_, ?_, ?_, rfl, ?_⟩
    · split <;> omega
    · split <;> omega
    · split <;> omega
    · simp only [cu_l, pk_lEQ (show a < 2 ^ 63 by omega) (show c < 2 ^ 63 by omega)]
      by_cases z : a = c
      · simp [z, lN_1]
      · simp [z]
    · simp only [cu_h, pk_lEQ (show b < 2 ^ 63 by omega) (show c < 2 ^ 63 by omega)]
      by_cases z : b = c
      · have : lN c - 1 = lN (c - 1) := lN_sub (b := 1) (by omega)
        simp [z, this]
      · simp [z]
  · simp [hN_] at h
    have : lN c - 1 = lN (c - 1) := lN_sub (b := 1) (by omega)
    exact ⟨a, n, c - 1, an, by omega, by omega, by simp [cu_l], rfl, by simp [cu_h, this]⟩
  · simp [hN_] at h
    exact ⟨c, n, b, by omega, nb, hb, by simp [cu_l], rfl, by simp [cu_h]⟩
/-- what is shut in the abstract does not happen -/
theorem mN_h {f a b c e n m : Nat} (h1 : 1 ≤ f) (h4 : f ≤ 4) (an : a ≤ n) (nb : n ≤ b) (cm : c ≤ m) (me : m ≤ e) (z : ¬ mN_ f a b c e) : ¬ hN_ f n m := by
  have ef : f = 1 ∨ f = 2 ∨ f = 3 ∨ f = 4 := by omega
  rcases ef with rfl | rfl | rfl | rfl <;> simp [mN_, hN_] at z ⊢ <;> omega
theorem hN_op {f n m : Nat} (h1 : 1 ≤ f) (h4 : f ≤ 4) : hN_ (op_ f) n m ↔ ¬ hN_ f n m := by
  have ef : f = 1 ∨ f = 2 ∨ f = 3 ∨ f = 4 := by omega
  rcases ef with rfl | rfl | rfl | rfl <;> simp [hN_, op_] <;> omega
section
variable {o off imm : Int32} {d s f g : Nat} {K : Nat → Int32} {L H : Nat → Int64} {S : Int64}
theorem oj_rg (ho : oj_ o f) : rg_ o ↔ (¬ o < 10 ∧ o < 20) ∨ ¬ o ≤ 30 := by
  obtain ⟨h1, h4, h⟩ := ho
  have e : f = 1 ∨ f = 2 ∨ f = 3 ∨ f = 4 := by omega
  unfold rg_
  rcases e with rfl | rfl | rfl | rfl <;> rcases h with rfl | rfl <;> decide
theorem sj_xs {b : Nat} {pX : Nat → Int32} {rg ce kw : Nat → Int64} {kt : Nat → Int32} {r : Int32} (ho : oj_ o f) (hd : d < 8) (hs : s < 9) (A : hx_ f (rg d) (so_ o imm rg s) → r = 1) (B : ¬ hx_ f (rg d) (so_ o imm rg s) → r = 0) : XS_ o d s off imm b pX rg ce kw kt r rg ce kw kt := by
  intro x_safe x_at x_exitLeast x_exitMost x_branches x_faultPlace x_provedLeast x_provedMost x_packetLength x_executed x_ops x_targets x_sources x_offsets x_immediates x_lengths x_kinds x_los x_his x_reached x_branchAt x_branchSafe x_branchKinds x_branchLos x_branchHis x_packet x_registers x_cells x_keyWords x_keyTaken i post hi eo e1 e2 e3 e4 P
  refine xr_69 hi hs eo e1 e2 (sv := so_ o imm rg s) ?_ (xr_jump ho (by omega) (fun z => by rw [A z] at P; exact P) (fun z => by rw [B z] at P; exact P))
  obtain ⟨-, -, -, -, q | q⟩ := oj_f ho
  · rw [if_pos (Or.inr q.2.2)]; unfold so_; rw [if_pos q.1]
  · rw [if_neg (by rw [q.2.2]; decide), e4]; unfold so_; rw [if_neg q.1]
theorem sj_ys {b : Nat} {pY tg mn : Nat → Int32} {wd ks vs : Nat → Int64} {δ : Nat} (ho : oj_ o f) (eg' : off = nI g) (hd : d < 8) (hs : s < 9) (A : hx_ f (wd d) (ws_ o imm wd s) → δ = 1 + g) (B : ¬ hx_ f (wd d) (ws_ o imm wd s) → δ = 1) : YS_ o d s off imm b pY tg wd ks vs mn δ tg wd ks vs mn := by
  intro y_place y_least y_most y_smallest y_greatest y_ways y_fault y_base y_otherKind y_otherLo y_otherHi y_low y_high y_bytes y_steps y_op y_first y_second y_offset y_given y_length y_there y_known y_lo y_hi y_at y_lookups y_safe y_met y_tag y_word y_packet y_keys y_values y_many i a post hi eo e1 e2 e3 e4 P
  refine yr_114 hi hs eo e1 e2 (oj_rg ho) (ys_op (oj_rg ho) e4) (yr_jump (g := g) hi ho (by omega) (e3.trans eg') (fun z => ?_) (fun z => ?_))
  · rw [A z, ← Nat.add_assoc] at P; exact P
  · rw [B z] at P; exact P
theorem sj_A (hg : g < 2 ^ 31) (eg' : off = nI g) (hd : d < 8) (hs : s < 9) : SG_ 20 d s off imm g K L H S := by
  intro π rg ce kt kw tg wd ks vs mn b pX pY C hb
  constructor
  · intro x_safe x_at x_exitLeast x_exitMost x_branches x_faultPlace x_provedLeast x_provedMost x_packetLength x_executed x_ops x_targets x_sources x_offsets x_immediates x_lengths x_kinds x_los x_his x_reached x_branchAt x_branchSafe x_branchKinds x_branchLos x_branchHis x_packet x_registers x_cells x_keyWords x_keyTaken i post hi eo e1 e2 e3 e4 P
    exact xr_69 hi hs eo e1 e2 (sv := (x_immediates i).toInt64 &&& 4294967295) (by rw [if_neg (by decide)]) (xr_ja P)
  · intro y_place y_least y_most y_smallest y_greatest y_ways y_fault y_base y_otherKind y_otherLo y_otherHi y_low y_high y_bytes y_steps y_op y_first y_second y_offset y_given y_length y_there y_known y_lo y_hi y_at y_lookups y_safe y_met y_tag y_word y_packet y_keys y_values y_many i a post hi eo e1 e2 e3 e4 P
    refine yr_114 (t := 1) (v := (y_given i).toInt64 &&& 4294967295) (rg := False) hi hs eo e1 e2 (by decide) (Or.inl ⟨fun z => z, rfl, rfl⟩) (yr_ja hi (e3.trans eg') ?_)
    rw [Nat.add_assoc]; exact P
/-- two SCALARs as numbers -/
theorem sj_S {π : Nat → Nat} {rg ce : Nat → Int64} {kt : Nat → Int32} {kw : Nat → Int64} {tg : Nat → Int32} {wd ks vs : Nat → Int64} {mn : Nat → Int32} {b : Nat} (hd : d < 8) (hs : s < 9) (W : WF_ K L H S) (n9 : nine_ o (imm.toInt64 &&& 4294967295) K L H) (k1 : K d = 1) (k2 : K (q9_ o s) = 1) (C : Con_ K L H S π rg ce kt kw tg wd ks vs mn b) : ∃ a n c p m e : Nat, a ≤ n ∧ n ≤ c ∧ c < 2 ^ 32 ∧ p ≤ m ∧ m ≤ e ∧ e < 2 ^ 32 ∧ L d = lN a ∧ H d = lN c ∧ L (q9_ o s) = lN p ∧ H (q9_ o s) = lN e ∧ rg d = lN n ∧ wd d = lN n ∧ tg d = 1 ∧ so_ o imm rg s = lN m ∧ ws_ o imm wd s = lN m := by
  have v := Con_q W n9 C hs
  have vd := Con_s W C (s := d) (by omega)
  rw [if_neg (by omega), if_neg (by omega)] at vd
  obtain ⟨t1, t2, a, n, c, an, nc, hc, ea, en, ec⟩ := vd.1 k1
  obtain ⟨s1, s2, p, m, e, pm, me, he, ep, em, ee⟩ := v.1 k2
  exact ⟨a, n, c, p, m, e, an, nc, hc, pm, me, he, ea, ec, ep, ee, en, t2.trans en, t1, em, s2.trans em⟩
theorem sj_SG (ho : oj_ o f) (eg' : off = nI g) (hd : d < 8) (hs : s < 9) (W : WF_ K L H S) (n9 : nine_ o (imm.toInt64 &&& 4294967295) K L H) (k1 : K d = 1) (k2 : K (q9_ o s) = 1) (m : ¬ my_ (op_ f) d (q9_ o s) K L H) : SG_ o d s off imm g K L H S := by
  intro π rg ce kt kw tg wd ks vs mn b pX pY C hb
  obtain ⟨a, n, c, p, q, e, an, nc, hc, pq, qe, he, ea, ec, ep, ee, en, ew, et, es, ey⟩ := sj_S hd hs W n9 k1 k2 C
  obtain ⟨o1, o4⟩ := op_r ho.1 ho.2.1
  have m' : ¬ mN_ (op_ f) a c p e := by
    intro z; apply m; intro _
    rw [ea, ec, ep, ee]; exact (mh_N (by omega) hc (by omega) he).mpr z
  have h : hN_ f n q := by
    have := mN_h o1 o4 an nc pq qe m'
    rw [hN_op ho.1 ho.2.1] at this
    exact Classical.byContradiction this
  have hx := (hx_N (f := f) (show n < 2 ^ 32 by omega) (show q < 2 ^ 32 by omega)).mpr h
  exact ⟨sj_xs ho hd hs (fun _ => rfl) (fun z => absurd (by rw [en, es]; exact hx) z), sj_ys ho eg' hd hs (fun _ => rfl) (fun z => absurd (by rw [ew, ey]; exact hx) z)⟩
theorem sj_SN (ho : oj_ o f) (eg' : off = nI g) (hd : d < 8) (hs : s < 9) (W : WF_ K L H S) (n9 : nine_ o (imm.toInt64 &&& 4294967295) K L H) (k1 : K d = 1) (k2 : K (q9_ o s) = 1) (m : ¬ my_ f d (q9_ o s) K L H) : SP_ o d s off imm K L H S K L H := by
  intro π rg ce kt kw tg wd ks vs mn b pX pY C hb hp
  obtain ⟨a, n, c, p, q, e, an, nc, hc, pq, qe, he, ea, ec, ep, ee, en, ew, et, es, ey⟩ := sj_S hd hs W n9 k1 k2 C
  have m' : ¬ mN_ f a c p e := by
    intro z; apply m; intro _
    rw [ea, ec, ep, ee]; exact (mh_N (by omega) hc (by omega) he).mpr z
  have h := mN_h ho.1 ho.2.1 an nc pq qe m'
  have hx : ¬ hx_ f (lN n) (lN q) := fun z => h ((hx_N (by omega) (by omega)).mp z)
  exact ⟨π, rg, ce, kt, kw, tg, wd, ks, vs, mn, C, sj_xs ho hd hs (fun z => absurd (by rw [en, es] at z; exact z) hx) (fun _ => rfl), sj_ys ho eg' hd hs (fun z => absurd (by rw [ew, ey] at z; exact z) hx) (fun _ => rfl)⟩
theorem sj_SB (ho : oj_ o f) (eg' : off = nI g) (hd : d < 8) (hs : s < 9) (W : WF_ K L H S) (n9 : nine_ o (imm.toInt64 &&& 4294967295) K L H) (k1 : K d = 1) (k2 : K (q9_ o s) = 1) {q : Nat} (eq : q = q9_ o s) : SB_ o d s off imm g K L H S (ln_K f d K) (ln_L f d q K L H) (ln_H f d q K L H) (ln_S f d q K L S) (ln_K (op_ f) d K) (ln_L (op_ f) d q K L H) (ln_H (op_ f) d q K L H) (ln_S (op_ f) d q K L S) := by
  subst eq
  intro π rg ce kt kw tg wd ks vs mn b pX pY C hb
  obtain ⟨a, n, c, p, m, e, an, nc, hc, pm, me, he, ea, ec, ep, ee, en, ew, et, es, ey⟩ := sj_S hd hs W n9 k1 k2 C
  obtain ⟨o1, o4⟩ := op_r ho.1 ho.2.1
  have lK : ∀ f', ln_K f' d K = K := by intro f'; unfold ln_K; rw [if_neg (by rw [k1]; decide)]
  have lS : ∀ f', ln_S f' d (q9_ o s) K L S = S := by intro f'; unfold ln_S; rw [k1, if_neg (by simp), if_neg (by simp)]
  have G : ∀ f', 1 ≤ f' → f' ≤ 4 → hN_ f' n m → Con_ (ln_K f' d K) (ln_L f' d (q9_ o s) K L H) (ln_H f' d (q9_ o s) K L H) (ln_S f' d (q9_ o s) K L S) π rg ce kt kw tg wd ks vs mn b := by
    intro f' h1 h4 h
    rw [lK, lS]
    unfold ln_L ln_H
    by_cases z : L (q9_ o s) = H (q9_ o s)
    · rw [if_pos ⟨k1, z⟩, if_pos ⟨k1, z⟩]
      rw [ep, ee] at z
      have z' := (pk_lEQ (by omega) (by omega)).mp z
      have mp : m = p := by omega
      subst mp
      have I := cu_in h1 h4 an nc hc (show m < 2 ^ 32 by omega) h
      rw [← ea, ← ec, ← ep] at I
      have R := Con_reg (d := d) C hd (V_1 (w := wd d) (x := rg d) (ew.trans en.symm) (by rw [en]; exact I)) (fun z => absurd z (by decide))
      rw [xb_updid k1, xb_updid et, xb_updLid (f := rg) rfl, xb_updLid (f := wd) rfl] at R
      exact R
    · rw [if_neg (fun q => z q.2), if_neg (fun q => z q.2)]; exact C
  have hxN := hx_N (f := f) (show n < 2 ^ 32 by omega) (show m < 2 ^ 32 by omega)
  by_cases h : hN_ f n m
  · have hx := hxN.mpr h
    exact Or.inl ⟨G f ho.1 ho.2.1 h, sj_xs ho hd hs (fun _ => rfl) (fun z => absurd (by rw [en, es]; exact hx) z), sj_ys ho eg' hd hs (fun _ => rfl) (fun z => absurd (by rw [ew, ey]; exact hx) z)⟩
  · have hx : ¬ hx_ f (lN n) (lN m) := fun z => h (hxN.mp z)
    exact Or.inr ⟨G (op_ f) o1 o4 ((hN_op ho.1 ho.2.1).mpr h), sj_xs ho hd hs (fun z => absurd (by rw [en, es] at z; exact z) hx) (fun _ => rfl), sj_ys ho eg' hd hs (fun z => absurd (by rw [ew, ey] at z; exact z) hx) (fun _ => rfl)⟩
theorem sj_MB (ho : oj_ o f) (eg' : off = nI g) (hd : d < 8) (hs : s < 9) (W : WF_ K L H S) (n9 : nine_ o (imm.toInt64 &&& 4294967295) K L H) (k1 : K d = 6) (f2 : f ≤ 2) (k2 : K (q9_ o s) = 1) (h0 : H (q9_ o s) = 0) {q : Nat} (eq : q = q9_ o s) : SB_ o d s off imm g K L H S (ln_K f d K) (ln_L f d q K L H) (ln_H f d q K L H) (ln_S f d q K L S) (ln_K (op_ f) d K) (ln_L (op_ f) d q K L H) (ln_H (op_ f) d q K L H) (ln_S (op_ f) d q K L S) := by
  subst eq
  intro π rg ce kt kw tg wd ks vs mn b pX pY C hb
  have v := Con_q W n9 C hs
  have vd := Con_s W C (s := d) (by omega)
  rw [if_neg (by omega), if_neg (by omega)] at vd
  obtain ⟨s1, s2, p, m, e, pm, me, he, ep, em, ee⟩ := v.1 k2
  have e0 : e = 0 := (pk_lEQ (b := 0) (by omega) (by omega)).mp (ee.symm.trans h0)
  have m0 : m = 0 := by omega
  subst m0
  have es : so_ o imm rg s = 0 := em
  have ey : ws_ o imm wd s = 0 := s2.trans em
  have lK : ∀ f', ln_K f' d K = se_K K (if f' = 1 then 1 else 5) 16 := by intro f'; unfold ln_K; rw [if_pos k1]
  have lL : ∀ f', ln_L f' d (q9_ o s) K L H = L := by intro f'; unfold ln_L; rw [if_neg (by rw [k1]; simp)]
  have lH : ∀ f', ln_H f' d (q9_ o s) K L H = H := by intro f'; unfold ln_H; rw [if_neg (by rw [k1]; simp)]
  have lS : ∀ f', ln_S f' d (q9_ o s) K L S = S := by intro f'; unfold ln_S; rw [k1, if_neg (by simp), if_neg (by simp)]
  have exd : cx_ rg ce d = rg d := by unfold cx_; rw [if_pos hd]
  -- all that may be a VALUE is what slot d is
  have al : ∀ r, r < 14 → K (g_ r) = 6 → cx_ rg ce r = rg d ∧ tg r = tg d ∧ wd r = wd d := by
    intro r hr kr
    rw [← exd]
    exact C.2.2.1.2 r d hr (by omega) kr (by rw [g_lo hd]; exact k1)
  have G : ∀ v' : Int32, (v' = 1 ∨ v' = 5) → (∀ r, r < 14 → K (g_ r) = 6 → V_ v' 0 0 (rg d) (tg d) (wd d) b π kt) → Con_ (se_K K v' 16) L H S π rg ce kt kw tg wd ks vs mn b := by
    intro v' hv hV
    refine ⟨fun r hr => ?_, C.2.1, ⟨C.2.2.1.1, fun r t hr ht kr kt => ?_⟩, C.2.2.2⟩
    · by_cases z : K (g_ r) = 6
      · have e1 : se_K K v' 16 (g_ r) = v' := by unfold se_K; rw [if_pos ⟨g_16 hr, z⟩]
        obtain ⟨l0, h0'⟩ := (W.1 _ (g_16 hr)).2.2.2 z
        obtain ⟨a1, a2, a3⟩ := al r hr z
        rw [e1, l0, h0', a1, a2, a3]
        exact hV r hr z
      · have e1 : se_K K v' 16 (g_ r) = K (g_ r) := by unfold se_K; rw [if_neg (fun w => z w.2)]
        rw [e1]; exact C.1 r hr
    · exfalso
      by_cases z : K (g_ r) = 6
      · have e1 : se_K K v' 16 (g_ r) = v' := by unfold se_K; rw [if_pos ⟨g_16 hr, z⟩]
        rw [e1] at kr
        rcases hv with hv | hv <;> rw [hv] at kr <;> exact absurd kr (by decide)
      · have e1 : se_K K v' 16 (g_ r) = K (g_ r) := by unfold se_K; rw [if_neg (fun w => z w.2)]
        rw [e1] at kr; exact z kr
  have ef : f = 1 ∨ f = 2 := by have := ho.1; omega
  rw [lK, lK, lL, lL, lH, lH, lS, lS]
  rcases vd.2.2.2.2.2 k1 with ⟨t1, t2, t3⟩ | ⟨t1, j, hj, tj, t2, t3⟩
  · have C1 := G 1 (Or.inl rfl) (fun r hr z => by rw [t1, t2, t3]; exact V_1 rfl ⟨0, 0, 0, by omega, by omega, by omega, rfl, rfl, rfl⟩)
    rcases ef with rfl | rfl
    · have hx : hx_ 1 (0 : Int64) 0 := rfl
      exact Or.inl ⟨C1, sj_xs ho hd hs (fun _ => rfl) (fun z => absurd (by rw [t3, es]; exact hx) z), sj_ys ho eg' hd hs (fun _ => rfl) (fun z => absurd (by rw [t2, ey]; exact hx) z)⟩
    · have hx : ¬ hx_ 2 (0 : Int64) 0 := fun z => z rfl
      exact Or.inr ⟨C1, sj_xs ho hd hs (fun z => absurd (by rw [t3, es] at z; exact z) hx) (fun _ => rfl), sj_ys ho eg' hd hs (fun z => absurd (by rw [t2, ey] at z; exact z) hx) (fun _ => rfl)⟩
  · have p8 := (sm_val C.2.2.2 hj tj).1
    have C5 := G 5 (Or.inr rfl) (fun r hr z => by
      rw [t1, t2, t3]
      refine V_5 ⟨j, hj, tj, ?_, ?_⟩
      · rw [pu_0, lN_add, Nat.add_zero]
      · rw [pu_0, lN_add, Nat.add_zero, su_andw (by omega)])
    have nx : ¬ lN (6 + 2 * j) = 0 := by rw [pu_0, pk_lEQ (by omega) (by omega)]; omega
    have ny : ¬ lN (100 * (8 + π j)) = 0 := by rw [pu_0, pk_lEQ (by omega) (by omega)]; omega
    rcases ef with rfl | rfl
    · exact Or.inr ⟨C5, sj_xs ho hd hs (fun z => absurd (by rw [t3, es] at z; exact z) nx) (fun _ => rfl), sj_ys ho eg' hd hs (fun z => absurd (by rw [t2, ey] at z; exact z) ny) (fun _ => rfl)⟩
    · exact Or.inl ⟨C5, sj_xs ho hd hs (fun _ => rfl) (fun z => absurd (by rw [t3, es]; exact nx) z), sj_ys ho eg' hd hs (fun _ => rfl) (fun z => absurd (by rw [t2, ey]; exact ny) z)⟩
/-- more bytes known to be safe -/
theorem Con_S {π : Nat → Nat} {rg ce : Nat → Int64} {kt : Nat → Int32} {kw : Nat → Int64} {tg : Nat → Int32} {wd ks vs : Nat → Int64} {mn : Nat → Int32} {b sn n : Nat} (C : Con_ K L H S π rg ce kt kw tg wd ks vs mn b) (hb : b ≤ 24) (hs : sn ≤ 256) (eS : S = lN sn) (hn : n ≤ b) : Con_ K L H (ra_S S (lN n)) π rg ce kt kw tg wd ks vs mn b := by
  obtain ⟨s2, h2, e2⟩ := C.2.2.1.1
  refine ⟨C.1, C.2.1, ⟨⟨if n ≤ sn then sn else n, ?_, ?_⟩, C.2.2.1.2⟩, C.2.2.2⟩
  · have : sn = s2 := (pk_lEQ (by omega) (by omega)).mp (eS.symm.trans e2)
    split <;> omega
  · rw [eS, ra_N (by omega) (by omega)]
theorem sj_PB (ho : oj_ o f) (eg' : off = nI g) (hd : d < 8) (hs : s < 9) (W : WF_ K L H S) (n9 : nine_ o (imm.toInt64 &&& 4294967295) K L H) (k1 : K d = 2) (f3 : 3 ≤ f) (k2 : K (q9_ o s) = 3) {q : Nat} (eq : q = q9_ o s) : SB_ o d s off imm g K L H S (ln_K f d K) (ln_L f d q K L H) (ln_H f d q K L H) (ln_S f d q K L S) (ln_K (op_ f) d K) (ln_L (op_ f) d q K L H) (ln_H (op_ f) d q K L H) (ln_S (op_ f) d q K L S) := by
  subst eq
  intro π rg ce kt kw tg wd ks vs mn b pX pY C hb
  have v := Con_q W n9 C hs
  have vd := Con_s W C (s := d) (by omega)
  rw [if_neg (by omega), if_neg (by omega)] at vd
  obtain ⟨t1, t2, a, n, c, an, nc, hc, ea, en, ec⟩ := vd.2.1 k1
  obtain ⟨s1, s2, s3⟩ := v.2.2.1 k2
  have es : so_ o imm rg s = lN b := s3
  have ey : ws_ o imm wd s = lN b := s2
  have ew := t2.trans en
  obtain ⟨sn, hsn, eSn⟩ := W.2.2.2.2
  have lK : ∀ f', ln_K f' d K = K := by intro f'; unfold ln_K; rw [if_neg (by rw [k1]; decide)]
  have lL : ∀ f', ln_L f' d (q9_ o s) K L H = L := by intro f'; unfold ln_L; rw [if_neg (by rw [k1]; simp)]
  have lH : ∀ f', ln_H f' d (q9_ o s) K L H = H := by intro f'; unfold ln_H; rw [if_neg (by rw [k1]; simp)]
  have lS3 : ln_S 3 d (q9_ o s) K L S = ra_S S (lN (a + 1)) := by unfold ln_S; rw [if_pos ⟨k1, rfl⟩, ea, lN_1]
  have lS4 : ln_S 4 d (q9_ o s) K L S = S := by unfold ln_S; rw [k1, if_neg (by simp), if_neg (by simp)]
  rw [lK, lK, lL, lL, lH, lH]
  have hxN : ∀ f', hx_ f' (lN n) (lN b) ↔ hN_ f' n b := fun f' => hx_N (by omega) (by omega)
  have ef : f = 3 ∨ f = 4 := by have := ho.2.1; omega
  rcases ef with rfl | rfl
  · show (Con_ K L H (ln_S 3 d (q9_ o s) K L S) _ _ _ _ _ _ _ _ _ _ _ ∧ _) ∨ (Con_ K L H (ln_S 4 d (q9_ o s) K L S) _ _ _ _ _ _ _ _ _ _ _ ∧ _)
    rw [lS3, lS4]
    by_cases h : n < b
    · have hx := (hxN 3).mpr h
      exact Or.inl ⟨Con_S C hb hsn eSn (by omega), sj_xs ho hd hs (fun _ => rfl) (fun z => absurd (by rw [en, es]; exact hx) z), sj_ys ho eg' hd hs (fun _ => rfl) (fun z => absurd (by rw [ew, ey]; exact hx) z)⟩
    · have hx : ¬ hx_ 3 (lN n) (lN b) := fun z => h ((hxN 3).mp z)
      exact Or.inr ⟨C, sj_xs ho hd hs (fun z => absurd (by rw [en, es] at z; exact z) hx) (fun _ => rfl), sj_ys ho eg' hd hs (fun z => absurd (by rw [ew, ey] at z; exact z) hx) (fun _ => rfl)⟩
  · show (Con_ K L H (ln_S 4 d (q9_ o s) K L S) _ _ _ _ _ _ _ _ _ _ _ ∧ _) ∨ (Con_ K L H (ln_S 3 d (q9_ o s) K L S) _ _ _ _ _ _ _ _ _ _ _ ∧ _)
    rw [lS3, lS4]
    by_cases h : n < b
    · have hx : ¬ hx_ 4 (lN n) (lN b) := fun z => absurd ((hxN 4).mp z) (by simp [hN_]; omega)
      exact Or.inr ⟨Con_S C hb hsn eSn (by omega), sj_xs ho hd hs (fun z => absurd (by rw [en, es] at z; exact z) hx) (fun _ => rfl), sj_ys ho eg' hd hs (fun z => absurd (by rw [ew, ey] at z; exact z) hx) (fun _ => rfl)⟩
    · have hx := (hxN 4).mpr (by simp [hN_]; omega)
      exact Or.inl ⟨C, sj_xs ho hd hs (fun _ => rfl) (fun z => absurd (by rw [en, es]; exact hx) z), sj_ys ho eg' hd hs (fun _ => rfl) (fun z => absurd (by rw [ew, ey]; exact hx) z)⟩
theorem sj_EB (ho : oj_ o f) (eg' : off = nI g) (hd : d < 8) (hs : s < 9) (W : WF_ K L H S) (n9 : nine_ o (imm.toInt64 &&& 4294967295) K L H) (k1 : K d = 3) (f3 : 3 ≤ f) (k2 : K (q9_ o s) = 2) {q : Nat} (eq : q = q9_ o s) : SB_ o d s off imm g K L H S (ln_K f d K) (ln_L f d q K L H) (ln_H f d q K L H) (ln_S f d q K L S) (ln_K (op_ f) d K) (ln_L (op_ f) d q K L H) (ln_H (op_ f) d q K L H) (ln_S (op_ f) d q K L S) := by
  subst eq
  intro π rg ce kt kw tg wd ks vs mn b pX pY C hb
  have v := Con_q W n9 C hs
  have vd := Con_s W C (s := d) (by omega)
  rw [if_neg (by omega), if_neg (by omega)] at vd
  obtain ⟨t1, ew, en⟩ := vd.2.2.1 k1
  obtain ⟨s1, s2, a, n, c, an, nc, hc, ea, em, ec⟩ := v.2.1 k2
  have es : so_ o imm rg s = lN n := em
  have ey : ws_ o imm wd s = lN n := s2.trans em
  obtain ⟨sn, hsn, eSn⟩ := W.2.2.2.2
  have lK : ∀ f', ln_K f' d K = K := by intro f'; unfold ln_K; rw [if_neg (by rw [k1]; decide)]
  have lL : ∀ f', ln_L f' d (q9_ o s) K L H = L := by intro f'; unfold ln_L; rw [if_neg (by rw [k1]; simp)]
  have lH : ∀ f', ln_H f' d (q9_ o s) K L H = H := by intro f'; unfold ln_H; rw [if_neg (by rw [k1]; simp)]
  have lS4 : ln_S 4 d (q9_ o s) K L S = ra_S S (lN a) := by unfold ln_S; rw [if_neg (by rw [k1]; simp), if_pos ⟨k1, rfl⟩, ea]
  have lS3 : ln_S 3 d (q9_ o s) K L S = S := by unfold ln_S; rw [k1, if_neg (by simp), if_neg (by simp)]
  rw [lK, lK, lL, lL, lH, lH]
  have hxN : ∀ f', hx_ f' (lN b) (lN n) ↔ hN_ f' b n := fun f' => hx_N (by omega) (by omega)
  have ef : f = 3 ∨ f = 4 := by have := ho.2.1; omega
  rcases ef with rfl | rfl
  · show (Con_ K L H (ln_S 3 d (q9_ o s) K L S) _ _ _ _ _ _ _ _ _ _ _ ∧ _) ∨ (Con_ K L H (ln_S 4 d (q9_ o s) K L S) _ _ _ _ _ _ _ _ _ _ _ ∧ _)
    rw [lS3, lS4]
    by_cases h : b < n
    · have hx := (hxN 3).mpr h
      exact Or.inl ⟨C, sj_xs ho hd hs (fun _ => rfl) (fun z => absurd (by rw [en, es]; exact hx) z), sj_ys ho eg' hd hs (fun _ => rfl) (fun z => absurd (by rw [ew, ey]; exact hx) z)⟩
    · have hx : ¬ hx_ 3 (lN b) (lN n) := fun z => h ((hxN 3).mp z)
      exact Or.inr ⟨Con_S C hb hsn eSn (by omega), sj_xs ho hd hs (fun z => absurd (by rw [en, es] at z; exact z) hx) (fun _ => rfl), sj_ys ho eg' hd hs (fun z => absurd (by rw [ew, ey] at z; exact z) hx) (fun _ => rfl)⟩
  · show (Con_ K L H (ln_S 4 d (q9_ o s) K L S) _ _ _ _ _ _ _ _ _ _ _ ∧ _) ∨ (Con_ K L H (ln_S 3 d (q9_ o s) K L S) _ _ _ _ _ _ _ _ _ _ _ ∧ _)
    rw [lS3, lS4]
    by_cases h : b < n
    · have hx : ¬ hx_ 4 (lN b) (lN n) := fun z => absurd ((hxN 4).mp z) (by simp [hN_]; omega)
      exact Or.inr ⟨C, sj_xs ho hd hs (fun z => absurd (by rw [en, es] at z; exact z) hx) (fun _ => rfl), sj_ys ho eg' hd hs (fun z => absurd (by rw [ew, ey] at z; exact z) hx) (fun _ => rfl)⟩
    · have hx := (hxN 4).mpr (by simp [hN_]; omega)
      exact Or.inl ⟨Con_S C hb hsn eSn (by omega), sj_xs ho hd hs (fun _ => rfl) (fun z => absurd (by rw [en, es]; exact hx) z), sj_ys ho eg' hd hs (fun _ => rfl) (fun z => absurd (by rw [ew, ey]; exact hx) z)⟩
end
end
section
section
variable {o off imm : Int32} {d s g : Nat} {K : Nat → Int32} {L H : Nat → Int64} {S : Int64} {w : Int64}
theorem YP_k9 {e : Int32} {K' : Nat → Int32} {L' H' : Nat → Int64} (y : YP_ o d s off imm (k9_ o K) (l9_ o w L) (l9_ o w H) S e K' L' H') : YP_ o d s off imm K L H S e K' L' H' := by
  intro y_place y_least y_most y_smallest y_greatest y_ways y_fault y_base y_otherKind y_otherLo y_otherHi y_low y_high y_bytes y_steps y_op y_first y_second y_offset y_given y_length y_there y_known y_lo y_hi y_at y_lookups y_safe y_met y_tag y_word y_packet y_keys y_values y_many i a w post hi ha hw eo e1 e2 eof eg eat F eS hl hE hO
  exact y y_place y_least y_most y_smallest y_greatest y_ways y_fault y_base y_otherKind y_otherLo y_otherHi y_low y_high y_bytes y_steps y_op y_first y_second y_offset y_given y_length y_there y_known y_lo y_hi y_at y_lookups y_safe y_met y_tag y_word y_packet y_keys y_values y_many i a w post hi ha hw eo e1 e2 eof eg eat (Fr_k9 F) eS hl hE hO
theorem YP_f {e : Int32} {K' K2 : Nat → Int32} {L' H' L2 H2 : Nat → Int64} (ne : ¬ e = 0) (y : YP_ o d s off imm K L H S e K' L' H') : YP_ o d s off imm K L H S e K2 L2 H2 := by
  intro y_place y_least y_most y_smallest y_greatest y_ways y_fault y_base y_otherKind y_otherLo y_otherHi y_low y_high y_bytes y_steps y_op y_first y_second y_offset y_given y_length y_there y_known y_lo y_hi y_at y_lookups y_safe y_met y_tag y_word y_packet y_keys y_values y_many i a w post hi ha hw eo e1 e2 eof eg eat F eS hl hE hO
  exact y y_place y_least y_most y_smallest y_greatest y_ways y_fault y_base y_otherKind y_otherLo y_otherHi y_low y_high y_bytes y_steps y_op y_first y_second y_offset y_given y_length y_there y_known y_lo y_hi y_at y_lookups y_safe y_met y_tag y_word y_packet y_keys y_values y_many i a w post hi ha hw eo e1 e2 eof eg eat F eS hl hE (fun z => absurd z ne)
theorem SP_k9 {K' : Nat → Int32} {L' H' : Nat → Int64} (y : SP_ o d s off imm (k9_ o K) (l9_ o w L) (l9_ o w H) S K' L' H') : SP_ o d s off imm K L H S K' L' H' := by
  intro π rg ce kt kw tg wd ks vs mn b pX pY C hb hp
  exact y π rg ce kt kw tg wd ks vs mn b pX pY (Con_k9 C) hb hp
end
section
variable {x_safe : Int64} {x_at : Int32} {x_exitLeast : Int64} {x_exitMost : Int64} {x_branches : Int32} {x_faultPlace : Int32} {x_provedLeast : Int64} {x_provedMost : Int64} {x_packetLength : Int32} {x_executed : Int32} {x_ops : Nat → Int32} {x_targets : Nat → Int32} {x_sources : Nat → Int32} {x_offsets : Nat → Int32} {x_immediates : Nat → Int32} {x_lengths : Nat → Int32} {x_kinds : Nat → Int32} {x_los : Nat → Int64} {x_his : Nat → Int64} {x_reached : Nat → Int32} {x_branchAt : Nat → Int32} {x_branchSafe : Nat → Int64} {x_branchKinds : Nat → Int32} {x_branchLos : Nat → Int64} {x_branchHis : Nat → Int64} {x_packet : Nat → Int32} {x_registers : Nat → Int64} {x_cells : Nat → Int64} {x_keyWords : Nat → Int64} {x_keyTaken : Nat → Int32}
theorem st_arith {f : Nat} {a b n d s : Nat} {o off imm : Int32} {Q : Prop} (ha : a < 40) (hn : n ≤ 40) (hl : x_lengths 2 = nI n) (hd : d < 8) (hs : s < 9) (eo : x_ops (80 + a) = o) (ed : x_targets (80 + a) = nI d) (es : x_sources (80 + a) = nI s) (ef : x_offsets (80 + a) = off) (em : x_immediates (80 + a) = imm) (W : WF_ x_kinds x_los x_his x_safe) (ho : oa_ o f) (F : ∀ (e : Int32) (K' : Nat → Int32) (L' H' : Nat → Int64), ¬ e = 0 → (∀ j, 16 ≤ j → K' j = 0 ∧ L' j = 0 ∧ H' j = 0) → (∀ post : Int32 → SX → Prop, post e (x_safe, nI a, x_exitLeast, x_exitMost, nI b, x_faultPlace, x_provedLeast, x_provedMost, x_packetLength, x_executed, x_ops, x_targets, x_sources, x_offsets, x_immediates, x_lengths, K', L', H', x_reached, x_branchAt, x_branchSafe, x_branchKinds, x_branchLos, x_branchHis, x_packet, x_registers, x_cells, x_keyWords, x_keyTaken) → wpX_check post (x_safe, nI a, x_exitLeast, x_exitMost, nI b, x_faultPlace, x_provedLeast, x_provedMost, x_packetLength, x_executed, x_ops, x_targets, x_sources, x_offsets, x_immediates, x_lengths, x_kinds, x_los, x_his, x_reached, x_branchAt, x_branchSafe, x_branchKinds, x_branchLos, x_branchHis, x_packet, x_registers, x_cells, x_keyWords, x_keyTaken) (nI (80 + a))) → YP_ o d s off imm x_kinds x_los x_his x_safe e x_kinds x_los x_his → Q) (P : ∀ (K' : Nat → Int32) (L' H' : Nat → Int64), (∀ post : Int32 → SX → Prop, post 0 (x_safe, nI a, x_exitLeast, x_exitMost, nI b, x_faultPlace, x_provedLeast, x_provedMost, x_packetLength, x_executed, x_ops, x_targets, x_sources, x_offsets, x_immediates, x_lengths, K', L', H', x_reached, x_branchAt, x_branchSafe, x_branchKinds, x_branchLos, x_branchHis, x_packet, x_registers, x_cells, x_keyWords, x_keyTaken) → wpX_check post (x_safe, nI a, x_exitLeast, x_exitMost, nI b, x_faultPlace, x_provedLeast, x_provedMost, x_packetLength, x_executed, x_ops, x_targets, x_sources, x_offsets, x_immediates, x_lengths, x_kinds, x_los, x_his, x_reached, x_branchAt, x_branchSafe, x_branchKinds, x_branchLos, x_branchHis, x_packet, x_registers, x_cells, x_keyWords, x_keyTaken) (nI (80 + a))) → YP_ o d s off imm x_kinds x_los x_his x_safe 0 K' L' H' → SP_ o d s off imm x_kinds x_los x_his x_safe K' L' H' → WF_ K' L' H' x_safe → Q) : Q := by
  have hi : 80 + a < 120 := by omega
  obtain ⟨-, -, -, -, f5, f6⟩ := oa_f ho
  have t : o / 10 = 0 ∨ o / 10 = 1 := by rcases f6 with q | q; exact Or.inr q.2.2; exact Or.inl q.2.2
  have no : ¬ ou_ (x_ops (80 + a)) (x_offsets (80 + a)) (x_immediates (80 + a)) := by
    rw [eo]; unfold ou_
    rcases t with t | t <;> rw [t] <;> simp
  have W9 := WF_k9 (o := o) (x := imm) W
  have n9 := nine_k9 (o := o) (w := imm.toInt64 &&& 4294967295) (K := x_kinds) (L := x_los) (H := x_his)
  have hq : q9_ o s < 16 := q9_16 hs
  have un : un_ o (k9_ o x_kinds) d (q9_ o s) ↔ ((¬ f = 0 ∧ k9_ o x_kinds d = 0) ∨ k9_ o x_kinds (q9_ o s) = 0) := by
    obtain ⟨h6, h⟩ := ho
    have e : f = 0 ∨ f = 1 ∨ f = 2 ∨ f = 3 ∨ f = 4 ∨ f = 5 ∨ f = 6 := by omega
    unfold un_
    rcases e with rfl | rfl | rfl | rfl | rfl | rfl | rfl <;> rcases h with rfl | rfl <;> simp [nI]
  -- all ways go through wX_check_76
  have into : ∀ (post : Int32 → SX → Prop), (un_ o (k9_ o x_kinds) d (q9_ o s) → post 2 (x_safe, nI a, x_exitLeast, x_exitMost, nI b, x_faultPlace, x_provedLeast, x_provedMost, x_packetLength, x_executed, x_ops, x_targets, x_sources, x_offsets, x_immediates, x_lengths, k9_ o x_kinds, l9_ o (imm.toInt64 &&& 4294967295) x_los, l9_ o (imm.toInt64 &&& 4294967295) x_his, x_reached, x_branchAt, x_branchSafe, x_branchKinds, x_branchLos, x_branchHis, x_packet, x_registers, x_cells, x_keyWords, x_keyTaken)) → (¬ un_ o (k9_ o x_kinds) d (q9_ o s) → wpX_checkArithmetic post (x_safe, nI a, x_exitLeast, x_exitMost, nI b, x_faultPlace, x_provedLeast, x_provedMost, x_packetLength, x_executed, x_ops, x_targets, x_sources, x_offsets, x_immediates, x_lengths, k9_ o x_kinds, l9_ o (imm.toInt64 &&& 4294967295) x_los, l9_ o (imm.toInt64 &&& 4294967295) x_his, x_reached, x_branchAt, x_branchSafe, x_branchKinds, x_branchLos, x_branchHis, x_packet, x_registers, x_cells, x_keyWords, x_keyTaken) (nI f) (nI d) (nI (q9_ o s))) → wpX_check post (x_safe, nI a, x_exitLeast, x_exitMost, nI b, x_faultPlace, x_provedLeast, x_provedMost, x_packetLength, x_executed, x_ops, x_targets, x_sources, x_offsets, x_immediates, x_lengths, x_kinds, x_los, x_his, x_reached, x_branchAt, x_branchSafe, x_branchKinds, x_branchLos, x_branchHis, x_packet, x_registers, x_cells, x_keyWords, x_keyTaken) (nI (80 + a)) := by
    intro post U C
    refine xk_go hi (by omega) (by omega) es ed no (by rw [eo, em]; exact U) ?_
    rw [eo, em]
    intro nu K L H eK eL eH
    subst eK eL eH
    have w76 : wX_check_76 post (nI (80 + a)) (nI (q9_ o s)) x_safe (nI a) x_exitLeast x_exitMost (nI b) x_faultPlace x_provedLeast x_provedMost x_packetLength x_executed x_ops x_targets x_sources x_offsets x_immediates x_lengths (k9_ o x_kinds) (l9_ o (imm.toInt64 &&& 4294967295) x_los) (l9_ o (imm.toInt64 &&& 4294967295) x_his) x_reached x_branchAt x_branchSafe x_branchKinds x_branchLos x_branchHis x_packet x_registers x_cells x_keyWords x_keyTaken := by
      have v : vp_in (nI (80 + a)) 120 := vp_in_nI hi (by decide)
      refine ⟨v, by decide, v, ?_⟩
      rw [nI_clamp (n := 80 + a) (by omega), eo, f5, ed]
      exact C nu
    rcases t with t | t
    · rw [t]; exact br_f (by decide) (br_f (by decide) (br_t rfl w76))
    · rw [t]; exact br_f (by decide) (br_f (by decide) (br_f (by decide) (br_t rfl w76)))
  by_cases u : un_ o (k9_ o x_kinds) d (q9_ o s)
  · exact F 2 _ _ _ (by decide) W9.2.2.2.1 (fun post z => into post (fun _ => z) (fun n => absurd u n)) (YP_k9 (yp_aU ho hd hs W9 n9 (un.mp u)))
  · have nu : ¬ ((¬ f = 0 ∧ k9_ o x_kinds d = 0) ∨ k9_ o x_kinds (q9_ o s) = 0) := fun z => u (un.mpr z)
    have nuq : ¬ k9_ o x_kinds (q9_ o s) = 0 := fun z => nu (Or.inr z)
    by_cases f0 : f = 0
    · subst f0
      exact P _ _ _ (fun post z => into post (fun n => absurd n u) (fun _ => (xv_arM (by omega) hq).mpr z)) (YP_k9 (yp_a0 ho hd hs W9 n9 nuq)) (SP_k9 (sp_a0 ho hd hs W9 n9 nuq)) (WF_upd W9 (by omega) (by omega) (W9.1 _ hq))
    · have h1 : 1 ≤ f := by omega
      have nud : ¬ k9_ o x_kinds d = 0 := fun z => nu (Or.inl ⟨f0, z⟩)
      by_cases kq : k9_ o x_kinds (q9_ o s) = 1
      · by_cases k1 : k9_ o x_kinds d = 1
        · refine P _ _ _ (fun post z => into post (fun n => absurd n u) (fun _ => xv_arS h1 ho.1 (by omega) hq kq k1 z)) (YP_k9 (yp_aS ho h1 hd hs W9 n9 kq k1 rfl rfl)) (SP_k9 (sp_aS ho h1 hd hs W9 n9 kq k1 rfl rfl)) ?_
          obtain ⟨p, q, pq, hq1, ep, eq⟩ := (W9.1 d (by omega)).2.1 k1
          obtain ⟨p2, q2, pq2, hq2, ep2, eq2⟩ := (W9.1 _ hq).2.1 kq
          have I := ab_iv (fun z => cb_le h1 ho.1 pq hq1 pq2 hq2 z)
          rw [← ep, ← eq, ← ep2, ← eq2] at I
          have G := WF_upd (j := d) W9 (by omega) (by omega) (wf_1 I)
          rw [xb_updid k1] at G
          exact G
        · by_cases k2 : k9_ o x_kinds d = 2
          · by_cases c : f = 1 ∧ l9_ o (imm.toInt64 &&& 4294967295) x_his d + l9_ o (imm.toInt64 &&& 4294967295) x_his (q9_ o s) ≤ 255
            · obtain ⟨rfl, c⟩ := c
              refine P _ _ _ (fun post z => into post (fun n => absurd n u) (fun _ => xv_arP (by omega) hq kq k2 c z)) (YP_k9 (yp_aP ho hd hs W9 n9 kq k2 c)) (SP_k9 (sp_aP ho hd hs W9 n9 kq k2 c)) ?_
              obtain ⟨p, q, pq, hq1, ep, eq⟩ := (W9.1 d (by omega)).2.2.1 k2
              obtain ⟨p2, q2, pq2, hq2, ep2, eq2⟩ := (W9.1 _ hq).2.1 kq
              have e255 : (255 : Int64) = lN 255 := by rfl
              rw [eq, eq2, lN_add, e255, pk_lLE (by omega) (by omega)] at c
              exact WF_upd (j := d) W9 (by omega) (by omega) (wf_2 ⟨p + p2, q + q2, by omega, by omega, by rw [ep, ep2, lN_add], by rw [eq, eq2, lN_add]⟩)
            · exact F 3 _ _ _ (by decide) W9.2.2.2.1 (fun post z => into post (fun n => absurd n u) (fun _ => xv_arPf h1 ho.1 (by omega) hq kq k2 c z)) (YP_k9 (yp_aPf ho h1 hd hs W9 n9 kq k2 c))
          · by_cases k45 : k9_ o x_kinds d = 4 ∨ k9_ o x_kinds d = 5
            · by_cases c : l9_ o (imm.toInt64 &&& 4294967295) x_los (q9_ o s) = l9_ o (imm.toInt64 &&& 4294967295) x_his (q9_ o s) ∧ l9_ o (imm.toInt64 &&& 4294967295) x_los (q9_ o s) ≤ 100 ∧ (f = 1 ∨ f = 2)
              · exact P _ _ _ (fun post z => into post (fun n => absurd n u) (fun _ => xv_arC c.2.2 (by omega) hq kq k45 c.1 c.2.1 z)) (YP_k9 (yp_aC ho c.2.2 hd hs W9 n9 kq k45 c.1 c.2.1 rfl)) (SP_k9 (sp_aC ho c.2.2 hd hs W9 n9 kq k45 c.1 rfl)) (WF_upd W9 (by omega) (by omega) (wf_45 k45))
              · exact F 3 _ _ _ (by decide) W9.2.2.2.1 (fun post z => into post (fun n => absurd n u) (fun _ => xv_arCf h1 ho.1 (by omega) hq kq k45 c z)) (YP_k9 (yp_aCf ho h1 hd hs W9 n9 kq k45 c))
            · have k4 : ¬ k9_ o x_kinds d = 4 := fun z => k45 (Or.inl z)
              have k5 : ¬ k9_ o x_kinds d = 5 := fun z => k45 (Or.inr z)
              exact F 3 _ _ _ (by decide) W9.2.2.2.1 (fun post z => into post (fun n => absurd n u) (fun _ => xv_arO h1 ho.1 (by omega) hq kq k1 k2 k4 k5 z)) (YP_k9 (yp_aO ho h1 hd hs W9 n9 nud kq k1 k2 k4 k5))
      · exact F 3 _ _ _ (by decide) W9.2.2.2.1 (fun post z => into post (fun n => absurd n u) (fun _ => xv_arK h1 ho.1 (by omega) hq kq z)) (YP_k9 (yp_aK ho h1 hd hs W9 n9 nud nuq kq))
end
end
section
section
variable {o off imm : Int32} {d s : Nat} {K : Nat → Int32} {L H : Nat → Int64} {S : Int64}
theorem yp_xU {K' : Nat → Int32} {L' H' : Nat → Int64} (k : K 0 = 0) : YP_ 60 d s off imm K L H S 2 K' L' H' := by
  intro y_place y_least y_most y_smallest y_greatest y_ways y_fault y_base y_otherKind y_otherLo y_otherHi y_low y_high y_bytes y_steps y_op y_first y_second y_offset y_given y_length y_there y_known y_lo y_hi y_at y_lookups y_safe y_met y_tag y_word y_packet y_keys y_values y_many i a w post hi ha hw eo e1 e2 eof eg eat F eS hl hE hO
  have t := F 0 (by omega)
  rw [g_lo (by omega)] at t
  exact yv_inE hi eo (yv_exU (by omega) (t.1.trans k) (hE (by decide) _ _ _ _ _ _ _ _ _ _))
theorem yp_xK {K' : Nat → Int32} {L' H' : Nat → Int64} (k : ¬ K 0 = 0) (k1 : ¬ K 0 = 1) : YP_ 60 d s off imm K L H S 3 K' L' H' := by
  intro y_place y_least y_most y_smallest y_greatest y_ways y_fault y_base y_otherKind y_otherLo y_otherHi y_low y_high y_bytes y_steps y_op y_first y_second y_offset y_given y_length y_there y_known y_lo y_hi y_at y_lookups y_safe y_met y_tag y_word y_packet y_keys y_values y_many i a w post hi ha hw eo e1 e2 eof eg eat F eS hl hE hO
  have t := F 0 (by omega)
  rw [g_lo (by omega)] at t
  exact yv_inE hi eo (yv_exK (by omega) (fun z => k (t.1.symm.trans z)) (fun z => k1 (t.1.symm.trans z)) (hE (by decide) _ _ _ _ _ _ _ _ _ _))
theorem WF_mK (W : WF_ K L H S) : WF_ (mK_ K 16) (mL_ K L 16) (mL_ K H 16) S := by
  obtain ⟨a, b, c, d, e⟩ := W
  have f : ∀ j, ¬ wi_ K 16 j → mK_ K 16 j = K j ∧ mL_ K L 16 j = L j ∧ mL_ K H 16 j = H j := by
    intro j z
    exact ⟨by unfold mK_; exact if_neg z, by unfold mL_; exact if_neg z, by unfold mL_; exact if_neg z⟩
  have n8 : ¬ wi_ K 16 8 := by
    rintro ⟨-, q | q | q⟩
    · omega
    · rw [b] at q; exact absurd q (by decide)
    · rw [b] at q; exact absurd q (by decide)
  refine ⟨fun j hj => ?_, by rw [(f 8 n8).1]; exact b, by rw [(f 8 n8).2.1]; exact c, fun j hj => ?_, e⟩
  · by_cases z : wi_ K 16 j
    · have e1 : mK_ K 16 j = 0 := by unfold mK_; exact if_pos z
      rw [e1]; exact wf_0
    · obtain ⟨x, y, w⟩ := f j z
      rw [x, y, w]; exact a j hj
  · obtain ⟨x, y, w⟩ := f j (fun z => absurd z.1 (by omega))
    rw [x, y, w]; exact d j hj
end
section
variable {x_safe : Int64} {x_at : Int32} {x_exitLeast : Int64} {x_exitMost : Int64} {x_branches : Int32} {x_faultPlace : Int32} {x_provedLeast : Int64} {x_provedMost : Int64} {x_packetLength : Int32} {x_executed : Int32} {x_ops : Nat → Int32} {x_targets : Nat → Int32} {x_sources : Nat → Int32} {x_offsets : Nat → Int32} {x_immediates : Nat → Int32} {x_lengths : Nat → Int32} {x_kinds : Nat → Int32} {x_los : Nat → Int64} {x_his : Nat → Int64} {x_reached : Nat → Int32} {x_branchAt : Nat → Int32} {x_branchSafe : Nat → Int64} {x_branchKinds : Nat → Int32} {x_branchLos : Nat → Int64} {x_branchHis : Nat → Int64} {x_packet : Nat → Int32} {x_registers : Nat → Int64} {x_cells : Nat → Int64} {x_keyWords : Nat → Int64} {x_keyTaken : Nat → Int32}
theorem st_mem {a b n d s : Nat} {o off imm : Int32} {Q : Prop} (ha : a < 40) (hn : n ≤ 40) (hl : x_lengths 2 = nI n) (hd : d < 8) (hs : s < 9) (eo : x_ops (80 + a) = o) (ed : x_targets (80 + a) = nI d) (es : x_sources (80 + a) = nI s) (ef : x_offsets (80 + a) = off) (em : x_immediates (80 + a) = imm) (W : WF_ x_kinds x_los x_his x_safe) (ho : o = 40 ∨ o = 41 ∨ o = 42) (F : ∀ (e : Int32) (K' : Nat → Int32) (L' H' : Nat → Int64), ¬ e = 0 → (∀ j, 16 ≤ j → K' j = 0 ∧ L' j = 0 ∧ H' j = 0) → (∀ post : Int32 → SX → Prop, post e (x_safe, nI a, x_exitLeast, x_exitMost, nI b, x_faultPlace, x_provedLeast, x_provedMost, x_packetLength, x_executed, x_ops, x_targets, x_sources, x_offsets, x_immediates, x_lengths, K', L', H', x_reached, x_branchAt, x_branchSafe, x_branchKinds, x_branchLos, x_branchHis, x_packet, x_registers, x_cells, x_keyWords, x_keyTaken) → wpX_check post (x_safe, nI a, x_exitLeast, x_exitMost, nI b, x_faultPlace, x_provedLeast, x_provedMost, x_packetLength, x_executed, x_ops, x_targets, x_sources, x_offsets, x_immediates, x_lengths, x_kinds, x_los, x_his, x_reached, x_branchAt, x_branchSafe, x_branchKinds, x_branchLos, x_branchHis, x_packet, x_registers, x_cells, x_keyWords, x_keyTaken) (nI (80 + a))) → YP_ o d s off imm x_kinds x_los x_his x_safe e x_kinds x_los x_his → Q) (P : ∀ (K' : Nat → Int32) (L' H' : Nat → Int64), (∀ post : Int32 → SX → Prop, post 0 (x_safe, nI a, x_exitLeast, x_exitMost, nI b, x_faultPlace, x_provedLeast, x_provedMost, x_packetLength, x_executed, x_ops, x_targets, x_sources, x_offsets, x_immediates, x_lengths, K', L', H', x_reached, x_branchAt, x_branchSafe, x_branchKinds, x_branchLos, x_branchHis, x_packet, x_registers, x_cells, x_keyWords, x_keyTaken) → wpX_check post (x_safe, nI a, x_exitLeast, x_exitMost, nI b, x_faultPlace, x_provedLeast, x_provedMost, x_packetLength, x_executed, x_ops, x_targets, x_sources, x_offsets, x_immediates, x_lengths, x_kinds, x_los, x_his, x_reached, x_branchAt, x_branchSafe, x_branchKinds, x_branchLos, x_branchHis, x_packet, x_registers, x_cells, x_keyWords, x_keyTaken) (nI (80 + a))) → YP_ o d s off imm x_kinds x_los x_his x_safe 0 K' L' H' → SP_ o d s off imm x_kinds x_los x_his x_safe K' L' H' → WF_ K' L' H' x_safe → Q) : Q := by
  have hi : 80 + a < 120 := by omega
  have t : o / 10 = 4 := by rcases ho with rfl | rfl | rfl <;> decide
  have r : rg_ o := Or.inr (Or.inr t)
  have no : ¬ ou_ (x_ops (80 + a)) (x_offsets (80 + a)) (x_immediates (80 + a)) := by
    rw [eo]; unfold ou_; rw [t]; simp
  have un : un_ o x_kinds d s ↔ (x_kinds (if o = 41 then d else s) = 0 ∨ (o = 41 ∧ x_kinds s = 0)) := by
    unfold un_
    rcases ho with rfl | rfl | rfl <;> simp
  have into : ∀ (post : Int32 → SX → Prop), (un_ o x_kinds d s → post 2 (x_safe, nI a, x_exitLeast, x_exitMost, nI b, x_faultPlace, x_provedLeast, x_provedMost, x_packetLength, x_executed, x_ops, x_targets, x_sources, x_offsets, x_immediates, x_lengths, x_kinds, x_los, x_his, x_reached, x_branchAt, x_branchSafe, x_branchKinds, x_branchLos, x_branchHis, x_packet, x_registers, x_cells, x_keyWords, x_keyTaken)) → (¬ un_ o x_kinds d s → ((o = 42 → wpX_checkByte post (x_safe, nI a, x_exitLeast, x_exitMost, nI b, x_faultPlace, x_provedLeast, x_provedMost, x_packetLength, x_executed, x_ops, x_targets, x_sources, x_offsets, x_immediates, x_lengths, x_kinds, x_los, x_his, x_reached, x_branchAt, x_branchSafe, x_branchKinds, x_branchLos, x_branchHis, x_packet, x_registers, x_cells, x_keyWords, x_keyTaken) (nI (80 + a))) ∧ (¬ o = 42 → wpX_checkCell post (x_safe, nI a, x_exitLeast, x_exitMost, nI b, x_faultPlace, x_provedLeast, x_provedMost, x_packetLength, x_executed, x_ops, x_targets, x_sources, x_offsets, x_immediates, x_lengths, x_kinds, x_los, x_his, x_reached, x_branchAt, x_branchSafe, x_branchKinds, x_branchLos, x_branchHis, x_packet, x_registers, x_cells, x_keyWords, x_keyTaken) (nI (80 + a))))) → wpX_check post (x_safe, nI a, x_exitLeast, x_exitMost, nI b, x_faultPlace, x_provedLeast, x_provedMost, x_packetLength, x_executed, x_ops, x_targets, x_sources, x_offsets, x_immediates, x_lengths, x_kinds, x_los, x_his, x_reached, x_branchAt, x_branchSafe, x_branchKinds, x_branchLos, x_branchHis, x_packet, x_registers, x_cells, x_keyWords, x_keyTaken) (nI (80 + a)) := by
    intro post U C
    refine xk_go hi (by omega) (by omega) es ed no ?_ ?_
    · rw [eo, em, k9_t r, l9_t r, l9_t r, q9_t r]; exact U
    · rw [eo, em, k9_t r, l9_t r, l9_t r, q9_t r]
      intro nu K L H eK eL eH
      subst eK eL eH
      rw [t]
      exact br_f (by decide) (br_f (by decide) (br_f (by decide) (br_f (by decide) (br_f (by decide) (br_f (by decide) (br_t rfl ⟨vp_in_nI hi (by decide), C nu⟩))))))
  by_cases u : un_ o x_kinds d s
  · exact F 2 _ _ _ (by decide) W.2.2.2.1 (fun post z => into post (fun _ => z) (fun n => absurd u n)) (yp_mU ho hd hs W rfl (un.mp u))
  · have nu : ¬ (x_kinds (if o = 41 then d else s) = 0 ∨ (o = 41 ∧ x_kinds s = 0)) := fun z => u (un.mpr z)
    have nup : ¬ x_kinds (if o = 41 then d else s) = 0 := fun z => nu (Or.inl z)
    have nus : o = 41 → ¬ x_kinds s = 0 := fun z y => nu (Or.inr ⟨z, y⟩)
    by_cases o42 : o = 42
    · subst o42
      have nus' : ¬ x_kinds s = 0 := nup
      by_cases k2 : x_kinds s = 2
      · by_cases bb : bb_ (x_los s) (x_his s) x_safe off
        · exact F 4 _ _ _ (by decide) W.2.2.2.1 (fun post z => into post (fun n => absurd n u) (fun _ => ⟨fun _ => xv_byteB hi (by omega) es k2 (by rw [ef]; exact bb) z, fun n => absurd rfl n⟩)) (yp_bB hd hs W k2 bb)
        · refine P _ _ _ (fun post z => into post (fun n => absurd n u) (fun _ => ⟨fun _ => xv_byteO hi (by omega) (by omega) es ed k2 (by rw [ef]; exact bb) z, fun n => absurd rfl n⟩)) (yp_bO hd hs W k2 bb) (sp_bO hd hs W k2 bb) ?_
          exact WF_upd W (by omega) (by omega) (wf_1 ⟨0, 255, by omega, by omega, rfl, rfl⟩)
      · exact F 3 _ _ _ (by decide) W.2.2.2.1 (fun post z => into post (fun n => absurd n u) (fun _ => ⟨fun _ => xv_byteK hi (by omega) es k2 z, fun n => absurd rfl n⟩)) (yp_bK hd hs W nus' k2)
    · have ho' : o = 40 ∨ o = 41 := by rcases ho with h | h | h; exact Or.inl h; exact Or.inr h; exact absurd h o42
      obtain ⟨p, ep⟩ : ∃ p, p = if o = 41 then d else s := ⟨_, rfl⟩
      have hp : p < 9 := by rw [ep]; split <;> omega
      rw [← ep] at nup
      have exp : (if x_ops (80 + a) = 41 then x_targets (80 + a) else x_sources (80 + a)) = nI p := by
        rw [eo, ed, es, ep]
        by_cases z : o = 41
        · rw [if_pos z, if_pos z]
        · rw [if_neg z, if_neg z]
      by_cases k45 : x_kinds p = 4 ∨ x_kinds p = 5
      · by_cases cc : cc_ (x_kinds p) (x_los p) off
        · exact F 4 _ _ _ (by decide) W.2.2.2.1 (fun post z => into post (fun n => absurd n u) (fun _ => ⟨fun n => absurd n o42, fun _ => xv_cellB hi (by omega) exp k45 (by rw [ef]; exact cc) z⟩)) (yp_cB ho' hd hs W ep nus k45 cc)
        · have nf : ¬ far_ off := fun z => cc (Or.inl z)
          have c0 : ¬ x_los p + off.toInt64 < 0 := fun z => cc (Or.inr (Or.inl z))
          have c1 : x_los p + off.toInt64 < (if x_kinds p = 4 then lN 6 else lN 2) := Classical.byContradiction fun z => cc (Or.inr (Or.inr z))
          obtain ⟨c, hc, ec⟩ := pk_lOf c0
          rw [ec] at c1
          have hc4 : x_kinds p = 4 → c < 6 := by
            intro z; rw [if_pos z, pk_lLT hc (by omega)] at c1; exact c1
          have hc5 : x_kinds p = 5 → c < 2 := by
            intro z; rw [z, if_neg (by decide), pk_lLT hc (by omega)] at c1; exact c1
          have nf' : ¬ far_ (x_offsets (80 + a)) := by rw [ef]; exact nf
          have ec' : x_los p + (x_offsets (80 + a)).toInt64 = lN c := by rw [ef]; exact ec
          rcases ho' with rfl | rfl
          · rw [if_neg (by decide)] at ep
            subst ep
            rcases k45 with k4 | k5
            · by_cases kc : x_kinds (10 + c) = 0
              · exact F 2 _ _ _ (by decide) W.2.2.2.1 (fun post z => into post (fun n => absurd n u) (fun _ => ⟨fun n => absurd n (by decide), fun _ => xv_cellSL (d := d) hi (by omega) (by omega) (by rw [eo]; decide) es ed k4 nf' ec' (hc4 k4) (fun _ => z) (fun n => absurd kc n)⟩)) (yp_cSLu hd hs W k4 nf ec (hc4 k4) kc)
              · exact P _ _ _ (fun post z => into post (fun n => absurd n u) (fun _ => ⟨fun n => absurd n (by decide), fun _ => xv_cellSL hi (by omega) (by omega) (by rw [eo]; decide) es ed k4 nf' ec' (hc4 k4) (fun n => absurd n kc) (fun _ => z)⟩)) (yp_cSL hd hs W k4 nf ec (hc4 k4) kc) (sp_cSL hd hs W k4 ec (hc4 k4) kc) (WF_upd W (by omega) (by omega) (W.1 (10 + c) (by have := hc4 k4; omega)))
            · refine P _ _ _ (fun post z => into post (fun n => absurd n u) (fun _ => ⟨fun n => absurd n (by decide), fun _ => xv_cellVL hi (by omega) (by omega) (by rw [eo]; decide) es ed k5 nf' ec' (hc5 k5) z⟩)) (yp_cVL hd hs W k5 nf ec (hc5 k5)) (sp_cVL hd hs W k5 ec (hc5 k5)) ?_
              exact WF_upd W (by omega) (by omega) (wf_1 ⟨0, 4294967295, by omega, by omega, rfl, rfl⟩)
          · rw [if_pos rfl] at ep
            subst ep
            rcases k45 with k4 | k5
            · refine P _ _ _ (fun post z => into post (fun n => absurd n u) (fun _ => ⟨fun n => absurd n (by decide), fun _ => xv_cellSS hi (by omega) (by omega) eo ed es k4 nf' ec' (hc4 k4) z⟩)) (yp_cSS hd hs W (nus rfl) k4 nf ec (hc4 k4)) (sp_cSS hd hs W (nus rfl) k4 ec (hc4 k4)) ?_
              have := hc4 k4
              exact WF_upd W (by omega) (by omega) (W.1 s (by omega))
            · by_cases k1 : x_kinds s = 1
              · exact P _ _ _ (fun post z => into post (fun n => absurd n u) (fun _ => ⟨fun n => absurd n (by decide), fun _ => xv_cellVS hi (by omega) (by omega) eo ed es k5 nf' ec' (hc5 k5) (fun _ => z) (fun n => absurd k1 n)⟩)) (yp_cVS hd hs W k5 nf ec (hc5 k5) k1) (sp_cVS hd hs W k5 ec (hc5 k5) k1) W
              · exact F 3 _ _ _ (by decide) W.2.2.2.1 (fun post z => into post (fun n => absurd n u) (fun _ => ⟨fun n => absurd n (by decide), fun _ => xv_cellVS hi (by omega) (by omega) eo ed es k5 nf' ec' (hc5 k5) (fun n => absurd n k1) (fun _ => z)⟩)) (yp_cVSf hd hs W (nus rfl) k5 nf ec (hc5 k5) k1)
      · have k' : ¬ x_kinds p = 4 ∧ ¬ x_kinds p = 5 := ⟨fun z => k45 (Or.inl z), fun z => k45 (Or.inr z)⟩
        exact F 3 _ _ _ (by decide) W.2.2.2.1 (fun post z => into post (fun n => absurd n u) (fun _ => ⟨fun n => absurd n o42, fun _ => xv_cellK hi (by omega) exp k' z⟩)) (yp_cK ho' hd hs W ep nup nus k')
theorem st_map {a b n d s : Nat} {o off imm : Int32} {Q : Prop} (ha : a < 40) (hn : n ≤ 40) (hl : x_lengths 2 = nI n) (hd : d < 8) (hs : s < 9) (eo : x_ops (80 + a) = o) (ed : x_targets (80 + a) = nI d) (es : x_sources (80 + a) = nI s) (ef : x_offsets (80 + a) = off) (em : x_immediates (80 + a) = imm) (W : WF_ x_kinds x_los x_his x_safe) (ho : o = 50 ∨ o = 51 ∨ o = 52) (F : ∀ (e : Int32) (K' : Nat → Int32) (L' H' : Nat → Int64), ¬ e = 0 → (∀ j, 16 ≤ j → K' j = 0 ∧ L' j = 0 ∧ H' j = 0) → (∀ post : Int32 → SX → Prop, post e (x_safe, nI a, x_exitLeast, x_exitMost, nI b, x_faultPlace, x_provedLeast, x_provedMost, x_packetLength, x_executed, x_ops, x_targets, x_sources, x_offsets, x_immediates, x_lengths, K', L', H', x_reached, x_branchAt, x_branchSafe, x_branchKinds, x_branchLos, x_branchHis, x_packet, x_registers, x_cells, x_keyWords, x_keyTaken) → wpX_check post (x_safe, nI a, x_exitLeast, x_exitMost, nI b, x_faultPlace, x_provedLeast, x_provedMost, x_packetLength, x_executed, x_ops, x_targets, x_sources, x_offsets, x_immediates, x_lengths, x_kinds, x_los, x_his, x_reached, x_branchAt, x_branchSafe, x_branchKinds, x_branchLos, x_branchHis, x_packet, x_registers, x_cells, x_keyWords, x_keyTaken) (nI (80 + a))) → YP_ o d s off imm x_kinds x_los x_his x_safe e x_kinds x_los x_his → Q) (P : ∀ (K' : Nat → Int32) (L' H' : Nat → Int64), (∀ post : Int32 → SX → Prop, post 0 (x_safe, nI a, x_exitLeast, x_exitMost, nI b, x_faultPlace, x_provedLeast, x_provedMost, x_packetLength, x_executed, x_ops, x_targets, x_sources, x_offsets, x_immediates, x_lengths, K', L', H', x_reached, x_branchAt, x_branchSafe, x_branchKinds, x_branchLos, x_branchHis, x_packet, x_registers, x_cells, x_keyWords, x_keyTaken) → wpX_check post (x_safe, nI a, x_exitLeast, x_exitMost, nI b, x_faultPlace, x_provedLeast, x_provedMost, x_packetLength, x_executed, x_ops, x_targets, x_sources, x_offsets, x_immediates, x_lengths, x_kinds, x_los, x_his, x_reached, x_branchAt, x_branchSafe, x_branchKinds, x_branchLos, x_branchHis, x_packet, x_registers, x_cells, x_keyWords, x_keyTaken) (nI (80 + a))) → YP_ o d s off imm x_kinds x_los x_his x_safe 0 K' L' H' → SP_ o d s off imm x_kinds x_los x_his x_safe K' L' H' → WF_ K' L' H' x_safe → Q) : Q := by
  have hi : 80 + a < 120 := by omega
  have t : o / 10 = 5 := by rcases ho with rfl | rfl | rfl <;> decide
  have r : ¬ rg_ o := by unfold rg_; rw [t]; decide
  have ou : ou_ (x_ops (80 + a)) (x_offsets (80 + a)) (x_immediates (80 + a)) ↔ (imm < 0 ∨ ¬ imm < 2) := by
    rw [eo, ef, em]; unfold ou_; rw [t]; simp
  by_cases gd : imm < 0 ∨ ¬ imm < 2
  · exact F 1 _ _ _ (by decide) W.2.2.2.1 (fun post z => xk_out hi (ou.mpr gd) z) (yp_l1 ho gd)
  · have no : ¬ ou_ (x_ops (80 + a)) (x_offsets (80 + a)) (x_immediates (80 + a)) := fun z => gd (ou.mp z)
    have W9 := WF_k9 (o := o) (x := imm) W
    have un : un_ o (k9_ o x_kinds) d (q9_ o s) ↔ uk_ o (k9_ o x_kinds) := by
      unfold un_ uk_
      rcases ho with rfl | rfl | rfl <;> simp
    have into : ∀ (post : Int32 → SX → Prop), (un_ o (k9_ o x_kinds) d (q9_ o s) → post 2 (x_safe, nI a, x_exitLeast, x_exitMost, nI b, x_faultPlace, x_provedLeast, x_provedMost, x_packetLength, x_executed, x_ops, x_targets, x_sources, x_offsets, x_immediates, x_lengths, k9_ o x_kinds, l9_ o (imm.toInt64 &&& 4294967295) x_los, l9_ o (imm.toInt64 &&& 4294967295) x_his, x_reached, x_branchAt, x_branchSafe, x_branchKinds, x_branchLos, x_branchHis, x_packet, x_registers, x_cells, x_keyWords, x_keyTaken)) → (¬ un_ o (k9_ o x_kinds) d (q9_ o s) → wpX_checkMapCall post (x_safe, nI a, x_exitLeast, x_exitMost, nI b, x_faultPlace, x_provedLeast, x_provedMost, x_packetLength, x_executed, x_ops, x_targets, x_sources, x_offsets, x_immediates, x_lengths, k9_ o x_kinds, l9_ o (imm.toInt64 &&& 4294967295) x_los, l9_ o (imm.toInt64 &&& 4294967295) x_his, x_reached, x_branchAt, x_branchSafe, x_branchKinds, x_branchLos, x_branchHis, x_packet, x_registers, x_cells, x_keyWords, x_keyTaken) o) → wpX_check post (x_safe, nI a, x_exitLeast, x_exitMost, nI b, x_faultPlace, x_provedLeast, x_provedMost, x_packetLength, x_executed, x_ops, x_targets, x_sources, x_offsets, x_immediates, x_lengths, x_kinds, x_los, x_his, x_reached, x_branchAt, x_branchSafe, x_branchKinds, x_branchLos, x_branchHis, x_packet, x_registers, x_cells, x_keyWords, x_keyTaken) (nI (80 + a)) := by
      intro post U C
      refine xk_go hi (by omega) (by omega) es ed no (by rw [eo, em]; exact U) ?_
      rw [eo, em]
      intro nu K L H eK eL eH
      subst eK eL eH
      rw [t]
      exact br_f (by decide) (br_f (by decide) (br_f (by decide) (br_f (by decide) (br_f (by decide) (br_f (by decide) (br_f (by decide) (br_t rfl ⟨vp_in_nI hi (by decide), C nu⟩)))))))
    by_cases u : un_ o (k9_ o x_kinds) d (q9_ o s)
    · exact F 2 _ _ _ (by decide) W9.2.2.2.1 (fun post z => into post (fun _ => z) (fun n => absurd u n)) (YP_k9 (w := imm.toInt64 &&& 4294967295) (yp_l2 ho gd (un.mp u)))
    · have nu : ¬ uk_ o (k9_ o x_kinds) := fun z => u (un.mpr z)
      by_cases k : sk_ o (k9_ o x_kinds)
      · refine P _ _ _ (fun post z => into post (fun n => absurd n u) (fun _ => xv_map k.1 k.2 z)) (YP_k9 (w := imm.toInt64 &&& 4294967295) (yp_l0 ho gd nu k)) ?_ ?_
        · rcases ho with rfl | rfl | rfl
          · exact SP_k9 (sp_50 hd hs W9 gd k)
          · exact SP_k9 (sp_51 hd hs W9 gd k)
          · exact SP_k9 (sp_52 hd hs W9 gd k)
        · refine WF_upd (WF_mK W9) (by decide) (by decide) ?_
          by_cases z : o = 50
          · rw [if_pos z, if_pos z]; exact wf_6
          · rw [if_neg z, if_neg z]; exact wf_1 ⟨0, 1, by omega, by omega, rfl, rfl⟩
      · exact F 3 _ _ _ (by decide) W9.2.2.2.1 (fun post z => into post (fun n => absurd n u) (fun _ => xv_mapK k z)) (YP_k9 (w := imm.toInt64 &&& 4294967295) (yp_l3 ho gd nu k))
theorem st_exit {a b n d s : Nat} {o off imm : Int32} {Q : Prop} (ha : a < 40) (hn : n ≤ 40) (hl : x_lengths 2 = nI n) (hd : d < 8) (hs : s < 9) (eo : x_ops (80 + a) = o) (ed : x_targets (80 + a) = nI d) (es : x_sources (80 + a) = nI s) (ef : x_offsets (80 + a) = off) (em : x_immediates (80 + a) = imm) (W : WF_ x_kinds x_los x_his x_safe) (ho : o = 60) (F : ∀ (e : Int32) (K' : Nat → Int32) (L' H' : Nat → Int64), ¬ e = 0 → (∀ j, 16 ≤ j → K' j = 0 ∧ L' j = 0 ∧ H' j = 0) → (∀ post : Int32 → SX → Prop, post e (x_safe, nI a, x_exitLeast, x_exitMost, nI b, x_faultPlace, x_provedLeast, x_provedMost, x_packetLength, x_executed, x_ops, x_targets, x_sources, x_offsets, x_immediates, x_lengths, K', L', H', x_reached, x_branchAt, x_branchSafe, x_branchKinds, x_branchLos, x_branchHis, x_packet, x_registers, x_cells, x_keyWords, x_keyTaken) → wpX_check post (x_safe, nI a, x_exitLeast, x_exitMost, nI b, x_faultPlace, x_provedLeast, x_provedMost, x_packetLength, x_executed, x_ops, x_targets, x_sources, x_offsets, x_immediates, x_lengths, x_kinds, x_los, x_his, x_reached, x_branchAt, x_branchSafe, x_branchKinds, x_branchLos, x_branchHis, x_packet, x_registers, x_cells, x_keyWords, x_keyTaken) (nI (80 + a))) → YP_ o d s off imm x_kinds x_los x_his x_safe e x_kinds x_los x_his → Q) (E : (∀ post : Int32 → SX → Prop, post 0 (x_safe, nI a, if x_exitLeast ≤ x_los 0 then x_exitLeast else x_los 0, if x_his 0 ≤ x_exitMost then x_exitMost else x_his 0, nI b, x_faultPlace, x_provedLeast, x_provedMost, x_packetLength, x_executed, x_ops, x_targets, x_sources, x_offsets, x_immediates, x_lengths, k9_ o x_kinds, l9_ o (imm.toInt64 &&& 4294967295) x_los, l9_ o (imm.toInt64 &&& 4294967295) x_his, x_reached, x_branchAt, x_branchSafe, x_branchKinds, x_branchLos, x_branchHis, x_packet, x_registers, x_cells, x_keyWords, x_keyTaken) → wpX_check post (x_safe, nI a, x_exitLeast, x_exitMost, nI b, x_faultPlace, x_provedLeast, x_provedMost, x_packetLength, x_executed, x_ops, x_targets, x_sources, x_offsets, x_immediates, x_lengths, x_kinds, x_los, x_his, x_reached, x_branchAt, x_branchSafe, x_branchKinds, x_branchLos, x_branchHis, x_packet, x_registers, x_cells, x_keyWords, x_keyTaken) (nI (80 + a))) → x_kinds 0 = 1 → Q) : Q := by
  have hi : 80 + a < 120 := by omega
  subst ho
  have r : ¬ rg_ 60 := by unfold rg_; decide
  have no : ¬ ou_ (x_ops (80 + a)) (x_offsets (80 + a)) (x_immediates (80 + a)) := by
    rw [eo]; unfold ou_; simp
  have k0 : k9_ 60 x_kinds 0 = x_kinds 0 := by rw [k9_f r]; exact pk_un (by decide)
  have l0 : l9_ 60 (imm.toInt64 &&& 4294967295) x_los 0 = x_los 0 := by rw [l9_f r]; exact pk_uLn (by decide)
  have h0 : l9_ 60 (imm.toInt64 &&& 4294967295) x_his 0 = x_his 0 := by rw [l9_f r]; exact pk_uLn (by decide)
  have un : un_ 60 (k9_ 60 x_kinds) d (q9_ 60 s) ↔ x_kinds 0 = 0 := by
    unfold un_; rw [k0]; simp
  have into : ∀ (post : Int32 → SX → Prop), (x_kinds 0 = 0 → post 2 (x_safe, nI a, x_exitLeast, x_exitMost, nI b, x_faultPlace, x_provedLeast, x_provedMost, x_packetLength, x_executed, x_ops, x_targets, x_sources, x_offsets, x_immediates, x_lengths, k9_ 60 x_kinds, l9_ 60 (imm.toInt64 &&& 4294967295) x_los, l9_ 60 (imm.toInt64 &&& 4294967295) x_his, x_reached, x_branchAt, x_branchSafe, x_branchKinds, x_branchLos, x_branchHis, x_packet, x_registers, x_cells, x_keyWords, x_keyTaken)) → (¬ x_kinds 0 = 0 → wpX_checkExit post (x_safe, nI a, x_exitLeast, x_exitMost, nI b, x_faultPlace, x_provedLeast, x_provedMost, x_packetLength, x_executed, x_ops, x_targets, x_sources, x_offsets, x_immediates, x_lengths, k9_ 60 x_kinds, l9_ 60 (imm.toInt64 &&& 4294967295) x_los, l9_ 60 (imm.toInt64 &&& 4294967295) x_his, x_reached, x_branchAt, x_branchSafe, x_branchKinds, x_branchLos, x_branchHis, x_packet, x_registers, x_cells, x_keyWords, x_keyTaken)) → wpX_check post (x_safe, nI a, x_exitLeast, x_exitMost, nI b, x_faultPlace, x_provedLeast, x_provedMost, x_packetLength, x_executed, x_ops, x_targets, x_sources, x_offsets, x_immediates, x_lengths, x_kinds, x_los, x_his, x_reached, x_branchAt, x_branchSafe, x_branchKinds, x_branchLos, x_branchHis, x_packet, x_registers, x_cells, x_keyWords, x_keyTaken) (nI (80 + a)) := by
    intro post U C
    refine xk_go hi (by omega) (by omega) es ed no (by rw [eo, em]; exact fun z => U (un.mp z)) ?_
    rw [eo, em]
    intro nu K L H eK eL eH
    subst eK eL eH
    exact br_f (by decide) (br_t (by decide) (C (fun z => nu (un.mpr z))))
  by_cases z0 : x_kinds 0 = 0
  · exact F 2 _ _ _ (by decide) (WF_k9 (o := 60) (x := imm) W).2.2.2.1 (fun post z => into post (fun _ => z) (fun n => absurd z0 n)) (yp_xU z0)
  · by_cases z1 : x_kinds 0 = 1
    · refine E (fun post z => into post (fun n => absurd n z0) (fun _ => xv_exit (by rw [k0]; exact z1) ?_)) z1
      rw [l0, h0]; exact z
    · exact F 3 _ _ _ (by decide) (WF_k9 (o := 60) (x := imm) W).2.2.2.1 (fun post z => into post (fun n => absurd n z0) (fun _ => xv_exitK (by rw [k0]; exact z1) z)) (yp_xK z0 z1)
end
end
section
section
variable {K : Nat → Int32} {L H : Nat → Int64} {S : Int64} {d q f : Nat}
theorem wf_se {v : Int32} (W : WF_ K L H S) (hv : v = 1 ∨ v = 5) : WF_ (se_K K v 16) L H S := by
  obtain ⟨a, b, c, e, g⟩ := W
  refine ⟨fun j hj => ?_, ?_, c, fun j hj => ?_, g⟩
  · by_cases z : K j = 6
    · have e1 : se_K K v 16 j = v := by unfold se_K; rw [if_pos ⟨hj, z⟩]
      obtain ⟨l0, h0⟩ := (a j hj).2.2.2 z
      rw [e1, l0, h0]
      rcases hv with rfl | rfl
      · exact wf_1 ⟨0, 0, by omega, by omega, rfl, rfl⟩
      · exact wf_45 (Or.inr rfl)
    · have e1 : se_K K v 16 j = K j := by unfold se_K; rw [if_neg (fun w => z w.2)]
      rw [e1]; exact a j hj
  · unfold se_K; rw [if_neg (fun w => by have := w.2; rw [b] at this; exact absurd this (by decide))]; exact b
  · have e1 : se_K K v 16 j = K j := by unfold se_K; rw [if_neg (fun w => absurd w.1 (by omega))]
    rw [e1]; exact e j hj
theorem wf_S {n : Nat} (W : WF_ K L H S) (hn : n ≤ 256) : WF_ K L H (ra_S S (lN n)) := by
  obtain ⟨a, b, c, e, sn, hs, eS⟩ := W
  refine ⟨a, b, c, e, if n ≤ sn then sn else n, by split <;> omega, ?_⟩
  rw [eS, ra_N (by omega) (by omega)]
/-- what is learnt of two SCALARs leaves all in order -/
theorem wf_lnS (W : WF_ K L H S) (h1 : 1 ≤ f) (h4 : f ≤ 4) (hd : d < 8) (hq : q < 16) (k1 : K d = 1) (k2 : K q = 1) (m : my_ f d q K L H) (m2 : my_ (op_ f) d q K L H) : WF_ (ln_K f d K) (ln_L f d q K L H) (ln_H f d q K L H) (ln_S f d q K L S) := by
  have lK : ln_K f d K = K := by unfold ln_K; rw [if_neg (by rw [k1]; decide)]
  have lS : ln_S f d q K L S = S := by unfold ln_S; rw [k1, if_neg (by simp), if_neg (by simp)]
  rw [lK, lS]
  unfold ln_L ln_H
  by_cases z : L q = H q
  · rw [if_pos ⟨k1, z⟩, if_pos ⟨k1, z⟩]
    obtain ⟨p, b, pb, hb, ep, eb⟩ := (W.1 d (by omega)).2.1 k1
    obtain ⟨c, e, ce, he, ec, ee⟩ := (W.1 q hq).2.1 k2
    have z' : c = e := (pk_lEQ (by omega) (by omega)).mp (by rw [← ec, ← ee]; exact z)
    subst z'
    have y1 := m k1
    have y2 := m2 k1
    rw [ep, eb, ec, ee, mh_N pb hb ce he] at y1
    rw [ep, eb, ec, ee, mh_N pb hb ce he] at y2
    have I := cu_iv h1 h4 pb hb he y1 y2
    rw [← ep, ← eb, ← ec] at I
    have G := WF_upd (j := d) W (by omega) (by omega) (wf_1 I)
    rw [xb_updid k1] at G
    exact G
  · rw [if_neg (fun w => z w.2), if_neg (fun w => z w.2)]; exact W
theorem wf_lnM (W : WF_ K L H S) (k1 : K d = 6) : WF_ (ln_K f d K) (ln_L f d q K L H) (ln_H f d q K L H) (ln_S f d q K L S) := by
  have lK : ln_K f d K = se_K K (if f = 1 then 1 else 5) 16 := by unfold ln_K; rw [if_pos k1]
  have lL : ln_L f d q K L H = L := by unfold ln_L; rw [if_neg (by rw [k1]; simp)]
  have lH : ln_H f d q K L H = H := by unfold ln_H; rw [if_neg (by rw [k1]; simp)]
  have lS : ln_S f d q K L S = S := by unfold ln_S; rw [k1, if_neg (by simp), if_neg (by simp)]
  rw [lK, lL, lH, lS]
  refine wf_se W ?_
  split
  · exact Or.inl rfl
  · exact Or.inr rfl
theorem wf_lnP (W : WF_ K L H S) (hd : d < 8) (k1 : K d = 2) : WF_ (ln_K f d K) (ln_L f d q K L H) (ln_H f d q K L H) (ln_S f d q K L S) := by
  have lK : ln_K f d K = K := by unfold ln_K; rw [if_neg (by rw [k1]; decide)]
  have lL : ln_L f d q K L H = L := by unfold ln_L; rw [if_neg (by rw [k1]; simp)]
  have lH : ln_H f d q K L H = H := by unfold ln_H; rw [if_neg (by rw [k1]; simp)]
  obtain ⟨p, b, pb, hb, ep, eb⟩ := (W.1 d (by omega)).2.2.1 k1
  rw [lK, lL, lH]
  unfold ln_S
  by_cases z : f = 3
  · rw [if_pos ⟨k1, z⟩, ep, lN_1]; exact wf_S W (by omega)
  · rw [if_neg (fun w => z w.2), if_neg (by rw [k1]; simp)]; exact W
theorem wf_lnE (W : WF_ K L H S) (hq : q < 16) (k1 : K d = 3) (k2 : K q = 2) : WF_ (ln_K f d K) (ln_L f d q K L H) (ln_H f d q K L H) (ln_S f d q K L S) := by
  have lK : ln_K f d K = K := by unfold ln_K; rw [if_neg (by rw [k1]; decide)]
  have lL : ln_L f d q K L H = L := by unfold ln_L; rw [if_neg (by rw [k1]; simp)]
  have lH : ln_H f d q K L H = H := by unfold ln_H; rw [if_neg (by rw [k1]; simp)]
  obtain ⟨p, b, pb, hb, ep, eb⟩ := (W.1 q hq).2.2.1 k2
  rw [lK, lL, lH]
  unfold ln_S
  by_cases z : f = 4
  · rw [if_neg (by rw [k1]; simp), if_pos ⟨k1, z⟩, ep]; exact wf_S W (by omega)
  · rw [if_neg (by rw [k1]; simp), if_neg (fun w => z w.2)]; exact W
end
section
variable {x_safe : Int64} {x_at : Int32} {x_exitLeast : Int64} {x_exitMost : Int64} {x_branches : Int32} {x_faultPlace : Int32} {x_provedLeast : Int64} {x_provedMost : Int64} {x_packetLength : Int32} {x_executed : Int32} {x_ops : Nat → Int32} {x_targets : Nat → Int32} {x_sources : Nat → Int32} {x_offsets : Nat → Int32} {x_immediates : Nat → Int32} {x_lengths : Nat → Int32} {x_kinds : Nat → Int32} {x_los : Nat → Int64} {x_his : Nat → Int64} {x_reached : Nat → Int32} {x_branchAt : Nat → Int32} {x_branchSafe : Nat → Int64} {x_branchKinds : Nat → Int32} {x_branchLos : Nat → Int64} {x_branchHis : Nat → Int64} {x_packet : Nat → Int32} {x_registers : Nat → Int64} {x_cells : Nat → Int64} {x_keyWords : Nat → Int64} {x_keyTaken : Nat → Int32}
theorem st_ja {a b n d s : Nat} {o off imm : Int32} {Q : Prop} (ha : a < 40) (hn : n ≤ 40) (hl : x_lengths 2 = nI n) (hd : d < 8) (hs : s < 9) (eo : x_ops (80 + a) = o) (ed : x_targets (80 + a) = nI d) (es : x_sources (80 + a) = nI s) (ef : x_offsets (80 + a) = off) (em : x_immediates (80 + a) = imm) (W : WF_ x_kinds x_los x_his x_safe) (ho : o = 20) (F : ∀ (e : Int32) (K' : Nat → Int32) (L' H' : Nat → Int64), ¬ e = 0 → (∀ j, 16 ≤ j → K' j = 0 ∧ L' j = 0 ∧ H' j = 0) → (∀ post : Int32 → SX → Prop, post e (x_safe, nI a, x_exitLeast, x_exitMost, nI b, x_faultPlace, x_provedLeast, x_provedMost, x_packetLength, x_executed, x_ops, x_targets, x_sources, x_offsets, x_immediates, x_lengths, K', L', H', x_reached, x_branchAt, x_branchSafe, x_branchKinds, x_branchLos, x_branchHis, x_packet, x_registers, x_cells, x_keyWords, x_keyTaken) → wpX_check post (x_safe, nI a, x_exitLeast, x_exitMost, nI b, x_faultPlace, x_provedLeast, x_provedMost, x_packetLength, x_executed, x_ops, x_targets, x_sources, x_offsets, x_immediates, x_lengths, x_kinds, x_los, x_his, x_reached, x_branchAt, x_branchSafe, x_branchKinds, x_branchLos, x_branchHis, x_packet, x_registers, x_cells, x_keyWords, x_keyTaken) (nI (80 + a))) → YP_ o d s off imm x_kinds x_los x_his x_safe e x_kinds x_los x_his → Q) (G : ∀ (g : Nat) (K' : Nat → Int32) (L' H' : Nat → Int64), g < 2 ^ 31 → off = nI g → (∀ post : Int32 → SX → Prop, post 0 (x_safe, nI (gl_ n a g), x_exitLeast, x_exitMost, nI b, x_faultPlace, x_provedLeast, x_provedMost, x_packetLength, x_executed, x_ops, x_targets, x_sources, x_offsets, x_immediates, x_lengths, K', L', H', x_reached, x_branchAt, x_branchSafe, x_branchKinds, x_branchLos, x_branchHis, x_packet, x_registers, x_cells, x_keyWords, x_keyTaken) → wpX_check post (x_safe, nI a, x_exitLeast, x_exitMost, nI b, x_faultPlace, x_provedLeast, x_provedMost, x_packetLength, x_executed, x_ops, x_targets, x_sources, x_offsets, x_immediates, x_lengths, x_kinds, x_los, x_his, x_reached, x_branchAt, x_branchSafe, x_branchKinds, x_branchLos, x_branchHis, x_packet, x_registers, x_cells, x_keyWords, x_keyTaken) (nI (80 + a))) → YG_ o d s off imm g K' L' H' x_safe → SG_ o d s off imm g K' L' H' x_safe → WF_ K' L' H' x_safe → (K' = k9_ o x_kinds ∧ L' = l9_ o (imm.toInt64 &&& 4294967295) x_los ∧ H' = l9_ o (imm.toInt64 &&& 4294967295) x_his) → Q) : Q := by
  have hi : 80 + a < 120 := by omega
  subst ho
  have r : ¬ rg_ 20 := by unfold rg_; decide
  by_cases z : 0 ≤ off
  · obtain ⟨g, hg, eg⟩ := nI_of (x := off) (Int32.not_lt.mpr z)
    have no : ¬ ou_ (x_ops (80 + a)) (x_offsets (80 + a)) (x_immediates (80 + a)) := by
      rw [eo, ef]; unfold ou_; simp [z]
    have nu : ¬ un_ 20 (k9_ 20 x_kinds) d (q9_ 20 s) := by unfold un_; simp
    refine G g _ _ _ hg eg (fun post z => ?_) (yj_A hg eg) (sj_A hg eg hd hs) (WF_k9 (o := 20) (x := imm) W) ⟨rfl, rfl, rfl⟩
    refine xk_go hi (by omega) (by omega) es ed no (by rw [eo, em]; exact fun n => absurd n nu) ?_
    rw [eo, em]
    intro _ K L H eK eL eH
    subst eK eL eH
    have w := xv_jA (q := nI (q9_ 20 s)) hi hn (show a < 1000 by omega) hg hl (ef.trans eg) eo z
    exact br_f (by decide) (br_f (by decide) (br_f (by decide) (br_f (by decide) (br_t (by decide) w))))
  · refine F 1 _ _ _ (by decide) W.2.2.2.1 (fun post q => xk_out hi ?_ q) (yj_out (by decide) (by decide) z)
    rw [eo, ef]; exact Or.inl ⟨Or.inl (by decide), z⟩
theorem st_jump {f : Nat} {a b n d s : Nat} {o off imm : Int32} {Q : Prop} (ha : a < 40) (hn : n ≤ 40) (hl : x_lengths 2 = nI n) (hd : d < 8) (hs : s < 9) (eo : x_ops (80 + a) = o) (ed : x_targets (80 + a) = nI d) (es : x_sources (80 + a) = nI s) (ef : x_offsets (80 + a) = off) (em : x_immediates (80 + a) = imm) (W : WF_ x_kinds x_los x_his x_safe) (hb : b < 10) (ho : oj_ o f) (F : ∀ (e : Int32) (K' : Nat → Int32) (L' H' : Nat → Int64), ¬ e = 0 → (∀ j, 16 ≤ j → K' j = 0 ∧ L' j = 0 ∧ H' j = 0) → (∀ post : Int32 → SX → Prop, post e (x_safe, nI a, x_exitLeast, x_exitMost, nI b, x_faultPlace, x_provedLeast, x_provedMost, x_packetLength, x_executed, x_ops, x_targets, x_sources, x_offsets, x_immediates, x_lengths, K', L', H', x_reached, x_branchAt, x_branchSafe, x_branchKinds, x_branchLos, x_branchHis, x_packet, x_registers, x_cells, x_keyWords, x_keyTaken) → wpX_check post (x_safe, nI a, x_exitLeast, x_exitMost, nI b, x_faultPlace, x_provedLeast, x_provedMost, x_packetLength, x_executed, x_ops, x_targets, x_sources, x_offsets, x_immediates, x_lengths, x_kinds, x_los, x_his, x_reached, x_branchAt, x_branchSafe, x_branchKinds, x_branchLos, x_branchHis, x_packet, x_registers, x_cells, x_keyWords, x_keyTaken) (nI (80 + a))) → YP_ o d s off imm x_kinds x_los x_his x_safe e x_kinds x_los x_his → Q) (N : ∀ (K' : Nat → Int32) (L' H' : Nat → Int64), (∀ post : Int32 → SX → Prop, post 0 (x_safe, nI (a + 1), x_exitLeast, x_exitMost, nI b, x_faultPlace, x_provedLeast, x_provedMost, x_packetLength, x_executed, x_ops, x_targets, x_sources, x_offsets, x_immediates, x_lengths, K', L', H', x_reached, x_branchAt, x_branchSafe, x_branchKinds, x_branchLos, x_branchHis, x_packet, x_registers, x_cells, x_keyWords, x_keyTaken) → wpX_check post (x_safe, nI a, x_exitLeast, x_exitMost, nI b, x_faultPlace, x_provedLeast, x_provedMost, x_packetLength, x_executed, x_ops, x_targets, x_sources, x_offsets, x_immediates, x_lengths, x_kinds, x_los, x_his, x_reached, x_branchAt, x_branchSafe, x_branchKinds, x_branchLos, x_branchHis, x_packet, x_registers, x_cells, x_keyWords, x_keyTaken) (nI (80 + a))) → YP_ o d s off imm x_kinds x_los x_his x_safe 0 K' L' H' → SP_ o d s off imm x_kinds x_los x_his x_safe K' L' H' → WF_ K' L' H' x_safe → Q) (G : ∀ (g : Nat) (K' : Nat → Int32) (L' H' : Nat → Int64), g < 2 ^ 31 → off = nI g → (∀ post : Int32 → SX → Prop, post 0 (x_safe, nI (gl_ n a g), x_exitLeast, x_exitMost, nI b, x_faultPlace, x_provedLeast, x_provedMost, x_packetLength, x_executed, x_ops, x_targets, x_sources, x_offsets, x_immediates, x_lengths, K', L', H', x_reached, x_branchAt, x_branchSafe, x_branchKinds, x_branchLos, x_branchHis, x_packet, x_registers, x_cells, x_keyWords, x_keyTaken) → wpX_check post (x_safe, nI a, x_exitLeast, x_exitMost, nI b, x_faultPlace, x_provedLeast, x_provedMost, x_packetLength, x_executed, x_ops, x_targets, x_sources, x_offsets, x_immediates, x_lengths, x_kinds, x_los, x_his, x_reached, x_branchAt, x_branchSafe, x_branchKinds, x_branchLos, x_branchHis, x_packet, x_registers, x_cells, x_keyWords, x_keyTaken) (nI (80 + a))) → YG_ o d s off imm g K' L' H' x_safe → SG_ o d s off imm g K' L' H' x_safe → WF_ K' L' H' x_safe → (K' = k9_ o x_kinds ∧ L' = l9_ o (imm.toInt64 &&& 4294967295) x_los ∧ H' = l9_ o (imm.toInt64 &&& 4294967295) x_his) → Q) (B : ∀ (g f : Nat) (K' : Nat → Int32) (L' H' : Nat → Int64), g < 2 ^ 31 → off = nI g → oj_ o f → (∀ post : Int32 → SX → Prop, post 0 (ln_S (op_ f) d (q9_ o s) K' L' x_safe, nI (a + 1), x_exitLeast, x_exitMost, nI (b + 1), x_faultPlace, x_provedLeast, x_provedMost, x_packetLength, x_executed, x_ops, x_targets, x_sources, x_offsets, x_immediates, x_lengths, ln_K (op_ f) d K', ln_L (op_ f) d (q9_ o s) K' L' H', ln_H (op_ f) d (q9_ o s) K' L' H', x_reached, upd x_branchAt b (nI a), vp_updL x_branchSafe b x_safe, sv_ x_branchKinds b K' 16, sv_ x_branchLos b L' 16, sv_ x_branchHis b H' 16, x_packet, x_registers, x_cells, x_keyWords, x_keyTaken) → wpX_check post (x_safe, nI a, x_exitLeast, x_exitMost, nI b, x_faultPlace, x_provedLeast, x_provedMost, x_packetLength, x_executed, x_ops, x_targets, x_sources, x_offsets, x_immediates, x_lengths, x_kinds, x_los, x_his, x_reached, x_branchAt, x_branchSafe, x_branchKinds, x_branchLos, x_branchHis, x_packet, x_registers, x_cells, x_keyWords, x_keyTaken) (nI (80 + a))) → YB_ o d s off imm g K' L' H' x_safe (ln_K f d K') (ln_L f d (q9_ o s) K' L' H') (ln_H f d (q9_ o s) K' L' H') (ln_S f d (q9_ o s) K' L' x_safe) (ln_K (op_ f) d K') (ln_L (op_ f) d (q9_ o s) K' L' H') (ln_H (op_ f) d (q9_ o s) K' L' H') (ln_S (op_ f) d (q9_ o s) K' L' x_safe) → SB_ o d s off imm g K' L' H' x_safe (ln_K f d K') (ln_L f d (q9_ o s) K' L' H') (ln_H f d (q9_ o s) K' L' H') (ln_S f d (q9_ o s) K' L' x_safe) (ln_K (op_ f) d K') (ln_L (op_ f) d (q9_ o s) K' L' H') (ln_H (op_ f) d (q9_ o s) K' L' H') (ln_S (op_ f) d (q9_ o s) K' L' x_safe) → WF_ K' L' H' x_safe → WF_ (ln_K f d K') (ln_L f d (q9_ o s) K' L' H') (ln_H f d (q9_ o s) K' L' H') (ln_S f d (q9_ o s) K' L' x_safe) → WF_ (ln_K (op_ f) d K') (ln_L (op_ f) d (q9_ o s) K' L' H') (ln_H (op_ f) d (q9_ o s) K' L' H') (ln_S (op_ f) d (q9_ o s) K' L' x_safe) → (K' = k9_ o x_kinds ∧ L' = l9_ o (imm.toInt64 &&& 4294967295) x_los ∧ H' = l9_ o (imm.toInt64 &&& 4294967295) x_his) → Q) : Q := by
  have hi : 80 + a < 120 := by omega
  obtain ⟨f1, f2, f3, f4, f5⟩ := oj_f ho
  have t : o / 10 = 2 ∨ o / 10 = 3 := by rcases f5 with q | q; exact Or.inr q.2.2; exact Or.inl q.2.2
  by_cases z : 0 ≤ off
  · obtain ⟨g, hg, eg⟩ := nI_of (x := off) (Int32.not_lt.mpr z)
    have no : ¬ ou_ (x_ops (80 + a)) (x_offsets (80 + a)) (x_immediates (80 + a)) := by
      rw [eo, ef]; unfold ou_
      rcases t with t | t <;> rw [t] <;> simp [z]
    have W9 := WF_k9 (o := o) (x := imm) W
    have n9 := nine_k9 (o := o) (w := imm.toInt64 &&& 4294967295) (K := x_kinds) (L := x_los) (H := x_his)
    have hq : q9_ o s < 16 := q9_16 hs
    have un : un_ o (k9_ o x_kinds) d (q9_ o s) ↔ (k9_ o x_kinds d = 0 ∨ k9_ o x_kinds (q9_ o s) = 0) := by
      obtain ⟨h1, h4, h⟩ := ho
      have e : f = 1 ∨ f = 2 ∨ f = 3 ∨ f = 4 := by omega
      unfold un_
      rcases e with rfl | rfl | rfl | rfl <;> rcases h with rfl | rfl <;> simp [nI]
    have into : ∀ (post : Int32 → SX → Prop), (un_ o (k9_ o x_kinds) d (q9_ o s) → post 2 (x_safe, nI a, x_exitLeast, x_exitMost, nI b, x_faultPlace, x_provedLeast, x_provedMost, x_packetLength, x_executed, x_ops, x_targets, x_sources, x_offsets, x_immediates, x_lengths, k9_ o x_kinds, l9_ o (imm.toInt64 &&& 4294967295) x_los, l9_ o (imm.toInt64 &&& 4294967295) x_his, x_reached, x_branchAt, x_branchSafe, x_branchKinds, x_branchLos, x_branchHis, x_packet, x_registers, x_cells, x_keyWords, x_keyTaken)) → (¬ un_ o (k9_ o x_kinds) d (q9_ o s) → wpX_checkJump post (x_safe, nI a, x_exitLeast, x_exitMost, nI b, x_faultPlace, x_provedLeast, x_provedMost, x_packetLength, x_executed, x_ops, x_targets, x_sources, x_offsets, x_immediates, x_lengths, k9_ o x_kinds, l9_ o (imm.toInt64 &&& 4294967295) x_los, l9_ o (imm.toInt64 &&& 4294967295) x_his, x_reached, x_branchAt, x_branchSafe, x_branchKinds, x_branchLos, x_branchHis, x_packet, x_registers, x_cells, x_keyWords, x_keyTaken) (nI (80 + a)) (nI (q9_ o s))) → wpX_check post (x_safe, nI a, x_exitLeast, x_exitMost, nI b, x_faultPlace, x_provedLeast, x_provedMost, x_packetLength, x_executed, x_ops, x_targets, x_sources, x_offsets, x_immediates, x_lengths, x_kinds, x_los, x_his, x_reached, x_branchAt, x_branchSafe, x_branchKinds, x_branchLos, x_branchHis, x_packet, x_registers, x_cells, x_keyWords, x_keyTaken) (nI (80 + a)) := by
      intro post U C
      refine xk_go hi (by omega) (by omega) es ed no (by rw [eo, em]; exact U) ?_
      rw [eo, em]
      intro nu K L H eK eL eH
      subst eK eL eH
      have w := C nu
      rcases t with t | t
      · rw [t]; exact br_f (by decide) (br_f (by decide) (br_f (by decide) (br_f (by decide) (br_t rfl w))))
      · rw [t]; exact br_f (by decide) (br_f (by decide) (br_f (by decide) (br_f (by decide) (br_f (by decide) (br_t rfl w)))))
    have ef' : x_ops (80 + a) - x_ops (80 + a) / 10 * 10 = nI f := by rw [eo]; exact f4
    have o20 : ¬ x_ops (80 + a) = 20 := by rw [eo]; exact f3
    have hk := (W9.1 d (by omega)).1
    by_cases u : un_ o (k9_ o x_kinds) d (q9_ o s)
    · exact F 2 _ _ _ (by decide) W9.2.2.2.1 (fun post z => into post (fun _ => z) (fun n => absurd u n)) (YP_k9 (yj_U ho hg eg hd hs W9 n9 (un.mp u)))
    · have nud : ¬ k9_ o x_kinds d = 0 := fun z => u (un.mpr (Or.inl z))
      have nuq : ¬ k9_ o x_kinds (q9_ o s) = 0 := fun z => u (un.mpr (Or.inr z))
      by_cases c : cm_ f (k9_ o x_kinds d) (k9_ o x_kinds (q9_ o s)) (l9_ o (imm.toInt64 &&& 4294967295) x_his (q9_ o s))
      · by_cases m : my_ (op_ f) d (q9_ o s) (k9_ o x_kinds) (l9_ o (imm.toInt64 &&& 4294967295) x_los) (l9_ o (imm.toInt64 &&& 4294967295) x_his)
        · by_cases m2 : my_ f d (q9_ o s) (k9_ o x_kinds) (l9_ o (imm.toInt64 &&& 4294967295) x_los) (l9_ o (imm.toInt64 &&& 4294967295) x_his)
          · have XB : ∀ post : Int32 → SX → Prop, post 0 (ln_S (op_ f) d (q9_ o s) (k9_ o x_kinds) (l9_ o (imm.toInt64 &&& 4294967295) x_los) x_safe, nI (a + 1), x_exitLeast, x_exitMost, nI (b + 1), x_faultPlace, x_provedLeast, x_provedMost, x_packetLength, x_executed, x_ops, x_targets, x_sources, x_offsets, x_immediates, x_lengths, ln_K (op_ f) d (k9_ o x_kinds), ln_L (op_ f) d (q9_ o s) (k9_ o x_kinds) (l9_ o (imm.toInt64 &&& 4294967295) x_los) (l9_ o (imm.toInt64 &&& 4294967295) x_his), ln_H (op_ f) d (q9_ o s) (k9_ o x_kinds) (l9_ o (imm.toInt64 &&& 4294967295) x_los) (l9_ o (imm.toInt64 &&& 4294967295) x_his), x_reached, upd x_branchAt b (nI a), vp_updL x_branchSafe b x_safe, sv_ x_branchKinds b (k9_ o x_kinds) 16, sv_ x_branchLos b (l9_ o (imm.toInt64 &&& 4294967295) x_los) 16, sv_ x_branchHis b (l9_ o (imm.toInt64 &&& 4294967295) x_his) 16, x_packet, x_registers, x_cells, x_keyWords, x_keyTaken) → wpX_check post (x_safe, nI a, x_exitLeast, x_exitMost, nI b, x_faultPlace, x_provedLeast, x_provedMost, x_packetLength, x_executed, x_ops, x_targets, x_sources, x_offsets, x_immediates, x_lengths, x_kinds, x_los, x_his, x_reached, x_branchAt, x_branchSafe, x_branchKinds, x_branchLos, x_branchHis, x_packet, x_registers, x_cells, x_keyWords, x_keyTaken) (nI (80 + a)) := fun post z => into post (fun n => absurd n u) (fun _ => xv_jB hi ho.1 ho.2.1 (by omega) hq hb o20 ef' ed hk c m m2 z)
            obtain ⟨o1, o4⟩ := op_r ho.1 ho.2.1
            rcases c with ⟨k1, k2⟩ | ⟨k1, f2', k2, h0⟩ | ⟨k1, f3', k2⟩ | ⟨k1, f3', k2⟩
            · exact B g f _ _ _ hg eg ho XB (yj_SB ho hg eg hd hs W9 n9 k1 k2 m m2 rfl) (sj_SB ho eg hd hs W9 n9 k1 k2 rfl) W9 (wf_lnS W9 ho.1 ho.2.1 hd hq k1 k2 m2 m) (wf_lnS W9 o1 o4 hd hq k1 k2 m (by rw [op_op ho.1 ho.2.1]; exact m2)) ⟨rfl, rfl, rfl⟩
            · exact B g f _ _ _ hg eg ho XB (yj_MB ho hg eg hd hs W9 n9 k1 f2' k2 h0 rfl) (sj_MB ho eg hd hs W9 n9 k1 f2' k2 h0 rfl) W9 (wf_lnM W9 k1) (wf_lnM W9 k1) ⟨rfl, rfl, rfl⟩
            · exact B g f _ _ _ hg eg ho XB (yj_PB ho hg eg hd hs W9 n9 k1 f3' k2 rfl) (sj_PB ho eg hd hs W9 n9 k1 f3' k2 rfl) W9 (wf_lnP W9 hd k1) (wf_lnP W9 hd k1) ⟨rfl, rfl, rfl⟩
            · exact B g f _ _ _ hg eg ho XB (yj_EB ho hg eg hd hs W9 n9 k1 f3' k2 rfl) (sj_EB ho eg hd hs W9 n9 k1 f3' k2 rfl) W9 (wf_lnE W9 hq k1 k2) (wf_lnE W9 hq k1 k2) ⟨rfl, rfl, rfl⟩
          · have k1 : k9_ o x_kinds d = 1 := Classical.byContradiction fun n => m2 (fun y => absurd y n)
            have k2 : k9_ o x_kinds (q9_ o s) = 1 := by
              rcases c with c | c | c | c
              · exact c.2
              · exact absurd (k1.symm.trans c.1) (by decide)
              · exact absurd (k1.symm.trans c.1) (by decide)
              · exact absurd (k1.symm.trans c.1) (by decide)
            exact N _ _ _ (fun post z => into post (fun n => absurd n u) (fun _ => xv_jP hi ho.1 ho.2.1 (by omega) hq o20 ef' ed hk c m m2 z)) (YP_k9 (yj_SN ho hg eg hd hs W9 n9 k1 k2 m m2)) (SP_k9 (sj_SN ho eg hd hs W9 n9 k1 k2 m2)) W9
        · have k1 : k9_ o x_kinds d = 1 := Classical.byContradiction fun n => m (fun y => absurd y n)
          have k2 : k9_ o x_kinds (q9_ o s) = 1 := by
            rcases c with c | c | c | c
            · exact c.2
            · exact absurd (k1.symm.trans c.1) (by decide)
            · exact absurd (k1.symm.trans c.1) (by decide)
            · exact absurd (k1.symm.trans c.1) (by decide)
          exact G g _ _ _ hg eg (fun post z => into post (fun n => absurd n u) (fun _ => xv_jO hi ho.1 ho.2.1 (by omega) hq hn (by omega) hg hl (ef.trans eg) o20 ef' ed hk c m z)) (yj_SG ho hg eg hd hs W9 n9 k1 k2 m) (sj_SG ho eg hd hs W9 n9 k1 k2 m) W9 ⟨rfl, rfl, rfl⟩
      · exact F 3 _ _ _ (by decide) W9.2.2.2.1 (fun post z => into post (fun n => absurd n u) (fun _ => xv_jK hi ho.1 ho.2.1 (by omega) hq o20 ef' ed hk c z)) (YP_k9 (yj_K ho hg eg hd hs W9 n9 nud nuq c))
  · refine F 1 _ _ _ (by decide) W.2.2.2.1 (fun post q => xk_out hi ?_ q) (yj_out f1 f2 z)
    rw [eo, ef]; exact Or.inl ⟨t, z⟩
end
end
section
def Pg_ (A1 A2 A3 A4 A5 : Nat → Int32) (p n : Nat) (po pd ps pf pm : Nat → Int32) : Prop := ∀ j, j < n → A1 (40 * p + j) = po j ∧ A2 (40 * p + j) = pd j ∧ A3 (40 * p + j) = ps j ∧ A4 (40 * p + j) = pf j ∧ A5 (40 * p + j) = pm j
/-- from place i, with what is known, both machines come to the same end -/
def Sf_ (po pd ps pf pm : Nat → Int32) (n i : Nat) (K : Nat → Int32) (L H : Nat → Int64) (S : Int64) : Prop := i < n ∧ ∀ (π : Nat → Nat) (rg ce : Nat → Int64) (kt : Nat → Int32) (kw : Nat → Int64) (tg : Nat → Int32) (wd ks vs : Nat → Int64) (mn : Nat → Int32) (b : Nat) (pX pY : Nat → Int32), Con_ K L H S π rg ce kt kw tg wd ks vs mn b → b ≤ 24 → (∀ j, pX j = pY j &&& 255) → ∃ (r : Int64) (st : Nat) (π' : Nat → Nat) (rg' ce' : Nat → Int64) (kt' : Nat → Int32) (kw' : Nat → Int64) (tg' : Nat → Int32) (wd' ks' vs' : Nat → Int64) (mn' : Nat → Int32), Mp_ π' kt' kw' ce' ks' vs' mn' ∧
  (∀ (x_safe : Int64) (x_at : Int32) (x_exitLeast : Int64) (x_exitMost : Int64) (x_branches : Int32) (x_faultPlace : Int32) (x_provedLeast : Int64) (x_provedMost : Int64) (x_packetLength : Int32) (x_executed : Int32) (x_ops : Nat → Int32) (x_targets : Nat → Int32) (x_sources : Nat → Int32) (x_offsets : Nat → Int32) (x_immediates : Nat → Int32) (x_lengths : Nat → Int32) (x_kinds : Nat → Int32) (x_los : Nat → Int64) (x_his : Nat → Int64) (x_reached : Nat → Int32) (x_branchAt : Nat → Int32) (x_branchSafe : Nat → Int64) (x_branchKinds : Nat → Int32) (x_branchLos : Nat → Int64) (x_branchHis : Nat → Int64) (x_packet : Nat → Int32) (x_registers : Nat → Int64) (x_cells : Nat → Int64) (x_keyWords : Nat → Int64) (x_keyTaken : Nat → Int32) (p t fu : Nat) (post : Int64 → SX → Prop), p < 2 → Pg_ x_ops x_targets x_sources x_offsets x_immediates p n po pd ps pf pm → x_lengths p = nI n → t ≤ i → 41 ≤ fu + i → post r (x_safe, x_at, x_exitLeast, x_exitMost, x_branches, x_faultPlace, x_provedLeast, x_provedMost, nI b, x_executed + nI st, x_ops, x_targets, x_sources, x_offsets, x_immediates, x_lengths, x_kinds, x_los, x_his, x_reached, x_branchAt, x_branchSafe, x_branchKinds, x_branchLos, x_branchHis, pX, rg', ce', kw', kt') → wX_run_61 post (nI p) fu (nI i) (nI t) x_safe x_at x_exitLeast x_exitMost x_branches x_faultPlace x_provedLeast x_provedMost (nI b) x_executed x_ops x_targets x_sources x_offsets x_immediates x_lengths x_kinds x_los x_his x_reached x_branchAt x_branchSafe x_branchKinds x_branchLos x_branchHis pX rg ce kw kt) ∧
  (∀ (y_place : Int32) (y_least : Int64) (y_most : Int64) (y_smallest : Int64) (y_greatest : Int64) (y_ways : Int32) (y_fault : Int32) (y_base : Int32) (y_otherKind : Int32) (y_otherLo : Int64) (y_otherHi : Int64) (y_low : Int64) (y_high : Int64) (y_bytes : Int32) (y_steps : Int32) (y_op : Nat → Int32) (y_first : Nat → Int32) (y_second : Nat → Int32) (y_offset : Nat → Int32) (y_given : Nat → Int32) (y_length : Nat → Int32) (y_there : Nat → Int32) (y_known : Nat → Int32) (y_lo : Nat → Int64) (y_hi : Nat → Int64) (y_at : Nat → Int32) (y_lookups : Nat → Int32) (y_safe : Nat → Int32) (y_met : Nat → Int32) (y_tag : Nat → Int32) (y_word : Nat → Int64) (y_packet : Nat → Int32) (y_keys : Nat → Int64) (y_values : Nat → Int64) (y_many : Nat → Int32) (p fu : Nat) (post : Int64 → SY → Prop), p < 2 → Pg_ y_op y_first y_second y_offset y_given p n po pd ps pf pm → 41 ≤ fu + i → post r (y_place, y_least, y_most, y_smallest, y_greatest, y_ways, y_fault, y_base, y_otherKind, y_otherLo, y_otherHi, y_low, y_high, nI b, y_steps + nI st, y_op, y_first, y_second, y_offset, y_given, y_length, y_there, y_known, y_lo, y_hi, y_at, y_lookups, y_safe, y_met, tg', wd', pY, ks', vs', mn') → wY_run_72 post (nI p) fu (nI i) y_place y_least y_most y_smallest y_greatest y_ways y_fault y_base y_otherKind y_otherLo y_otherHi y_low y_high (nI b) y_steps y_op y_first y_second y_offset y_given y_length y_there y_known y_lo y_hi y_at y_lookups y_safe y_met tg wd pY ks vs mn)
section
variable {x_safe : Int64} {x_at : Int32} {x_exitLeast : Int64} {x_exitMost : Int64} {x_branches : Int32} {x_faultPlace : Int32} {x_provedLeast : Int64} {x_provedMost : Int64} {x_packetLength : Int32} {x_executed : Int32} {x_ops : Nat → Int32} {x_targets : Nat → Int32} {x_sources : Nat → Int32} {x_offsets : Nat → Int32} {x_immediates : Nat → Int32} {x_lengths : Nat → Int32} {x_kinds : Nat → Int32} {x_los : Nat → Int64} {x_his : Nat → Int64} {x_reached : Nat → Int32} {x_branchAt : Nat → Int32} {x_branchSafe : Nat → Int64} {x_branchKinds : Nat → Int32} {x_branchLos : Nat → Int64} {x_branchHis : Nat → Int64} {x_packet : Nat → Int32} {x_registers : Nat → Int64} {x_cells : Nat → Int64} {x_keyWords : Nat → Int64} {x_keyTaken : Nat → Int32}
theorem xr_st {post : Int64 → SX → Prop} {p i t n fu : Nat} {o : Int32} (hp : p < 2) (hn : n ≤ 40) (hi : i < n) (ht : t ≤ i) (el : x_lengths p = nI n) (eo : x_ops (40 * p + i) = o) (A : o = 60 → post (x_registers 0) (x_safe, x_at, x_exitLeast, x_exitMost, x_branches, x_faultPlace, x_provedLeast, x_provedMost, x_packetLength, x_executed + 1, x_ops, x_targets, x_sources, x_offsets, x_immediates, x_lengths, x_kinds, x_los, x_his, x_reached, x_branchAt, x_branchSafe, x_branchKinds, x_branchLos, x_branchHis, x_packet, x_registers, x_cells, x_keyWords, x_keyTaken)) (B : ¬ o = 60 → wpX_perform (fun r u => match u with | (x_safe, x_at, x_exitLeast, x_exitMost, x_branches, x_faultPlace, x_provedLeast, x_provedMost, x_packetLength, x_executed, x_ops, x_targets, x_sources, x_offsets, x_immediates, x_lengths, x_kinds, x_los, x_his, x_reached, x_branchAt, x_branchSafe, x_branchKinds, x_branchLos, x_branchHis, x_packet, x_registers, x_cells, x_keyWords, x_keyTaken) => (((r = 0 → (wX_run_61 post (nI p) fu (nI (i + 1)) (nI (t + 1)) x_safe x_at x_exitLeast x_exitMost x_branches x_faultPlace x_provedLeast x_provedMost x_packetLength x_executed x_ops x_targets x_sources x_offsets x_immediates x_lengths x_kinds x_los x_his x_reached x_branchAt x_branchSafe x_branchKinds x_branchLos x_branchHis x_packet x_registers x_cells x_keyWords x_keyTaken)) ∧ (¬ r = 0 → (vp_in (nI (40 * p + i)) 120 ∧ (wX_run_61 post (nI p) fu (nI i + (x_offsets (nI (40 * p + i)).toNatClampNeg + 1)) (nI (t + 1)) x_safe x_at x_exitLeast x_exitMost x_branches x_faultPlace x_provedLeast x_provedMost x_packetLength x_executed x_ops x_targets x_sources x_offsets x_immediates x_lengths x_kinds x_los x_his x_reached x_branchAt x_branchSafe x_branchKinds x_branchLos x_branchHis x_packet x_registers x_cells x_keyWords x_keyTaken)))))) (x_safe, x_at, x_exitLeast, x_exitMost, x_branches, x_faultPlace, x_provedLeast, x_provedMost, x_packetLength, x_executed + 1, x_ops, x_targets, x_sources, x_offsets, x_immediates, x_lengths, x_kinds, x_los, x_his, x_reached, x_branchAt, x_branchSafe, x_branchKinds, x_branchLos, x_branchHis, x_packet, x_registers, x_cells, x_keyWords, x_keyTaken) (nI (40 * p + i))) : wX_run_61 post (nI p) (fu + 1) (nI i) (nI t) x_safe x_at x_exitLeast x_exitMost x_branches x_faultPlace x_provedLeast x_provedMost x_packetLength x_executed x_ops x_targets x_sources x_offsets x_immediates x_lengths x_kinds x_los x_his x_reached x_branchAt x_branchSafe x_branchKinds x_branchLos x_branchHis x_packet x_registers x_cells x_keyWords x_keyTaken := by
  have vp : vp_in (nI p) 3 := vp_in_nI (by omega) (by decide)
  have cp : (nI p).toNatClampNeg = p := nI_clamp (by omega)
  have v : vp_in (nI (40 * p + i)) 120 := vp_in_nI (by omega) (by decide)
  have c : (nI (40 * p + i)).toNatClampNeg = 40 * p + i := nI_clamp (by omega)
  refine br_f (by rw [xb_le40 (by omega)]; omega) (br_f (xb_lt0 (by omega)) ⟨vp, br_t (by rw [cp, el, nI_ltI (by omega) (by omega)]; exact hi) (nm_r (e' := nI (40 * p + i)) (by rw [xb_mur40, nI_add, Nat.mul_comm]) (nm_e ⟨v, ?_⟩))⟩)
  refine br_c (fun z => ?_) (fun z => ?_)
  · rw [c, eo] at z; exact A z
  · rw [c, eo] at z
    have G := B z
    simp only [nI_1 i, nI_1 t, forall_eq]
    exact G
end
section
variable {po pd ps pf pm : Nat → Int32} {n i : Nat} {K : Nat → Int32} {L H : Nat → Int64} {S : Int64}
theorem Sf_k9 {o : Int32} {w : Int64} (s : Sf_ po pd ps pf pm n i (k9_ o K) (l9_ o w L) (l9_ o w H) S) : Sf_ po pd ps pf pm n i K L H S :=
  ⟨s.1, fun π rg ce kt kw tg wd ks vs mn b pX pY C hb hp => s.2 π rg ce kt kw tg wd ks vs mn b pX pY (Con_k9 C) hb hp⟩
theorem Sf_exit (hn : n ≤ 40) (hi : i < n) (eo : po i = 60) (W : WF_ K L H S) (k : K 0 = 1) : Sf_ po pd ps pf pm n i K L H S := by
  refine ⟨hi, fun π rg ce kt kw tg wd ks vs mn b pX pY C hb hp => ?_⟩
  have v := Con_s W C (s := 0) (by omega)
  rw [if_neg (by omega), if_neg (by omega)] at v
  obtain ⟨-, e, -⟩ := v.1 k
  refine ⟨rg 0, 1, π, rg, ce, kt, kw, tg, wd, ks, vs, mn, C.2.2.2, ?_, ?_⟩
  · intro x_safe x_at x_exitLeast x_exitMost x_branches x_faultPlace x_provedLeast x_provedMost x_packetLength x_executed x_ops x_targets x_sources x_offsets x_immediates x_lengths x_kinds x_los x_his x_reached x_branchAt x_branchSafe x_branchKinds x_branchLos x_branchHis x_packet x_registers x_cells x_keyWords x_keyTaken p t fu post h2 G el ht hf P
    obtain ⟨f, rfl⟩ : ∃ f, fu = f + 1 := ⟨fu - 1, by omega⟩
    exact xr_st h2 hn hi ht el ((G i hi).1.trans eo) (fun _ => P) (fun z => absurd rfl z)
  · intro y_place y_least y_most y_smallest y_greatest y_ways y_fault y_base y_otherKind y_otherLo y_otherHi y_low y_high y_bytes y_steps y_op y_first y_second y_offset y_given y_length y_there y_known y_lo y_hi y_at y_lookups y_safe y_met y_tag y_word y_packet y_keys y_values y_many p fu post h2 G hf P
    obtain ⟨f, rfl⟩ : ∃ f, fu = f + 1 := ⟨fu - 1, by omega⟩
    refine ⟨by rw [xb_mul40, nI_add]; exact vp_in_nI (by omega) (by decide), br_t ?_ (nm_e ?_)⟩
    · rw [xb_mul40, nI_add, nI_clamp (by omega)]; exact (G i hi).1.trans eo
    · rw [e]; exact P
theorem sf_add (x : Int32) (k : Nat) : x + nI (k + 1) = x + 1 + nI k := by
  rw [Int32.add_assoc, ← nI_1, Int32.add_comm (nI k)]
/-- one step and what comes behind it -/
theorem sf_x {o off imm : Int32} {d s j : Nat} {r : Int32} {b st : Nat} {pX : Nat → Int32} {rg ce kw rg1 ce1 kw1 rg2 ce2 kw2 : Nat → Int64} {kt kt1 kt2 : Nat → Int32} {res : Int64} (hn : n ≤ 40) (hi : i < n) (eo : po i = o) (ed : pd i = nI d) (es : ps i = nI s) (ef : pf i = off) (em : pm i = imm) (n60 : ¬ o = 60) (hj : (r = 0 ∧ j = i + 1) ∨ (r = 1 ∧ ∃ g, off = nI g ∧ j = i + 1 + g)) (X : XS_ o d s off imm b pX rg ce kw kt r rg1 ce1 kw1 kt1) (Y : ∀ (x_safe : Int64) (x_at : Int32) (x_exitLeast : Int64) (x_exitMost : Int64) (x_branches : Int32) (x_faultPlace : Int32) (x_provedLeast : Int64) (x_provedMost : Int64) (x_packetLength : Int32) (x_executed : Int32) (x_ops : Nat → Int32) (x_targets : Nat → Int32) (x_sources : Nat → Int32) (x_offsets : Nat → Int32) (x_immediates : Nat → Int32) (x_lengths : Nat → Int32) (x_kinds : Nat → Int32) (x_los : Nat → Int64) (x_his : Nat → Int64) (x_reached : Nat → Int32) (x_branchAt : Nat → Int32) (x_branchSafe : Nat → Int64) (x_branchKinds : Nat → Int32) (x_branchLos : Nat → Int64) (x_branchHis : Nat → Int64) (x_packet : Nat → Int32) (x_registers : Nat → Int64) (x_cells : Nat → Int64) (x_keyWords : Nat → Int64) (x_keyTaken : Nat → Int32) (p t fu : Nat) (post : Int64 → SX → Prop), p < 2 → Pg_ x_ops x_targets x_sources x_offsets x_immediates p n po pd ps pf pm → x_lengths p = nI n → t ≤ j → 41 ≤ fu + j → post res (x_safe, x_at, x_exitLeast, x_exitMost, x_branches, x_faultPlace, x_provedLeast, x_provedMost, nI b, x_executed + nI st, x_ops, x_targets, x_sources, x_offsets, x_immediates, x_lengths, x_kinds, x_los, x_his, x_reached, x_branchAt, x_branchSafe, x_branchKinds, x_branchLos, x_branchHis, pX, rg2, ce2, kw2, kt2) → wX_run_61 post (nI p) fu (nI j) (nI t) x_safe x_at x_exitLeast x_exitMost x_branches x_faultPlace x_provedLeast x_provedMost (nI b) x_executed x_ops x_targets x_sources x_offsets x_immediates x_lengths x_kinds x_los x_his x_reached x_branchAt x_branchSafe x_branchKinds x_branchLos x_branchHis pX rg1 ce1 kw1 kt1) : ∀ (x_safe : Int64) (x_at : Int32) (x_exitLeast : Int64) (x_exitMost : Int64) (x_branches : Int32) (x_faultPlace : Int32) (x_provedLeast : Int64) (x_provedMost : Int64) (x_packetLength : Int32) (x_executed : Int32) (x_ops : Nat → Int32) (x_targets : Nat → Int32) (x_sources : Nat → Int32) (x_offsets : Nat → Int32) (x_immediates : Nat → Int32) (x_lengths : Nat → Int32) (x_kinds : Nat → Int32) (x_los : Nat → Int64) (x_his : Nat → Int64) (x_reached : Nat → Int32) (x_branchAt : Nat → Int32) (x_branchSafe : Nat → Int64) (x_branchKinds : Nat → Int32) (x_branchLos : Nat → Int64) (x_branchHis : Nat → Int64) (x_packet : Nat → Int32) (x_registers : Nat → Int64) (x_cells : Nat → Int64) (x_keyWords : Nat → Int64) (x_keyTaken : Nat → Int32) (p t fu : Nat) (post : Int64 → SX → Prop), p < 2 → Pg_ x_ops x_targets x_sources x_offsets x_immediates p n po pd ps pf pm → x_lengths p = nI n → t ≤ i → 41 ≤ fu + i → post res (x_safe, x_at, x_exitLeast, x_exitMost, x_branches, x_faultPlace, x_provedLeast, x_provedMost, nI b, x_executed + nI (st + 1), x_ops, x_targets, x_sources, x_offsets, x_immediates, x_lengths, x_kinds, x_los, x_his, x_reached, x_branchAt, x_branchSafe, x_branchKinds, x_branchLos, x_branchHis, pX, rg2, ce2, kw2, kt2) → wX_run_61 post (nI p) fu (nI i) (nI t) x_safe x_at x_exitLeast x_exitMost x_branches x_faultPlace x_provedLeast x_provedMost (nI b) x_executed x_ops x_targets x_sources x_offsets x_immediates x_lengths x_kinds x_los x_his x_reached x_branchAt x_branchSafe x_branchKinds x_branchLos x_branchHis pX rg ce kw kt := by
  intro x_safe x_at x_exitLeast x_exitMost x_branches x_faultPlace x_provedLeast x_provedMost x_packetLength x_executed x_ops x_targets x_sources x_offsets x_immediates x_lengths x_kinds x_los x_his x_reached x_branchAt x_branchSafe x_branchKinds x_branchLos x_branchHis x_packet x_registers x_cells x_keyWords x_keyTaken p t fu post h2 G el ht hf P
  obtain ⟨f, rfl⟩ : ∃ f, fu = f + 1 := ⟨fu - 1, by omega⟩
  obtain ⟨g1, g2, g3, g4, g5⟩ := G i hi
  refine xr_st h2 hn hi ht el (g1.trans eo) (fun z => absurd z n60) (fun _ => ?_)
  refine X x_safe x_at x_exitLeast x_exitMost x_branches x_faultPlace x_provedLeast x_provedMost x_packetLength (x_executed + 1) x_ops x_targets x_sources x_offsets x_immediates x_lengths x_kinds x_los x_his x_reached x_branchAt x_branchSafe x_branchKinds x_branchLos x_branchHis x_packet x_registers x_cells x_keyWords x_keyTaken (40 * p + i) _ (by omega) (g1.trans eo) (g2.trans ed) (g3.trans es) (g4.trans ef) (g5.trans em) ?_
  rw [sf_add] at P
  rcases hj with ⟨rfl, rfl⟩ | ⟨rfl, g, eg, rfl⟩
  · exact br_t rfl (Y x_safe x_at x_exitLeast x_exitMost x_branches x_faultPlace x_provedLeast x_provedMost x_packetLength (x_executed + 1) x_ops x_targets x_sources x_offsets x_immediates x_lengths x_kinds x_los x_his x_reached x_branchAt x_branchSafe x_branchKinds x_branchLos x_branchHis x_packet x_registers x_cells x_keyWords x_keyTaken p (t + 1) f post h2 G el (by omega) (by omega) P)
  · refine br_f (by decide) ⟨vp_in_nI (by omega) (by decide), ?_⟩
    rw [nI_clamp (n := 40 * p + i) (by omega), g4, ef, eg, nI_1, nI_add, show i + (g + 1) = i + 1 + g from by omega]
    exact Y x_safe x_at x_exitLeast x_exitMost x_branches x_faultPlace x_provedLeast x_provedMost x_packetLength (x_executed + 1) x_ops x_targets x_sources x_offsets x_immediates x_lengths x_kinds x_los x_his x_reached x_branchAt x_branchSafe x_branchKinds x_branchLos x_branchHis x_packet x_registers x_cells x_keyWords x_keyTaken p (t + 1) f post h2 G el (by omega) (by omega) P
theorem sf_y {o off imm : Int32} {d s δ : Nat} {b st : Nat} {pY : Nat → Int32} {wd ks vs wd1 ks1 vs1 wd2 ks2 vs2 : Nat → Int64} {tg mn tg1 mn1 tg2 mn2 : Nat → Int32} {res : Int64} (hn : n ≤ 40) (hi : i < n) (eo : po i = o) (ed : pd i = nI d) (es : ps i = nI s) (ef : pf i = off) (em : pm i = imm) (n60 : ¬ o = 60) (hδ : 1 ≤ δ) (X : YS_ o d s off imm b pY tg wd ks vs mn δ tg1 wd1 ks1 vs1 mn1) (Y : ∀ (y_place : Int32) (y_least : Int64) (y_most : Int64) (y_smallest : Int64) (y_greatest : Int64) (y_ways : Int32) (y_fault : Int32) (y_base : Int32) (y_otherKind : Int32) (y_otherLo : Int64) (y_otherHi : Int64) (y_low : Int64) (y_high : Int64) (y_bytes : Int32) (y_steps : Int32) (y_op : Nat → Int32) (y_first : Nat → Int32) (y_second : Nat → Int32) (y_offset : Nat → Int32) (y_given : Nat → Int32) (y_length : Nat → Int32) (y_there : Nat → Int32) (y_known : Nat → Int32) (y_lo : Nat → Int64) (y_hi : Nat → Int64) (y_at : Nat → Int32) (y_lookups : Nat → Int32) (y_safe : Nat → Int32) (y_met : Nat → Int32) (y_tag : Nat → Int32) (y_word : Nat → Int64) (y_packet : Nat → Int32) (y_keys : Nat → Int64) (y_values : Nat → Int64) (y_many : Nat → Int32) (p fu : Nat) (post : Int64 → SY → Prop), p < 2 → Pg_ y_op y_first y_second y_offset y_given p n po pd ps pf pm → 41 ≤ fu + (i + δ) → post res (y_place, y_least, y_most, y_smallest, y_greatest, y_ways, y_fault, y_base, y_otherKind, y_otherLo, y_otherHi, y_low, y_high, nI b, y_steps + nI st, y_op, y_first, y_second, y_offset, y_given, y_length, y_there, y_known, y_lo, y_hi, y_at, y_lookups, y_safe, y_met, tg2, wd2, pY, ks2, vs2, mn2) → wY_run_72 post (nI p) fu (nI (i + δ)) y_place y_least y_most y_smallest y_greatest y_ways y_fault y_base y_otherKind y_otherLo y_otherHi y_low y_high (nI b) y_steps y_op y_first y_second y_offset y_given y_length y_there y_known y_lo y_hi y_at y_lookups y_safe y_met tg1 wd1 pY ks1 vs1 mn1) : ∀ (y_place : Int32) (y_least : Int64) (y_most : Int64) (y_smallest : Int64) (y_greatest : Int64) (y_ways : Int32) (y_fault : Int32) (y_base : Int32) (y_otherKind : Int32) (y_otherLo : Int64) (y_otherHi : Int64) (y_low : Int64) (y_high : Int64) (y_bytes : Int32) (y_steps : Int32) (y_op : Nat → Int32) (y_first : Nat → Int32) (y_second : Nat → Int32) (y_offset : Nat → Int32) (y_given : Nat → Int32) (y_length : Nat → Int32) (y_there : Nat → Int32) (y_known : Nat → Int32) (y_lo : Nat → Int64) (y_hi : Nat → Int64) (y_at : Nat → Int32) (y_lookups : Nat → Int32) (y_safe : Nat → Int32) (y_met : Nat → Int32) (y_tag : Nat → Int32) (y_word : Nat → Int64) (y_packet : Nat → Int32) (y_keys : Nat → Int64) (y_values : Nat → Int64) (y_many : Nat → Int32) (p fu : Nat) (post : Int64 → SY → Prop), p < 2 → Pg_ y_op y_first y_second y_offset y_given p n po pd ps pf pm → 41 ≤ fu + i → post res (y_place, y_least, y_most, y_smallest, y_greatest, y_ways, y_fault, y_base, y_otherKind, y_otherLo, y_otherHi, y_low, y_high, nI b, y_steps + nI (st + 1), y_op, y_first, y_second, y_offset, y_given, y_length, y_there, y_known, y_lo, y_hi, y_at, y_lookups, y_safe, y_met, tg2, wd2, pY, ks2, vs2, mn2) → wY_run_72 post (nI p) fu (nI i) y_place y_least y_most y_smallest y_greatest y_ways y_fault y_base y_otherKind y_otherLo y_otherHi y_low y_high (nI b) y_steps y_op y_first y_second y_offset y_given y_length y_there y_known y_lo y_hi y_at y_lookups y_safe y_met tg wd pY ks vs mn := by
  intro y_place y_least y_most y_smallest y_greatest y_ways y_fault y_base y_otherKind y_otherLo y_otherHi y_low y_high y_bytes y_steps y_op y_first y_second y_offset y_given y_length y_there y_known y_lo y_hi y_at y_lookups y_safe y_met y_tag y_word y_packet y_keys y_values y_many p fu post h2 G hf P
  obtain ⟨f, rfl⟩ : ∃ f, fu = f + 1 := ⟨fu - 1, by omega⟩
  obtain ⟨g1, g2, g3, g4, g5⟩ := G i hi
  have e : 40 * nI p + nI i = nI (40 * p + i) := by rw [xb_mul40, nI_add]
  refine ⟨by rw [e]; exact vp_in_nI (by omega) (by decide), br_f (by rw [e, nI_clamp (by omega), g1, eo]; exact n60) ?_⟩
  rw [e]
  refine X y_place y_least y_most y_smallest y_greatest y_ways y_fault y_base y_otherKind y_otherLo y_otherHi y_low y_high y_bytes y_steps y_op y_first y_second y_offset y_given y_length y_there y_known y_lo y_hi y_at y_lookups y_safe y_met y_tag y_word y_packet y_keys y_values y_many (40 * p + i) i _ (by omega) (g1.trans eo) (g2.trans ed) (g3.trans es) (g4.trans ef) (g5.trans em) ?_
  rw [sf_add] at P
  exact nm_e (Y y_place y_least y_most y_smallest y_greatest y_ways y_fault y_base y_otherKind y_otherLo y_otherHi y_low y_high y_bytes (y_steps + 1) y_op y_first y_second y_offset y_given y_length y_there y_known y_lo y_hi y_at y_lookups y_safe y_met y_tag y_word y_packet y_keys y_values y_many p f post h2 G (by omega) P)
theorem Sf_plain {o off imm : Int32} {d s : Nat} {K' : Nat → Int32} {L' H' : Nat → Int64} (hn : n ≤ 40) (hi : i < n) (eo : po i = o) (ed : pd i = nI d) (es : ps i = nI s) (ef : pf i = off) (em : pm i = imm) (n60 : ¬ o = 60) (sp : SP_ o d s off imm K L H S K' L' H') (nx : Sf_ po pd ps pf pm n (i + 1) K' L' H' S) : Sf_ po pd ps pf pm n i K L H S := by
  refine ⟨hi, fun π rg ce kt kw tg wd ks vs mn b pX pY C hb hp => ?_⟩
  obtain ⟨π1, rg1, ce1, kt1, kw1, tg1, wd1, ks1, vs1, mn1, C1, X1, Y1⟩ := sp π rg ce kt kw tg wd ks vs mn b pX pY C hb hp
  obtain ⟨r, st, π2, rg2, ce2, kt2, kw2, tg2, wd2, ks2, vs2, mn2, M2, X2, Y2⟩ := nx.2 π1 rg1 ce1 kt1 kw1 tg1 wd1 ks1 vs1 mn1 b pX pY C1 hb hp
  exact ⟨r, st + 1, π2, rg2, ce2, kt2, kw2, tg2, wd2, ks2, vs2, mn2, M2, sf_x hn hi eo ed es ef em n60 (Or.inl ⟨rfl, rfl⟩) X1 X2, sf_y hn hi eo ed es ef em n60 (Nat.le_refl _) Y1 Y2⟩
theorem gl_lt {a g : Nat} (h : gl_ n a g < n) : gl_ n a g = a + (1 + g) := by
  unfold gl_ at h ⊢
  split at h
  · omega
  · next z => rw [if_neg z]; omega
theorem Sf_goal {o off imm : Int32} {d s g : Nat} (hn : n ≤ 40) (hi : i < n) (eo : po i = o) (ed : pd i = nI d) (es : ps i = nI s) (ef : pf i = off) (em : pm i = imm) (n60 : ¬ o = 60) (eg : off = nI g) (sp : SG_ o d s off imm g K L H S) (nx : Sf_ po pd ps pf pm n (gl_ n i g) K L H S) : Sf_ po pd ps pf pm n i K L H S := by
  refine ⟨hi, fun π rg ce kt kw tg wd ks vs mn b pX pY C hb hp => ?_⟩
  obtain ⟨X1, Y1⟩ := sp π rg ce kt kw tg wd ks vs mn b pX pY C hb
  have e := gl_lt nx.1
  rw [e] at nx
  obtain ⟨r, st, π2, rg2, ce2, kt2, kw2, tg2, wd2, ks2, vs2, mn2, M2, X2, Y2⟩ := nx.2 π rg ce kt kw tg wd ks vs mn b pX pY C hb hp
  exact ⟨r, st + 1, π2, rg2, ce2, kt2, kw2, tg2, wd2, ks2, vs2, mn2, M2, sf_x hn hi eo ed es ef em n60 (Or.inr ⟨rfl, g, eg, by omega⟩) X1 X2, sf_y hn hi eo ed es ef em n60 (by omega) Y1 Y2⟩
theorem Sf_both {o off imm : Int32} {d s g : Nat} {KG KN : Nat → Int32} {LG HG LN HN : Nat → Int64} {SG SN : Int64} (hn : n ≤ 40) (hi : i < n) (eo : po i = o) (ed : pd i = nI d) (es : ps i = nI s) (ef : pf i = off) (em : pm i = imm) (n60 : ¬ o = 60) (eg : off = nI g) (sp : SB_ o d s off imm g K L H S KG LG HG SG KN LN HN SN) (ng : Sf_ po pd ps pf pm n (gl_ n i g) KG LG HG SG) (nx : Sf_ po pd ps pf pm n (i + 1) KN LN HN SN) : Sf_ po pd ps pf pm n i K L H S := by
  refine ⟨hi, fun π rg ce kt kw tg wd ks vs mn b pX pY C hb hp => ?_⟩
  rcases sp π rg ce kt kw tg wd ks vs mn b pX pY C hb with ⟨C1, X1, Y1⟩ | ⟨C1, X1, Y1⟩
  · have e := gl_lt ng.1
    rw [e] at ng
    obtain ⟨r, st, π2, rg2, ce2, kt2, kw2, tg2, wd2, ks2, vs2, mn2, M2, X2, Y2⟩ := ng.2 π rg ce kt kw tg wd ks vs mn b pX pY C1 hb hp
    exact ⟨r, st + 1, π2, rg2, ce2, kt2, kw2, tg2, wd2, ks2, vs2, mn2, M2, sf_x hn hi eo ed es ef em n60 (Or.inr ⟨rfl, g, eg, by omega⟩) X1 X2, sf_y hn hi eo ed es ef em n60 (by omega) Y1 Y2⟩
  · obtain ⟨r, st, π2, rg2, ce2, kt2, kw2, tg2, wd2, ks2, vs2, mn2, M2, X2, Y2⟩ := nx.2 π rg ce kt kw tg wd ks vs mn b pX pY C1 hb hp
    exact ⟨r, st + 1, π2, rg2, ce2, kt2, kw2, tg2, wd2, ks2, vs2, mn2, M2, sf_x hn hi eo ed es ef em n60 (Or.inl ⟨rfl, rfl⟩) X1 X2, sf_y hn hi eo ed es ef em n60 (Nat.le_refl _) Y1 Y2⟩
end
end
section
def cd_ (o : Int32) : Prop := ¬ o ≤ 20 ∧ ¬ 40 ≤ o
def ok_ (o : Int32) : Prop := (∃ f, oa_ o f) ∨ o = 20 ∨ (∃ f, oj_ o f) ∨ (o = 40 ∨ o = 41 ∨ o = 42) ∨ (o = 50 ∨ o = 51 ∨ o = 52) ∨ o = 60
theorem cd_oj {o : Int32} {f : Nat} (h : oj_ o f) : cd_ o := by
  obtain ⟨h1, h4, h⟩ := h
  have e : f = 1 ∨ f = 2 ∨ f = 3 ∨ f = 4 := by omega
  unfold cd_
  rcases e with rfl | rfl | rfl | rfl <;> rcases h with rfl | rfl <;> decide
theorem cd_oa {o : Int32} {f : Nat} (h : oa_ o f) : ¬ cd_ o := fun z => z.1 (Int32.le_of_lt (oa_f h).1)
theorem cd_no {o : Int32} (h : o = 20 ∨ (o = 40 ∨ o = 41 ∨ o = 42) ∨ (o = 50 ∨ o = 51 ∨ o = 52) ∨ o = 60) : ¬ cd_ o := by
  unfold cd_
  rcases h with rfl | (rfl | rfl | rfl) | (rfl | rfl | rfl) | rfl <;> decide
noncomputable def cj_ (ops : Nat → Int32) (n : Nat) : Nat → Nat
  | 0 => 0
  | k + 1 => cj_ ops n k + @ite _ (k < n ∧ cd_ (ops (80 + k))) (Classical.propDecidable _) 1 0
section
variable {ops : Nat → Int32} {n : Nat}
theorem cj_t {k : Nat} (h : k < n) (c : cd_ (ops (80 + k))) : cj_ ops n (k + 1) = cj_ ops n k + 1 := by rw [cj_, if_pos ⟨h, c⟩]
theorem cj_f {k : Nat} (c : ¬ cd_ (ops (80 + k))) : cj_ ops n (k + 1) = cj_ ops n k := by rw [cj_, if_neg (fun z => c z.2), Nat.add_zero]
theorem cj_le (k : Nat) : cj_ ops n k ≤ cj_ ops n (k + 1) := by rw [cj_]; omega
theorem cj_mono {k l : Nat} (h : k ≤ l) : cj_ ops n k ≤ cj_ ops n l := by
  induction l with
  | zero => have : k = 0 := by omega
            subst this; omega
  | succ l ih =>
    by_cases z : k = l + 1
    · rw [z]; omega
    · have := ih (by omega)
      have := cj_le (ops := ops) (n := n) l
      omega
noncomputable def wt_ (ops : Nat → Int32) (n k : Nat) : Nat := (41 - k) * 2 ^ (10 - cj_ ops n k)
theorem wt_pos {k : Nat} (h : k ≤ 40) : 1 ≤ wt_ ops n k := by
  unfold wt_
  have : 0 < (41 - k) * 2 ^ (10 - cj_ ops n k) := Nat.mul_pos (by omega) (Nat.pow_pos (by decide))
  omega
theorem wt_lt {k l : Nat} (h : k < l) (hl : l ≤ 40) : wt_ ops n l < wt_ ops n k := by
  unfold wt_
  have c := cj_mono (ops := ops) (n := n) (show k ≤ l by omega)
  have p : 2 ^ (10 - cj_ ops n l) ≤ 2 ^ (10 - cj_ ops n k) := Nat.pow_le_pow_right (by decide) (by omega)
  have q : 0 < 2 ^ (10 - cj_ ops n k) := Nat.pow_pos (by decide)
  have a : (41 - l) * 2 ^ (10 - cj_ ops n l) ≤ (41 - l) * 2 ^ (10 - cj_ ops n k) := Nat.mul_le_mul_left _ p
  have b : (41 - l) * 2 ^ (10 - cj_ ops n k) < (41 - k) * 2 ^ (10 - cj_ ops n k) := Nat.mul_lt_mul_of_pos_right (by omega) q
  omega
/-- two ways from a conditional jump weigh less than it does -/
theorem wt_2 {k l : Nat} (hk : k < n) (c : cd_ (ops (80 + k))) (h : k < l) (hl : l ≤ 40) (h10 : cj_ ops n (k + 1) ≤ 10) : wt_ ops n (k + 1) + wt_ ops n l < wt_ ops n k := by
  have e := cj_t hk c
  have m := cj_mono (ops := ops) (n := n) (show k + 1 ≤ l by omega)
  unfold wt_
  obtain ⟨x, hx⟩ : ∃ x, 10 - cj_ ops n k = x + 1 := ⟨10 - cj_ ops n k - 1, by omega⟩
  have e1 : 10 - cj_ ops n (k + 1) = x := by omega
  have p : 2 ^ (10 - cj_ ops n l) ≤ 2 ^ x := Nat.pow_le_pow_right (by decide) (by omega)
  have q : 0 < 2 ^ x := Nat.pow_pos (by decide)
  rw [hx, e1, Nat.pow_succ]
  have a : (41 - l) * 2 ^ (10 - cj_ ops n l) ≤ (40 - k) * 2 ^ x := Nat.mul_le_mul (by omega) p
  have b : (41 - (k + 1)) * 2 ^ x = (40 - k) * 2 ^ x := by congr 1; omega
  have d : (41 - k) * (2 ^ x * 2) = (40 - k) * 2 ^ x + (40 - k) * 2 ^ x + 2 ^ x * 2 := by
    obtain ⟨y, hy⟩ : ∃ y, 41 - k = y + 1 := ⟨40 - k, by omega⟩
    have hz : 40 - k = y := by omega
    rw [hy, hz, Nat.add_mul, Nat.one_mul, ← Nat.mul_assoc, Nat.mul_two]
  omega
end
def ms_ (W : Nat → Nat) : Nat → Nat
  | 0 => 0
  | j + 1 => ms_ W j + W j
theorem ms_cong {W W' : Nat → Nat} : ∀ {w : Nat}, (∀ j, j < w → W' j = W j) → ms_ W' w = ms_ W w
  | 0, _ => rfl
  | w + 1, h => by rw [ms_, ms_, ms_cong (fun j hj => h j (by omega)), h w (by omega)]
def pl_ (n y : Nat) : Nat := if n ≤ y then n else y
theorem pl_gm {n a g : Nat} (hn : n ≤ 40) : pl_ n (gm_ a g) = gl_ n a g := by
  unfold pl_ gm_ gl_
  by_cases h : a + 1 + g ≤ 40
  · rw [if_pos h]
  · rw [if_neg h, if_pos hn, if_pos (by omega)]
theorem gl_gt {n a g : Nat} (h : a < n) : a < gl_ n a g ∧ gl_ n a g ≤ n := by
  unfold gl_; split <;> omega
end
section
section
variable {x_safe : Int64} {x_at : Int32} {x_exitLeast : Int64} {x_exitMost : Int64} {x_branches : Int32} {x_faultPlace : Int32} {x_provedLeast : Int64} {x_provedMost : Int64} {x_packetLength : Int32} {x_executed : Int32} {x_ops : Nat → Int32} {x_targets : Nat → Int32} {x_sources : Nat → Int32} {x_offsets : Nat → Int32} {x_immediates : Nat → Int32} {x_lengths : Nat → Int32} {x_kinds : Nat → Int32} {x_los : Nat → Int64} {x_his : Nat → Int64} {x_reached : Nat → Int32} {x_branchAt : Nat → Int32} {x_branchSafe : Nat → Int64} {x_branchKinds : Nat → Int32} {x_branchLos : Nat → Int64} {x_branchHis : Nat → Int64} {x_packet : Nat → Int32} {x_registers : Nat → Int64} {x_cells : Nat → Int64} {x_keyWords : Nat → Int64} {x_keyTaken : Nat → Int32}
theorem xl_out {post : Int32 → SX → Prop} {t N n : Nat} (ht : t < 1000000) (hn : n ≤ 40) (hl : x_lengths 2 = nI n) (H : post 1 (x_safe, nI n, x_exitLeast, x_exitMost, x_branches, x_faultPlace, x_provedLeast, x_provedMost, x_packetLength, x_executed, x_ops, x_targets, x_sources, x_offsets, x_immediates, x_lengths, x_kinds, x_los, x_his, x_reached, x_branchAt, x_branchSafe, x_branchKinds, x_branchLos, x_branchHis, x_packet, x_registers, x_cells, x_keyWords, x_keyTaken)) : wX_followPaths_6 post (N + 1) (nI t) x_safe (nI n) x_exitLeast x_exitMost x_branches x_faultPlace x_provedLeast x_provedMost x_packetLength x_executed x_ops x_targets x_sources x_offsets x_immediates x_lengths x_kinds x_los x_his x_reached x_branchAt x_branchSafe x_branchKinds x_branchLos x_branchHis x_packet x_registers x_cells x_keyWords x_keyTaken :=
  br_f (by rw [xb_le1000000 (by omega)]; omega) (br_f (by rw [hl, nI_ltI (by omega) (by omega)]; omega) H)
/-- into check, at a place inside -/
theorem xl_in {post : Int32 → SX → Prop} {t N n a : Nat} (ht : t < 1000000) (hn : n ≤ 40) (ha : a < n) (hl : x_lengths 2 = nI n) (H : wpX_check (fun r_37 u => match u with | (x_safe, x_at, x_exitLeast, x_exitMost, x_branches, x_faultPlace, x_provedLeast, x_provedMost, x_packetLength, x_executed, x_ops, x_targets, x_sources, x_offsets, x_immediates, x_lengths, x_kinds, x_los, x_his, x_reached, x_branchAt, x_branchSafe, x_branchKinds, x_branchLos, x_branchHis, x_packet, x_registers, x_cells, x_keyWords, x_keyTaken) => ((r_37 = 0 → (vp_in (nI (80 + a)) 120 ∧ (((x_ops (nI (80 + a)).toNatClampNeg) = 60 → ((x_branches = 0 → post 0 (x_safe, x_at, x_exitLeast, x_exitMost, x_branches, x_faultPlace, x_provedLeast, x_provedMost, x_packetLength, x_executed, x_ops, x_targets, x_sources, x_offsets, x_immediates, x_lengths, x_kinds, x_los, x_his, x_reached, x_branchAt, x_branchSafe, x_branchKinds, x_branchLos, x_branchHis, x_packet, x_registers, x_cells, x_keyWords, x_keyTaken)) ∧ (¬ x_branches = 0 → wpX_takeUpBranch (fun u => match u with | (x_safe, x_at, x_exitLeast, x_exitMost, x_branches, x_faultPlace, x_provedLeast, x_provedMost, x_packetLength, x_executed, x_ops, x_targets, x_sources, x_offsets, x_immediates, x_lengths, x_kinds, x_los, x_his, x_reached, x_branchAt, x_branchSafe, x_branchKinds, x_branchLos, x_branchHis, x_packet, x_registers, x_cells, x_keyWords, x_keyTaken) => wX_followPaths_6 post N (nI (t + 1)) x_safe x_at x_exitLeast x_exitMost x_branches x_faultPlace x_provedLeast x_provedMost x_packetLength x_executed x_ops x_targets x_sources x_offsets x_immediates x_lengths x_kinds x_los x_his x_reached x_branchAt x_branchSafe x_branchKinds x_branchLos x_branchHis x_packet x_registers x_cells x_keyWords x_keyTaken) (x_safe, x_at, x_exitLeast, x_exitMost, x_branches, x_faultPlace, x_provedLeast, x_provedMost, x_packetLength, x_executed, x_ops, x_targets, x_sources, x_offsets, x_immediates, x_lengths, x_kinds, x_los, x_his, x_reached, x_branchAt, x_branchSafe, x_branchKinds, x_branchLos, x_branchHis, x_packet, x_registers, x_cells, x_keyWords, x_keyTaken)))) ∧ (¬ (x_ops (nI (80 + a)).toNatClampNeg) = 60 → (vp_in (nI (80 + a)) 120 ∧ wpX_isJump (fun r_72 => ((r_72 = 0 → wX_followPaths_6 post N (nI (t + 1)) x_safe (x_at + 1) x_exitLeast x_exitMost x_branches x_faultPlace x_provedLeast x_provedMost x_packetLength x_executed x_ops x_targets x_sources x_offsets x_immediates x_lengths x_kinds x_los x_his x_reached x_branchAt x_branchSafe x_branchKinds x_branchLos x_branchHis x_packet x_registers x_cells x_keyWords x_keyTaken) ∧ (¬ r_72 = 0 → wX_followPaths_6 post N (nI (t + 1)) x_safe x_at x_exitLeast x_exitMost x_branches x_faultPlace x_provedLeast x_provedMost x_packetLength x_executed x_ops x_targets x_sources x_offsets x_immediates x_lengths x_kinds x_los x_his x_reached x_branchAt x_branchSafe x_branchKinds x_branchLos x_branchHis x_packet x_registers x_cells x_keyWords x_keyTaken))) (x_ops (nI (80 + a)).toNatClampNeg)))))) ∧ (¬ r_37 = 0 → post r_37 (x_safe, x_at, x_exitLeast, x_exitMost, x_branches, x_faultPlace, x_provedLeast, x_provedMost, x_packetLength, x_executed, x_ops, x_targets, x_sources, x_offsets, x_immediates, x_lengths, x_kinds, x_los, x_his, x_reached, x_branchAt, x_branchSafe, x_branchKinds, x_branchLos, x_branchHis, x_packet, x_registers, x_cells, x_keyWords, x_keyTaken)))) (x_safe, nI a, x_exitLeast, x_exitMost, x_branches, x_faultPlace, x_provedLeast, x_provedMost, x_packetLength, x_executed, x_ops, x_targets, x_sources, x_offsets, x_immediates, x_lengths, x_kinds, x_los, x_his, upd x_reached a 1, x_branchAt, x_branchSafe, x_branchKinds, x_branchLos, x_branchHis, x_packet, x_registers, x_cells, x_keyWords, x_keyTaken) (nI (80 + a))) : wX_followPaths_6 post (N + 1) (nI t) x_safe (nI a) x_exitLeast x_exitMost x_branches x_faultPlace x_provedLeast x_provedMost x_packetLength x_executed x_ops x_targets x_sources x_offsets x_immediates x_lengths x_kinds x_los x_his x_reached x_branchAt x_branchSafe x_branchKinds x_branchLos x_branchHis x_packet x_registers x_cells x_keyWords x_keyTaken := by
  have va : vp_in (nI a) 40 := vp_in_nI (by omega) (by decide)
  refine br_f (by rw [xb_le1000000 (by omega)]; omega) (br_t (by rw [hl, nI_ltI (by omega) (by omega)]; exact ha) ⟨va, nm_r (e' := upd x_reached a 1) (by rw [nI_clamp (by omega), xb_bt]) (nm_r (xb_add80 a) ?_)⟩)
  simp only [nI_1 t, forall_eq]
  exact H
theorem xl_fault {post : Int32 → SX → Prop} {t N n a w : Nat} {e : Int32} {K' : Nat → Int32} {L' H' : Nat → Int64} (ht : t < 1000000) (hn : n ≤ 40) (ha : a < n) (hl : x_lengths 2 = nI n) (ne : ¬ e = 0) (C : ∀ post : Int32 → SX → Prop, post e (x_safe, nI a, x_exitLeast, x_exitMost, nI w, x_faultPlace, x_provedLeast, x_provedMost, x_packetLength, x_executed, x_ops, x_targets, x_sources, x_offsets, x_immediates, x_lengths, K', L', H', upd x_reached a 1, x_branchAt, x_branchSafe, x_branchKinds, x_branchLos, x_branchHis, x_packet, x_registers, x_cells, x_keyWords, x_keyTaken) → wpX_check post (x_safe, nI a, x_exitLeast, x_exitMost, nI w, x_faultPlace, x_provedLeast, x_provedMost, x_packetLength, x_executed, x_ops, x_targets, x_sources, x_offsets, x_immediates, x_lengths, x_kinds, x_los, x_his, upd x_reached a 1, x_branchAt, x_branchSafe, x_branchKinds, x_branchLos, x_branchHis, x_packet, x_registers, x_cells, x_keyWords, x_keyTaken) (nI (80 + a))) (H : post e (x_safe, nI a, x_exitLeast, x_exitMost, nI w, x_faultPlace, x_provedLeast, x_provedMost, x_packetLength, x_executed, x_ops, x_targets, x_sources, x_offsets, x_immediates, x_lengths, K', L', H', upd x_reached a 1, x_branchAt, x_branchSafe, x_branchKinds, x_branchLos, x_branchHis, x_packet, x_registers, x_cells, x_keyWords, x_keyTaken)) : wX_followPaths_6 post (N + 1) (nI t) x_safe (nI a) x_exitLeast x_exitMost (nI w) x_faultPlace x_provedLeast x_provedMost x_packetLength x_executed x_ops x_targets x_sources x_offsets x_immediates x_lengths x_kinds x_los x_his x_reached x_branchAt x_branchSafe x_branchKinds x_branchLos x_branchHis x_packet x_registers x_cells x_keyWords x_keyTaken := by
  refine xl_in ht hn ha hl (C _ ?_)
  exact br_f ne H
theorem xl_plain {post : Int32 → SX → Prop} {t N n a w : Nat} {K' : Nat → Int32} {L' H' : Nat → Int64} (ht : t < 1000000) (hn : n ≤ 40) (ha : a < n) (hl : x_lengths 2 = nI n) (n60 : ¬ x_ops (80 + a) = 60) (nj : ¬ (x_ops (80 + a) / 10 = 2 ∨ x_ops (80 + a) / 10 = 3)) (C : ∀ post : Int32 → SX → Prop, post 0 (x_safe, nI a, x_exitLeast, x_exitMost, nI w, x_faultPlace, x_provedLeast, x_provedMost, x_packetLength, x_executed, x_ops, x_targets, x_sources, x_offsets, x_immediates, x_lengths, K', L', H', upd x_reached a 1, x_branchAt, x_branchSafe, x_branchKinds, x_branchLos, x_branchHis, x_packet, x_registers, x_cells, x_keyWords, x_keyTaken) → wpX_check post (x_safe, nI a, x_exitLeast, x_exitMost, nI w, x_faultPlace, x_provedLeast, x_provedMost, x_packetLength, x_executed, x_ops, x_targets, x_sources, x_offsets, x_immediates, x_lengths, x_kinds, x_los, x_his, upd x_reached a 1, x_branchAt, x_branchSafe, x_branchKinds, x_branchLos, x_branchHis, x_packet, x_registers, x_cells, x_keyWords, x_keyTaken) (nI (80 + a))) (H : wX_followPaths_6 post N (nI (t + 1)) x_safe (nI (a + 1)) x_exitLeast x_exitMost (nI w) x_faultPlace x_provedLeast x_provedMost x_packetLength x_executed x_ops x_targets x_sources x_offsets x_immediates x_lengths K' L' H' (upd x_reached a 1) x_branchAt x_branchSafe x_branchKinds x_branchLos x_branchHis x_packet x_registers x_cells x_keyWords x_keyTaken) : wX_followPaths_6 post (N + 1) (nI t) x_safe (nI a) x_exitLeast x_exitMost (nI w) x_faultPlace x_provedLeast x_provedMost x_packetLength x_executed x_ops x_targets x_sources x_offsets x_immediates x_lengths x_kinds x_los x_his x_reached x_branchAt x_branchSafe x_branchKinds x_branchLos x_branchHis x_packet x_registers x_cells x_keyWords x_keyTaken := by
  have v : vp_in (nI (80 + a)) 120 := vp_in_nI (by omega) (by decide)
  have c : (nI (80 + a)).toNatClampNeg = 80 + a := nI_clamp (by omega)
  refine xl_in ht hn ha hl (C _ ?_)
  refine br_t rfl ⟨v, br_f (by rw [c]; exact n60) ⟨v, xv_isJump.mpr ?_⟩⟩
  rw [c, if_neg nj, ← nI_1 a] at *
  exact br_t rfl H
theorem xl_jump {post : Int32 → SX → Prop} {t N n a w : Nat} (ht : t < 1000000) (hn : n ≤ 40) (ha : a < n) (hl : x_lengths 2 = nI n) (n60 : ¬ x_ops (80 + a) = 60) (nj : x_ops (80 + a) / 10 = 2 ∨ x_ops (80 + a) / 10 = 3) {z1 : Int64} {z2 z5 : Int32} {z17 z21 z23 : Nat → Int32} {z18 z19 z22 z24 z25 : Nat → Int64} (C : ∀ post : Int32 → SX → Prop, post 0 (z1, z2, x_exitLeast, x_exitMost, z5, x_faultPlace, x_provedLeast, x_provedMost, x_packetLength, x_executed, x_ops, x_targets, x_sources, x_offsets, x_immediates, x_lengths, z17, z18, z19, upd x_reached a 1, z21, z22, z23, z24, z25, x_packet, x_registers, x_cells, x_keyWords, x_keyTaken) → wpX_check post (x_safe, nI a, x_exitLeast, x_exitMost, nI w, x_faultPlace, x_provedLeast, x_provedMost, x_packetLength, x_executed, x_ops, x_targets, x_sources, x_offsets, x_immediates, x_lengths, x_kinds, x_los, x_his, upd x_reached a 1, x_branchAt, x_branchSafe, x_branchKinds, x_branchLos, x_branchHis, x_packet, x_registers, x_cells, x_keyWords, x_keyTaken) (nI (80 + a))) (H : wX_followPaths_6 post N (nI (t + 1)) z1 z2 x_exitLeast x_exitMost z5 x_faultPlace x_provedLeast x_provedMost x_packetLength x_executed x_ops x_targets x_sources x_offsets x_immediates x_lengths z17 z18 z19 (upd x_reached a 1) z21 z22 z23 z24 z25 x_packet x_registers x_cells x_keyWords x_keyTaken) : wX_followPaths_6 post (N + 1) (nI t) x_safe (nI a) x_exitLeast x_exitMost (nI w) x_faultPlace x_provedLeast x_provedMost x_packetLength x_executed x_ops x_targets x_sources x_offsets x_immediates x_lengths x_kinds x_los x_his x_reached x_branchAt x_branchSafe x_branchKinds x_branchLos x_branchHis x_packet x_registers x_cells x_keyWords x_keyTaken := by
  have v : vp_in (nI (80 + a)) 120 := vp_in_nI (by omega) (by decide)
  have c : (nI (80 + a)).toNatClampNeg = 80 + a := nI_clamp (by omega)
  refine xl_in ht hn ha hl (C _ ?_)
  refine br_t rfl ⟨v, br_f (by rw [c]; exact n60) ⟨v, xv_isJump.mpr ?_⟩⟩
  rw [c, if_pos nj]
  exact br_f (by decide) H
theorem xl_exit {post : Int32 → SX → Prop} {t N n a w : Nat} {K' : Nat → Int32} {L' H' : Nat → Int64} {el em : Int64} (ht : t < 1000000) (hn : n ≤ 40) (ha : a < n) (hw : w < 100) (hl : x_lengths 2 = nI n) (e60 : x_ops (80 + a) = 60) (C : ∀ post : Int32 → SX → Prop, post 0 (x_safe, nI a, el, em, nI w, x_faultPlace, x_provedLeast, x_provedMost, x_packetLength, x_executed, x_ops, x_targets, x_sources, x_offsets, x_immediates, x_lengths, K', L', H', upd x_reached a 1, x_branchAt, x_branchSafe, x_branchKinds, x_branchLos, x_branchHis, x_packet, x_registers, x_cells, x_keyWords, x_keyTaken) → wpX_check post (x_safe, nI a, x_exitLeast, x_exitMost, nI w, x_faultPlace, x_provedLeast, x_provedMost, x_packetLength, x_executed, x_ops, x_targets, x_sources, x_offsets, x_immediates, x_lengths, x_kinds, x_los, x_his, upd x_reached a 1, x_branchAt, x_branchSafe, x_branchKinds, x_branchLos, x_branchHis, x_packet, x_registers, x_cells, x_keyWords, x_keyTaken) (nI (80 + a))) (A : w = 0 → post 0 (x_safe, nI a, el, em, nI w, x_faultPlace, x_provedLeast, x_provedMost, x_packetLength, x_executed, x_ops, x_targets, x_sources, x_offsets, x_immediates, x_lengths, K', L', H', upd x_reached a 1, x_branchAt, x_branchSafe, x_branchKinds, x_branchLos, x_branchHis, x_packet, x_registers, x_cells, x_keyWords, x_keyTaken)) (B : ¬ w = 0 → wpX_takeUpBranch (fun u => match u with | (x_safe, x_at, x_exitLeast, x_exitMost, x_branches, x_faultPlace, x_provedLeast, x_provedMost, x_packetLength, x_executed, x_ops, x_targets, x_sources, x_offsets, x_immediates, x_lengths, x_kinds, x_los, x_his, x_reached, x_branchAt, x_branchSafe, x_branchKinds, x_branchLos, x_branchHis, x_packet, x_registers, x_cells, x_keyWords, x_keyTaken) => (wX_followPaths_6 post N (nI (t + 1)) x_safe x_at x_exitLeast x_exitMost x_branches x_faultPlace x_provedLeast x_provedMost x_packetLength x_executed x_ops x_targets x_sources x_offsets x_immediates x_lengths x_kinds x_los x_his x_reached x_branchAt x_branchSafe x_branchKinds x_branchLos x_branchHis x_packet x_registers x_cells x_keyWords x_keyTaken)) (x_safe, nI a, el, em, nI w, x_faultPlace, x_provedLeast, x_provedMost, x_packetLength, x_executed, x_ops, x_targets, x_sources, x_offsets, x_immediates, x_lengths, K', L', H', upd x_reached a 1, x_branchAt, x_branchSafe, x_branchKinds, x_branchLos, x_branchHis, x_packet, x_registers, x_cells, x_keyWords, x_keyTaken)) : wX_followPaths_6 post (N + 1) (nI t) x_safe (nI a) x_exitLeast x_exitMost (nI w) x_faultPlace x_provedLeast x_provedMost x_packetLength x_executed x_ops x_targets x_sources x_offsets x_immediates x_lengths x_kinds x_los x_his x_reached x_branchAt x_branchSafe x_branchKinds x_branchLos x_branchHis x_packet x_registers x_cells x_keyWords x_keyTaken := by
  have v : vp_in (nI (80 + a)) 120 := vp_in_nI (by omega) (by decide)
  have c : (nI (80 + a)).toNatClampNeg = 80 + a := nI_clamp (by omega)
  refine xl_in ht hn ha hl (C _ ?_)
  refine br_t rfl ⟨v, br_t (by rw [c]; exact e60) (br_c (fun z => A ?_) (fun z => B ?_))⟩
  · rw [xb_eq0 (by omega)] at z; exact z
  · rw [xb_eq0 (by omega)] at z; exact z
end
section
variable {y_place : Int32} {y_least : Int64} {y_most : Int64} {y_smallest : Int64} {y_greatest : Int64} {y_ways : Int32} {y_fault : Int32} {y_base : Int32} {y_otherKind : Int32} {y_otherLo : Int64} {y_otherHi : Int64} {y_low : Int64} {y_high : Int64} {y_bytes : Int32} {y_steps : Int32} {y_op : Nat → Int32} {y_first : Nat → Int32} {y_second : Nat → Int32} {y_offset : Nat → Int32} {y_given : Nat → Int32} {y_length : Nat → Int32} {y_there : Nat → Int32} {y_known : Nat → Int32} {y_lo : Nat → Int64} {y_hi : Nat → Int64} {y_at : Nat → Int32} {y_lookups : Nat → Int32} {y_safe : Nat → Int32} {y_met : Nat → Int32} {y_tag : Nat → Int32} {y_word : Nat → Int64} {y_packet : Nat → Int32} {y_keys : Nat → Int64} {y_values : Nat → Int64} {y_many : Nat → Int32}
theorem yl_endF {post : SY → Prop} {N w : Nat} (hw : w < 100) (hf : ¬ y_fault = 0) (H : post (y_place, y_least, y_most, y_smallest, y_greatest, nI w, y_fault, y_base, y_otherKind, y_otherLo, y_otherHi, y_low, y_high, y_bytes, y_steps, y_op, y_first, y_second, y_offset, y_given, y_length, y_there, y_known, y_lo, y_hi, y_at, y_lookups, y_safe, y_met, y_tag, y_word, y_packet, y_keys, y_values, y_many)) : wY_follow_69 post (N + 1) y_place y_least y_most y_smallest y_greatest (nI w) y_fault y_base y_otherKind y_otherLo y_otherHi y_low y_high y_bytes y_steps y_op y_first y_second y_offset y_given y_length y_there y_known y_lo y_hi y_at y_lookups y_safe y_met y_tag y_word y_packet y_keys y_values y_many :=
  br_c (fun _ => H) (fun _ => br_f hf H)
theorem yl_end0 {post : SY → Prop} {N : Nat} (H : post (y_place, y_least, y_most, y_smallest, y_greatest, nI 0, y_fault, y_base, y_otherKind, y_otherLo, y_otherHi, y_low, y_high, y_bytes, y_steps, y_op, y_first, y_second, y_offset, y_given, y_length, y_there, y_known, y_lo, y_hi, y_at, y_lookups, y_safe, y_met, y_tag, y_word, y_packet, y_keys, y_values, y_many)) : wY_follow_69 post (N + 1) y_place y_least y_most y_smallest y_greatest (nI 0) y_fault y_base y_otherKind y_otherLo y_otherHi y_low y_high y_bytes y_steps y_op y_first y_second y_offset y_given y_length y_there y_known y_lo y_hi y_at y_lookups y_safe y_met y_tag y_word y_packet y_keys y_values y_many := br_t (by decide) H
theorem yl_out {post : SY → Prop} {N w y n : Nat} (hw : w < 12) (hn : n ≤ 40) (hy : n ≤ y) (hy2 : y ≤ 40) (hl : y_length 2 = nI n) (ha : y_at w = nI y) (H : post (nI n, y_least, y_most, y_smallest, y_greatest, nI (w + 1), 1, nI (14 * w), y_otherKind, y_otherLo, y_otherHi, y_low, y_high, y_bytes, y_steps, y_op, y_first, y_second, y_offset, y_given, y_length, y_there, y_known, y_lo, y_hi, y_at, y_lookups, y_safe, y_met, y_tag, y_word, y_packet, y_keys, y_values, y_many)) : wY_follow_69 post (N + 2) y_place y_least y_most y_smallest y_greatest (nI (w + 1)) 0 y_base y_otherKind y_otherLo y_otherHi y_low y_high y_bytes y_steps y_op y_first y_second y_offset y_given y_length y_there y_known y_lo y_hi y_at y_lookups y_safe y_met y_tag y_word y_packet y_keys y_values y_many := by
  have vw : vp_in (nI (w + 1) - 1) 12 := by rw [nI_pred]; exact vp_in_nI hw (by decide)
  have cw : (nI (w + 1) - 1).toNatClampNeg = w := by rw [nI_pred]; exact nI_clamp (by omega)
  refine br_f (by rw [xb_le0 (by omega)]; omega) (br_t rfl ⟨vw, nm_r (e' := nI y) (by rw [cw]; exact ha) (nm_r (e' := nI (14 * w)) (by rw [nI_pred, xb_mul14]) (br_f (by rw [hl, nI_ltI (by omega) (by omega)]; omega) ?_))⟩)
  rw [hl]
  exact yl_endF (by omega) (by decide) H
theorem yl_in {post : SY → Prop} {N w a n : Nat} (hw : w < 12) (hn : n ≤ 40) (han : a < n) (hl : y_length 2 = nI n) (ha : y_at w = nI a) (H : wpY_instruction (fun u => match u with | (y_place, y_least, y_most, y_smallest, y_greatest, y_ways, y_fault, y_base, y_otherKind, y_otherLo, y_otherHi, y_low, y_high, y_bytes, y_steps, y_op, y_first, y_second, y_offset, y_given, y_length, y_there, y_known, y_lo, y_hi, y_at, y_lookups, y_safe, y_met, y_tag, y_word, y_packet, y_keys, y_values, y_many) => (wY_follow_69 post N y_place y_least y_most y_smallest y_greatest y_ways y_fault y_base y_otherKind y_otherLo y_otherHi y_low y_high y_bytes y_steps y_op y_first y_second y_offset y_given y_length y_there y_known y_lo y_hi y_at y_lookups y_safe y_met y_tag y_word y_packet y_keys y_values y_many)) (y_place, y_least, y_most, y_smallest, y_greatest, nI (w + 1), 0, nI (14 * w), y_otherKind, y_otherLo, y_otherHi, y_low, y_high, y_bytes, y_steps, y_op, y_first, y_second, y_offset, y_given, y_length, y_there, y_known, y_lo, y_hi, y_at, y_lookups, y_safe, upd y_met a 1, y_tag, y_word, y_packet, y_keys, y_values, y_many) (nI (80 + a)) (nI a)) : wY_follow_69 post (N + 1) y_place y_least y_most y_smallest y_greatest (nI (w + 1)) 0 y_base y_otherKind y_otherLo y_otherHi y_low y_high y_bytes y_steps y_op y_first y_second y_offset y_given y_length y_there y_known y_lo y_hi y_at y_lookups y_safe y_met y_tag y_word y_packet y_keys y_values y_many := by
  have vw : vp_in (nI (w + 1) - 1) 12 := by rw [nI_pred]; exact vp_in_nI hw (by decide)
  have cw : (nI (w + 1) - 1).toNatClampNeg = w := by rw [nI_pred]; exact nI_clamp (by omega)
  refine br_f (by rw [xb_le0 (by omega)]; omega) (br_t rfl ⟨vw, nm_r (e' := nI a) (by rw [cw]; exact ha) (nm_r (e' := nI (14 * w)) (by rw [nI_pred, xb_mul14]) (br_t (by rw [hl, nI_ltI (by omega) (by omega)]; exact han) ⟨vp_in_nI (by omega) (by decide), nm_r (e' := upd y_met a 1) (by rw [nI_clamp (by omega), xb_bt]) ?_⟩))⟩)
  rw [xb_add80]
  exact H
end
end
section
def Bk_ (b : Nat → Int32) (j : Nat) : Nat → Int32 := fun s => if s < 16 then b (16 * j + s) else 0
def BL_ (b : Nat → Int64) (j : Nat) : Nat → Int64 := fun s => if s < 16 then b (16 * j + s) else 0
theorem Bk_rs {o s : Nat → Int32} {b : Nat} (h : ∀ j, 16 ≤ j → o j = 0) : rs_ o b s 16 = Bk_ s b := by
  funext j; unfold rs_ Bk_
  by_cases z : j < 16
  · rw [if_pos z, if_pos z]
  · rw [if_neg z, if_neg z]; exact h j (by omega)
theorem BL_rs {o s : Nat → Int64} {b : Nat} (h : ∀ j, 16 ≤ j → o j = 0) : rs_ o b s 16 = BL_ s b := by
  funext j; unfold rs_ BL_
  by_cases z : j < 16
  · rw [if_pos z, if_pos z]
  · rw [if_neg z, if_neg z]; exact h j (by omega)
theorem Bk_sv {o K : Nat → Int32} {w : Nat} (h : ∀ j, 16 ≤ j → K j = 0) : Bk_ (sv_ o w K 16) w = K := by
  funext j; unfold Bk_ sv_
  by_cases z : j < 16
  · rw [if_pos z, if_pos (by omega)]; congr 1; omega
  · rw [if_neg z]; exact (h j (by omega)).symm
theorem BL_sv {o K : Nat → Int64} {w : Nat} (h : ∀ j, 16 ≤ j → K j = 0) : BL_ (sv_ o w K 16) w = K := by
  funext j; unfold BL_ sv_
  by_cases z : j < 16
  · rw [if_pos z, if_pos (by omega)]; congr 1; omega
  · rw [if_neg z]; exact (h j (by omega)).symm
theorem Bk_old {o K : Nat → Int32} {w j : Nat} (h : j < w) : Bk_ (sv_ o w K 16) j = Bk_ o j := by
  funext s; unfold Bk_ sv_
  by_cases z : s < 16
  · rw [if_pos z, if_pos z, if_neg (by omega)]
  · rw [if_neg z, if_neg z]
theorem BL_old {o K : Nat → Int64} {w j : Nat} (h : j < w) : BL_ (sv_ o w K 16) j = BL_ o j := by
  funext s; unfold BL_ sv_
  by_cases z : s < 16
  · rw [if_pos z, if_pos z, if_neg (by omega)]
  · rw [if_neg z, if_neg z]
/-- what is known where a jump that waits will go on -/
def GK_ (td : Nat → Nat) (bK : Nat → Int32) (q f : Nat → Nat) (j : Nat) : Nat → Int32 := ln_K (f j) (td (q j)) (Bk_ bK j)
noncomputable def GL_ (ops : Nat → Int32) (td ts : Nat → Nat) (bK : Nat → Int32) (bL bH : Nat → Int64) (q f : Nat → Nat) (j : Nat) : Nat → Int64 := ln_L (f j) (td (q j)) (q9_ (ops (80 + q j)) (ts (q j))) (Bk_ bK j) (BL_ bL j) (BL_ bH j)
noncomputable def GH_ (ops : Nat → Int32) (td ts : Nat → Nat) (bK : Nat → Int32) (bL bH : Nat → Int64) (q f : Nat → Nat) (j : Nat) : Nat → Int64 := ln_H (f j) (td (q j)) (q9_ (ops (80 + q j)) (ts (q j))) (Bk_ bK j) (BL_ bL j) (BL_ bH j)
noncomputable def GS_ (ops : Nat → Int32) (td ts : Nat → Nat) (bS : Nat → Int64) (bK : Nat → Int32) (bL : Nat → Int64) (q f : Nat → Nat) (j : Nat) : Int64 := ln_S (f j) (td (q j)) (q9_ (ops (80 + q j)) (ts (q j))) (Bk_ bK j) (BL_ bL j) (bS j)
def PX_ (ops off imm : Nat → Int32) (td ts : Nat → Nat) (n : Nat) (bA : Nat → Int32) (bS : Nat → Int64) (bK : Nat → Int32) (bL bH : Nat → Int64) (q f g : Nat → Nat) (j : Nat) : Prop := q j < n ∧ bA j = nI (q j) ∧ oj_ (ops (80 + q j)) (f j) ∧ off (80 + q j) = nI (g j) ∧ g j < 2 ^ 31 ∧ k9_ (ops (80 + q j)) (Bk_ bK j) = Bk_ bK j ∧ l9_ (ops (80 + q j)) ((imm (80 + q j)).toInt64 &&& 4294967295) (BL_ bL j) = BL_ bL j ∧ l9_ (ops (80 + q j)) ((imm (80 + q j)).toInt64 &&& 4294967295) (BL_ bH j) = BL_ bH j ∧ WF_ (GK_ td bK q f j) (GL_ ops td ts bK bL bH q f j) (GH_ ops td ts bK bL bH q f j) (GS_ ops td ts bS bK bL q f j) ∧ j ≤ cj_ ops n (gl_ n (q j) (g j))
def PY_ (K : Nat → Int32) (L H : Nat → Int64) (S : Int64) (y : Nat) (yat kn : Nat → Int32) (lo hi : Nat → Int64) (lk sf : Nat → Int32) (j : Nat) : Prop := yat j = nI y ∧ Fr_ K L H kn lo hi (14 * j) (lk j) ∧ (sf j).toInt64 = S ∧ vp_nar .byte (lk j) = lk j
def EX_ (el em sm gr : Int64) : Prop := (el = 4294967295 ∧ em = 0 ∧ sm = -1 ∧ gr = -1) ∨ ∃ p b : Nat, p < 2 ^ 32 ∧ b < 2 ^ 32 ∧ el = lN p ∧ sm = lN p ∧ em = lN b ∧ gr = lN b
theorem PY_cong {K : Nat → Int32} {L H : Nat → Int64} {S : Int64} {y : Nat} {yat kn yat' kn' : Nat → Int32} {lo hi lo' hi' : Nat → Int64} {lk sf lk' sf' : Nat → Int32} {j w : Nat} (hj : j < w) (P : PY_ K L H S y yat kn lo hi lk sf j) (h1 : ∀ i, i < 14 * w → kn' i = kn i ∧ lo' i = lo i ∧ hi' i = hi i) (h2 : yat' j = yat j) (h3 : lk' j = lk j) (h4 : sf' j = sf j) : PY_ K L H S y yat' kn' lo' hi' lk' sf' j := by
  obtain ⟨a, b, c, d⟩ := P
  refine ⟨h2.trans a, fun r hr => ?_, by rw [h4]; exact c, by rw [h3]; exact d⟩
  obtain ⟨x1, x2, x3⟩ := h1 (14 * j + r) (by omega)
  rw [x1, x2, x3, h3]; exact b r hr
theorem ie_N {a b c d : Nat} (ha : a < 2 ^ 32) (hb : b < 2 ^ 32) : (if lN a ≤ lN b then lN c else lN d) = lN (if a ≤ b then c else d) := by
  by_cases z : a ≤ b
  · rw [if_pos z, if_pos ((pk_lLE (by omega) (by omega)).mpr z)]
  · rw [if_neg z, if_neg (fun y => z ((pk_lLE (by omega) (by omega)).mp y))]
theorem EX_step {el em sm gr : Int64} {p b : Nat} (E : EX_ el em sm gr) (pb : p ≤ b) (hb : b < 2 ^ 32) : ∃ x y : Nat, x < 2 ^ 32 ∧ y < 2 ^ 32 ∧ (if el ≤ lN p then el else lN p) = lN x ∧ (if sm < 0 then lN p else if sm ≤ lN p then sm else lN p) = lN x ∧ (if lN b ≤ em then em else lN b) = lN y ∧ (if lN b ≤ gr then gr else lN b) = lN y := by
  rcases E with ⟨rfl, rfl, rfl, rfl⟩ | ⟨x, y, hx, hy, rfl, rfl, rfl, rfl⟩
  · refine ⟨p, b, by omega, hb, ?_, ?_, ?_, ?_⟩
    · split
      · next z => rw [pu_M, pk_lLE (by omega) (by omega)] at z; rw [pu_M]; congr 1; omega
      · rfl
    · rw [if_pos (by decide)]
    · split
      · next z => rw [pu_0, pk_lLE (by omega) (by omega)] at z; rw [pu_0]; congr 1; omega
      · rfl
    · rw [if_neg]
      intro z
      rw [Int64.le_iff_toInt_le, pk_lT (by omega)] at z
      have : (-1 : Int64).toInt = -1 := by decide
      omega
  · have n0 : ¬ lN x < 0 := by rw [pu_0, pk_lLT (by omega) (by omega)]; omega
    refine ⟨if x ≤ p then x else p, if b ≤ y then y else b, by split <;> omega, by split <;> omega, ?_, ?_, ?_, ?_⟩
    · exact ie_N hx (by omega)
    · rw [if_neg n0]; exact ie_N hx (by omega)
    · exact ie_N hb hy
    · exact ie_N hb hy
end
section
section
variable {td ts q f g : Nat → Nat} {ops off imm : Nat → Int32} {n w a ff gg : Nat} {bA bK : Nat → Int32} {bS bL bH : Nat → Int64} {K' : Nat → Int32} {L' H' : Nat → Int64} {S : Int64}
theorem gg_old {j : Nat} (h : j < w) : GK_ td (sv_ bK w K' 16) (pn_ q w a) (pn_ f w ff) j = GK_ td bK q f j ∧ GL_ ops td ts (sv_ bK w K' 16) (sv_ bL w L' 16) (sv_ bH w H' 16) (pn_ q w a) (pn_ f w ff) j = GL_ ops td ts bK bL bH q f j ∧ GH_ ops td ts (sv_ bK w K' 16) (sv_ bL w L' 16) (sv_ bH w H' 16) (pn_ q w a) (pn_ f w ff) j = GH_ ops td ts bK bL bH q f j ∧ GS_ ops td ts (vp_updL bS w S) (sv_ bK w K' 16) (sv_ bL w L' 16) (pn_ q w a) (pn_ f w ff) j = GS_ ops td ts bS bK bL q f j := by
  unfold GK_ GL_ GH_ GS_
  rw [pn_n (by omega), pn_n (by omega), Bk_old h, BL_old h, BL_old h, pk_uLn (by omega)]
  exact ⟨rfl, rfl, rfl, rfl⟩
theorem gg_new (z : ∀ j, 16 ≤ j → K' j = 0 ∧ L' j = 0 ∧ H' j = 0) : GK_ td (sv_ bK w K' 16) (pn_ q w a) (pn_ f w ff) w = ln_K ff (td a) K' ∧ GL_ ops td ts (sv_ bK w K' 16) (sv_ bL w L' 16) (sv_ bH w H' 16) (pn_ q w a) (pn_ f w ff) w = ln_L ff (td a) (q9_ (ops (80 + a)) (ts a)) K' L' H' ∧ GH_ ops td ts (sv_ bK w K' 16) (sv_ bL w L' 16) (sv_ bH w H' 16) (pn_ q w a) (pn_ f w ff) w = ln_H ff (td a) (q9_ (ops (80 + a)) (ts a)) K' L' H' ∧ GS_ ops td ts (vp_updL bS w S) (sv_ bK w K' 16) (sv_ bL w L' 16) (pn_ q w a) (pn_ f w ff) w = ln_S ff (td a) (q9_ (ops (80 + a)) (ts a)) K' L' S := by
  unfold GK_ GL_ GH_ GS_
  rw [pn_s rfl, pn_s rfl, Bk_sv (fun j h => (z j h).1), BL_sv (fun j h => (z j h).2.1), BL_sv (fun j h => (z j h).2.2), pk_uLs]
  exact ⟨rfl, rfl, rfl, rfl⟩
theorem px_old {j : Nat} (h : j < w) (P : PX_ ops off imm td ts n bA bS bK bL bH q f g j) : PX_ ops off imm td ts n (upd bA w (nI a)) (vp_updL bS w S) (sv_ bK w K' 16) (sv_ bL w L' 16) (sv_ bH w H' 16) (pn_ q w a) (pn_ f w ff) (pn_ g w gg) j := by
  obtain ⟨g1, g2, g3, g4⟩ := gg_old (td := td) (ts := ts) (q := q) (f := f) (ops := ops) (a := a) (ff := ff) (bK := bK) (bS := bS) (bL := bL) (bH := bH) (K' := K') (L' := L') (H' := H') (S := S) h
  unfold PX_ at P ⊢
  rw [g1, g2, g3, g4, pn_n (by omega), pn_n (by omega), pn_n (by omega), Bk_old h, BL_old h, BL_old h, pk_un (by omega)]
  exact P
theorem px_new (z : ∀ j, 16 ≤ j → K' j = 0 ∧ L' j = 0 ∧ H' j = 0) (ha : a < n) (ho : oj_ (ops (80 + a)) ff) (eg : off (80 + a) = nI gg) (hg : gg < 2 ^ 31) (e1 : k9_ (ops (80 + a)) K' = K') (e2 : l9_ (ops (80 + a)) ((imm (80 + a)).toInt64 &&& 4294967295) L' = L') (e3 : l9_ (ops (80 + a)) ((imm (80 + a)).toInt64 &&& 4294967295) H' = H') (WG : WF_ (ln_K ff (td a) K') (ln_L ff (td a) (q9_ (ops (80 + a)) (ts a)) K' L' H') (ln_H ff (td a) (q9_ (ops (80 + a)) (ts a)) K' L' H') (ln_S ff (td a) (q9_ (ops (80 + a)) (ts a)) K' L' S)) (c : w ≤ cj_ ops n (gl_ n a gg)) : PX_ ops off imm td ts n (upd bA w (nI a)) (vp_updL bS w S) (sv_ bK w K' 16) (sv_ bL w L' 16) (sv_ bH w H' 16) (pn_ q w a) (pn_ f w ff) (pn_ g w gg) w := by
  obtain ⟨g1, g2, g3, g4⟩ := gg_new (td := td) (ts := ts) (q := q) (f := f) (ops := ops) (a := a) (ff := ff) (bK := bK) (bS := bS) (bL := bL) (bH := bH) (S := S) (w := w) z
  unfold PX_
  rw [g1, g2, g3, g4, pn_s rfl, pn_s rfl, pn_s rfl, Bk_sv (fun j h => (z j h).1), BL_sv (fun j h => (z j h).2.1), BL_sv (fun j h => (z j h).2.2), pk_us]
  exact ⟨ha, rfl, ho, eg, hg, e1, e2, e3, WG, c⟩
theorem k9_i {o : Int32} {K : Nat → Int32} : k9_ o (k9_ o K) = k9_ o K := by
  by_cases r : rg_ o
  · rw [k9_t r, k9_t r]
  · rw [k9_f r, k9_f r]; exact xb_updid pk_us
theorem l9_i {o : Int32} {x : Int64} {L : Nat → Int64} : l9_ o x (l9_ o x L) = l9_ o x L := by
  by_cases r : rg_ o
  · rw [l9_t r, l9_t r]
  · rw [l9_f r, l9_f r]; exact xb_updLid pk_uLs
theorem nj_no {o : Int32} (h : (∃ f, oa_ o f) ∨ (o = 40 ∨ o = 41 ∨ o = 42) ∨ (o = 50 ∨ o = 51 ∨ o = 52)) : ¬ o = 60 ∧ ¬ (o / 10 = 2 ∨ o / 10 = 3) := by
  rcases h with ⟨f, h⟩ | (rfl | rfl | rfl) | (rfl | rfl | rfl)
  · obtain ⟨-, n, -, -, -, q | q⟩ := oa_f h
    · exact ⟨n, by rw [q.2.2]; decide⟩
    · exact ⟨n, by rw [q.2.2]; decide⟩
  all_goals decide
theorem nj_oj {o : Int32} {f : Nat} (h : oj_ o f) : ¬ o = 60 ∧ (o / 10 = 2 ∨ o / 10 = 3) := by
  obtain ⟨a, b, -, -, q | q⟩ := oj_f h
  · exact ⟨fun z => b (by rw [z]; decide), Or.inr q.2.2⟩
  · exact ⟨fun z => b (by rw [z]; decide), Or.inl q.2.2⟩
end
theorem dfs {x_faultPlace : Int32} {x_provedLeast x_provedMost : Int64} {x_packetLength x_executed : Int32} {x_ops x_targets x_sources x_offsets x_immediates x_lengths : Nat → Int32} {x_packet : Nat → Int32} {x_registers x_cells x_keyWords : Nat → Int64} {x_keyTaken : Nat → Int32} {y_place : Int32} {y_least y_most : Int64} {y_bytes y_steps : Int32} {y_there y_tag : Nat → Int32} {y_word : Nat → Int64} {y_packet : Nat → Int32} {y_keys y_values : Nat → Int64} {y_many : Nat → Int32} {n : Nat} {td ts : Nat → Nat} (hn : n ≤ 40) (hl : x_lengths 2 = nI n) (h10 : cj_ x_ops n n ≤ 10) (hok : ∀ j, ok_ (x_ops j)) (htd : ∀ j, x_targets (80 + j) = nI (td j) ∧ td j < 8) (hts : ∀ j, x_sources (80 + j) = nI (ts j) ∧ ts j < 9) : ∀ (N t w y : Nat) (q f g : Nat → Nat) (x_safe x_exitLeast x_exitMost : Int64) (x_kinds : Nat → Int32) (x_los x_his : Nat → Int64) (x_reached x_branchAt : Nat → Int32) (x_branchSafe : Nat → Int64) (x_branchKinds : Nat → Int32) (x_branchLos x_branchHis : Nat → Int64), WF_ x_kinds x_los x_his x_safe → y ≤ 40 → w ≤ cj_ x_ops n (pl_ n y) → (∀ j, j < w → PX_ x_ops x_offsets x_immediates td ts n x_branchAt x_branchSafe x_branchKinds x_branchLos x_branchHis q f g j) → wt_ x_ops n (pl_ n y) + ms_ (fun j => wt_ x_ops n (gl_ n (q j) (g j))) w ≤ N → t + N < 1000000 → (Sf_ (fun j => x_ops (80 + j)) (fun j => x_targets (80 + j)) (fun j => x_sources (80 + j)) (fun j => x_offsets (80 + j)) (fun j => x_immediates (80 + j)) n (pl_ n y) x_kinds x_los x_his x_safe → (∀ j, j < w → Sf_ (fun j => x_ops (80 + j)) (fun j => x_targets (80 + j)) (fun j => x_sources (80 + j)) (fun j => x_offsets (80 + j)) (fun j => x_immediates (80 + j)) n (gl_ n (q j) (g j)) (GK_ td x_branchKinds q f j) (GL_ x_ops td ts x_branchKinds x_branchLos x_branchHis q f j) (GH_ x_ops td ts x_branchKinds x_branchLos x_branchHis q f j) (GS_ x_ops td ts x_branchSafe x_branchKinds x_branchLos q f j)) → Sf_ (fun j => x_ops (80 + j)) (fun j => x_targets (80 + j)) (fun j => x_sources (80 + j)) (fun j => x_offsets (80 + j)) (fun j => x_immediates (80 + j)) n 0 K0_ (fun _ => 0) (fun _ => 0) 0) → ∃ (e : Int32) (z_safe : Int64) (z_at : Int32) (z_exitLeast z_exitMost : Int64) (z_branches : Int32) (z_kinds : Nat → Int32) (z_los z_his : Nat → Int64) (z_reached z_branchAt : Nat → Int32) (z_branchSafe : Nat → Int64) (z_branchKinds : Nat → Int32) (z_branchLos z_branchHis : Nat → Int64), (∀ j, 16 ≤ j → z_kinds j = 0 ∧ z_los j = 0 ∧ z_his j = 0) ∧ (e = 0 → Sf_ (fun j => x_ops (80 + j)) (fun j => x_targets (80 + j)) (fun j => x_sources (80 + j)) (fun j => x_offsets (80 + j)) (fun j => x_immediates (80 + j)) n 0 K0_ (fun _ => 0) (fun _ => 0) 0) ∧ (∀ post : Int32 → SX → Prop, post e (z_safe, z_at, z_exitLeast, z_exitMost, z_branches, x_faultPlace, x_provedLeast, x_provedMost, x_packetLength, x_executed, x_ops, x_targets, x_sources, x_offsets, x_immediates, x_lengths, z_kinds, z_los, z_his, z_reached, z_branchAt, z_branchSafe, z_branchKinds, z_branchLos, z_branchHis, x_packet, x_registers, x_cells, x_keyWords, x_keyTaken) → wX_followPaths_6 post (N + 1) (nI t) x_safe (nI (pl_ n y)) x_exitLeast x_exitMost (nI w) x_faultPlace x_provedLeast x_provedMost x_packetLength x_executed x_ops x_targets x_sources x_offsets x_immediates x_lengths x_kinds x_los x_his x_reached x_branchAt x_branchSafe x_branchKinds x_branchLos x_branchHis x_packet x_registers x_cells x_keyWords x_keyTaken) ∧ (∀ (y_smallest y_greatest : Int64) (y_base y_otherKind : Int32) (y_otherLo y_otherHi y_low y_high : Int64) (y_known : Nat → Int32) (y_lo y_hi : Nat → Int64) (y_at y_lookups y_safe y_met : Nat → Int32), PY_ x_kinds x_los x_his x_safe y y_at y_known y_lo y_hi y_lookups y_safe w → (∀ j, j < w → PY_ (GK_ td x_branchKinds q f j) (GL_ x_ops td ts x_branchKinds x_branchLos x_branchHis q f j) (GH_ x_ops td ts x_branchKinds x_branchLos x_branchHis q f j) (GS_ x_ops td ts x_branchSafe x_branchKinds x_branchLos q f j) (gm_ (q j) (g j)) y_at y_known y_lo y_hi y_lookups y_safe j) → EX_ x_exitLeast x_exitMost y_smallest y_greatest → (∀ j, j < n → x_reached j = y_met j) → ∀ post : SY → Prop, (∀ (v_place : Int32) (v_smallest v_greatest : Int64) (v_ways v_fault v_base v_otherKind : Int32) (v_otherLo v_otherHi v_low v_high : Int64) (v_known : Nat → Int32) (v_lo v_hi : Nat → Int64) (v_at v_lookups v_safe v_met : Nat → Int32), ((¬ e = 0 ∧ v_fault = e ∧ v_place = z_at) ∨ (e = 0 ∧ v_fault = 0 ∧ v_place = y_place ∧ v_smallest = z_exitLeast ∧ v_greatest = z_exitMost ∧ ∀ j, j < n → z_reached j = v_met j)) → post (v_place, y_least, y_most, v_smallest, v_greatest, v_ways, v_fault, v_base, v_otherKind, v_otherLo, v_otherHi, v_low, v_high, y_bytes, y_steps, x_ops, x_targets, x_sources, x_offsets, x_immediates, x_lengths, y_there, v_known, v_lo, v_hi, v_at, v_lookups, v_safe, v_met, y_tag, y_word, y_packet, y_keys, y_values, y_many)) → wY_follow_69 post (N + 2) y_place y_least y_most y_smallest y_greatest (nI (w + 1)) 0 y_base y_otherKind y_otherLo y_otherHi y_low y_high y_bytes y_steps x_ops x_targets x_sources x_offsets x_immediates x_lengths y_there y_known y_lo y_hi y_at y_lookups y_safe y_met y_tag y_word y_packet y_keys y_values y_many) := by
  intro N
  induction N with
  | zero =>
    intro t w y q f g x_safe x_exitLeast x_exitMost x_kinds x_los x_his x_reached x_branchAt x_branchSafe x_branchKinds x_branchLos x_branchHis W hy cw px mu ht sf
    exfalso
    have pln : pl_ n y ≤ n := by unfold pl_; split <;> omega
    have := wt_pos (ops := x_ops) (n := n) (show pl_ n y ≤ 40 by omega)
    omega
  | succ N ih =>
    intro t w y q f g x_safe x_exitLeast x_exitMost x_kinds x_los x_his x_reached x_branchAt x_branchSafe x_branchKinds x_branchLos x_branchHis W hy cw px mu ht sf
    have pln : pl_ n y ≤ n := by unfold pl_; split <;> omega
    have w10 : w ≤ 10 := by
      have := cj_mono (ops := x_ops) (n := n) pln
      omega
    by_cases hyn : n ≤ y
    · have ep : pl_ n y = n := if_pos hyn
      refine ⟨1, x_safe, nI n, x_exitLeast, x_exitMost, nI w, x_kinds, x_los, x_his, x_reached, x_branchAt, x_branchSafe, x_branchKinds, x_branchLos, x_branchHis, W.2.2.2.1, fun z => absurd z (by decide), ?_, ?_⟩
      · intro post P
        rw [ep]
        exact xl_out (by omega) hn hl P
      · intro y_smallest y_greatest y_base y_otherKind y_otherLo y_otherHi y_low y_high y_known y_lo y_hi y_at y_lookups y_safe y_met py pys ex rm post P
        exact yl_out (by omega) hn hyn hy hl py.1 (P _ _ _ _ _ _ _ _ _ _ _ _ _ _ _ _ _ _ (Or.inl ⟨by decide, rfl, rfl⟩))
    · have ep : pl_ n y = y := if_neg hyn
      have ha : y < n := by omega
      rw [ep] at cw mu sf ⊢
      obtain ⟨ed, hd⟩ := htd y
      obtain ⟨es, hs⟩ := hts y
      have rmu : ∀ y_met : Nat → Int32, (∀ j, j < n → x_reached j = y_met j) → ∀ j, j < n → upd x_reached y 1 j = upd y_met y 1 j := by
        intro y_met rm j hj
        by_cases z : j = y
        · rw [z, pk_us, pk_us]
        · rw [pk_un z, pk_un z]; exact rm j hj
      have ep1 : pl_ n (y + 1) = y + 1 := by unfold pl_; split <;> omega
      have kF : ∀ (e : Int32) (K' : Nat → Int32) (L' H' : Nat → Int64), ¬ e = 0 → (∀ j, 16 ≤ j → K' j = 0 ∧ L' j = 0 ∧ H' j = 0) → (∀ post : Int32 → SX → Prop, post e (x_safe, nI y, x_exitLeast, x_exitMost, nI w, x_faultPlace, x_provedLeast, x_provedMost, x_packetLength, x_executed, x_ops, x_targets, x_sources, x_offsets, x_immediates, x_lengths, K', L', H', upd x_reached y 1, x_branchAt, x_branchSafe, x_branchKinds, x_branchLos, x_branchHis, x_packet, x_registers, x_cells, x_keyWords, x_keyTaken) → wpX_check post (x_safe, nI y, x_exitLeast, x_exitMost, nI w, x_faultPlace, x_provedLeast, x_provedMost, x_packetLength, x_executed, x_ops, x_targets, x_sources, x_offsets, x_immediates, x_lengths, x_kinds, x_los, x_his, upd x_reached y 1, x_branchAt, x_branchSafe, x_branchKinds, x_branchLos, x_branchHis, x_packet, x_registers, x_cells, x_keyWords, x_keyTaken) (nI (80 + y))) → YP_ (x_ops (80 + y)) (td y) (ts y) (x_offsets (80 + y)) (x_immediates (80 + y)) x_kinds x_los x_his x_safe e x_kinds x_los x_his → ∃ (e : Int32) (z_safe : Int64) (z_at : Int32) (z_exitLeast z_exitMost : Int64) (z_branches : Int32) (z_kinds : Nat → Int32) (z_los z_his : Nat → Int64) (z_reached z_branchAt : Nat → Int32) (z_branchSafe : Nat → Int64) (z_branchKinds : Nat → Int32) (z_branchLos z_branchHis : Nat → Int64), (∀ j, 16 ≤ j → z_kinds j = 0 ∧ z_los j = 0 ∧ z_his j = 0) ∧ (e = 0 → Sf_ (fun j => x_ops (80 + j)) (fun j => x_targets (80 + j)) (fun j => x_sources (80 + j)) (fun j => x_offsets (80 + j)) (fun j => x_immediates (80 + j)) n 0 K0_ (fun _ => 0) (fun _ => 0) 0) ∧ (∀ post : Int32 → SX → Prop, post e (z_safe, z_at, z_exitLeast, z_exitMost, z_branches, x_faultPlace, x_provedLeast, x_provedMost, x_packetLength, x_executed, x_ops, x_targets, x_sources, x_offsets, x_immediates, x_lengths, z_kinds, z_los, z_his, z_reached, z_branchAt, z_branchSafe, z_branchKinds, z_branchLos, z_branchHis, x_packet, x_registers, x_cells, x_keyWords, x_keyTaken) → wX_followPaths_6 post (N + 1 + 1) (nI t) x_safe (nI y) x_exitLeast x_exitMost (nI w) x_faultPlace x_provedLeast x_provedMost x_packetLength x_executed x_ops x_targets x_sources x_offsets x_immediates x_lengths x_kinds x_los x_his x_reached x_branchAt x_branchSafe x_branchKinds x_branchLos x_branchHis x_packet x_registers x_cells x_keyWords x_keyTaken) ∧ (∀ (y_smallest y_greatest : Int64) (y_base y_otherKind : Int32) (y_otherLo y_otherHi y_low y_high : Int64) (y_known : Nat → Int32) (y_lo y_hi : Nat → Int64) (y_at y_lookups y_safe y_met : Nat → Int32), PY_ x_kinds x_los x_his x_safe y y_at y_known y_lo y_hi y_lookups y_safe w → (∀ j, j < w → PY_ (GK_ td x_branchKinds q f j) (GL_ x_ops td ts x_branchKinds x_branchLos x_branchHis q f j) (GH_ x_ops td ts x_branchKinds x_branchLos x_branchHis q f j) (GS_ x_ops td ts x_branchSafe x_branchKinds x_branchLos q f j) (gm_ (q j) (g j)) y_at y_known y_lo y_hi y_lookups y_safe j) → EX_ x_exitLeast x_exitMost y_smallest y_greatest → (∀ j, j < n → x_reached j = y_met j) → ∀ post : SY → Prop, (∀ (v_place : Int32) (v_smallest v_greatest : Int64) (v_ways v_fault v_base v_otherKind : Int32) (v_otherLo v_otherHi v_low v_high : Int64) (v_known : Nat → Int32) (v_lo v_hi : Nat → Int64) (v_at v_lookups v_safe v_met : Nat → Int32), ((¬ e = 0 ∧ v_fault = e ∧ v_place = z_at) ∨ (e = 0 ∧ v_fault = 0 ∧ v_place = y_place ∧ v_smallest = z_exitLeast ∧ v_greatest = z_exitMost ∧ ∀ j, j < n → z_reached j = v_met j)) → post (v_place, y_least, y_most, v_smallest, v_greatest, v_ways, v_fault, v_base, v_otherKind, v_otherLo, v_otherHi, v_low, v_high, y_bytes, y_steps, x_ops, x_targets, x_sources, x_offsets, x_immediates, x_lengths, y_there, v_known, v_lo, v_hi, v_at, v_lookups, v_safe, v_met, y_tag, y_word, y_packet, y_keys, y_values, y_many)) → wY_follow_69 post (N + 1 + 2) y_place y_least y_most y_smallest y_greatest (nI (w + 1)) 0 y_base y_otherKind y_otherLo y_otherHi y_low y_high y_bytes y_steps x_ops x_targets x_sources x_offsets x_immediates x_lengths y_there y_known y_lo y_hi y_at y_lookups y_safe y_met y_tag y_word y_packet y_keys y_values y_many) := by
        intro e K' L' H' ne z16 C Yp
        refine ⟨e, x_safe, nI y, x_exitLeast, x_exitMost, nI w, K', L', H', upd x_reached y 1, x_branchAt, x_branchSafe, x_branchKinds, x_branchLos, x_branchHis, z16, fun z => absurd z ne, fun post P => xl_fault (by omega) hn ha hl ne C P, ?_⟩
        intro y_smallest y_greatest y_base y_otherKind y_otherLo y_otherHi y_low y_high y_known y_lo y_hi y_at y_lookups y_safe y_met py pys ex rm post P
        refine yl_in (by omega) hn ha hl py.1 ?_
        refine Yp y_place y_least y_most y_smallest y_greatest 0 0 0 y_otherKind y_otherLo y_otherHi y_low y_high y_bytes y_steps x_ops x_targets x_sources x_offsets x_immediates x_lengths y_there y_known y_lo y_hi y_at y_lookups y_safe (upd y_met y 1) y_tag y_word y_packet y_keys y_values y_many (80 + y) y w _ (by omega) (by omega) (by omega) rfl ed es rfl rfl py.1 py.2.1 py.2.2.1 py.2.2.2 (fun _ e1 e2 e3 e4 e5 e6 e7 e8 e9 e10 => ?_) (fun z => absurd z ne)
        exact yl_endF (by omega) ne (P _ _ _ _ _ _ _ _ _ _ _ _ _ _ _ _ _ _ (Or.inl ⟨ne, rfl, rfl⟩))
      have kPN : ∀ (K' : Nat → Int32) (L' H' : Nat → Int64), ¬ x_ops (80 + y) = 60 → (∀ post : Int32 → SX → Prop, wX_followPaths_6 post (N + 1) (nI (t + 1)) x_safe (nI (y + 1)) x_exitLeast x_exitMost (nI w) x_faultPlace x_provedLeast x_provedMost x_packetLength x_executed x_ops x_targets x_sources x_offsets x_immediates x_lengths K' L' H' (upd x_reached y 1) x_branchAt x_branchSafe x_branchKinds x_branchLos x_branchHis x_packet x_registers x_cells x_keyWords x_keyTaken → wX_followPaths_6 post (N + 1 + 1) (nI t) x_safe (nI y) x_exitLeast x_exitMost (nI w) x_faultPlace x_provedLeast x_provedMost x_packetLength x_executed x_ops x_targets x_sources x_offsets x_immediates x_lengths x_kinds x_los x_his x_reached x_branchAt x_branchSafe x_branchKinds x_branchLos x_branchHis x_packet x_registers x_cells x_keyWords x_keyTaken) → YP_ (x_ops (80 + y)) (td y) (ts y) (x_offsets (80 + y)) (x_immediates (80 + y)) x_kinds x_los x_his x_safe 0 K' L' H' → SP_ (x_ops (80 + y)) (td y) (ts y) (x_offsets (80 + y)) (x_immediates (80 + y)) x_kinds x_los x_his x_safe K' L' H' → WF_ K' L' H' x_safe → ∃ (e : Int32) (z_safe : Int64) (z_at : Int32) (z_exitLeast z_exitMost : Int64) (z_branches : Int32) (z_kinds : Nat → Int32) (z_los z_his : Nat → Int64) (z_reached z_branchAt : Nat → Int32) (z_branchSafe : Nat → Int64) (z_branchKinds : Nat → Int32) (z_branchLos z_branchHis : Nat → Int64), (∀ j, 16 ≤ j → z_kinds j = 0 ∧ z_los j = 0 ∧ z_his j = 0) ∧ (e = 0 → Sf_ (fun j => x_ops (80 + j)) (fun j => x_targets (80 + j)) (fun j => x_sources (80 + j)) (fun j => x_offsets (80 + j)) (fun j => x_immediates (80 + j)) n 0 K0_ (fun _ => 0) (fun _ => 0) 0) ∧ (∀ post : Int32 → SX → Prop, post e (z_safe, z_at, z_exitLeast, z_exitMost, z_branches, x_faultPlace, x_provedLeast, x_provedMost, x_packetLength, x_executed, x_ops, x_targets, x_sources, x_offsets, x_immediates, x_lengths, z_kinds, z_los, z_his, z_reached, z_branchAt, z_branchSafe, z_branchKinds, z_branchLos, z_branchHis, x_packet, x_registers, x_cells, x_keyWords, x_keyTaken) → wX_followPaths_6 post (N + 1 + 1) (nI t) x_safe (nI y) x_exitLeast x_exitMost (nI w) x_faultPlace x_provedLeast x_provedMost x_packetLength x_executed x_ops x_targets x_sources x_offsets x_immediates x_lengths x_kinds x_los x_his x_reached x_branchAt x_branchSafe x_branchKinds x_branchLos x_branchHis x_packet x_registers x_cells x_keyWords x_keyTaken) ∧ (∀ (y_smallest y_greatest : Int64) (y_base y_otherKind : Int32) (y_otherLo y_otherHi y_low y_high : Int64) (y_known : Nat → Int32) (y_lo y_hi : Nat → Int64) (y_at y_lookups y_safe y_met : Nat → Int32), PY_ x_kinds x_los x_his x_safe y y_at y_known y_lo y_hi y_lookups y_safe w → (∀ j, j < w → PY_ (GK_ td x_branchKinds q f j) (GL_ x_ops td ts x_branchKinds x_branchLos x_branchHis q f j) (GH_ x_ops td ts x_branchKinds x_branchLos x_branchHis q f j) (GS_ x_ops td ts x_branchSafe x_branchKinds x_branchLos q f j) (gm_ (q j) (g j)) y_at y_known y_lo y_hi y_lookups y_safe j) → EX_ x_exitLeast x_exitMost y_smallest y_greatest → (∀ j, j < n → x_reached j = y_met j) → ∀ post : SY → Prop, (∀ (v_place : Int32) (v_smallest v_greatest : Int64) (v_ways v_fault v_base v_otherKind : Int32) (v_otherLo v_otherHi v_low v_high : Int64) (v_known : Nat → Int32) (v_lo v_hi : Nat → Int64) (v_at v_lookups v_safe v_met : Nat → Int32), ((¬ e = 0 ∧ v_fault = e ∧ v_place = z_at) ∨ (e = 0 ∧ v_fault = 0 ∧ v_place = y_place ∧ v_smallest = z_exitLeast ∧ v_greatest = z_exitMost ∧ ∀ j, j < n → z_reached j = v_met j)) → post (v_place, y_least, y_most, v_smallest, v_greatest, v_ways, v_fault, v_base, v_otherKind, v_otherLo, v_otherHi, v_low, v_high, y_bytes, y_steps, x_ops, x_targets, x_sources, x_offsets, x_immediates, x_lengths, y_there, v_known, v_lo, v_hi, v_at, v_lookups, v_safe, v_met, y_tag, y_word, y_packet, y_keys, y_values, y_many)) → wY_follow_69 post (N + 1 + 2) y_place y_least y_most y_smallest y_greatest (nI (w + 1)) 0 y_base y_otherKind y_otherLo y_otherHi y_low y_high y_bytes y_steps x_ops x_targets x_sources x_offsets x_immediates x_lengths y_there y_known y_lo y_hi y_at y_lookups y_safe y_met y_tag y_word y_packet y_keys y_values y_many) := by
        intro K' L' H' n60 X Yp Sp W'
        have nx := ih (t + 1) w (y + 1) q f g x_safe x_exitLeast x_exitMost K' L' H' (upd x_reached y 1) x_branchAt x_branchSafe x_branchKinds x_branchLos x_branchHis W' (by omega) (by rw [ep1]; exact Nat.le_trans cw (cj_mono (by omega))) px (by rw [ep1]; have := wt_lt (ops := x_ops) (n := n) (show y < y + 1 by omega) (by omega); omega) (by omega) (by rw [ep1]; exact fun s1 s2 => sf (Sf_plain hn ha rfl ed es rfl rfl n60 Sp s1) s2)
        rw [ep1] at nx
        obtain ⟨e, z_safe, z_at, z_exitLeast, z_exitMost, z_branches, z_kinds, z_los, z_his, z_reached, z_branchAt, z_branchSafe, z_branchKinds, z_branchLos, z_branchHis, z16, zs, XW, YW⟩ := nx
        refine ⟨e, z_safe, z_at, z_exitLeast, z_exitMost, z_branches, z_kinds, z_los, z_his, z_reached, z_branchAt, z_branchSafe, z_branchKinds, z_branchLos, z_branchHis, z16, zs, fun post P => X post (XW post P), ?_⟩
        intro y_smallest y_greatest y_base y_otherKind y_otherLo y_otherHi y_low y_high y_known y_lo y_hi y_at y_lookups y_safe y_met py pys ex rm post P
        refine yl_in (by omega) hn ha hl py.1 ?_
        refine Yp y_place y_least y_most y_smallest y_greatest 0 0 0 y_otherKind y_otherLo y_otherHi y_low y_high y_bytes y_steps x_ops x_targets x_sources x_offsets x_immediates x_lengths y_there y_known y_lo y_hi y_at y_lookups y_safe (upd y_met y 1) y_tag y_word y_packet y_keys y_values y_many (80 + y) y w _ (by omega) (by omega) (by omega) rfl ed es rfl rfl py.1 py.2.1 py.2.2.1 py.2.2.2 (fun ne => absurd rfl ne) (fun _ e1 e2 e3 e4 e5 kn lo hi lk Fr' keep lkk nb' => ?_)
        exact YW y_smallest y_greatest (nI (14 * w)) e1 e2 e3 e4 e5 kn lo hi (upd y_at w (nI (y + 1))) lk y_safe (upd y_met y 1) ⟨pk_us, Fr', py.2.2.1, nb'⟩ (fun j hj => PY_cong hj (pys j hj) keep (pk_un (by omega)) (lkk j hj) rfl) ex (rmu _ rm) post P
      have kP : ∀ (K' : Nat → Int32) (L' H' : Nat → Int64), ¬ x_ops (80 + y) = 60 → ¬ (x_ops (80 + y) / 10 = 2 ∨ x_ops (80 + y) / 10 = 3) → (∀ post : Int32 → SX → Prop, post 0 (x_safe, nI y, x_exitLeast, x_exitMost, nI w, x_faultPlace, x_provedLeast, x_provedMost, x_packetLength, x_executed, x_ops, x_targets, x_sources, x_offsets, x_immediates, x_lengths, K', L', H', upd x_reached y 1, x_branchAt, x_branchSafe, x_branchKinds, x_branchLos, x_branchHis, x_packet, x_registers, x_cells, x_keyWords, x_keyTaken) → wpX_check post (x_safe, nI y, x_exitLeast, x_exitMost, nI w, x_faultPlace, x_provedLeast, x_provedMost, x_packetLength, x_executed, x_ops, x_targets, x_sources, x_offsets, x_immediates, x_lengths, x_kinds, x_los, x_his, upd x_reached y 1, x_branchAt, x_branchSafe, x_branchKinds, x_branchLos, x_branchHis, x_packet, x_registers, x_cells, x_keyWords, x_keyTaken) (nI (80 + y))) → YP_ (x_ops (80 + y)) (td y) (ts y) (x_offsets (80 + y)) (x_immediates (80 + y)) x_kinds x_los x_his x_safe 0 K' L' H' → SP_ (x_ops (80 + y)) (td y) (ts y) (x_offsets (80 + y)) (x_immediates (80 + y)) x_kinds x_los x_his x_safe K' L' H' → WF_ K' L' H' x_safe → ∃ (e : Int32) (z_safe : Int64) (z_at : Int32) (z_exitLeast z_exitMost : Int64) (z_branches : Int32) (z_kinds : Nat → Int32) (z_los z_his : Nat → Int64) (z_reached z_branchAt : Nat → Int32) (z_branchSafe : Nat → Int64) (z_branchKinds : Nat → Int32) (z_branchLos z_branchHis : Nat → Int64), (∀ j, 16 ≤ j → z_kinds j = 0 ∧ z_los j = 0 ∧ z_his j = 0) ∧ (e = 0 → Sf_ (fun j => x_ops (80 + j)) (fun j => x_targets (80 + j)) (fun j => x_sources (80 + j)) (fun j => x_offsets (80 + j)) (fun j => x_immediates (80 + j)) n 0 K0_ (fun _ => 0) (fun _ => 0) 0) ∧ (∀ post : Int32 → SX → Prop, post e (z_safe, z_at, z_exitLeast, z_exitMost, z_branches, x_faultPlace, x_provedLeast, x_provedMost, x_packetLength, x_executed, x_ops, x_targets, x_sources, x_offsets, x_immediates, x_lengths, z_kinds, z_los, z_his, z_reached, z_branchAt, z_branchSafe, z_branchKinds, z_branchLos, z_branchHis, x_packet, x_registers, x_cells, x_keyWords, x_keyTaken) → wX_followPaths_6 post (N + 1 + 1) (nI t) x_safe (nI y) x_exitLeast x_exitMost (nI w) x_faultPlace x_provedLeast x_provedMost x_packetLength x_executed x_ops x_targets x_sources x_offsets x_immediates x_lengths x_kinds x_los x_his x_reached x_branchAt x_branchSafe x_branchKinds x_branchLos x_branchHis x_packet x_registers x_cells x_keyWords x_keyTaken) ∧ (∀ (y_smallest y_greatest : Int64) (y_base y_otherKind : Int32) (y_otherLo y_otherHi y_low y_high : Int64) (y_known : Nat → Int32) (y_lo y_hi : Nat → Int64) (y_at y_lookups y_safe y_met : Nat → Int32), PY_ x_kinds x_los x_his x_safe y y_at y_known y_lo y_hi y_lookups y_safe w → (∀ j, j < w → PY_ (GK_ td x_branchKinds q f j) (GL_ x_ops td ts x_branchKinds x_branchLos x_branchHis q f j) (GH_ x_ops td ts x_branchKinds x_branchLos x_branchHis q f j) (GS_ x_ops td ts x_branchSafe x_branchKinds x_branchLos q f j) (gm_ (q j) (g j)) y_at y_known y_lo y_hi y_lookups y_safe j) → EX_ x_exitLeast x_exitMost y_smallest y_greatest → (∀ j, j < n → x_reached j = y_met j) → ∀ post : SY → Prop, (∀ (v_place : Int32) (v_smallest v_greatest : Int64) (v_ways v_fault v_base v_otherKind : Int32) (v_otherLo v_otherHi v_low v_high : Int64) (v_known : Nat → Int32) (v_lo v_hi : Nat → Int64) (v_at v_lookups v_safe v_met : Nat → Int32), ((¬ e = 0 ∧ v_fault = e ∧ v_place = z_at) ∨ (e = 0 ∧ v_fault = 0 ∧ v_place = y_place ∧ v_smallest = z_exitLeast ∧ v_greatest = z_exitMost ∧ ∀ j, j < n → z_reached j = v_met j)) → post (v_place, y_least, y_most, v_smallest, v_greatest, v_ways, v_fault, v_base, v_otherKind, v_otherLo, v_otherHi, v_low, v_high, y_bytes, y_steps, x_ops, x_targets, x_sources, x_offsets, x_immediates, x_lengths, y_there, v_known, v_lo, v_hi, v_at, v_lookups, v_safe, v_met, y_tag, y_word, y_packet, y_keys, y_values, y_many)) → wY_follow_69 post (N + 1 + 2) y_place y_least y_most y_smallest y_greatest (nI (w + 1)) 0 y_base y_otherKind y_otherLo y_otherHi y_low y_high y_bytes y_steps x_ops x_targets x_sources x_offsets x_immediates x_lengths y_there y_known y_lo y_hi y_at y_lookups y_safe y_met y_tag y_word y_packet y_keys y_values y_many) := by
        intro K' L' H' n60 nj C Yp Sp W'
        exact kPN K' L' H' n60 (fun post P => xl_plain (by omega) hn ha hl n60 nj C P) Yp Sp W'
      have kN : ∀ (K' : Nat → Int32) (L' H' : Nat → Int64), ¬ x_ops (80 + y) = 60 → (x_ops (80 + y) / 10 = 2 ∨ x_ops (80 + y) / 10 = 3) → (∀ post : Int32 → SX → Prop, post 0 (x_safe, nI (y + 1), x_exitLeast, x_exitMost, nI w, x_faultPlace, x_provedLeast, x_provedMost, x_packetLength, x_executed, x_ops, x_targets, x_sources, x_offsets, x_immediates, x_lengths, K', L', H', upd x_reached y 1, x_branchAt, x_branchSafe, x_branchKinds, x_branchLos, x_branchHis, x_packet, x_registers, x_cells, x_keyWords, x_keyTaken) → wpX_check post (x_safe, nI y, x_exitLeast, x_exitMost, nI w, x_faultPlace, x_provedLeast, x_provedMost, x_packetLength, x_executed, x_ops, x_targets, x_sources, x_offsets, x_immediates, x_lengths, x_kinds, x_los, x_his, upd x_reached y 1, x_branchAt, x_branchSafe, x_branchKinds, x_branchLos, x_branchHis, x_packet, x_registers, x_cells, x_keyWords, x_keyTaken) (nI (80 + y))) → YP_ (x_ops (80 + y)) (td y) (ts y) (x_offsets (80 + y)) (x_immediates (80 + y)) x_kinds x_los x_his x_safe 0 K' L' H' → SP_ (x_ops (80 + y)) (td y) (ts y) (x_offsets (80 + y)) (x_immediates (80 + y)) x_kinds x_los x_his x_safe K' L' H' → WF_ K' L' H' x_safe → ∃ (e : Int32) (z_safe : Int64) (z_at : Int32) (z_exitLeast z_exitMost : Int64) (z_branches : Int32) (z_kinds : Nat → Int32) (z_los z_his : Nat → Int64) (z_reached z_branchAt : Nat → Int32) (z_branchSafe : Nat → Int64) (z_branchKinds : Nat → Int32) (z_branchLos z_branchHis : Nat → Int64), (∀ j, 16 ≤ j → z_kinds j = 0 ∧ z_los j = 0 ∧ z_his j = 0) ∧ (e = 0 → Sf_ (fun j => x_ops (80 + j)) (fun j => x_targets (80 + j)) (fun j => x_sources (80 + j)) (fun j => x_offsets (80 + j)) (fun j => x_immediates (80 + j)) n 0 K0_ (fun _ => 0) (fun _ => 0) 0) ∧ (∀ post : Int32 → SX → Prop, post e (z_safe, z_at, z_exitLeast, z_exitMost, z_branches, x_faultPlace, x_provedLeast, x_provedMost, x_packetLength, x_executed, x_ops, x_targets, x_sources, x_offsets, x_immediates, x_lengths, z_kinds, z_los, z_his, z_reached, z_branchAt, z_branchSafe, z_branchKinds, z_branchLos, z_branchHis, x_packet, x_registers, x_cells, x_keyWords, x_keyTaken) → wX_followPaths_6 post (N + 1 + 1) (nI t) x_safe (nI y) x_exitLeast x_exitMost (nI w) x_faultPlace x_provedLeast x_provedMost x_packetLength x_executed x_ops x_targets x_sources x_offsets x_immediates x_lengths x_kinds x_los x_his x_reached x_branchAt x_branchSafe x_branchKinds x_branchLos x_branchHis x_packet x_registers x_cells x_keyWords x_keyTaken) ∧ (∀ (y_smallest y_greatest : Int64) (y_base y_otherKind : Int32) (y_otherLo y_otherHi y_low y_high : Int64) (y_known : Nat → Int32) (y_lo y_hi : Nat → Int64) (y_at y_lookups y_safe y_met : Nat → Int32), PY_ x_kinds x_los x_his x_safe y y_at y_known y_lo y_hi y_lookups y_safe w → (∀ j, j < w → PY_ (GK_ td x_branchKinds q f j) (GL_ x_ops td ts x_branchKinds x_branchLos x_branchHis q f j) (GH_ x_ops td ts x_branchKinds x_branchLos x_branchHis q f j) (GS_ x_ops td ts x_branchSafe x_branchKinds x_branchLos q f j) (gm_ (q j) (g j)) y_at y_known y_lo y_hi y_lookups y_safe j) → EX_ x_exitLeast x_exitMost y_smallest y_greatest → (∀ j, j < n → x_reached j = y_met j) → ∀ post : SY → Prop, (∀ (v_place : Int32) (v_smallest v_greatest : Int64) (v_ways v_fault v_base v_otherKind : Int32) (v_otherLo v_otherHi v_low v_high : Int64) (v_known : Nat → Int32) (v_lo v_hi : Nat → Int64) (v_at v_lookups v_safe v_met : Nat → Int32), ((¬ e = 0 ∧ v_fault = e ∧ v_place = z_at) ∨ (e = 0 ∧ v_fault = 0 ∧ v_place = y_place ∧ v_smallest = z_exitLeast ∧ v_greatest = z_exitMost ∧ ∀ j, j < n → z_reached j = v_met j)) → post (v_place, y_least, y_most, v_smallest, v_greatest, v_ways, v_fault, v_base, v_otherKind, v_otherLo, v_otherHi, v_low, v_high, y_bytes, y_steps, x_ops, x_targets, x_sources, x_offsets, x_immediates, x_lengths, y_there, v_known, v_lo, v_hi, v_at, v_lookups, v_safe, v_met, y_tag, y_word, y_packet, y_keys, y_values, y_many)) → wY_follow_69 post (N + 1 + 2) y_place y_least y_most y_smallest y_greatest (nI (w + 1)) 0 y_base y_otherKind y_otherLo y_otherHi y_low y_high y_bytes y_steps x_ops x_targets x_sources x_offsets x_immediates x_lengths y_there y_known y_lo y_hi y_at y_lookups y_safe y_met y_tag y_word y_packet y_keys y_values y_many) := by
        intro K' L' H' n60 nj C Yp Sp W'
        exact kPN K' L' H' n60 (fun post P => xl_jump (by omega) hn ha hl n60 nj C P) Yp Sp W'
      have kG : ¬ x_ops (80 + y) = 60 → (x_ops (80 + y) / 10 = 2 ∨ x_ops (80 + y) / 10 = 3) → ∀ (g0 : Nat) (K' : Nat → Int32) (L' H' : Nat → Int64), g0 < 2 ^ 31 → x_offsets (80 + y) = nI g0 → (∀ post : Int32 → SX → Prop, post 0 (x_safe, nI (gl_ n y g0), x_exitLeast, x_exitMost, nI w, x_faultPlace, x_provedLeast, x_provedMost, x_packetLength, x_executed, x_ops, x_targets, x_sources, x_offsets, x_immediates, x_lengths, K', L', H', upd x_reached y 1, x_branchAt, x_branchSafe, x_branchKinds, x_branchLos, x_branchHis, x_packet, x_registers, x_cells, x_keyWords, x_keyTaken) → wpX_check post (x_safe, nI y, x_exitLeast, x_exitMost, nI w, x_faultPlace, x_provedLeast, x_provedMost, x_packetLength, x_executed, x_ops, x_targets, x_sources, x_offsets, x_immediates, x_lengths, x_kinds, x_los, x_his, upd x_reached y 1, x_branchAt, x_branchSafe, x_branchKinds, x_branchLos, x_branchHis, x_packet, x_registers, x_cells, x_keyWords, x_keyTaken) (nI (80 + y))) → YG_ (x_ops (80 + y)) (td y) (ts y) (x_offsets (80 + y)) (x_immediates (80 + y)) g0 K' L' H' x_safe → SG_ (x_ops (80 + y)) (td y) (ts y) (x_offsets (80 + y)) (x_immediates (80 + y)) g0 K' L' H' x_safe → WF_ K' L' H' x_safe → (K' = k9_ (x_ops (80 + y)) x_kinds ∧ L' = l9_ (x_ops (80 + y)) ((x_immediates (80 + y)).toInt64 &&& 4294967295) x_los ∧ H' = l9_ (x_ops (80 + y)) ((x_immediates (80 + y)).toInt64 &&& 4294967295) x_his) → ∃ (e : Int32) (z_safe : Int64) (z_at : Int32) (z_exitLeast z_exitMost : Int64) (z_branches : Int32) (z_kinds : Nat → Int32) (z_los z_his : Nat → Int64) (z_reached z_branchAt : Nat → Int32) (z_branchSafe : Nat → Int64) (z_branchKinds : Nat → Int32) (z_branchLos z_branchHis : Nat → Int64), (∀ j, 16 ≤ j → z_kinds j = 0 ∧ z_los j = 0 ∧ z_his j = 0) ∧ (e = 0 → Sf_ (fun j => x_ops (80 + j)) (fun j => x_targets (80 + j)) (fun j => x_sources (80 + j)) (fun j => x_offsets (80 + j)) (fun j => x_immediates (80 + j)) n 0 K0_ (fun _ => 0) (fun _ => 0) 0) ∧ (∀ post : Int32 → SX → Prop, post e (z_safe, z_at, z_exitLeast, z_exitMost, z_branches, x_faultPlace, x_provedLeast, x_provedMost, x_packetLength, x_executed, x_ops, x_targets, x_sources, x_offsets, x_immediates, x_lengths, z_kinds, z_los, z_his, z_reached, z_branchAt, z_branchSafe, z_branchKinds, z_branchLos, z_branchHis, x_packet, x_registers, x_cells, x_keyWords, x_keyTaken) → wX_followPaths_6 post (N + 1 + 1) (nI t) x_safe (nI y) x_exitLeast x_exitMost (nI w) x_faultPlace x_provedLeast x_provedMost x_packetLength x_executed x_ops x_targets x_sources x_offsets x_immediates x_lengths x_kinds x_los x_his x_reached x_branchAt x_branchSafe x_branchKinds x_branchLos x_branchHis x_packet x_registers x_cells x_keyWords x_keyTaken) ∧ (∀ (y_smallest y_greatest : Int64) (y_base y_otherKind : Int32) (y_otherLo y_otherHi y_low y_high : Int64) (y_known : Nat → Int32) (y_lo y_hi : Nat → Int64) (y_at y_lookups y_safe y_met : Nat → Int32), PY_ x_kinds x_los x_his x_safe y y_at y_known y_lo y_hi y_lookups y_safe w → (∀ j, j < w → PY_ (GK_ td x_branchKinds q f j) (GL_ x_ops td ts x_branchKinds x_branchLos x_branchHis q f j) (GH_ x_ops td ts x_branchKinds x_branchLos x_branchHis q f j) (GS_ x_ops td ts x_branchSafe x_branchKinds x_branchLos q f j) (gm_ (q j) (g j)) y_at y_known y_lo y_hi y_lookups y_safe j) → EX_ x_exitLeast x_exitMost y_smallest y_greatest → (∀ j, j < n → x_reached j = y_met j) → ∀ post : SY → Prop, (∀ (v_place : Int32) (v_smallest v_greatest : Int64) (v_ways v_fault v_base v_otherKind : Int32) (v_otherLo v_otherHi v_low v_high : Int64) (v_known : Nat → Int32) (v_lo v_hi : Nat → Int64) (v_at v_lookups v_safe v_met : Nat → Int32), ((¬ e = 0 ∧ v_fault = e ∧ v_place = z_at) ∨ (e = 0 ∧ v_fault = 0 ∧ v_place = y_place ∧ v_smallest = z_exitLeast ∧ v_greatest = z_exitMost ∧ ∀ j, j < n → z_reached j = v_met j)) → post (v_place, y_least, y_most, v_smallest, v_greatest, v_ways, v_fault, v_base, v_otherKind, v_otherLo, v_otherHi, v_low, v_high, y_bytes, y_steps, x_ops, x_targets, x_sources, x_offsets, x_immediates, x_lengths, y_there, v_known, v_lo, v_hi, v_at, v_lookups, v_safe, v_met, y_tag, y_word, y_packet, y_keys, y_values, y_many)) → wY_follow_69 post (N + 1 + 2) y_place y_least y_most y_smallest y_greatest (nI (w + 1)) 0 y_base y_otherKind y_otherLo y_otherHi y_low y_high y_bytes y_steps x_ops x_targets x_sources x_offsets x_immediates x_lengths y_there y_known y_lo y_hi y_at y_lookups y_safe y_met y_tag y_word y_packet y_keys y_values y_many) := by
        intro n60 nj g0 K' L' H' hg eg C Yg Sg W' eK
        obtain ⟨e1, e2, e3⟩ := eK
        have epg : pl_ n (gm_ y g0) = gl_ n y g0 := pl_gm hn
        obtain ⟨gt1, gt2⟩ := gl_gt (g := g0) ha
        have gm40 : gm_ y g0 ≤ 40 := by unfold gm_; split <;> omega
        have nx := ih (t + 1) w (gm_ y g0) q f g x_safe x_exitLeast x_exitMost K' L' H' (upd x_reached y 1) x_branchAt x_branchSafe x_branchKinds x_branchLos x_branchHis W' gm40 (by rw [epg]; exact Nat.le_trans cw (cj_mono (by omega))) px (by rw [epg]; have := wt_lt (ops := x_ops) (n := n) gt1 (by omega); omega) (by omega) (by
          rw [epg]
          intro s1 s2
          have s3 := Sf_goal hn ha rfl ed es rfl rfl n60 eg Sg s1
          rw [e1, e2, e3] at s3
          exact sf (Sf_k9 s3) s2)
        rw [epg] at nx
        obtain ⟨e, z_safe, z_at, z_exitLeast, z_exitMost, z_branches, z_kinds, z_los, z_his, z_reached, z_branchAt, z_branchSafe, z_branchKinds, z_branchLos, z_branchHis, z16, zs, XW, YW⟩ := nx
        refine ⟨e, z_safe, z_at, z_exitLeast, z_exitMost, z_branches, z_kinds, z_los, z_his, z_reached, z_branchAt, z_branchSafe, z_branchKinds, z_branchLos, z_branchHis, z16, zs, fun post P => xl_jump (by omega) hn ha hl n60 nj C (XW post P), ?_⟩
        intro y_smallest y_greatest y_base y_otherKind y_otherLo y_otherHi y_low y_high y_known y_lo y_hi y_at y_lookups y_safe y_met py pys ex rm post P
        have F' : Fr_ K' L' H' y_known y_lo y_hi (14 * w) (y_lookups w) := by rw [e1, e2, e3]; exact Fr_k9 py.2.1
        refine yl_in (by omega) hn ha hl py.1 ?_
        refine Yg y_place y_least y_most y_smallest y_greatest 0 0 0 y_otherKind y_otherLo y_otherHi y_low y_high y_bytes y_steps x_ops x_targets x_sources x_offsets x_immediates x_lengths y_there y_known y_lo y_hi y_at y_lookups y_safe (upd y_met y 1) y_tag y_word y_packet y_keys y_values y_many (80 + y) y w _ (by omega) (by omega) (by omega) rfl ed es rfl rfl py.1 F' py.2.2.1 py.2.2.2 (fun e1 e2 e3 e4 e5 => ?_)
        exact YW y_smallest y_greatest (nI (14 * w)) e1 e2 e3 e4 e5 y_known y_lo y_hi (upd y_at w (nI (gm_ y g0))) y_lookups y_safe (upd y_met y 1) ⟨pk_us, F', py.2.2.1, py.2.2.2⟩ (fun j hj => PY_cong hj (pys j hj) (fun i _ => ⟨rfl, rfl, rfl⟩) (pk_un (by omega)) rfl rfl) ex (rmu _ rm) post P
      have kB : ¬ x_ops (80 + y) = 60 → (x_ops (80 + y) / 10 = 2 ∨ x_ops (80 + y) / 10 = 3) → w + 1 ≤ cj_ x_ops n (y + 1) → cd_ (x_ops (80 + y)) → ∀ (g0 f0 : Nat) (K' : Nat → Int32) (L' H' : Nat → Int64), g0 < 2 ^ 31 → x_offsets (80 + y) = nI g0 → oj_ (x_ops (80 + y)) f0 → (∀ post : Int32 → SX → Prop, post 0 (ln_S (op_ f0) (td y) (q9_ (x_ops (80 + y)) (ts y)) K' L' x_safe, nI (y + 1), x_exitLeast, x_exitMost, nI (w + 1), x_faultPlace, x_provedLeast, x_provedMost, x_packetLength, x_executed, x_ops, x_targets, x_sources, x_offsets, x_immediates, x_lengths, ln_K (op_ f0) (td y) K', ln_L (op_ f0) (td y) (q9_ (x_ops (80 + y)) (ts y)) K' L' H', ln_H (op_ f0) (td y) (q9_ (x_ops (80 + y)) (ts y)) K' L' H', upd x_reached y 1, upd x_branchAt w (nI y), vp_updL x_branchSafe w x_safe, sv_ x_branchKinds w K' 16, sv_ x_branchLos w L' 16, sv_ x_branchHis w H' 16, x_packet, x_registers, x_cells, x_keyWords, x_keyTaken) → wpX_check post (x_safe, nI y, x_exitLeast, x_exitMost, nI w, x_faultPlace, x_provedLeast, x_provedMost, x_packetLength, x_executed, x_ops, x_targets, x_sources, x_offsets, x_immediates, x_lengths, x_kinds, x_los, x_his, upd x_reached y 1, x_branchAt, x_branchSafe, x_branchKinds, x_branchLos, x_branchHis, x_packet, x_registers, x_cells, x_keyWords, x_keyTaken) (nI (80 + y))) → YB_ (x_ops (80 + y)) (td y) (ts y) (x_offsets (80 + y)) (x_immediates (80 + y)) g0 K' L' H' x_safe (ln_K f0 (td y) K') (ln_L f0 (td y) (q9_ (x_ops (80 + y)) (ts y)) K' L' H') (ln_H f0 (td y) (q9_ (x_ops (80 + y)) (ts y)) K' L' H') (ln_S f0 (td y) (q9_ (x_ops (80 + y)) (ts y)) K' L' x_safe) (ln_K (op_ f0) (td y) K') (ln_L (op_ f0) (td y) (q9_ (x_ops (80 + y)) (ts y)) K' L' H') (ln_H (op_ f0) (td y) (q9_ (x_ops (80 + y)) (ts y)) K' L' H') (ln_S (op_ f0) (td y) (q9_ (x_ops (80 + y)) (ts y)) K' L' x_safe) → SB_ (x_ops (80 + y)) (td y) (ts y) (x_offsets (80 + y)) (x_immediates (80 + y)) g0 K' L' H' x_safe (ln_K f0 (td y) K') (ln_L f0 (td y) (q9_ (x_ops (80 + y)) (ts y)) K' L' H') (ln_H f0 (td y) (q9_ (x_ops (80 + y)) (ts y)) K' L' H') (ln_S f0 (td y) (q9_ (x_ops (80 + y)) (ts y)) K' L' x_safe) (ln_K (op_ f0) (td y) K') (ln_L (op_ f0) (td y) (q9_ (x_ops (80 + y)) (ts y)) K' L' H') (ln_H (op_ f0) (td y) (q9_ (x_ops (80 + y)) (ts y)) K' L' H') (ln_S (op_ f0) (td y) (q9_ (x_ops (80 + y)) (ts y)) K' L' x_safe) → WF_ K' L' H' x_safe → WF_ (ln_K f0 (td y) K') (ln_L f0 (td y) (q9_ (x_ops (80 + y)) (ts y)) K' L' H') (ln_H f0 (td y) (q9_ (x_ops (80 + y)) (ts y)) K' L' H') (ln_S f0 (td y) (q9_ (x_ops (80 + y)) (ts y)) K' L' x_safe) → WF_ (ln_K (op_ f0) (td y) K') (ln_L (op_ f0) (td y) (q9_ (x_ops (80 + y)) (ts y)) K' L' H') (ln_H (op_ f0) (td y) (q9_ (x_ops (80 + y)) (ts y)) K' L' H') (ln_S (op_ f0) (td y) (q9_ (x_ops (80 + y)) (ts y)) K' L' x_safe) → (K' = k9_ (x_ops (80 + y)) x_kinds ∧ L' = l9_ (x_ops (80 + y)) ((x_immediates (80 + y)).toInt64 &&& 4294967295) x_los ∧ H' = l9_ (x_ops (80 + y)) ((x_immediates (80 + y)).toInt64 &&& 4294967295) x_his) → ∃ (e : Int32) (z_safe : Int64) (z_at : Int32) (z_exitLeast z_exitMost : Int64) (z_branches : Int32) (z_kinds : Nat → Int32) (z_los z_his : Nat → Int64) (z_reached z_branchAt : Nat → Int32) (z_branchSafe : Nat → Int64) (z_branchKinds : Nat → Int32) (z_branchLos z_branchHis : Nat → Int64), (∀ j, 16 ≤ j → z_kinds j = 0 ∧ z_los j = 0 ∧ z_his j = 0) ∧ (e = 0 → Sf_ (fun j => x_ops (80 + j)) (fun j => x_targets (80 + j)) (fun j => x_sources (80 + j)) (fun j => x_offsets (80 + j)) (fun j => x_immediates (80 + j)) n 0 K0_ (fun _ => 0) (fun _ => 0) 0) ∧ (∀ post : Int32 → SX → Prop, post e (z_safe, z_at, z_exitLeast, z_exitMost, z_branches, x_faultPlace, x_provedLeast, x_provedMost, x_packetLength, x_executed, x_ops, x_targets, x_sources, x_offsets, x_immediates, x_lengths, z_kinds, z_los, z_his, z_reached, z_branchAt, z_branchSafe, z_branchKinds, z_branchLos, z_branchHis, x_packet, x_registers, x_cells, x_keyWords, x_keyTaken) → wX_followPaths_6 post (N + 1 + 1) (nI t) x_safe (nI y) x_exitLeast x_exitMost (nI w) x_faultPlace x_provedLeast x_provedMost x_packetLength x_executed x_ops x_targets x_sources x_offsets x_immediates x_lengths x_kinds x_los x_his x_reached x_branchAt x_branchSafe x_branchKinds x_branchLos x_branchHis x_packet x_registers x_cells x_keyWords x_keyTaken) ∧ (∀ (y_smallest y_greatest : Int64) (y_base y_otherKind : Int32) (y_otherLo y_otherHi y_low y_high : Int64) (y_known : Nat → Int32) (y_lo y_hi : Nat → Int64) (y_at y_lookups y_safe y_met : Nat → Int32), PY_ x_kinds x_los x_his x_safe y y_at y_known y_lo y_hi y_lookups y_safe w → (∀ j, j < w → PY_ (GK_ td x_branchKinds q f j) (GL_ x_ops td ts x_branchKinds x_branchLos x_branchHis q f j) (GH_ x_ops td ts x_branchKinds x_branchLos x_branchHis q f j) (GS_ x_ops td ts x_branchSafe x_branchKinds x_branchLos q f j) (gm_ (q j) (g j)) y_at y_known y_lo y_hi y_lookups y_safe j) → EX_ x_exitLeast x_exitMost y_smallest y_greatest → (∀ j, j < n → x_reached j = y_met j) → ∀ post : SY → Prop, (∀ (v_place : Int32) (v_smallest v_greatest : Int64) (v_ways v_fault v_base v_otherKind : Int32) (v_otherLo v_otherHi v_low v_high : Int64) (v_known : Nat → Int32) (v_lo v_hi : Nat → Int64) (v_at v_lookups v_safe v_met : Nat → Int32), ((¬ e = 0 ∧ v_fault = e ∧ v_place = z_at) ∨ (e = 0 ∧ v_fault = 0 ∧ v_place = y_place ∧ v_smallest = z_exitLeast ∧ v_greatest = z_exitMost ∧ ∀ j, j < n → z_reached j = v_met j)) → post (v_place, y_least, y_most, v_smallest, v_greatest, v_ways, v_fault, v_base, v_otherKind, v_otherLo, v_otherHi, v_low, v_high, y_bytes, y_steps, x_ops, x_targets, x_sources, x_offsets, x_immediates, x_lengths, y_there, v_known, v_lo, v_hi, v_at, v_lookups, v_safe, v_met, y_tag, y_word, y_packet, y_keys, y_values, y_many)) → wY_follow_69 post (N + 1 + 2) y_place y_least y_most y_smallest y_greatest (nI (w + 1)) 0 y_base y_otherKind y_otherLo y_otherHi y_low y_high y_bytes y_steps x_ops x_targets x_sources x_offsets x_immediates x_lengths y_there y_known y_lo y_hi y_at y_lookups y_safe y_met y_tag y_word y_packet y_keys y_values y_many) := by
        intro n60 nj c1 cd g0 f0 K' L' H' hg eg ho C Yb Sb W' WG WN eK
        obtain ⟨e1, e2, e3⟩ := eK
        obtain ⟨gt1, gt2⟩ := gl_gt (g := g0) ha
        have c10 : cj_ x_ops n (y + 1) ≤ 10 := Nat.le_trans (cj_mono (by omega)) h10
        have cg : w ≤ cj_ x_ops n (gl_ n y g0) := Nat.le_trans cw (cj_mono (by omega))
        have z16 := W'.2.2.2.1
        obtain ⟨n1, n2, n3, n4⟩ := gg_new (td := td) (ts := ts) (q := q) (f := f) (ops := x_ops) (a := y) (ff := f0) (bK := x_branchKinds) (bS := x_branchSafe) (bL := x_branchLos) (bH := x_branchHis) (S := x_safe) (w := w) z16
        have old : ∀ j, j < w → _ := fun j hj => gg_old (td := td) (ts := ts) (q := q) (f := f) (ops := x_ops) (a := y) (ff := f0) (bK := x_branchKinds) (bS := x_branchSafe) (bL := x_branchLos) (bH := x_branchHis) (K' := K') (L' := L') (H' := H') (S := x_safe) hj
        have nx := ih (t + 1) (w + 1) (y + 1) (pn_ q w y) (pn_ f w f0) (pn_ g w g0) (ln_S (op_ f0) (td y) (q9_ (x_ops (80 + y)) (ts y)) K' L' x_safe) x_exitLeast x_exitMost (ln_K (op_ f0) (td y) K') (ln_L (op_ f0) (td y) (q9_ (x_ops (80 + y)) (ts y)) K' L' H') (ln_H (op_ f0) (td y) (q9_ (x_ops (80 + y)) (ts y)) K' L' H') (upd x_reached y 1) (upd x_branchAt w (nI y)) (vp_updL x_branchSafe w x_safe) (sv_ x_branchKinds w K' 16) (sv_ x_branchLos w L' 16) (sv_ x_branchHis w H' 16) WN (by omega) (by rw [ep1]; exact c1) (by
            intro j hj
            by_cases z : j = w
            · subst z
              exact px_new z16 ha ho eg hg (by rw [e1]; exact k9_i) (by rw [e2]; exact l9_i) (by rw [e3]; exact l9_i) WG cg
            · exact px_old (by omega) (px j (by omega))) (by
            rw [ep1, ms_, pn_s rfl, pn_s rfl, ms_cong (W := fun j => wt_ x_ops n (gl_ n (q j) (g j))) (fun j hj => by rw [pn_n (by omega), pn_n (by omega)])]
            have := wt_2 ha cd gt1 (show gl_ n y g0 ≤ 40 by omega) c10
            omega) (by omega) (by
            rw [ep1]
            intro s1 s2
            have s4 := s2 w (by omega)
            rw [n1, n2, n3, n4, pn_s rfl, pn_s rfl] at s4
            have s3 := Sf_both hn ha rfl ed es rfl rfl n60 eg Sb s4 s1
            rw [e1, e2, e3] at s3
            refine sf (Sf_k9 s3) (fun j hj => ?_)
            obtain ⟨o1, o2, o3, o4⟩ := old j hj
            have s5 := s2 j (by omega)
            rw [o1, o2, o3, o4, pn_n (by omega), pn_n (by omega)] at s5
            exact s5)
        rw [ep1] at nx
        obtain ⟨e, z_safe, z_at, z_exitLeast, z_exitMost, z_branches, z_kinds, z_los, z_his, z_reached, z_branchAt, z_branchSafe, z_branchKinds, z_branchLos, z_branchHis, z16', zs, XW, YW⟩ := nx
        refine ⟨e, z_safe, z_at, z_exitLeast, z_exitMost, z_branches, z_kinds, z_los, z_his, z_reached, z_branchAt, z_branchSafe, z_branchKinds, z_branchLos, z_branchHis, z16', zs, fun post P => xl_jump (by omega) hn ha hl n60 nj C (XW post P), ?_⟩
        intro y_smallest y_greatest y_base y_otherKind y_otherLo y_otherHi y_low y_high y_known y_lo y_hi y_at y_lookups y_safe y_met py pys ex rm post P
        have F' : Fr_ K' L' H' y_known y_lo y_hi (14 * w) (y_lookups w) := by rw [e1, e2, e3]; exact Fr_k9 py.2.1
        refine yl_in (by omega) hn ha hl py.1 ?_
        refine Yb y_place y_least y_most y_smallest y_greatest 0 0 0 y_otherKind y_otherLo y_otherHi y_low y_high y_bytes y_steps x_ops x_targets x_sources x_offsets x_immediates x_lengths y_there y_known y_lo y_hi y_at y_lookups y_safe (upd y_met y 1) y_tag y_word y_packet y_keys y_values y_many (80 + y) y w _ (by omega) (by omega) (by omega) rfl ed es rfl rfl py.1 F' py.2.2.1 py.2.2.2 (by omega) (fun e1 e2 e3 e4 e5 kn lo hi lk sf' FG FN keep lks nb1 nb2 sG sN => ?_)
        refine YW y_smallest y_greatest (nI (14 * w)) e1 e2 e3 e4 e5 kn lo hi (upd (upd y_at w (nI (gm_ y g0))) (w + 1) (nI (y + 1))) lk sf' (upd y_met y 1) ⟨pk_us, FN, sN, nb2⟩ (fun j hj => ?_) ex (rmu _ rm) post P
        by_cases z : j = w
        · subst z
          rw [n1, n2, n3, n4, pn_s rfl, pn_s rfl]
          exact ⟨by rw [pk_un (by omega), pk_us], FG, sG, nb1⟩
        · obtain ⟨o1, o2, o3, o4⟩ := old j (by omega)
          rw [o1, o2, o3, o4, pn_n (by omega), pn_n (by omega)]
          exact PY_cong (w := w) (by omega) (pys j (by omega)) keep (by rw [pk_un (by omega), pk_un (by omega)]) (lks j (by omega)).1 (lks j (by omega)).2
      have kE : x_ops (80 + y) = 60 → (∀ post : Int32 → SX → Prop, post 0 (x_safe, nI y, if x_exitLeast ≤ x_los 0 then x_exitLeast else x_los 0, if x_his 0 ≤ x_exitMost then x_exitMost else x_his 0, nI w, x_faultPlace, x_provedLeast, x_provedMost, x_packetLength, x_executed, x_ops, x_targets, x_sources, x_offsets, x_immediates, x_lengths, k9_ (x_ops (80 + y)) x_kinds, l9_ (x_ops (80 + y)) ((x_immediates (80 + y)).toInt64 &&& 4294967295) x_los, l9_ (x_ops (80 + y)) ((x_immediates (80 + y)).toInt64 &&& 4294967295) x_his, upd x_reached y 1, x_branchAt, x_branchSafe, x_branchKinds, x_branchLos, x_branchHis, x_packet, x_registers, x_cells, x_keyWords, x_keyTaken) → wpX_check post (x_safe, nI y, x_exitLeast, x_exitMost, nI w, x_faultPlace, x_provedLeast, x_provedMost, x_packetLength, x_executed, x_ops, x_targets, x_sources, x_offsets, x_immediates, x_lengths, x_kinds, x_los, x_his, upd x_reached y 1, x_branchAt, x_branchSafe, x_branchKinds, x_branchLos, x_branchHis, x_packet, x_registers, x_cells, x_keyWords, x_keyTaken) (nI (80 + y))) → x_kinds 0 = 1 → ∃ (e : Int32) (z_safe : Int64) (z_at : Int32) (z_exitLeast z_exitMost : Int64) (z_branches : Int32) (z_kinds : Nat → Int32) (z_los z_his : Nat → Int64) (z_reached z_branchAt : Nat → Int32) (z_branchSafe : Nat → Int64) (z_branchKinds : Nat → Int32) (z_branchLos z_branchHis : Nat → Int64), (∀ j, 16 ≤ j → z_kinds j = 0 ∧ z_los j = 0 ∧ z_his j = 0) ∧ (e = 0 → Sf_ (fun j => x_ops (80 + j)) (fun j => x_targets (80 + j)) (fun j => x_sources (80 + j)) (fun j => x_offsets (80 + j)) (fun j => x_immediates (80 + j)) n 0 K0_ (fun _ => 0) (fun _ => 0) 0) ∧ (∀ post : Int32 → SX → Prop, post e (z_safe, z_at, z_exitLeast, z_exitMost, z_branches, x_faultPlace, x_provedLeast, x_provedMost, x_packetLength, x_executed, x_ops, x_targets, x_sources, x_offsets, x_immediates, x_lengths, z_kinds, z_los, z_his, z_reached, z_branchAt, z_branchSafe, z_branchKinds, z_branchLos, z_branchHis, x_packet, x_registers, x_cells, x_keyWords, x_keyTaken) → wX_followPaths_6 post (N + 1 + 1) (nI t) x_safe (nI y) x_exitLeast x_exitMost (nI w) x_faultPlace x_provedLeast x_provedMost x_packetLength x_executed x_ops x_targets x_sources x_offsets x_immediates x_lengths x_kinds x_los x_his x_reached x_branchAt x_branchSafe x_branchKinds x_branchLos x_branchHis x_packet x_registers x_cells x_keyWords x_keyTaken) ∧ (∀ (y_smallest y_greatest : Int64) (y_base y_otherKind : Int32) (y_otherLo y_otherHi y_low y_high : Int64) (y_known : Nat → Int32) (y_lo y_hi : Nat → Int64) (y_at y_lookups y_safe y_met : Nat → Int32), PY_ x_kinds x_los x_his x_safe y y_at y_known y_lo y_hi y_lookups y_safe w → (∀ j, j < w → PY_ (GK_ td x_branchKinds q f j) (GL_ x_ops td ts x_branchKinds x_branchLos x_branchHis q f j) (GH_ x_ops td ts x_branchKinds x_branchLos x_branchHis q f j) (GS_ x_ops td ts x_branchSafe x_branchKinds x_branchLos q f j) (gm_ (q j) (g j)) y_at y_known y_lo y_hi y_lookups y_safe j) → EX_ x_exitLeast x_exitMost y_smallest y_greatest → (∀ j, j < n → x_reached j = y_met j) → ∀ post : SY → Prop, (∀ (v_place : Int32) (v_smallest v_greatest : Int64) (v_ways v_fault v_base v_otherKind : Int32) (v_otherLo v_otherHi v_low v_high : Int64) (v_known : Nat → Int32) (v_lo v_hi : Nat → Int64) (v_at v_lookups v_safe v_met : Nat → Int32), ((¬ e = 0 ∧ v_fault = e ∧ v_place = z_at) ∨ (e = 0 ∧ v_fault = 0 ∧ v_place = y_place ∧ v_smallest = z_exitLeast ∧ v_greatest = z_exitMost ∧ ∀ j, j < n → z_reached j = v_met j)) → post (v_place, y_least, y_most, v_smallest, v_greatest, v_ways, v_fault, v_base, v_otherKind, v_otherLo, v_otherHi, v_low, v_high, y_bytes, y_steps, x_ops, x_targets, x_sources, x_offsets, x_immediates, x_lengths, y_there, v_known, v_lo, v_hi, v_at, v_lookups, v_safe, v_met, y_tag, y_word, y_packet, y_keys, y_values, y_many)) → wY_follow_69 post (N + 1 + 2) y_place y_least y_most y_smallest y_greatest (nI (w + 1)) 0 y_base y_otherKind y_otherLo y_otherHi y_low y_high y_bytes y_steps x_ops x_targets x_sources x_offsets x_immediates x_lengths y_there y_known y_lo y_hi y_at y_lookups y_safe y_met y_tag y_word y_packet y_keys y_values y_many) := by
        intro e60 C k1
        have W9 := WF_k9 (o := x_ops (80 + y)) (x := x_immediates (80 + y)) W
        have S0 := Sf_exit (po := fun j => x_ops (80 + j)) (pd := fun j => x_targets (80 + j)) (ps := fun j => x_sources (80 + j)) (pf := fun j => x_offsets (80 + j)) (pm := fun j => x_immediates (80 + j)) hn ha e60 W k1
        obtain ⟨p, b, pb, hb, el, eh⟩ := (W.1 0 (by omega)).2.1 k1
        by_cases w0 : w = 0
        · subst w0
          refine ⟨0, x_safe, nI y, _, _, nI 0, _, _, _, upd x_reached y 1, x_branchAt, x_branchSafe, x_branchKinds, x_branchLos, x_branchHis, W9.2.2.2.1, fun _ => sf S0 (fun j hj => absurd hj (by omega)), fun post P => xl_exit (by omega) hn ha (by omega) hl e60 C (fun _ => P) (fun z => absurd rfl z), ?_⟩
          intro y_smallest y_greatest y_base y_otherKind y_otherLo y_otherHi y_low y_high y_known y_lo y_hi y_at y_lookups y_safe y_met py pys ex rm post P
          have t0 := py.2.1 0 (by omega)
          rw [g_lo (by omega)] at t0
          obtain ⟨tl, th⟩ := t0.2.1 (Or.inl k1)
          refine yl_in (by omega) hn ha hl py.1 ?_
          refine yv_inE (by omega) e60 ?_
          refine yv_exO (by omega) (t0.1.trans k1) ?_
          refine yl_end0 (P _ _ _ _ _ _ _ _ _ _ _ _ _ _ _ _ _ _ (Or.inr ⟨rfl, rfl, rfl, ?_, ?_, rmu _ rm⟩))
          · obtain ⟨x, z, -, -, a1, a2, a3, a4⟩ := EX_step ex pb hb
            show (if y_smallest < 0 then y_lo (14 * 0 + 0) else if y_smallest ≤ y_lo (14 * 0 + 0) then y_smallest else y_lo (14 * 0 + 0)) = _
            rw [tl, el, a2, a1]
          · obtain ⟨x, z, -, -, a1, a2, a3, a4⟩ := EX_step ex pb hb
            show (if y_hi (14 * 0 + 0) ≤ y_greatest then y_greatest else y_hi (14 * 0 + 0)) = _
            rw [th, eh, a4, a3]
        · obtain ⟨w1, rfl⟩ : ∃ w1, w = w1 + 1 := ⟨w - 1, by omega⟩
          obtain ⟨p1, p2, p3, p4, p5, p6, p7, p8, p9, p10⟩ := px w1 (by omega)
          have epg : pl_ n (gm_ (q w1) (g w1)) = gl_ n (q w1) (g w1) := pl_gm hn
          have gm40 : gm_ (q w1) (g w1) ≤ 40 := by unfold gm_; split <;> omega
          have y1 := wt_pos (ops := x_ops) (n := n) (show y ≤ 40 by omega)
          have nx := ih (t + 1) w1 (gm_ (q w1) (g w1)) q f g (GS_ x_ops td ts x_branchSafe x_branchKinds x_branchLos q f w1) (if x_exitLeast ≤ x_los 0 then x_exitLeast else x_los 0) (if x_his 0 ≤ x_exitMost then x_exitMost else x_his 0) (GK_ td x_branchKinds q f w1) (GL_ x_ops td ts x_branchKinds x_branchLos x_branchHis q f w1) (GH_ x_ops td ts x_branchKinds x_branchLos x_branchHis q f w1) (upd x_reached y 1) x_branchAt x_branchSafe x_branchKinds x_branchLos x_branchHis p9 gm40 (by rw [epg]; exact p10) (fun j hj => px j (by omega)) (by rw [epg]; rw [ms_] at mu; omega) (by omega) (by
            rw [epg]
            intro s1 s2
            refine sf S0 (fun j hj => ?_)
            by_cases z : j = w1
            · subst z; exact s1
            · exact s2 j (by omega))
          rw [epg] at nx
          obtain ⟨e, z_safe, z_at, z_exitLeast, z_exitMost, z_branches, z_kinds, z_los, z_his, z_reached, z_branchAt, z_branchSafe, z_branchKinds, z_branchLos, z_branchHis, z16, zs, XW, YW⟩ := nx
          obtain ⟨ed1, hd1⟩ := htd (q w1)
          obtain ⟨es1, hs1⟩ := hts (q w1)
          obtain ⟨-, -, -, f4, -⟩ := oj_f p3
          refine ⟨e, z_safe, z_at, z_exitLeast, z_exitMost, z_branches, z_kinds, z_los, z_his, z_reached, z_branchAt, z_branchSafe, z_branchKinds, z_branchLos, z_branchHis, z16, zs, fun post P => xl_exit (by omega) hn ha (by omega) hl e60 C (fun z => absurd z w0) (fun _ => ?_), ?_⟩
          · refine xv_take (a := q w1) (n := n) (f := f w1) (g := g w1) (d := td (q w1)) (s := ts (q w1)) (by omega) (by omega) hn p5 p3.1 p3.2.1 (by omega) (by omega) hl p4 f4 ed1 es1 p2 (o := x_ops (80 + q w1)) (w := (x_immediates (80 + q w1)).toInt64 &&& 4294967295) rfl rfl (K := Bk_ x_branchKinds w1) (L := BL_ x_branchLos w1) (H := BL_ x_branchHis w1) ?_ ?_ ?_ ?_
            · rw [Bk_rs (fun j h => (W9.2.2.2.1 j h).1)]; exact p6.symm
            · rw [BL_rs (fun j h => (W9.2.2.2.1 j h).2.1)]; exact p7.symm
            · rw [BL_rs (fun j h => (W9.2.2.2.1 j h).2.2)]; exact p8.symm
            · exact XW post P
          · intro y_smallest y_greatest y_base y_otherKind y_otherLo y_otherHi y_low y_high y_known y_lo y_hi y_at y_lookups y_safe y_met py pys ex rm post P
            have t0 := py.2.1 0 (by omega)
            rw [g_lo (by omega)] at t0
            obtain ⟨tl, th⟩ := t0.2.1 (Or.inl k1)
            refine yl_in (by omega) hn ha hl py.1 ?_
            refine yv_inE (by omega) e60 ?_
            refine yv_exO (w := w1 + 1) (by omega) (t0.1.trans k1) ?_
            refine YW _ _ (nI (14 * (w1 + 1))) y_otherKind y_otherLo y_otherHi y_low y_high y_known y_lo y_hi y_at y_lookups y_safe (upd y_met y 1) (pys w1 (by omega)) (fun j hj => pys j (by omega)) ?_ (rmu _ rm) post P
            obtain ⟨x, z, hx, hz, a1, a2, a3, a4⟩ := EX_step ex pb hb
            refine Or.inr ⟨x, z, hx, hz, by rw [el]; exact a1, ?_, by rw [eh]; exact a3, ?_⟩
            · show (if y_smallest < 0 then y_lo (14 * (w1 + 1) + 0) else if y_smallest ≤ y_lo (14 * (w1 + 1) + 0) then y_smallest else y_lo (14 * (w1 + 1) + 0)) = _
              rw [tl, el, a2]
            · show (if y_hi (14 * (w1 + 1) + 0) ≤ y_greatest then y_greatest else y_hi (14 * (w1 + 1) + 0)) = _
              rw [th, eh, a4]
      rcases hok (80 + y) with ⟨fa, h⟩ | h | ⟨fj, h⟩ | h | h | h
      · obtain ⟨n60, nj⟩ := nj_no (Or.inl ⟨fa, h⟩)
        exact st_arith (by omega) hn hl hd hs rfl ed es rfl rfl W h kF (fun K' L' H' C Yp Sp W' => kP K' L' H' n60 nj C Yp Sp W')
      · exact st_ja (by omega) hn hl hd hs rfl ed es rfl rfl W h kF (kG (by rw [h]; decide) (by rw [h]; decide))
      · obtain ⟨n60, nj⟩ := nj_oj h
        have cd := cd_oj h
        have c1 : w + 1 ≤ cj_ x_ops n (y + 1) := by rw [cj_t ha cd]; omega
        have b10 : w < 10 := by
          have := cj_mono (ops := x_ops) (n := n) (show y + 1 ≤ n by omega)
          omega
        exact st_jump (by omega) hn hl hd hs rfl ed es rfl rfl W b10 h kF (fun K' L' H' C Yp Sp W' => kN K' L' H' n60 nj C Yp Sp W') (kG n60 nj) (kB n60 nj c1 cd)
      · obtain ⟨n60, nj⟩ := nj_no (Or.inr (Or.inl h))
        exact st_mem (by omega) hn hl hd hs rfl ed es rfl rfl W h kF (fun K' L' H' C Yp Sp W' => kP K' L' H' n60 nj C Yp Sp W')
      · obtain ⟨n60, nj⟩ := nj_no (Or.inr (Or.inr h))
        exact st_map (by omega) hn hl hd hs rfl ed es rfl rfl W h kF (fun K' L' H' C Yp Sp W' => kP K' L' H' n60 nj C Yp Sp W')
      · exact st_exit (by omega) hn hl hd hs rfl ed es rfl rfl W h kF (kE h)
end
section
theorem pk_least (P : Nat → Prop) (h : ∃ k, P k) : ∃ k, P k ∧ ∀ j, j < k → ¬ P j := by
  obtain ⟨k, hk⟩ := h
  induction k using Nat.strongRecOn with
  | ind k ih =>
    by_cases e : ∃ j, j < k ∧ P j
    · obtain ⟨j, hj, pj⟩ := e
      exact ih j hj pj
    · exact ⟨k, hk, fun j hj pj => e ⟨j, hj, pj⟩⟩
theorem cd_X {o : Int32} (h : ok_ o) : cd_ o ↔ ((o / 10 = 2 ∨ o / 10 = 3) ∧ ¬ o = 20) := by
  rcases h with ⟨f, h⟩ | h | ⟨f, h⟩ | h | h | h
  · constructor
    · intro z; exact absurd z (cd_oa h)
    · rintro ⟨z, -⟩; exact absurd z (nj_no (Or.inl ⟨f, h⟩)).2
  · rw [h]; unfold cd_; decide
  · constructor
    · intro _; exact ⟨(nj_oj h).2, (oj_f h).2.2.1⟩
    · intro _; exact cd_oj h
  · rcases h with rfl | rfl | rfl <;> unfold cd_ <;> decide
  · rcases h with rfl | rfl | rfl <;> unfold cd_ <;> decide
  · rw [h]; unfold cd_; decide
section
variable {x_safe : Int64} {x_at : Int32} {x_exitLeast : Int64} {x_exitMost : Int64} {x_branches : Int32} {x_faultPlace : Int32} {x_provedLeast : Int64} {x_provedMost : Int64} {x_packetLength : Int32} {x_executed : Int32} {x_ops : Nat → Int32} {x_targets : Nat → Int32} {x_sources : Nat → Int32} {x_offsets : Nat → Int32} {x_immediates : Nat → Int32} {x_lengths : Nat → Int32} {x_kinds : Nat → Int32} {x_los : Nat → Int64} {x_his : Nat → Int64} {x_reached : Nat → Int32} {x_branchAt : Nat → Int32} {x_branchSafe : Nat → Int64} {x_branchKinds : Nat → Int32} {x_branchLos : Nat → Int64} {x_branchHis : Nat → Int64} {x_packet : Nat → Int32} {x_registers : Nat → Int64} {x_cells : Nat → Int64} {x_keyWords : Nat → Int64} {x_keyTaken : Nat → Int32}
theorem xs_surL {post : Int32 → Prop} {n : Nat} (hn : n ≤ 40) (hl : x_lengths 2 = nI n) (hok : ∀ j, ok_ (x_ops j)) (A : ∀ m, m < n → cd_ (x_ops (80 + m)) → cj_ x_ops n m = 10 → post (nI m)) (B : cj_ x_ops n n ≤ 10 → post (-1)) : ∀ d j c : Nat, j + d = n → c = cj_ x_ops n j → c ≤ 10 → wX_placeOfSurplusJump_4 post x_safe x_at x_exitLeast x_exitMost x_branches x_faultPlace x_provedLeast x_provedMost x_packetLength x_executed x_ops x_targets x_sources x_offsets x_immediates x_lengths x_kinds x_los x_his x_reached x_branchAt x_branchSafe x_branchKinds x_branchLos x_branchHis x_packet x_registers x_cells x_keyWords x_keyTaken (d + 1) (nI c) (nI j) := by
  intro d
  induction d with
  | zero =>
    intro j c hj hc h10
    have : j = n := by omega
    subst this
    exact br_t (by rw [hl, nI_leI (by omega) (by omega)]; omega) (B (by omega))
  | succ d ih =>
    intro j c hj hc h10
    have v : vp_in (80 + nI j) 120 := by rw [xb_add80]; exact vp_in_nI (by omega) (by decide)
    have cl : (80 + nI j).toNatClampNeg = 80 + j := by rw [xb_add80]; exact nI_clamp (by omega)
    have X := cd_X (hok (80 + j))
    have nx : ¬ cd_ (x_ops (80 + j)) → wX_placeOfSurplusJump_41 post (wX_placeOfSurplusJump_4 post x_safe x_at x_exitLeast x_exitMost x_branches x_faultPlace x_provedLeast x_provedMost x_packetLength x_executed x_ops x_targets x_sources x_offsets x_immediates x_lengths x_kinds x_los x_his x_reached x_branchAt x_branchSafe x_branchKinds x_branchLos x_branchHis x_packet x_registers x_cells x_keyWords x_keyTaken (d + 1)) (nI c) (nI j) x_safe x_at x_exitLeast x_exitMost x_branches x_faultPlace x_provedLeast x_provedMost x_packetLength x_executed x_ops x_targets x_sources x_offsets x_immediates x_lengths x_kinds x_los x_his x_reached x_branchAt x_branchSafe x_branchKinds x_branchLos x_branchHis x_packet x_registers x_cells x_keyWords x_keyTaken := by
      intro z
      refine br_t rfl (br_t rfl (nm_r (nI_1 j) (ih (j + 1) c (by omega) ?_ h10)))
      rw [cj_f z]; exact hc
    refine br_f (by rw [hl, nI_leI (by omega) (by omega)]; omega) ⟨v, nm_r (e' := x_ops (80 + j)) (by rw [cl]) (xv_isJump.mpr ?_)⟩
    by_cases q : x_ops (80 + j) / 10 = 2 ∨ x_ops (80 + j) / 10 = 3
    · rw [if_pos q]
      refine br_f (by decide) (br_c (fun z => nx (fun w => (X.mp w).2 z)) (fun z => ?_))
      have cd := X.mpr ⟨q, z⟩
      refine br_f (by decide) (br_c (fun y => A j (by omega) cd ?_) (fun y => br_f (by decide) (nm_r (nI_1 c) (nm_r (nI_1 j) (ih (j + 1) (c + 1) (by omega) ?_ ?_)))))
      · rw [xb_eq10 (by omega)] at y; omega
      · rw [cj_t (by omega) cd]; omega
      · rw [xb_eq10 (by omega)] at y; omega
    · rw [if_neg q]
      exact br_t rfl (nx (fun w => q (X.mp w).1))
theorem xs_sur {post : Int32 → Prop} {n : Nat} (hn : n ≤ 40) (hl : x_lengths 2 = nI n) (hok : ∀ j, ok_ (x_ops j)) (A : ∀ m, m < n → cd_ (x_ops (80 + m)) → cj_ x_ops n m = 10 → post (nI m)) (B : cj_ x_ops n n ≤ 10 → post (-1)) : wpX_placeOfSurplusJump post (x_safe, x_at, x_exitLeast, x_exitMost, x_branches, x_faultPlace, x_provedLeast, x_provedMost, x_packetLength, x_executed, x_ops, x_targets, x_sources, x_offsets, x_immediates, x_lengths, x_kinds, x_los, x_his, x_reached, x_branchAt, x_branchSafe, x_branchKinds, x_branchLos, x_branchHis, x_packet, x_registers, x_cells, x_keyWords, x_keyTaken) := ⟨n + 1, xs_surL hn hl hok A B n 0 0 (by omega) rfl (by omega)⟩
theorem xs_unrL {post : Int32 → Prop} {n : Nat} (hn : n ≤ 40) (hl : x_lengths 2 = nI n) (A : ∀ m, m < n → x_reached m = 0 → (∀ j, j < m → ¬ x_reached j = 0) → post (nI m)) (B : (∀ j, j < n → ¬ x_reached j = 0) → post (-1)) : ∀ d j : Nat, j + d = n → (∀ i, i < j → ¬ x_reached i = 0) → wX_placeOfUnreached_2 post x_safe x_at x_exitLeast x_exitMost x_branches x_faultPlace x_provedLeast x_provedMost x_packetLength x_executed x_ops x_targets x_sources x_offsets x_immediates x_lengths x_kinds x_los x_his x_reached x_branchAt x_branchSafe x_branchKinds x_branchLos x_branchHis x_packet x_registers x_cells x_keyWords x_keyTaken (d + 1) (nI j) := by
  intro d
  induction d with
  | zero =>
    intro j hj h
    exact br_t (by rw [hl, nI_leI (by omega) (by omega)]; omega) (B (fun i hi => h i (by omega)))
  | succ d ih =>
    intro j hj h
    refine br_f (by rw [hl, nI_leI (by omega) (by omega)]; omega) ⟨vp_in_nI (by omega) (by decide), ?_⟩
    rw [nI_clamp (n := j) (by omega)]
    refine br_c (fun z => A j (by omega) z h) (fun z => nm_r (nI_1 j) (ih (j + 1) (by omega) (fun i hi => ?_)))
    by_cases y : i = j
    · rw [y]; exact z
    · exact h i (by omega)
theorem xs_unr {post : Int32 → Prop} {n : Nat} (hn : n ≤ 40) (hl : x_lengths 2 = nI n) (A : ∀ m, m < n → x_reached m = 0 → (∀ j, j < m → ¬ x_reached j = 0) → post (nI m)) (B : (∀ j, j < n → ¬ x_reached j = 0) → post (-1)) : wpX_placeOfUnreached post (x_safe, x_at, x_exitLeast, x_exitMost, x_branches, x_faultPlace, x_provedLeast, x_provedMost, x_packetLength, x_executed, x_ops, x_targets, x_sources, x_offsets, x_immediates, x_lengths, x_kinds, x_los, x_his, x_reached, x_branchAt, x_branchSafe, x_branchKinds, x_branchLos, x_branchHis, x_packet, x_registers, x_cells, x_keyWords, x_keyTaken) := ⟨n + 1, xs_unrL hn hl A B n 0 (by omega) (fun i hi => absurd hi (by omega))⟩
end
section
variable {y_place : Int32} {y_least : Int64} {y_most : Int64} {y_smallest : Int64} {y_greatest : Int64} {y_ways : Int32} {y_fault : Int32} {y_base : Int32} {y_otherKind : Int32} {y_otherLo : Int64} {y_otherHi : Int64} {y_low : Int64} {y_high : Int64} {y_bytes : Int32} {y_steps : Int32} {y_op : Nat → Int32} {y_first : Nat → Int32} {y_second : Nat → Int32} {y_offset : Nat → Int32} {y_given : Nat → Int32} {y_length : Nat → Int32} {y_there : Nat → Int32} {y_known : Nat → Int32} {y_lo : Nat → Int64} {y_hi : Nat → Int64} {y_at : Nat → Int32} {y_lookups : Nat → Int32} {y_safe : Nat → Int32} {y_met : Nat → Int32} {y_tag : Nat → Int32} {y_word : Nat → Int64} {y_packet : Nat → Int32} {y_keys : Nat → Int64} {y_values : Nat → Int64} {y_many : Nat → Int32}
theorem ys_surL {post : Int32 → SY → Prop} {n : Nat} {p : Int32} (hn : n ≤ 40) (f0 : y_fault = 0) (A : ∀ m met', m < n → cd_ (y_op (80 + m)) → cj_ y_op n m = 10 → wY_verify_97 post p (nI n) (nI m) y_least y_most y_smallest y_greatest y_ways 5 y_base y_otherKind y_otherLo y_otherHi y_low y_high y_bytes y_steps y_op y_first y_second y_offset y_given y_length y_there y_known y_lo y_hi y_at y_lookups y_safe met' y_tag y_word y_packet y_keys y_values y_many) (B : cj_ y_op n n ≤ 10 → ∀ met', (∀ j, j < n → met' j = 0) → wY_verify_97 post p (nI n) y_place y_least y_most y_smallest y_greatest y_ways y_fault y_base y_otherKind y_otherLo y_otherHi y_low y_high y_bytes y_steps y_op y_first y_second y_offset y_given y_length y_there y_known y_lo y_hi y_at y_lookups y_safe met' y_tag y_word y_packet y_keys y_values y_many) : ∀ (d j c : Nat) (met : Nat → Int32), j + d = n → c = cj_ y_op n j → c ≤ 10 → (∀ i, i < j → met i = 0) → wY_verify_42 post p (nI n) (d + 2) (nI c) (nI j) y_place y_least y_most y_smallest y_greatest y_ways y_fault y_base y_otherKind y_otherLo y_otherHi y_low y_high y_bytes y_steps y_op y_first y_second y_offset y_given y_length y_there y_known y_lo y_hi y_at y_lookups y_safe met y_tag y_word y_packet y_keys y_values y_many := by
  intro d
  induction d with
  | zero =>
    intro j c met hj hc h10 hm
    have : j = n := by omega
    subst this
    exact br_t (nI_le (Nat.le_refl _) (by omega)) (B (by omega) met hm)
  | succ d ih =>
    intro j c met hj hc h10 hm
    have v : vp_in (80 + nI j) 120 := by rw [xb_add80]; exact vp_in_nI (by omega) (by decide)
    have cl : (80 + nI j).toNatClampNeg = 80 + j := by rw [xb_add80]; exact nI_clamp (by omega)
    have hm' : ∀ i, i < j + 1 → upd met j 0 i = 0 := by
      intro i hi
      by_cases z : i = j
      · rw [z, pk_us]
      · rw [pk_un z]; exact hm i (by omega)
    have nx : ¬ cd_ (y_op (80 + j)) → wY_verify_42 post p (nI n) (d + 2) (nI c) (nI (j + 1)) y_place y_least y_most y_smallest y_greatest y_ways y_fault y_base y_otherKind y_otherLo y_otherHi y_low y_high y_bytes y_steps y_op y_first y_second y_offset y_given y_length y_there y_known y_lo y_hi y_at y_lookups y_safe (upd met j 0) y_tag y_word y_packet y_keys y_values y_many := by
      intro z
      exact ih (j + 1) c _ (by omega) (by rw [cj_f z]; exact hc) h10 hm'
    refine br_f (by rw [nI_leI (by omega) (by omega)]; omega) (br_t f0 ⟨vp_in_nI (by omega) (by decide), nm_r (e' := upd met j 0) (by rw [nI_clamp (by omega), xb_bf]) ⟨v, ?_⟩⟩)
    rw [cl]
    refine br_c (fun z => br_t rfl (nm_r (nI_1 j) (nx (fun w => w.1 z)))) (fun z => ⟨v, br_c (fun y => br_t rfl (nm_r (nI_1 j) (nx (fun w => w.2 y)))) (fun y => br_f (by decide) (nm_r (nI_1 c) ?_))⟩)
    have cd : cd_ (y_op (80 + j)) := ⟨z, y⟩
    refine br_c (fun x => ?_) (fun x => nm_r (nI_1 j) (ih (j + 1) (c + 1) _ (by omega) ?_ ?_ hm'))
    · have c10 : c = 10 := by
        have : nI (c + 1) = nI 11 := x
        rw [nI_eq (by omega) (by omega)] at this; omega
      have G := A j (upd met j 0) (by omega) cd (by omega)
      refine nm_r (nI_1 j) ?_
      exact br_c (fun _ => G) (fun _ => br_f (by show ¬ (5 : Int32) = 0; decide) G)
    · rw [cj_t (by omega) cd]; omega
    · have : ¬ nI (c + 1) = nI 11 := x
      rw [nI_eq (by omega) (by omega)] at this; omega
theorem ys_148F {post : Int32 → SY → Prop} {n : Nat} {p : Int32} (f0 : ¬ y_fault = 0) (H : post y_fault (y_place, y_least, y_most, y_smallest, y_greatest, y_ways, y_fault, y_base, y_otherKind, y_otherLo, y_otherHi, y_low, y_high, y_bytes, y_steps, y_op, y_first, y_second, y_offset, y_given, y_length, y_there, y_known, y_lo, y_hi, y_at, y_lookups, y_safe, y_met, y_tag, y_word, y_packet, y_keys, y_values, y_many)) : wY_verify_148 post p (nI n) y_place y_least y_most y_smallest y_greatest y_ways y_fault y_base y_otherKind y_otherLo y_otherHi y_low y_high y_bytes y_steps y_op y_first y_second y_offset y_given y_length y_there y_known y_lo y_hi y_at y_lookups y_safe y_met y_tag y_word y_packet y_keys y_values y_many := br_f f0 H
theorem ys_97F {post : Int32 → SY → Prop} {n : Nat} {p : Int32} (f0 : ¬ y_fault = 0) (H : post y_fault (y_place, y_least, y_most, y_smallest, y_greatest, y_ways, y_fault, y_base, y_otherKind, y_otherLo, y_otherHi, y_low, y_high, y_bytes, y_steps, y_op, y_first, y_second, y_offset, y_given, y_length, y_there, y_known, y_lo, y_hi, y_at, y_lookups, y_safe, y_met, y_tag, y_word, y_packet, y_keys, y_values, y_many)) : wY_verify_97 post p (nI n) y_place y_least y_most y_smallest y_greatest y_ways y_fault y_base y_otherKind y_otherLo y_otherHi y_low y_high y_bytes y_steps y_op y_first y_second y_offset y_given y_length y_there y_known y_lo y_hi y_at y_lookups y_safe y_met y_tag y_word y_packet y_keys y_values y_many :=
  br_f f0 ⟨1, br_c (fun _ => ys_148F f0 H) (fun _ => br_f f0 (ys_148F f0 H))⟩
theorem ys_unrL {post : Int32 → SY → Prop} {n : Nat} {p : Int32} (hn : n ≤ 40) (f0 : y_fault = 0) (A : ∀ m, m < n → y_met m = 0 → (∀ j, j < m → ¬ y_met j = 0) → post 6 (nI m, y_least, y_most, y_smallest, y_greatest, y_ways, 6, y_base, y_otherKind, y_otherLo, y_otherHi, y_low, y_high, y_bytes, y_steps, y_op, y_first, y_second, y_offset, y_given, y_length, y_there, y_known, y_lo, y_hi, y_at, y_lookups, y_safe, y_met, y_tag, y_word, y_packet, y_keys, y_values, y_many)) (B : (∀ j, j < n → ¬ y_met j = 0) → wY_verify_148 post p (nI n) y_place y_least y_most y_smallest y_greatest y_ways y_fault y_base y_otherKind y_otherLo y_otherHi y_low y_high y_bytes y_steps y_op y_first y_second y_offset y_given y_length y_there y_known y_lo y_hi y_at y_lookups y_safe y_met y_tag y_word y_packet y_keys y_values y_many) : ∀ d j : Nat, j + d = n → (∀ i, i < j → ¬ y_met i = 0) → wY_verify_111 post p (nI n) (d + 2) (nI j) y_place y_least y_most y_smallest y_greatest y_ways y_fault y_base y_otherKind y_otherLo y_otherHi y_low y_high y_bytes y_steps y_op y_first y_second y_offset y_given y_length y_there y_known y_lo y_hi y_at y_lookups y_safe y_met y_tag y_word y_packet y_keys y_values y_many := by
  intro d
  induction d with
  | zero =>
    intro j hj h
    exact br_t (by rw [nI_leI (by omega) (by omega)]; omega) (B (fun i hi => h i (by omega)))
  | succ d ih =>
    intro j hj h
    refine br_f (by rw [nI_leI (by omega) (by omega)]; omega) (br_t f0 ⟨vp_in_nI (by omega) (by decide), ?_⟩)
    rw [nI_clamp (n := j) (by omega)]
    refine br_c (fun z => nm_r (nI_1 j) ?_) (fun z => nm_r (nI_1 j) (ih (j + 1) (by omega) (fun i hi => ?_)))
    · have G := A j (by omega) z h
      have n6 : ¬ (6 : Int32) = 0 := by decide
      exact br_c (fun _ => ys_148F (y_fault := 6) n6 G) (fun _ => br_f n6 (ys_148F (y_fault := 6) n6 G))
    · by_cases y : i = j
      · rw [y]; exact z
      · exact h i (by omega)
/-- a byte of a program's rows -/
def by_ (A : Nat → Int32) : Prop := ∀ j, vp_nar .byte (A j) = A j
theorem by_cp {A : Nat → Int32} {p m : Nat} (h : by_ A) : by_ (cp_ A p m) := by
  intro j; unfold cp_; split <;> exact h _
theorem ys_keepL {post : Int32 → SY → Prop} {p n : Nat} (hp : p < 2) (hn : n ≤ 40) (b1 : by_ y_op) (b2 : by_ y_first) (b3 : by_ y_second) (H : post 0 (y_place, y_least, y_most, y_smallest, y_greatest, y_ways, y_fault, y_base, y_otherKind, y_otherLo, y_otherHi, y_low, y_high, y_bytes, y_steps, cp_ y_op p n, cp_ y_first p n, cp_ y_second p n, cp_ y_offset p n, cp_ y_given p n, y_length, y_there, y_known, y_lo, y_hi, y_at, y_lookups, y_safe, y_met, y_tag, y_word, y_packet, y_keys, y_values, y_many)) : ∀ d m : Nat, m + d = n → wY_verify_199 post (nI p) (nI n) y_place y_least y_most y_smallest y_greatest y_ways y_fault y_base y_otherKind y_otherLo y_otherHi y_low y_high y_bytes y_steps (d + 1) (nI m) (cp_ y_op p m) (cp_ y_first p m) (cp_ y_second p m) (cp_ y_offset p m) (cp_ y_given p m) y_length y_there y_known y_lo y_hi y_at y_lookups y_safe y_met y_tag y_word y_packet y_keys y_values y_many := by
  intro d
  induction d with
  | zero =>
    intro m hm
    have e : m = n := by omega
    subst e
    exact br_t (nI_le (Nat.le_refl _) (by omega)) H
  | succ d ih =>
    intro m hm
    have e1 : 80 + nI m = nI (80 + m) := xb_add80 m
    have e2 : 40 * nI p + nI m = nI (40 * p + m) := by rw [xb_mul40, nI_add]
    have v1 : vp_in (80 + nI m) 120 := by rw [e1]; exact vp_in_nI (by omega) (by decide)
    have v2 : vp_in (40 * nI p + nI m) 120 := by rw [e2]; exact vp_in_nI (by omega) (by decide)
    have c1 : (80 + nI m).toNatClampNeg = 80 + m := by rw [e1]; exact nI_clamp (by omega)
    have c2 : (40 * nI p + nI m).toNatClampNeg = 40 * p + m := by rw [e2]; exact nI_clamp (by omega)
    refine br_f (by rw [nI_leI (by omega) (by omega)]; omega) ⟨v1, v2, nm_r (by rw [c1, c2, by_cp b1 _, cp_s _ hp (by omega)]) ⟨v1, v2, nm_r (by rw [c1, c2, by_cp b2 _, cp_s _ hp (by omega)]) ⟨v1, v2, nm_r (by rw [c1, c2, by_cp b3 _, cp_s _ hp (by omega)]) ⟨v1, v2, nm_r (by rw [c1, c2, cp_s _ hp (by omega)]) ⟨v1, v2, nm_r (by rw [c1, c2, cp_s _ hp (by omega)]) (nm_r (nI_1 m) (ih (m + 1) (by omega)))⟩⟩⟩⟩⟩
theorem ys_keep {post : Int32 → SY → Prop} {p n : Nat} (hp : p < 2) (hn : n ≤ 40) (f0 : y_fault = 0) (b1 : by_ y_op) (b2 : by_ y_first) (b3 : by_ y_second) (H : post 0 (-1, y_smallest, y_greatest, y_smallest, y_greatest, y_ways, y_fault, y_base, y_otherKind, y_otherLo, y_otherHi, y_low, y_high, y_bytes, y_steps, cp_ y_op p n, cp_ y_first p n, cp_ y_second p n, cp_ y_offset p n, cp_ y_given p n, upd y_length p (nI n), upd y_there p 1, y_known, y_lo, y_hi, y_at, y_lookups, y_safe, y_met, y_tag, y_word, y_packet, y_keys, y_values, y_many)) : wY_verify_148 post (nI p) (nI n) y_place y_least y_most y_smallest y_greatest y_ways y_fault y_base y_otherKind y_otherLo y_otherHi y_low y_high y_bytes y_steps y_op y_first y_second y_offset y_given y_length y_there y_known y_lo y_hi y_at y_lookups y_safe y_met y_tag y_word y_packet y_keys y_values y_many := by
  have cp : (nI p).toNatClampNeg = p := nI_clamp (by omega)
  refine br_t f0 ⟨vp_in_nI hp (by decide), nm_r (e' := upd y_there p 1) (by rw [cp, xb_bt]) ⟨vp_in_nI (by omega) (by decide), nm_r (e' := upd y_length p (nI n)) (by rw [cp, xb_nb (by omega), xb_vb (by omega)]) ⟨n + 1, ?_⟩⟩⟩
  have := ys_keepL (y_place := -1) (y_least := y_smallest) (y_most := y_greatest) (y_there := upd y_there p 1) (y_length := upd y_length p (nI n)) hp hn b1 b2 b3 H n 0 (by omega)
  rw [cp_0, cp_0, cp_0, cp_0, cp_0] at this
  exact this
/-- the start of Y's paths -/
theorem ys_fol7 {post : SY → Prop} (H : ∀ (kn : Nat → Int32) (lo hi : Nat → Int64), Fr_ K0_ (fun _ => 0) (fun _ => 0) kn lo hi 0 0 → ∃ n69, wY_follow_69 post n69 y_place y_least y_most y_smallest y_greatest 1 y_fault (nI 0) y_otherKind y_otherLo y_otherHi y_low y_high y_bytes y_steps y_op y_first y_second y_offset y_given y_length y_there kn lo hi (upd y_at 0 0) (upd y_lookups 0 0) (upd y_safe 0 0) y_met y_tag y_word y_packet y_keys y_values y_many) : ∀ (d m : Nat) (kn : Nat → Int32) (lo hi : Nat → Int64), m + d = 14 → (∀ r, r < m → kn r = 0) → wY_follow_7 post (d + 1) (nI m) y_place y_least y_most y_smallest y_greatest y_ways y_fault (nI 0) y_otherKind y_otherLo y_otherHi y_low y_high y_bytes y_steps y_op y_first y_second y_offset y_given y_length y_there kn lo hi y_at y_lookups y_safe y_met y_tag y_word y_packet y_keys y_values y_many := by
  intro d
  induction d with
  | zero =>
    intro m kn lo hi hm hk
    have e : m = 14 := by omega
    subst e
    refine br_t (by decide) ((yv_set (B := 0) (r := 1) (by decide) (by unfold k7_; simp)).mpr ((yv_set (B := 0) (r := 2) (by decide) (by unfold k7_; simp)).mpr (nm_r (e' := upd y_at 0 0) (by rw [xb_b0]) (nm_r (e' := upd y_safe 0 0) (by rw [xb_s0]) (nm_r (e' := upd y_lookups 0 0) (by rw [xb_b0]) (H _ _ _ ?_))))))
    intro r hr
    by_cases r1 : r = 1
    · subst r1; exact T_2
    · by_cases r2 : r = 2
      · subst r2; exact ⟨rfl, fun z => absurd z (by decide), fun z => absurd z (by decide), fun z => absurd z (by decide)⟩
      · have eK : K0_ (g_ r) = 0 := by
          unfold K0_
          rw [if_neg, if_neg, if_neg (g_8 r)]
          · unfold g_; split <;> omega
          · unfold g_; split <;> omega
        rw [eK, pk_un (by omega), pk_un (by omega), show 0 + r = r from by omega, hk r hr]
        exact T_0
  | succ d ih =>
    intro m kn lo hi hm hk
    refine br_f (by rw [xb_le14 (by omega)]; omega) ((yv_set (B := 0) (by omega) (Or.inl rfl)).mpr (nm_r (nI_1 m) (ih (m + 1) _ _ _ (by omega) (fun r hr => ?_))))
    by_cases z : r = 0 + m
    · rw [z, pk_us]
    · rw [pk_un z]; exact hk r (by omega)
theorem ys_follow {post : SY → Prop} (H : ∀ (kn : Nat → Int32) (lo hi : Nat → Int64), Fr_ K0_ (fun _ => 0) (fun _ => 0) kn lo hi 0 0 → ∃ n69, wY_follow_69 post n69 y_place y_least y_most y_smallest y_greatest 1 y_fault (nI 0) y_otherKind y_otherLo y_otherHi y_low y_high y_bytes y_steps y_op y_first y_second y_offset y_given y_length y_there kn lo hi (upd y_at 0 0) (upd y_lookups 0 0) (upd y_safe 0 0) y_met y_tag y_word y_packet y_keys y_values y_many) : wpY_follow post (y_place, y_least, y_most, y_smallest, y_greatest, y_ways, y_fault, y_base, y_otherKind, y_otherLo, y_otherHi, y_low, y_high, y_bytes, y_steps, y_op, y_first, y_second, y_offset, y_given, y_length, y_there, y_known, y_lo, y_hi, y_at, y_lookups, y_safe, y_met, y_tag, y_word, y_packet, y_keys, y_values, y_many) := ⟨15, ys_fol7 H 14 0 y_known y_lo y_hi rfl (fun r hr => absurd hr (by omega))⟩
end
theorem WF_0 : WF_ K0_ (fun _ => 0) (fun _ => 0) 0 := by
  refine ⟨fun j hj => ?_, rfl, rfl, fun j hj => ⟨?_, rfl, rfl⟩, 0, by omega, rfl⟩
  · unfold K0_
    split
    · exact wf_2 ⟨0, 0, by omega, by omega, rfl, rfl⟩
    · split
      · exact ⟨by unfold k7_; simp, fun z => absurd z (by decide), fun z => absurd z (by decide), fun z => absurd z (by decide)⟩
      · split
        · exact wf_45 (Or.inl rfl)
        · exact wf_0
  · unfold K0_
    rw [if_neg (by omega), if_neg (by omega), if_neg (by omega)]
end
section
def PO_ (ops tgt src : Nat → Int32) : Prop := ∀ j, ok_ (ops j) ∧ (∃ d, d < 8 ∧ tgt j = nI d) ∧ (∃ s, s < 9 ∧ src j = nI s)
def TH_ (ops tgt src off imm len there : Nat → Int32) : Prop := ∀ p, p < 2 → (there p = 0 ∧ len p = 0) ∨ (¬ there p = 0 ∧ ∃ m : Nat, 1 ≤ m ∧ m ≤ 40 ∧ len p = nI m ∧ Sf_ (fun j => ops (40 * p + j)) (fun j => tgt (40 * p + j)) (fun j => src (40 * p + j)) (fun j => off (40 * p + j)) (fun j => imm (40 * p + j)) m 0 K0_ (fun _ => 0) (fun _ => 0) 0)
def PK_ (a b : Int32) (pX pY : Nat → Int32) : Prop := ∃ c : Nat, c ≤ 24 ∧ a = nI c ∧ b = nI c ∧ ∀ j, pX j = pY j &&& 255
/-- what holds between the two machines at the head of every call -/
def i_Rel (_ : Nat) (u : SX) (v : SY) : Prop := match u, v with
  | (x_safe, x_at, x_exitLeast, x_exitMost, x_branches, x_faultPlace, x_provedLeast, x_provedMost, x_packetLength, x_executed, x_ops, x_targets, x_sources, x_offsets, x_immediates, x_lengths, x_kinds, x_los, x_his, x_reached, x_branchAt, x_branchSafe, x_branchKinds, x_branchLos, x_branchHis, x_packet, x_registers, x_cells, x_keyWords, x_keyTaken), (y_place, y_least, y_most, y_smallest, y_greatest, y_ways, y_fault, y_base, y_otherKind, y_otherLo, y_otherHi, y_low, y_high, y_bytes, y_steps, y_op, y_first, y_second, y_offset, y_given, y_length, y_there, y_known, y_lo, y_hi, y_at, y_lookups, y_safe, y_met, y_tag, y_word, y_packet, y_keys, y_values, y_many) => (x_ops = y_op ∧ x_targets = y_first ∧ x_sources = y_second ∧ x_offsets = y_offset ∧ x_immediates = y_given ∧ x_lengths = y_length) ∧ PO_ x_ops x_targets x_sources ∧ (∃ n : Nat, n ≤ 40 ∧ x_lengths 2 = nI n) ∧ (x_faultPlace = y_place ∧ x_provedLeast = y_least ∧ x_provedMost = y_most) ∧ PK_ x_packetLength y_bytes x_packet y_packet ∧ x_executed = y_steps ∧ (∃ π, Mp_ π x_keyTaken x_keyWords x_cells y_keys y_values y_many) ∧ TH_ x_ops x_targets x_sources x_offsets x_immediates x_lengths y_there ∧ (∀ j, 16 ≤ j → x_kinds j = 0 ∧ x_los j = 0 ∧ x_his j = 0)
theorem Sf_cong {po pd ps pf pm po' pd' ps' pf' pm' : Nat → Int32} {n i : Nat} {K : Nat → Int32} {L H : Nat → Int64} {S : Int64} (h : ∀ j, j < n → po' j = po j ∧ pd' j = pd j ∧ ps' j = ps j ∧ pf' j = pf j ∧ pm' j = pm j) (s : Sf_ po pd ps pf pm n i K L H S) : Sf_ po' pd' ps' pf' pm' n i K L H S := by
  refine ⟨s.1, fun π rg ce kt kw tg wd ks vs mn b pX pY C hb hp => ?_⟩
  obtain ⟨r, st, π2, rg2, ce2, kt2, kw2, tg2, wd2, ks2, vs2, mn2, M2, X2, Y2⟩ := s.2 π rg ce kt kw tg wd ks vs mn b pX pY C hb hp
  have g : ∀ {A1 A2 A3 A4 A5 : Nat → Int32} {p : Nat}, Pg_ A1 A2 A3 A4 A5 p n po' pd' ps' pf' pm' → Pg_ A1 A2 A3 A4 A5 p n po pd ps pf pm := by
    intro A1 A2 A3 A4 A5 p G j hj
    obtain ⟨q1, q2, q3, q4, q5⟩ := G j hj
    obtain ⟨h1, h2, h3, h4, h5⟩ := h j hj
    exact ⟨q1.trans h1, q2.trans h2, q3.trans h3, q4.trans h4, q5.trans h5⟩
  refine ⟨r, st, π2, rg2, ce2, kt2, kw2, tg2, wd2, ks2, vs2, mn2, M2, ?_, ?_⟩
  · intro x_safe x_at x_exitLeast x_exitMost x_branches x_faultPlace x_provedLeast x_provedMost x_packetLength x_executed x_ops x_targets x_sources x_offsets x_immediates x_lengths x_kinds x_los x_his x_reached x_branchAt x_branchSafe x_branchKinds x_branchLos x_branchHis x_packet x_registers x_cells x_keyWords x_keyTaken p t fu post h2 G el ht hf P
    exact X2 x_safe x_at x_exitLeast x_exitMost x_branches x_faultPlace x_provedLeast x_provedMost x_packetLength x_executed x_ops x_targets x_sources x_offsets x_immediates x_lengths x_kinds x_los x_his x_reached x_branchAt x_branchSafe x_branchKinds x_branchLos x_branchHis x_packet x_registers x_cells x_keyWords x_keyTaken p t fu post h2 (g G) el ht hf P
  · intro y_place y_least y_most y_smallest y_greatest y_ways y_fault y_base y_otherKind y_otherLo y_otherHi y_low y_high y_bytes y_steps y_op y_first y_second y_offset y_given y_length y_there y_known y_lo y_hi y_at y_lookups y_safe y_met y_tag y_word y_packet y_keys y_values y_many p fu post h2 G hf P
    exact Y2 y_place y_least y_most y_smallest y_greatest y_ways y_fault y_base y_otherKind y_otherLo y_otherHi y_low y_high y_bytes y_steps y_op y_first y_second y_offset y_given y_length y_there y_known y_lo y_hi y_at y_lookups y_safe y_met y_tag y_word y_packet y_keys y_values y_many p fu post h2 (g G) hf P
theorem ok_n {o : Int32} (h : ok_ o) : ∃ c : Nat, c < 128 ∧ o = nI c := by
  rcases h with ⟨f, h6, h | h⟩ | h | ⟨f, -, h4, h | h⟩ | (h | h | h) | (h | h | h) | h
  · exact ⟨f, by omega, h⟩
  · exact ⟨10 + f, by omega, h⟩
  · exact ⟨20, by omega, h⟩
  · exact ⟨20 + f, by omega, h⟩
  · exact ⟨30 + f, by omega, h⟩
  · exact ⟨40, by omega, h⟩
  · exact ⟨41, by omega, h⟩
  · exact ⟨42, by omega, h⟩
  · exact ⟨50, by omega, h⟩
  · exact ⟨51, by omega, h⟩
  · exact ⟨52, by omega, h⟩
  · exact ⟨60, by omega, h⟩
theorem po_b {ops tgt src : Nat → Int32} (h : PO_ ops tgt src) : by_ ops ∧ by_ tgt ∧ by_ src := by
  refine ⟨fun j => ?_, fun j => ?_, fun j => ?_⟩
  · obtain ⟨c, hc, e⟩ := ok_n (h j).1
    rw [e]; exact xb_vb hc
  · obtain ⟨c, hc, e⟩ := (h j).2.1
    rw [e]; exact xb_vb (by omega)
  · obtain ⟨c, hc, e⟩ := (h j).2.2
    rw [e]; exact xb_vb (by omega)
theorem po_cp {ops tgt src : Nat → Int32} {p n : Nat} (h : PO_ ops tgt src) : PO_ (cp_ ops p n) (cp_ tgt p n) (cp_ src p n) := by
  intro j
  unfold cp_
  split <;> exact h _
theorem th_keep {ops tgt src off imm len there : Nat → Int32} {p n : Nat} (hp : p < 2) (hn : n ≤ 40) (T : TH_ ops tgt src off imm len there) (s : Sf_ (fun j => ops (80 + j)) (fun j => tgt (80 + j)) (fun j => src (80 + j)) (fun j => off (80 + j)) (fun j => imm (80 + j)) n 0 K0_ (fun _ => 0) (fun _ => 0) 0) : TH_ (cp_ ops p n) (cp_ tgt p n) (cp_ src p n) (cp_ off p n) (cp_ imm p n) (upd len p (nI n)) (upd there p 1) := by
  intro p2 hp2
  by_cases z : p2 = p
  · subst z
    right
    have n1 : 0 < n := s.1
    refine ⟨by rw [pk_us]; decide, n, n1, hn, pk_us, Sf_cong (fun j hj => ?_) s⟩
    have e : ∀ A : Nat → Int32, cp_ A p2 n (40 * p2 + j) = A (80 + j) := by
      intro A; unfold cp_; rw [if_pos (by omega)]; congr 2; omega
    exact ⟨e _, e _, e _, e _, e _⟩
  · rw [pk_un z, pk_un z]
    rcases T p2 hp2 with t | ⟨t, m, m1, m2, m3, m4⟩
    · exact Or.inl t
    · refine Or.inr ⟨t, m, m1, m2, m3, Sf_cong (fun j hj => ?_) m4⟩
      have e : ∀ A : Nat → Int32, cp_ A p n (40 * p2 + j) = A (40 * p2 + j) := by
        intro A; unfold cp_; rw [if_neg (by omega)]
      exact ⟨e _, e _, e _, e _, e _⟩
theorem sur_u {ops : Nat → Int32} {n m m' : Nat} (h1 : m < n) (c1 : cd_ (ops (80 + m))) (e1 : cj_ ops n m = 10) (h2 : m' < n) (c2 : cd_ (ops (80 + m'))) (e2 : cj_ ops n m' = 10) : m' = m := by
  have a := cj_t h1 c1
  have b := cj_t h2 c2
  by_cases z : m < m'
  · have := cj_mono (ops := ops) (n := n) (show m + 1 ≤ m' by omega)
    omega
  · by_cases y : m' < m
    · have := cj_mono (ops := ops) (n := n) (show m' + 1 ≤ m by omega)
      omega
    · omega
theorem sur_n {ops : Nat → Int32} {n m : Nat} (h1 : m < n) (c1 : cd_ (ops (80 + m))) (e1 : cj_ ops n m = 10) : ¬ cj_ ops n n ≤ 10 := by
  have a := cj_t h1 c1
  have := cj_mono (ops := ops) (n := n) (show m + 1 ≤ n by omega)
  omega
theorem un_u {A : Nat → Int32} {m m' : Nat} (e1 : A m = 0) (n1 : ∀ j, j < m → ¬ A j = 0) (e2 : A m' = 0) (n2 : ∀ j, j < m' → ¬ A j = 0) : m' = m := by
  by_cases z : m < m'
  · exact absurd e1 (n2 m z)
  · by_cases y : m' < m
    · exact absurd e2 (n1 m' y)
    · omega
theorem i_up {k : Nat} {u : SX} {v : SY} (h : i_Rel k u v) : i_Rel (k + 6) u v := h
section
variable {x_safe : Int64} {x_at : Int32} {x_exitLeast : Int64} {x_exitMost : Int64} {x_branches : Int32} {x_faultPlace : Int32} {x_provedLeast : Int64} {x_provedMost : Int64} {x_packetLength : Int32} {x_executed : Int32} {x_ops : Nat → Int32} {x_targets : Nat → Int32} {x_sources : Nat → Int32} {x_offsets : Nat → Int32} {x_immediates : Nat → Int32} {x_lengths : Nat → Int32} {x_kinds : Nat → Int32} {x_los : Nat → Int64} {x_his : Nat → Int64} {x_reached : Nat → Int32} {x_branchAt : Nat → Int32} {x_branchSafe : Nat → Int64} {x_branchKinds : Nat → Int32} {x_branchLos : Nat → Int64} {x_branchHis : Nat → Int64} {x_packet : Nat → Int32} {x_registers : Nat → Int64} {x_cells : Nat → Int64} {x_keyWords : Nat → Int64} {x_keyTaken : Nat → Int32} {y_place : Int32} {y_least : Int64} {y_most : Int64} {y_smallest : Int64} {y_greatest : Int64} {y_ways : Int32} {y_fault : Int32} {y_base : Int32} {y_otherKind : Int32} {y_otherLo : Int64} {y_otherHi : Int64} {y_low : Int64} {y_high : Int64} {y_bytes : Int32} {y_steps : Int32} {y_op : Nat → Int32} {y_first : Nat → Int32} {y_second : Nat → Int32} {y_offset : Nat → Int32} {y_given : Nat → Int32} {y_length : Nat → Int32} {y_there : Nat → Int32} {y_known : Nat → Int32} {y_lo : Nat → Int64} {y_hi : Nat → Int64} {y_at : Nat → Int32} {y_lookups : Nat → Int32} {y_safe : Nat → Int32} {y_met : Nat → Int32} {y_tag : Nat → Int32} {y_word : Nat → Int64} {y_packet : Nat → Int32} {y_keys : Nat → Int64} {y_values : Nat → Int64} {y_many : Nat → Int32}
/-- verify of a program 0 or 1, the draft's rows alike -/
theorem vc_verify {k p n : Nat} (I : i_Rel k (x_safe, x_at, x_exitLeast, x_exitMost, x_branches, x_faultPlace, x_provedLeast, x_provedMost, x_packetLength, x_executed, x_ops, x_targets, x_sources, x_offsets, x_immediates, x_lengths, x_kinds, x_los, x_his, x_reached, x_branchAt, x_branchSafe, x_branchKinds, x_branchLos, x_branchHis, x_packet, x_registers, x_cells, x_keyWords, x_keyTaken) (y_place, y_least, y_most, y_smallest, y_greatest, y_ways, y_fault, y_base, y_otherKind, y_otherLo, y_otherHi, y_low, y_high, y_bytes, y_steps, y_op, y_first, y_second, y_offset, y_given, y_length, y_there, y_known, y_lo, y_hi, y_at, y_lookups, y_safe, y_met, y_tag, y_word, y_packet, y_keys, y_values, y_many)) (hp : p < 2) (hn : n ≤ 40) (hl : x_lengths 2 = nI n) : wpX_verify (fun r u' => wpY_verify (fun r' v' => r' = r ∧ i_Rel (k + 6) u' v') (y_place, y_least, y_most, y_smallest, y_greatest, y_ways, y_fault, y_base, y_otherKind, y_otherLo, y_otherHi, y_low, y_high, y_bytes, y_steps, y_op, y_first, y_second, y_offset, y_given, y_length, y_there, y_known, y_lo, y_hi, y_at, y_lookups, y_safe, y_met, y_tag, y_word, y_packet, y_keys, y_values, y_many) (nI p)) (x_safe, x_at, x_exitLeast, x_exitMost, x_branches, x_faultPlace, x_provedLeast, x_provedMost, x_packetLength, x_executed, x_ops, x_targets, x_sources, x_offsets, x_immediates, x_lengths, x_kinds, x_los, x_his, x_reached, x_branchAt, x_branchSafe, x_branchKinds, x_branchLos, x_branchHis, x_packet, x_registers, x_cells, x_keyWords, x_keyTaken) (nI p) := by
  obtain ⟨⟨rfl, rfl, rfl, rfl, rfl, rfl⟩, ho, hl', ⟨rfl, rfl, rfl⟩, pk, rfl, mm, th, z16⟩ := I
  obtain ⟨b1, b2, b3⟩ := po_b ho
  have hok : ∀ j, ok_ (x_ops j) := fun j => (ho j).1
  have htd : ∀ j, x_targets (80 + j) = nI ((x_targets (80 + j)).toNatClampNeg) ∧ (x_targets (80 + j)).toNatClampNeg < 8 := by
    intro j
    obtain ⟨d, hd, e⟩ := (ho (80 + j)).2.1
    rw [e, nI_clamp (by omega)]; exact ⟨rfl, hd⟩
  have hts : ∀ j, x_sources (80 + j) = nI ((x_sources (80 + j)).toNatClampNeg) ∧ (x_sources (80 + j)).toNatClampNeg < 9 := by
    intro j
    obtain ⟨d, hd, e⟩ := (ho (80 + j)).2.2
    rw [e, nI_clamp (by omega)]; exact ⟨rfl, hd⟩
  -- Y's way to wY_verify_97
  have Y1 : ∀ post : Int32 → SY → Prop, (∀ m met', m < n → cd_ (x_ops (80 + m)) → cj_ x_ops n m = 10 → wY_verify_97 post (nI p) (nI n) (nI m) x_provedLeast x_provedMost (-1) (-1) y_ways 5 y_base y_otherKind y_otherLo y_otherHi y_low y_high y_bytes x_executed x_ops x_targets x_sources x_offsets x_immediates x_lengths y_there y_known y_lo y_hi y_at y_lookups y_safe met' y_tag y_word y_packet y_keys y_values y_many) → (cj_ x_ops n n ≤ 10 → ∀ met', (∀ j, j < n → met' j = 0) → wY_verify_97 post (nI p) (nI n) x_faultPlace x_provedLeast x_provedMost (-1) (-1) y_ways 0 y_base y_otherKind y_otherLo y_otherHi y_low y_high y_bytes x_executed x_ops x_targets x_sources x_offsets x_immediates x_lengths y_there y_known y_lo y_hi y_at y_lookups y_safe met' y_tag y_word y_packet y_keys y_values y_many) → wpY_verify post (x_faultPlace, x_provedLeast, x_provedMost, y_smallest, y_greatest, y_ways, y_fault, y_base, y_otherKind, y_otherLo, y_otherHi, y_low, y_high, y_bytes, x_executed, x_ops, x_targets, x_sources, x_offsets, x_immediates, x_lengths, y_there, y_known, y_lo, y_hi, y_at, y_lookups, y_safe, y_met, y_tag, y_word, y_packet, y_keys, y_values, y_many) (nI p) := by
    intro post A B
    refine br_f (xb_lt0 (by omega)) (br_t (by rw [xb_ge1 (by omega)]; omega) (nm_r hl ⟨n + 2, ?_⟩))
    exact ys_surL (y_smallest := -1) (y_greatest := -1) (y_fault := 0) hn rfl A B n 0 0 y_met (by omega) rfl (by omega) (fun i hi => absurd hi (by omega))
  refine br_f (xb_lt0 (by omega)) (br_t (by rw [xb_lt2 (by omega)]; exact hp) ?_)
  refine xs_sur hn hl hok (fun m h1 c1 e1 => ?_) (fun h10 => ?_)
  · refine br_f (xb_lt0 (by omega)) (br_f (by decide) (br_f (by decide) ?_))
    refine Y1 _ (fun m' met' h2 c2 e2 => ?_) (fun z => absurd z (sur_n h1 c1 e1))
    rw [sur_u h1 c1 e1 h2 c2 e2]
    exact ys_97F (y_fault := 5) (by decide) ⟨rfl, ⟨rfl, rfl, rfl, rfl, rfl, rfl⟩, ho, hl', ⟨rfl, rfl, rfl⟩, pk, rfl, mm, th, z16⟩
  · have p0 : pl_ n 0 = 0 := by unfold pl_; split <;> omega
    have D := dfs (x_faultPlace := x_faultPlace) (x_provedLeast := x_provedLeast) (x_provedMost := x_provedMost) (x_packetLength := x_packetLength) (x_executed := x_executed) (x_packet := x_packet) (x_registers := x_registers) (x_cells := x_cells) (x_keyWords := x_keyWords) (x_keyTaken := x_keyTaken) (x_offsets := x_offsets) (x_immediates := x_immediates) (y_place := x_faultPlace) (y_least := x_provedLeast) (y_most := x_provedMost) (y_bytes := y_bytes) (y_steps := x_executed) (y_there := y_there) (y_tag := y_tag) (y_word := y_word) (y_packet := y_packet) (y_keys := y_keys) (y_values := y_values) (y_many := y_many) hn hl h10 hok htd hts 41984 0 0 0 (fun _ => 0) (fun _ => 0) (fun _ => 0) 0 4294967295 0 K0_ (fun _ => 0) (fun _ => 0) (ze_ x_reached 40) x_branchAt x_branchSafe x_branchKinds x_branchLos x_branchHis WF_0 (by omega) (by omega) (fun j hj => absurd hj (by omega)) (by rw [p0]; show (41 - 0) * 2 ^ (10 - 0) + 0 ≤ 41984; decide) (by omega) (by rw [p0]; exact fun s _ => s)
    rw [p0] at D
    obtain ⟨e, z_safe, z_at, z_exitLeast, z_exitMost, z_branches, z_kinds, z_los, z_his, z_reached, z_branchAt, z_branchSafe, z_branchKinds, z_branchLos, z_branchHis, zz, zs, XW, YW⟩ := D
    -- Y's paths
    have Y2 : ∀ post : Int32 → SY → Prop, (∀ (v_place : Int32) (v_smallest v_greatest : Int64) (v_ways v_fault v_base v_otherKind : Int32) (v_otherLo v_otherHi v_low v_high : Int64) (v_known : Nat → Int32) (v_lo v_hi : Nat → Int64) (v_at v_lookups v_safe v_met : Nat → Int32), ((¬ e = 0 ∧ v_fault = e ∧ v_place = z_at) ∨ (e = 0 ∧ v_fault = 0 ∧ v_place = x_faultPlace ∧ v_smallest = z_exitLeast ∧ v_greatest = z_exitMost ∧ ∀ j, j < n → z_reached j = v_met j)) → ∃ n111, wY_verify_111 post (nI p) (nI n) n111 0 v_place x_provedLeast x_provedMost v_smallest v_greatest v_ways v_fault v_base v_otherKind v_otherLo v_otherHi v_low v_high y_bytes x_executed x_ops x_targets x_sources x_offsets x_immediates x_lengths y_there v_known v_lo v_hi v_at v_lookups v_safe v_met y_tag y_word y_packet y_keys y_values y_many) → wpY_verify post (x_faultPlace, x_provedLeast, x_provedMost, y_smallest, y_greatest, y_ways, y_fault, y_base, y_otherKind, y_otherLo, y_otherHi, y_low, y_high, y_bytes, x_executed, x_ops, x_targets, x_sources, x_offsets, x_immediates, x_lengths, y_there, y_known, y_lo, y_hi, y_at, y_lookups, y_safe, y_met, y_tag, y_word, y_packet, y_keys, y_values, y_many) (nI p) := by
      intro post P
      refine Y1 post (fun m met' h1 c1 e1 => absurd h10 (sur_n h1 c1 e1)) (fun _ met' hm => br_t rfl ?_)
      refine ys_follow (fun kn lo hi Fr => ⟨41984 + 2, ?_⟩)
      refine YW (-1) (-1) (nI 0) y_otherKind y_otherLo y_otherHi y_low y_high kn lo hi (upd y_at 0 0) (upd y_lookups 0 0) (upd y_safe 0 0) met' ⟨pk_us, ?_, by rw [pk_us]; rfl, by rw [pk_us]; rfl⟩ (fun j hj => absurd hj (by omega)) (Or.inl ⟨rfl, rfl, rfl, rfl⟩) (fun j hj => ?_) _ P
      · rw [pk_us]; exact Fr
      · rw [hm j hj]; unfold ze_; rw [if_pos (by omega)]
    refine br_t (by decide) ?_
    refine xv_begin (fun j h => (z16 j h).1) (fun j h => (z16 j h).2.1) (fun j h => (z16 j h).2.2) ⟨41984 + 1, XW _ ?_⟩
    by_cases e0 : e = 0
    · have S0 := zs e0
      refine br_t e0 ?_
      refine xs_unr hn hl (fun m h1 r1 r2 => ?_) (fun ra => ?_)
      · refine br_f (xb_lt0 (by omega)) (br_f (by decide) ?_)
        refine Y2 _ (fun v_place v_smallest v_greatest v_ways v_fault v_base v_otherKind v_otherLo v_otherHi v_low v_high v_known v_lo v_hi v_at v_lookups v_safe v_met cond => ?_)
        rcases cond with c | ⟨-, c1, c2, c3, c4, c5⟩
        · exact absurd e0 c.1
        · refine ⟨n + 2, ys_unrL hn c1 (fun m' h2 s1 s2 => ?_) (fun ra => absurd r1 (by rw [c5 m h1]; exact ra m h1)) n 0 (by omega) (fun i hi => absurd hi (by omega))⟩
          have : m' = m := un_u (A := v_met) (by rw [← c5 m h1]; exact r1) (fun j hj => by rw [← c5 j (by omega)]; exact r2 j hj) s1 s2
          rw [this]
          exact ⟨rfl, ⟨rfl, rfl, rfl, rfl, rfl, rfl⟩, ho, hl', ⟨rfl, rfl, rfl⟩, pk, rfl, mm, th, zz⟩
      · refine br_t (by decide) (br_t rfl ?_)
        refine xv_keep hp hn hl ?_
        refine Y2 _ (fun v_place v_smallest v_greatest v_ways v_fault v_base v_otherKind v_otherLo v_otherHi v_low v_high v_known v_lo v_hi v_at v_lookups v_safe v_met cond => ?_)
        rcases cond with c | ⟨-, c1, c2, c3, c4, c5⟩
        · exact absurd e0 c.1
        · refine ⟨n + 2, ys_unrL hn c1 (fun m' h2 s1 s2 => absurd s1 (by rw [← c5 m' h2]; exact ra m' h2)) (fun _ => ?_) n 0 (by omega) (fun i hi => absurd hi (by omega))⟩
          refine ys_keep hp hn c1 b1 b2 b3 ?_
          refine ⟨rfl, ⟨rfl, rfl, rfl, rfl, rfl, rfl⟩, po_cp ho, ⟨n, hn, ?_⟩, ⟨rfl, c3.symm, c4.symm⟩, pk, rfl, mm, th_keep hp hn th S0, zz⟩
          rw [pk_un (by omega)]; exact hl
    · refine br_f e0 (br_f e0 ?_)
      refine Y2 _ (fun v_place v_smallest v_greatest v_ways v_fault v_base v_otherKind v_otherLo v_otherHi v_low v_high v_known v_lo v_hi v_at v_lookups v_safe v_met cond => ?_)
      rcases cond with ⟨-, c1, c2⟩ | c
      · have nf : ¬ v_fault = 0 := by rw [c1]; exact e0
        have G : wY_verify_148 (fun r' v' => r' = e ∧ i_Rel (k + 6) (z_safe, z_at, z_exitLeast, z_exitMost, z_branches, z_at, x_provedLeast, x_provedMost, x_packetLength, x_executed, x_ops, x_targets, x_sources, x_offsets, x_immediates, x_lengths, z_kinds, z_los, z_his, z_reached, z_branchAt, z_branchSafe, z_branchKinds, z_branchLos, z_branchHis, x_packet, x_registers, x_cells, x_keyWords, x_keyTaken) v') (nI p) (nI n) v_place x_provedLeast x_provedMost v_smallest v_greatest v_ways v_fault v_base v_otherKind v_otherLo v_otherHi v_low v_high y_bytes x_executed x_ops x_targets x_sources x_offsets x_immediates x_lengths y_there v_known v_lo v_hi v_at v_lookups v_safe v_met y_tag y_word y_packet y_keys y_values y_many := ys_148F nf ⟨c1, ⟨rfl, rfl, rfl, rfl, rfl, rfl⟩, ho, hl', ⟨c2.symm, rfl, rfl⟩, pk, rfl, mm, th, zz⟩
        exact ⟨1, br_c (fun _ => G) (fun _ => br_f nf G)⟩
      · exact absurd c.1 e0
end
theorem i_vc_verify {k : Nat} {u : SX} {v : SY} (I : i_Rel k u v) (hk : k + 6 ≤ 3072) (v1 : Int32) : wpX_verify (fun r u' => wpY_verify (fun r' v' => r' = r ∧ i_Rel (k + 6) u' v') v v1) u v1 := by
  obtain ⟨x_safe, x_at, x_exitLeast, x_exitMost, x_branches, x_faultPlace, x_provedLeast, x_provedMost, x_packetLength, x_executed, x_ops, x_targets, x_sources, x_offsets, x_immediates, x_lengths, x_kinds, x_los, x_his, x_reached, x_branchAt, x_branchSafe, x_branchKinds, x_branchLos, x_branchHis, x_packet, x_registers, x_cells, x_keyWords, x_keyTaken⟩ := u
  obtain ⟨y_place, y_least, y_most, y_smallest, y_greatest, y_ways, y_fault, y_base, y_otherKind, y_otherLo, y_otherHi, y_low, y_high, y_bytes, y_steps, y_op, y_first, y_second, y_offset, y_given, y_length, y_there, y_known, y_lo, y_hi, y_at, y_lookups, y_safe, y_met, y_tag, y_word, y_packet, y_keys, y_values, y_many⟩ := v
  by_cases z : v1 < 0
  · exact br_t z (br_t z ⟨rfl, I⟩)
  · obtain ⟨p, hp, rfl⟩ := nI_of z
    by_cases h2 : p < 2
    · obtain ⟨n, hn, hl⟩ := I.2.2.1
      exact vc_verify I h2 hn hl
    · exact br_f z (br_f (by rw [xb_lt2 hp]; omega) (br_f z (br_f (by rw [xb_ge1 hp]; omega) ⟨rfl, I⟩)))
end
section
theorem pk_div {a d : Nat} (ha : a < 2 ^ 31) (h0 : 0 < d) (hd : d < 2 ^ 31) : nI a / nI d = nI (a / d) := by
  apply Int32.toInt_inj.mp
  rw [lg_idiv_nonneg (by rw [nI_toInt ha]; omega) (by rw [nI_toInt hd]; omega), nI_toInt ha, nI_toInt hd, nI_toInt (Nat.lt_of_le_of_lt (Nat.div_le_self a d) ha)]
  first | rfl | exact (Int.natCast_ediv _ _).symm
theorem pk_rem {a d : Nat} (ha : a < 2 ^ 31) (h0 : 0 < d) (hd : d < 2 ^ 31) : nI a - nI a / nI d * nI d = nI (a % d) := by
  rw [pk_div ha h0 hd, pk_mul, pk_sub (Nat.div_mul_le_self a d)]
  exact congrArg nI (by have := Nat.div_add_mod' a d; omega)
def nj_ (j : Nat) : Prop := ((j / 10 = 0 ∨ j / 10 = 1) ∧ j % 10 ≤ 6) ∨ (j / 10 = 2 ∧ j % 10 ≤ 4) ∨ (j / 10 = 3 ∧ 1 ≤ j % 10 ∧ j % 10 ≤ 4) ∨ ((j / 10 = 4 ∨ j / 10 = 5) ∧ j % 10 ≤ 2) ∨ j = 60
theorem nj_ok {j : Nat} (hj : j < 2 ^ 31) : ok_ (nI j) ↔ nj_ j := by
  have q : ∀ c, c < 128 → (nI j = nI c ↔ j = c) := fun c hc => nI_eq hj (by omega)
  have e20 : (20 : Int32) = nI 20 := rfl
  have e40 : (40 : Int32) = nI 40 := rfl
  have e41 : (41 : Int32) = nI 41 := rfl
  have e42 : (42 : Int32) = nI 42 := rfl
  have e50 : (50 : Int32) = nI 50 := rfl
  have e51 : (51 : Int32) = nI 51 := rfl
  have e52 : (52 : Int32) = nI 52 := rfl
  have e60 : (60 : Int32) = nI 60 := rfl
  unfold ok_ nj_ oa_ oj_
  constructor
  · rintro (⟨f, h6, h | h⟩ | h | ⟨f, h1, h4, h | h⟩ | (h | h | h) | (h | h | h) | h)
    · rw [q _ (by omega)] at h; omega
    · rw [q _ (by omega)] at h; omega
    · rw [e20, q _ (by omega)] at h; omega
    · rw [q _ (by omega)] at h; omega
    · rw [q _ (by omega)] at h; omega
    · rw [e40, q _ (by omega)] at h; omega
    · rw [e41, q _ (by omega)] at h; omega
    · rw [e42, q _ (by omega)] at h; omega
    · rw [e50, q _ (by omega)] at h; omega
    · rw [e51, q _ (by omega)] at h; omega
    · rw [e52, q _ (by omega)] at h; omega
    · rw [e60, q _ (by omega)] at h; omega
  · rintro (⟨h | h, h2⟩ | ⟨h, h2⟩ | ⟨h, h2, h3⟩ | ⟨h | h, h2⟩ | h)
    · exact Or.inl ⟨j, by omega, Or.inl rfl⟩
    · exact Or.inl ⟨j - 10, by omega, Or.inr (by congr 1; omega)⟩
    · by_cases z : j = 20
      · right; left; rw [z]; rfl
      · right; right; left
        exact ⟨j - 20, by omega, by omega, Or.inl (by congr 1; omega)⟩
    · right; right; left
      exact ⟨j - 30, by omega, by omega, Or.inr (by congr 1; omega)⟩
    · right; right; right; left
      have : j = 40 ∨ j = 41 ∨ j = 42 := by omega
      rcases this with z | z | z
      · left; rw [z]; rfl
      · right; left; rw [z]; rfl
      · right; right; rw [z]; rfl
    · right; right; right; right; left
      have : j = 50 ∨ j = 51 ∨ j = 52 := by omega
      rcases this with z | z | z
      · left; rw [z]; rfl
      · right; left; rw [z]; rfl
      · right; right; rw [z]; rfl
    · right; right; right; right; right; rw [h]; rfl
theorem ok_pos {o : Int32} (h : ok_ o) : ¬ o < 0 := by
  obtain ⟨c, hc, e⟩ := ok_n h
  rw [e]; exact xb_lt0 (by omega)
theorem xc_named {post : Int32 → Prop} {o : Int32} (A : ok_ o → post 1) (B : ¬ ok_ o → post 0) : wpX_isNamed post o := by
  by_cases z : o < 0
  · exact br_f (Int32.not_le.mpr z) (B (fun h => ok_pos h z))
  · obtain ⟨j, hj, rfl⟩ := nI_of z
    have e10 : (10 : Int32) = nI 10 := rfl
    have ed : nI j / 10 = nI (j / 10) := pk_div (d := 10) hj (by omega) (by omega)
    have er : nI j - nI j / 10 * 10 = nI (j % 10) := pk_rem (d := 10) hj (by omega) (by omega)
    rw [nj_ok hj] at A B
    have hd : j / 10 < 2 ^ 31 := by omega
    refine br_t (nI_pos' hj) ⟨by decide, nm_r er ⟨by decide, nm_r ed ?_⟩⟩
    unfold nj_ at A B
    have w52 : (j / 10 = 0 ∨ j / 10 = 1) → wX_isNamed_52 post (nI (j % 10)) := by
      intro q
      refine br_c (fun y => B ?_) (fun y => A ?_)
      · rw [xb_gt6 (by omega)] at y; omega
      · rw [xb_gt6 (by omega)] at y; omega
    have w91 : (j / 10 = 4 ∨ j / 10 = 5) → wX_isNamed_91 post (nI (j % 10)) := by
      intro q
      refine br_c (fun y => B ?_) (fun y => A ?_)
      · rw [xb_gt2 (by omega)] at y; omega
      · rw [xb_gt2 (by omega)] at y; omega
    refine br_f (xb_lt0 hd) (br_c (fun y => ?_) (fun y => ?_))
    · rw [xb_gt5 hd] at y
      refine br_c (fun x => A ?_) (fun x => B ?_)
      · rw [xb_eq60 hj] at x; omega
      · rw [xb_eq60 hj] at x; omega
    · rw [xb_gt5 hd] at y
      refine br_c (fun x => w52 ?_) (fun x0 => br_c (fun x => w52 ?_) (fun x1 => br_c (fun x => ?_) (fun x2 => br_c (fun x => ?_) (fun x3 => br_c (fun x => w91 ?_) (fun x4 => br_c (fun x => w91 ?_) (fun x5 => trivial))))))
      · rw [xb_eq0 hd] at x; omega
      · rw [xb_eq1 hd] at x; omega
      · rw [xb_eq2 hd] at x
        refine br_c (fun w => B ?_) (fun w => A ?_)
        · rw [xb_gt4 (by omega)] at w; omega
        · rw [xb_gt4 (by omega)] at w; omega
      · rw [xb_eq3 hd] at x
        refine br_c (fun w => B ?_) (fun w => br_c (fun v => B ?_) (fun v => A ?_))
        · rw [xb_lt1 (by omega)] at w; omega
        · rw [xb_gt4 (by omega)] at v; omega
        · rw [xb_lt1 (by omega)] at w; rw [xb_gt4 (by omega)] at v; omega
      · rw [xb_eq4 hd] at x; omega
      · rw [xb_eq5 hd] at x; omega
section
variable {y_place : Int32} {y_least : Int64} {y_most : Int64} {y_smallest : Int64} {y_greatest : Int64} {y_ways : Int32} {y_fault : Int32} {y_base : Int32} {y_otherKind : Int32} {y_otherLo : Int64} {y_otherHi : Int64} {y_low : Int64} {y_high : Int64} {y_bytes : Int32} {y_steps : Int32} {y_op : Nat → Int32} {y_first : Nat → Int32} {y_second : Nat → Int32} {y_offset : Nat → Int32} {y_given : Nat → Int32} {y_length : Nat → Int32} {y_there : Nat → Int32} {y_known : Nat → Int32} {y_lo : Nat → Int64} {y_hi : Nat → Int64} {y_at : Nat → Int32} {y_lookups : Nat → Int32} {y_safe : Nat → Int32} {y_met : Nat → Int32} {y_tag : Nat → Int32} {y_word : Nat → Int64} {y_packet : Nat → Int32} {y_keys : Nat → Int64} {y_values : Nat → Int64} {y_many : Nat → Int32}
theorem yc_named {post : Int32 → SY → Prop} {o p1 p2 p3 p4 : Int32} (A : ok_ o → wY_code_81 post o p1 p2 p3 p4 1 y_place y_least y_most y_smallest y_greatest y_ways y_fault y_base y_otherKind y_otherLo y_otherHi y_low y_high y_bytes y_steps y_op y_first y_second y_offset y_given y_length y_there y_known y_lo y_hi y_at y_lookups y_safe y_met y_tag y_word y_packet y_keys y_values y_many) (B : ¬ ok_ o → wY_code_81 post o p1 p2 p3 p4 0 y_place y_least y_most y_smallest y_greatest y_ways y_fault y_base y_otherKind y_otherLo y_otherHi y_low y_high y_bytes y_steps y_op y_first y_second y_offset y_given y_length y_there y_known y_lo y_hi y_at y_lookups y_safe y_met y_tag y_word y_packet y_keys y_values y_many) : wpY_code post (y_place, y_least, y_most, y_smallest, y_greatest, y_ways, y_fault, y_base, y_otherKind, y_otherLo, y_otherHi, y_low, y_high, y_bytes, y_steps, y_op, y_first, y_second, y_offset, y_given, y_length, y_there, y_known, y_lo, y_hi, y_at, y_lookups, y_safe, y_met, y_tag, y_word, y_packet, y_keys, y_values, y_many) o p1 p2 p3 p4 := by
  by_cases z : o < 0
  · have n : ¬ ok_ o := fun h => ok_pos h z
    have lt : ∀ c : Int32, 0 ≤ c → o < c := fun c hc => Int32.lt_of_lt_of_le z hc
    exact br_t z (br_t (lt 10 (by decide)) (br_t (lt 20 (by decide)) (br_t (lt 31 (by decide)) (br_t (lt 40 (by decide)) (br_t (lt 50 (by decide)) (br_f (fun e => by rw [e] at z; exact absurd z (by decide)) (B n)))))))
  · obtain ⟨j, hj, rfl⟩ := nI_of z
    rw [nj_ok hj] at A B
    unfold nj_ at A B
    have e16 : ∀ c : Nat, c < 128 → (nI j ≤ nI c ↔ j ≤ c) := fun c hc => nI_leI hj (by omega)
    have l16 : ∀ c : Nat, c < 128 → (nI j < nI c ↔ j < c) := fun c hc => nI_ltI hj (by omega)
    have w70 : ¬ (j < 60 ∧ nj_ j) → wY_code_70 post (nI j) p1 p2 p3 p4 y_place y_least y_most y_smallest y_greatest y_ways y_fault y_base y_otherKind y_otherLo y_otherHi y_low y_high y_bytes y_steps y_op y_first y_second y_offset y_given y_length y_there y_known y_lo y_hi y_at y_lookups y_safe y_met y_tag y_word y_packet y_keys y_values y_many := by
      intro n
      unfold nj_ at n
      refine br_c (fun x => A ?_) (fun x => B ?_)
      · rw [xb_eq60 hj] at x; omega
      · rw [xb_eq60 hj] at x; omega
    have w58 : ¬ (j < 50 ∧ nj_ j) → wY_code_58 post (nI j) p1 p2 p3 p4 y_place y_least y_most y_smallest y_greatest y_ways y_fault y_base y_otherKind y_otherLo y_otherHi y_low y_high y_bytes y_steps y_op y_first y_second y_offset y_given y_length y_there y_known y_lo y_hi y_at y_lookups y_safe y_met y_tag y_word y_packet y_keys y_values y_many := by
      intro n
      unfold nj_ at n
      refine br_c (fun x => w70 ?_) (fun x => br_c (fun y => A ?_) (fun y => w70 ?_))
      · have x' := (l16 50 (by omega)).mp x; unfold nj_; omega
      · have x' : ¬ j < 50 := fun q => x ((l16 50 (by omega)).mpr q)
        have y' := (e16 52 (by omega)).mp y; omega
      · have x' : ¬ j < 50 := fun q => x ((l16 50 (by omega)).mpr q)
        have y' : ¬ j ≤ 52 := fun q => y ((e16 52 (by omega)).mpr q)
        unfold nj_; omega
    have w46 : ¬ (j < 40 ∧ nj_ j) → wY_code_46 post (nI j) p1 p2 p3 p4 y_place y_least y_most y_smallest y_greatest y_ways y_fault y_base y_otherKind y_otherLo y_otherHi y_low y_high y_bytes y_steps y_op y_first y_second y_offset y_given y_length y_there y_known y_lo y_hi y_at y_lookups y_safe y_met y_tag y_word y_packet y_keys y_values y_many := by
      intro n
      unfold nj_ at n
      refine br_c (fun x => w58 ?_) (fun x => br_c (fun y => A ?_) (fun y => w58 ?_))
      · have x' := (l16 40 (by omega)).mp x; unfold nj_; omega
      · have x' : ¬ j < 40 := fun q => x ((l16 40 (by omega)).mpr q)
        have y' := (e16 42 (by omega)).mp y; omega
      · have x' : ¬ j < 40 := fun q => x ((l16 40 (by omega)).mpr q)
        have y' : ¬ j ≤ 42 := fun q => y ((e16 42 (by omega)).mpr q)
        unfold nj_; omega
    have w34 : ¬ (j < 31 ∧ nj_ j) → wY_code_34 post (nI j) p1 p2 p3 p4 y_place y_least y_most y_smallest y_greatest y_ways y_fault y_base y_otherKind y_otherLo y_otherHi y_low y_high y_bytes y_steps y_op y_first y_second y_offset y_given y_length y_there y_known y_lo y_hi y_at y_lookups y_safe y_met y_tag y_word y_packet y_keys y_values y_many := by
      intro n
      unfold nj_ at n
      refine br_c (fun x => w46 ?_) (fun x => br_c (fun y => A ?_) (fun y => w46 ?_))
      · have x' := (l16 31 (by omega)).mp x; unfold nj_; omega
      · have x' : ¬ j < 31 := fun q => x ((l16 31 (by omega)).mpr q)
        have y' := (e16 34 (by omega)).mp y; omega
      · have x' : ¬ j < 31 := fun q => x ((l16 31 (by omega)).mpr q)
        have y' : ¬ j ≤ 34 := fun q => y ((e16 34 (by omega)).mpr q)
        unfold nj_; omega
    have w22 : ¬ (j < 20 ∧ nj_ j) → wY_code_22 post (nI j) p1 p2 p3 p4 y_place y_least y_most y_smallest y_greatest y_ways y_fault y_base y_otherKind y_otherLo y_otherHi y_low y_high y_bytes y_steps y_op y_first y_second y_offset y_given y_length y_there y_known y_lo y_hi y_at y_lookups y_safe y_met y_tag y_word y_packet y_keys y_values y_many := by
      intro n
      unfold nj_ at n
      refine br_c (fun x => w34 ?_) (fun x => br_c (fun y => A ?_) (fun y => w34 ?_))
      · have x' := (l16 20 (by omega)).mp x; unfold nj_; omega
      · have x' : ¬ j < 20 := fun q => x ((l16 20 (by omega)).mpr q)
        have y' := (e16 24 (by omega)).mp y; omega
      · have x' : ¬ j < 20 := fun q => x ((l16 20 (by omega)).mpr q)
        have y' : ¬ j ≤ 24 := fun q => y ((e16 24 (by omega)).mpr q)
        unfold nj_; omega
    have w10 : ¬ (j < 10 ∧ nj_ j) → wY_code_10 post (nI j) p1 p2 p3 p4 y_place y_least y_most y_smallest y_greatest y_ways y_fault y_base y_otherKind y_otherLo y_otherHi y_low y_high y_bytes y_steps y_op y_first y_second y_offset y_given y_length y_there y_known y_lo y_hi y_at y_lookups y_safe y_met y_tag y_word y_packet y_keys y_values y_many := by
      intro n
      unfold nj_ at n
      refine br_c (fun x => w22 ?_) (fun x => br_c (fun y => A ?_) (fun y => w22 ?_))
      · have x' := (l16 10 (by omega)).mp x; unfold nj_; omega
      · have x' : ¬ j < 10 := fun q => x ((l16 10 (by omega)).mpr q)
        have y' := (e16 16 (by omega)).mp y; omega
      · have x' : ¬ j < 10 := fun q => x ((l16 10 (by omega)).mpr q)
        have y' : ¬ j ≤ 16 := fun q => y ((e16 16 (by omega)).mpr q)
        unfold nj_; omega
    refine br_f z (br_c (fun y => A ?_) (fun y => w10 ?_))
    · have y' := (e16 6 (by omega)).mp y; omega
    · have y' : ¬ j ≤ 6 := fun q => y ((e16 6 (by omega)).mpr q)
      unfold nj_; omega
end
theorem th_code {ops tgt src off imm len there : Nat → Int32} {n : Nat} {a b c d e l : Int32} (T : TH_ ops tgt src off imm len there) : TH_ (upd ops (80 + n) a) (upd tgt (80 + n) b) (upd src (80 + n) c) (upd off (80 + n) d) (upd imm (80 + n) e) (upd len 2 l) there := by
  intro p hp
  rw [pk_un (f := len) (by omega)]
  rcases T p hp with t | ⟨t, m, m1, m2, m3, m4⟩
  · exact Or.inl t
  · refine Or.inr ⟨t, m, m1, m2, m3, Sf_cong (fun j hj => ?_) m4⟩
    exact ⟨pk_un (by omega), pk_un (by omega), pk_un (by omega), pk_un (by omega), pk_un (by omega)⟩
theorem po_code {ops tgt src : Nat → Int32} {i d s : Nat} {o : Int32} (h : PO_ ops tgt src) (h1 : ok_ o) (hd : d < 8) (hs : s < 9) : PO_ (upd ops i o) (upd tgt i (nI d)) (upd src i (nI s)) := by
  intro j
  by_cases z : j = i
  · rw [z, pk_us, pk_us, pk_us]; exact ⟨h1, ⟨d, hd, rfl⟩, ⟨s, hs, rfl⟩⟩
  · rw [pk_un z, pk_un z, pk_un z]; exact h j
end
section
section
variable {y_place : Int32} {y_least : Int64} {y_most : Int64} {y_smallest : Int64} {y_greatest : Int64} {y_ways : Int32} {y_fault : Int32} {y_base : Int32} {y_otherKind : Int32} {y_otherLo : Int64} {y_otherHi : Int64} {y_low : Int64} {y_high : Int64} {y_bytes : Int32} {y_steps : Int32} {y_op : Nat → Int32} {y_first : Nat → Int32} {y_second : Nat → Int32} {y_offset : Nat → Int32} {y_given : Nat → Int32} {y_length : Nat → Int32} {y_there : Nat → Int32} {y_known : Nat → Int32} {y_lo : Nat → Int64} {y_hi : Nat → Int64} {y_at : Nat → Int32} {y_lookups : Nat → Int32} {y_safe : Nat → Int32} {y_met : Nat → Int32} {y_tag : Nat → Int32} {y_word : Nat → Int64} {y_packet : Nat → Int32} {y_keys : Nat → Int64} {y_values : Nat → Int64} {y_many : Nat → Int32}
theorem yr_28 {post : Int64 → SY → Prop} {p : Int32} (H : ∃ n72, wY_run_72 post p n72 0 y_place y_least y_most y_smallest y_greatest y_ways y_fault y_base y_otherKind y_otherLo y_otherHi y_low y_high y_bytes 0 y_op y_first y_second y_offset y_given y_length y_there y_known y_lo y_hi y_at y_lookups y_safe y_met (upd (upd (ze_ y_tag 14) 1 2) 2 3) (vp_updL (vp_updL (zeL y_word 14) 1 0) 2 y_bytes.toInt64) y_packet y_keys y_values y_many) : ∀ (d m : Nat), m + d = 14 → wY_run_28 post p (d + 1) (nI m) y_place y_least y_most y_smallest y_greatest y_ways y_fault y_base y_otherKind y_otherLo y_otherHi y_low y_high y_bytes y_steps y_op y_first y_second y_offset y_given y_length y_there y_known y_lo y_hi y_at y_lookups y_safe y_met (ze_ y_tag m) (zeL y_word m) y_packet y_keys y_values y_many := by
  intro d
  induction d with
  | zero =>
    intro m hm
    have e : m = 14 := by omega
    subst e
    exact br_t (by decide) ((yr_hold (r := 1) (by decide) (by unfold k7_; simp)).mpr ((yr_hold (r := 2) (by decide) (by unfold k7_; simp)).mpr H))
  | succ d ih =>
    intro m hm
    refine br_f (by rw [xb_le14 (by omega)]; omega) ((yr_hold (by omega) (Or.inl rfl)).mpr (nm_r (nI_1 m) ?_))
    rw [ze_s, zeL_s]
    exact ih (m + 1) (by omega)
theorem yr_28' {post : Int64 → SY → Prop} {p : Int32} (H : ∃ n72, wY_run_72 post p n72 0 y_place y_least y_most y_smallest y_greatest y_ways y_fault y_base y_otherKind y_otherLo y_otherHi y_low y_high y_bytes 0 y_op y_first y_second y_offset y_given y_length y_there y_known y_lo y_hi y_at y_lookups y_safe y_met (upd (upd (ze_ y_tag 14) 1 2) 2 3) (vp_updL (vp_updL (zeL y_word 14) 1 0) 2 y_bytes.toInt64) y_packet y_keys y_values y_many) : ∃ n28, wY_run_28 post p n28 0 y_place y_least y_most y_smallest y_greatest y_ways y_fault y_base y_otherKind y_otherLo y_otherHi y_low y_high y_bytes y_steps y_op y_first y_second y_offset y_given y_length y_there y_known y_lo y_hi y_at y_lookups y_safe y_met y_tag y_word y_packet y_keys y_values y_many := by
  refine ⟨15, ?_⟩
  have := yr_28 (y_steps := y_steps) H 14 0 rfl
  rw [ze_0, zeL_0] at this
  exact this
end
section
variable {x_safe : Int64} {x_at : Int32} {x_exitLeast : Int64} {x_exitMost : Int64} {x_branches : Int32} {x_faultPlace : Int32} {x_provedLeast : Int64} {x_provedMost : Int64} {x_packetLength : Int32} {x_executed : Int32} {x_ops : Nat → Int32} {x_targets : Nat → Int32} {x_sources : Nat → Int32} {x_offsets : Nat → Int32} {x_immediates : Nat → Int32} {x_lengths : Nat → Int32} {x_kinds : Nat → Int32} {x_los : Nat → Int64} {x_his : Nat → Int64} {x_reached : Nat → Int32} {x_branchAt : Nat → Int32} {x_branchSafe : Nat → Int64} {x_branchKinds : Nat → Int32} {x_branchLos : Nat → Int64} {x_branchHis : Nat → Int64} {x_packet : Nat → Int32} {x_registers : Nat → Int64} {x_cells : Nat → Int64} {x_keyWords : Nat → Int64} {x_keyTaken : Nat → Int32}
theorem xk_step {post : Int32 → Prop} {m j c fu : Nat} (hm : m < 2) (hj : j < 4) (H : wX_keys_15 post (nI m) x_safe x_at x_exitLeast x_exitMost x_branches x_faultPlace x_provedLeast x_provedMost x_packetLength x_executed x_ops x_targets x_sources x_offsets x_immediates x_lengths x_kinds x_los x_his x_reached x_branchAt x_branchSafe x_branchKinds x_branchLos x_branchHis x_packet x_registers x_cells x_keyWords x_keyTaken fu (nI (c + b1_ (x_keyTaken (4 * m + j)))) (nI (j + 1))) : wX_keys_15 post (nI m) x_safe x_at x_exitLeast x_exitMost x_branches x_faultPlace x_provedLeast x_provedMost x_packetLength x_executed x_ops x_targets x_sources x_offsets x_immediates x_lengths x_kinds x_los x_his x_reached x_branchAt x_branchSafe x_branchKinds x_branchLos x_branchHis x_packet x_registers x_cells x_keyWords x_keyTaken (fu + 1) (nI c) (nI j) := by
  have e : nI m * 4 + nI j = nI (4 * m + j) := by rw [xb_mur4, nI_add, Nat.mul_comm]
  have v : vp_in (nI m * 4 + nI j) 8 := by rw [e]; exact vp_in_nI (by omega) (by decide)
  have cl : (nI m * 4 + nI j).toNatClampNeg = 4 * m + j := by rw [e]; exact nI_clamp (by omega)
  refine br_f (by rw [xb_le4 (by omega)]; omega) ⟨v, ?_⟩
  rw [cl]
  refine br_c (fun z => nm_r (nI_1 j) ?_) (fun z => nm_r (nI_1 c) (nm_r (nI_1 j) ?_))
  · rw [b1_0 z] at H; exact H
  · rw [b1_1 z] at H; exact H
theorem xk_keys {post : Int32 → Prop} {m : Nat} (hm : m < 2) (H : post (nI (cn_ x_keyTaken m))) : wpX_keys post (x_safe, x_at, x_exitLeast, x_exitMost, x_branches, x_faultPlace, x_provedLeast, x_provedMost, x_packetLength, x_executed, x_ops, x_targets, x_sources, x_offsets, x_immediates, x_lengths, x_kinds, x_los, x_his, x_reached, x_branchAt, x_branchSafe, x_branchKinds, x_branchLos, x_branchHis, x_packet, x_registers, x_cells, x_keyWords, x_keyTaken) (nI m) := by
  refine br_f (xb_lt0 (by omega)) (br_t (by rw [xb_lt2 (by omega)]; exact hm) ⟨5, ?_⟩)
  refine xk_step (c := 0) (j := 0) hm (by omega) (xk_step hm (by omega) (xk_step hm (by omega) (xk_step hm (by omega) ?_)))
  refine br_t (by decide) ?_
  unfold cn_ at H
  rw [Nat.zero_add]
  exact H
theorem xk_forL {post : SX → Prop} (H : post (x_safe, x_at, x_exitLeast, x_exitMost, x_branches, x_faultPlace, x_provedLeast, x_provedMost, x_packetLength, x_executed, x_ops, x_targets, x_sources, x_offsets, x_immediates, x_lengths, x_kinds, x_los, x_his, x_reached, x_branchAt, x_branchSafe, x_branchKinds, x_branchLos, x_branchHis, x_packet, x_registers, x_cells, x_keyWords, ze_ x_keyTaken 8)) : ∀ d m : Nat, m + d = 8 → wX_forget_2 post x_safe x_at x_exitLeast x_exitMost x_branches x_faultPlace x_provedLeast x_provedMost x_packetLength x_executed (d + 1) (nI m) x_ops x_targets x_sources x_offsets x_immediates x_lengths x_kinds x_los x_his x_reached x_branchAt x_branchSafe x_branchKinds x_branchLos x_branchHis x_packet x_registers x_cells x_keyWords (ze_ x_keyTaken m) := by
  intro d
  induction d with
  | zero =>
    intro m hm
    have e : m = 8 := by omega
    subst e
    exact br_t (by decide) H
  | succ d ih =>
    intro m hm
    exact br_f (by rw [xb_le8 (by omega)]; omega) ⟨vp_in_nI (by omega) (by decide), nm_r (e' := ze_ x_keyTaken (m + 1)) (by rw [nI_clamp (by omega), xb_bf, ze_s]) (nm_r (nI_1 m) (ih (m + 1) (by omega)))⟩
theorem xk_forget {post : SX → Prop} (H : post (x_safe, x_at, x_exitLeast, x_exitMost, x_branches, x_faultPlace, x_provedLeast, x_provedMost, x_packetLength, x_executed, x_ops, x_targets, x_sources, x_offsets, x_immediates, x_lengths, x_kinds, x_los, x_his, x_reached, x_branchAt, x_branchSafe, x_branchKinds, x_branchLos, x_branchHis, x_packet, x_registers, x_cells, x_keyWords, ze_ x_keyTaken 8)) : wpX_forget post (x_safe, x_at, x_exitLeast, x_exitMost, x_branches, x_faultPlace, x_provedLeast, x_provedMost, x_packetLength, x_executed, x_ops, x_targets, x_sources, x_offsets, x_immediates, x_lengths, x_kinds, x_los, x_his, x_reached, x_branchAt, x_branchSafe, x_branchKinds, x_branchLos, x_branchHis, x_packet, x_registers, x_cells, x_keyWords, x_keyTaken) := by
  refine ⟨9, ?_⟩
  have := xk_forL H 8 0 rfl
  rw [ze_0] at this
  exact this
end
theorem mp_forget {π : Nat → Nat} {kt : Nat → Int32} {kw ce ks vs : Nat → Int64} {mn : Nat → Int32} (h0 : mn 0 = nI 0) (h1 : mn 1 = nI 0) : Mp_ π (ze_ kt 8) kw ce ks vs mn := by
  intro m hm
  have z : ∀ s, s < 8 → ze_ kt 8 s = 0 := by intro s hs; unfold ze_; rw [if_pos hs]
  refine ⟨0, ?_, by omega, ?_, fun s a b c => absurd (z s (by omega)) c, fun s t a b c d e => absurd (z s (by omega)) e, fun k a b => absurd b (by omega)⟩
  · have : m = 0 ∨ m = 1 := by omega
    rcases this with rfl | rfl
    · exact h0
    · exact h1
  · unfold cn_
    rw [z _ (by omega), z _ (by omega), z _ (by omega), z _ (by omega), b1_0 rfl]
theorem con_0 {π : Nat → Nat} {rg ce : Nat → Int64} {kt : Nat → Int32} {kw : Nat → Int64} {tg : Nat → Int32} {wd ks vs : Nat → Int64} {mn : Nat → Int32} {b : Nat} (M : Mp_ π kt kw ce ks vs mn) (r1 : rg 1 = 0) (r2 : rg 2 = lN b) (r8 : rg 8 = 0) (t1 : tg 1 = 2) (w1 : wd 1 = 0) (t2 : tg 2 = 3) (w2 : wd 2 = lN b) : Con_ K0_ (fun _ => 0) (fun _ => 0) 0 π rg ce kt kw tg wd ks vs mn b := by
  have e0 : ∀ r, ¬ r = 1 → ¬ r = 2 → K0_ (g_ r) = 0 := by
    intro r n1 n2
    unfold K0_
    rw [if_neg, if_neg, if_neg (g_8 r)]
    · unfold g_; split <;> omega
    · unfold g_; split <;> omega
  refine ⟨fun r hr => ?_, r8, ⟨⟨0, by omega, rfl⟩, fun r t hr ht kr _ => ?_⟩, M⟩
  · by_cases z1 : r = 1
    · subst z1
      have ex : cx_ rg ce 1 = 0 := by unfold cx_; rw [if_pos (by decide)]; exact r1
      rw [ex, t1, w1]
      exact V_2 rfl ⟨0, 0, 0, by omega, by omega, by omega, rfl, rfl, rfl⟩
    · by_cases z2 : r = 2
      · subst z2
        have ex : cx_ rg ce 2 = lN b := by unfold cx_; rw [if_pos (by decide)]; exact r2
        rw [ex, t2, w2]
        exact V_3 rfl rfl
      · rw [e0 r z1 z2]; exact V_0
  · exfalso
    by_cases z1 : r = 1
    · subst z1; exact absurd kr (by decide)
    · by_cases z2 : r = 2
      · subst z2; exact absurd kr (by decide)
      · rw [e0 r z1 z2] at kr; exact absurd kr (by decide)
section
variable {x_safe : Int64} {x_at : Int32} {x_exitLeast : Int64} {x_exitMost : Int64} {x_branches : Int32} {x_faultPlace : Int32} {x_provedLeast : Int64} {x_provedMost : Int64} {x_packetLength : Int32} {x_executed : Int32} {x_ops : Nat → Int32} {x_targets : Nat → Int32} {x_sources : Nat → Int32} {x_offsets : Nat → Int32} {x_immediates : Nat → Int32} {x_lengths : Nat → Int32} {x_kinds : Nat → Int32} {x_los : Nat → Int64} {x_his : Nat → Int64} {x_reached : Nat → Int32} {x_branchAt : Nat → Int32} {x_branchSafe : Nat → Int64} {x_branchKinds : Nat → Int32} {x_branchLos : Nat → Int64} {x_branchHis : Nat → Int64} {x_packet : Nat → Int32} {x_registers : Nat → Int64} {x_cells : Nat → Int64} {x_keyWords : Nat → Int64} {x_keyTaken : Nat → Int32} {y_place : Int32} {y_least : Int64} {y_most : Int64} {y_smallest : Int64} {y_greatest : Int64} {y_ways : Int32} {y_fault : Int32} {y_base : Int32} {y_otherKind : Int32} {y_otherLo : Int64} {y_otherHi : Int64} {y_low : Int64} {y_high : Int64} {y_bytes : Int32} {y_steps : Int32} {y_op : Nat → Int32} {y_first : Nat → Int32} {y_second : Nat → Int32} {y_offset : Nat → Int32} {y_given : Nat → Int32} {y_length : Nat → Int32} {y_there : Nat → Int32} {y_known : Nat → Int32} {y_lo : Nat → Int64} {y_hi : Nat → Int64} {y_at : Nat → Int32} {y_lookups : Nat → Int32} {y_safe : Nat → Int32} {y_met : Nat → Int32} {y_tag : Nat → Int32} {y_word : Nat → Int64} {y_packet : Nat → Int32} {y_keys : Nat → Int64} {y_values : Nat → Int64} {y_many : Nat → Int32}
theorem vc_run {k p : Nat} (I : i_Rel k (x_safe, x_at, x_exitLeast, x_exitMost, x_branches, x_faultPlace, x_provedLeast, x_provedMost, x_packetLength, x_executed, x_ops, x_targets, x_sources, x_offsets, x_immediates, x_lengths, x_kinds, x_los, x_his, x_reached, x_branchAt, x_branchSafe, x_branchKinds, x_branchLos, x_branchHis, x_packet, x_registers, x_cells, x_keyWords, x_keyTaken) (y_place, y_least, y_most, y_smallest, y_greatest, y_ways, y_fault, y_base, y_otherKind, y_otherLo, y_otherHi, y_low, y_high, y_bytes, y_steps, y_op, y_first, y_second, y_offset, y_given, y_length, y_there, y_known, y_lo, y_hi, y_at, y_lookups, y_safe, y_met, y_tag, y_word, y_packet, y_keys, y_values, y_many)) (hp : p < 2) : wpX_run (fun r u' => wpY_run (fun r' v' => r' = r ∧ i_Rel (k + 6) u' v') (y_place, y_least, y_most, y_smallest, y_greatest, y_ways, y_fault, y_base, y_otherKind, y_otherLo, y_otherHi, y_low, y_high, y_bytes, y_steps, y_op, y_first, y_second, y_offset, y_given, y_length, y_there, y_known, y_lo, y_hi, y_at, y_lookups, y_safe, y_met, y_tag, y_word, y_packet, y_keys, y_values, y_many) (nI p)) (x_safe, x_at, x_exitLeast, x_exitMost, x_branches, x_faultPlace, x_provedLeast, x_provedMost, x_packetLength, x_executed, x_ops, x_targets, x_sources, x_offsets, x_immediates, x_lengths, x_kinds, x_los, x_his, x_reached, x_branchAt, x_branchSafe, x_branchKinds, x_branchLos, x_branchHis, x_packet, x_registers, x_cells, x_keyWords, x_keyTaken) (nI p) := by
  obtain ⟨⟨rfl, rfl, rfl, rfl, rfl, rfl⟩, ho, hl', ⟨rfl, rfl, rfl⟩, ⟨b, hb, rfl, rfl, hpk⟩, rfl, ⟨π, mm⟩, th, z16⟩ := I
  have cp : (nI p).toNatClampNeg = p := nI_clamp (by omega)
  refine br_f (xb_lt0 (by omega)) (br_t (by rw [xb_lt2 (by omega)]; exact hp) ⟨vp_in_nI (by omega) (by decide), ?_⟩)
  rw [cp]
  have Y0 : ∀ post : Int64 → SY → Prop, (y_there p = 0 → post (-2) (x_faultPlace, x_provedLeast, x_provedMost, y_smallest, y_greatest, y_ways, y_fault, y_base, y_otherKind, y_otherLo, y_otherHi, y_low, y_high, nI b, x_executed, x_ops, x_targets, x_sources, x_offsets, x_immediates, x_lengths, y_there, y_known, y_lo, y_hi, y_at, y_lookups, y_safe, y_met, y_tag, y_word, y_packet, y_keys, y_values, y_many)) → (¬ y_there p = 0 → ∃ n28, wY_run_28 post (nI p) n28 0 x_faultPlace x_provedLeast x_provedMost y_smallest y_greatest y_ways y_fault y_base y_otherKind y_otherLo y_otherHi y_low y_high (nI b) x_executed x_ops x_targets x_sources x_offsets x_immediates x_lengths y_there y_known y_lo y_hi y_at y_lookups y_safe y_met y_tag y_word y_packet y_keys y_values y_many) → wpY_run post (x_faultPlace, x_provedLeast, x_provedMost, y_smallest, y_greatest, y_ways, y_fault, y_base, y_otherKind, y_otherLo, y_otherHi, y_low, y_high, nI b, x_executed, x_ops, x_targets, x_sources, x_offsets, x_immediates, x_lengths, y_there, y_known, y_lo, y_hi, y_at, y_lookups, y_safe, y_met, y_tag, y_word, y_packet, y_keys, y_values, y_many) (nI p) := by
    intro post A B
    refine br_f (xb_lt0 (by omega)) (br_t (by rw [xb_ge1 (by omega)]; omega) ⟨vp_in_nI hp (by decide), ?_⟩)
    rw [cp]
    exact br_c A B
  rcases th p hp with ⟨t0, l0⟩ | ⟨t1, m, m1, m2, m3, s⟩
  · refine br_t l0 (Y0 _ (fun _ => ⟨rfl, ⟨rfl, rfl, rfl, rfl, rfl, rfl⟩, ho, hl', ⟨rfl, rfl, rfl⟩, ⟨b, hb, rfl, rfl, hpk⟩, rfl, ⟨π, mm⟩, th, z16⟩) (fun n => absurd t0 n))
  · have l0 : ¬ x_lengths p = 0 := by rw [m3, xb_eq0 (by omega)]; omega
    refine br_f l0 (nm_e (nm_r (e' := vp_updL (vp_updL x_registers 1 0) 2 (lN b)) (by rw [nI_l (by omega)]) (nm_e ?_)))
    have C0 : Con_ K0_ (fun _ => 0) (fun _ => 0) 0 π (vp_updL (vp_updL (vp_updL x_registers 1 0) 2 (lN b)) 8 0) x_cells x_keyTaken x_keyWords (upd (upd (ze_ y_tag 14) 1 2) 2 3) (vp_updL (vp_updL (zeL y_word 14) 1 0) 2 (nI b).toInt64) y_keys y_values y_many b := by
      refine con_0 mm ?_ ?_ pk_uLs ?_ ?_ pk_us ?_
      · rw [pk_uLn (by decide), pk_uLn (by decide), pk_uLs]
      · rw [pk_uLn (by decide), pk_uLs]
      · rw [pk_un (by decide), pk_us]
      · rw [pk_uLn (by decide), pk_uLs]
      · rw [pk_uLs, nI_l (by omega)]
    obtain ⟨r, st, π2, rg2, ce2, kt2, kw2, tg2, wd2, ks2, vs2, mn2, M2, X2, Y2⟩ := s.2 _ _ _ _ _ _ _ _ _ _ _ x_packet y_packet C0 hb hpk
    have PG : Pg_ x_ops x_targets x_sources x_offsets x_immediates p m (fun j => x_ops (40 * p + j)) (fun j => x_targets (40 * p + j)) (fun j => x_sources (40 * p + j)) (fun j => x_offsets (40 * p + j)) (fun j => x_immediates (40 * p + j)) := fun j _ => ⟨rfl, rfl, rfl, rfl, rfl⟩
    refine ⟨41, X2 x_safe x_at x_exitLeast x_exitMost x_branches x_faultPlace x_provedLeast x_provedMost 0 0 x_ops x_targets x_sources x_offsets x_immediates x_lengths x_kinds x_los x_his x_reached x_branchAt x_branchSafe x_branchKinds x_branchLos x_branchHis x_packet x_registers x_cells x_keyWords x_keyTaken p 0 41 _ hp PG m3 (by omega) (by omega) ?_⟩
    refine Y0 _ (fun z => absurd z t1) (fun _ => yr_28' ⟨41, Y2 x_faultPlace x_provedLeast x_provedMost y_smallest y_greatest y_ways y_fault y_base y_otherKind y_otherLo y_otherHi y_low y_high 0 0 x_ops x_targets x_sources x_offsets x_immediates x_lengths y_there y_known y_lo y_hi y_at y_lookups y_safe y_met y_tag y_word y_packet y_keys y_values y_many p 41 _ hp PG (by omega) ?_⟩)
    exact ⟨rfl, ⟨rfl, rfl, rfl, rfl, rfl, rfl⟩, ho, hl', ⟨rfl, rfl, rfl⟩, ⟨b, hb, rfl, rfl, hpk⟩, rfl, ⟨π2, M2⟩, th, z16⟩
end
end
section
theorem i_vc0 : wpX_init (fun u => wpY_init (fun v => i_Rel 0 u v)) := by
  refine ⟨⟨rfl, rfl, rfl, rfl, rfl, rfl⟩, fun j => ⟨Or.inl ⟨0, by omega, Or.inl rfl⟩, ⟨0, by omega, rfl⟩, ⟨0, by omega, rfl⟩⟩, ⟨0, by omega, rfl⟩, ⟨rfl, rfl, rfl⟩, ⟨0, by omega, rfl, rfl, fun j => by show (0 : Int32) = 0 &&& 255; decide⟩, rfl, ⟨fun j => j, fun m hm => ⟨0, rfl, by omega, rfl, fun s a b c => absurd rfl c, fun s t a b c d e => absurd rfl e, fun k a b => absurd b (by omega)⟩⟩, fun p hp => Or.inl ⟨rfl, rfl⟩, fun j hj => ⟨rfl, rfl, rfl⟩⟩
theorem i_vc_code {k : Nat} {u : SX} {v : SY} (I : i_Rel k u v) (hk : k + 6 ≤ 3072) (v1 : Int32) (v2 : Int32) (v3 : Int32) (v4 : Int32) (v5 : Int32) : wpX_code (fun r u' => wpY_code (fun r' v' => r' = r ∧ i_Rel (k + 6) u' v') v v1 v2 v3 v4 v5) u v1 v2 v3 v4 v5 := by
  obtain ⟨x_safe, x_at, x_exitLeast, x_exitMost, x_branches, x_faultPlace, x_provedLeast, x_provedMost, x_packetLength, x_executed, x_ops, x_targets, x_sources, x_offsets, x_immediates, x_lengths, x_kinds, x_los, x_his, x_reached, x_branchAt, x_branchSafe, x_branchKinds, x_branchLos, x_branchHis, x_packet, x_registers, x_cells, x_keyWords, x_keyTaken⟩ := u
  obtain ⟨y_place, y_least, y_most, y_smallest, y_greatest, y_ways, y_fault, y_base, y_otherKind, y_otherLo, y_otherHi, y_low, y_high, y_bytes, y_steps, y_op, y_first, y_second, y_offset, y_given, y_length, y_there, y_known, y_lo, y_hi, y_at, y_lookups, y_safe, y_met, y_tag, y_word, y_packet, y_keys, y_values, y_many⟩ := v
  unfold wpX_code
  refine xc_named (fun h => ?_) (fun h => ?_)
  rotate_left
  · refine br_t rfl ?_
    refine yc_named (fun z => absurd z h) (fun _ => ?_)
    exact br_t rfl ⟨rfl, I⟩
  refine br_f (by decide) ?_
  have Y81 : ∀ post : Int32 → SY → Prop, wY_code_81 post v1 v2 v3 v4 v5 1 y_place y_least y_most y_smallest y_greatest y_ways y_fault y_base y_otherKind y_otherLo y_otherHi y_low y_high y_bytes y_steps y_op y_first y_second y_offset y_given y_length y_there y_known y_lo y_hi y_at y_lookups y_safe y_met y_tag y_word y_packet y_keys y_values y_many → wpY_code post (y_place, y_least, y_most, y_smallest, y_greatest, y_ways, y_fault, y_base, y_otherKind, y_otherLo, y_otherHi, y_low, y_high, y_bytes, y_steps, y_op, y_first, y_second, y_offset, y_given, y_length, y_there, y_known, y_lo, y_hi, y_at, y_lookups, y_safe, y_met, y_tag, y_word, y_packet, y_keys, y_values, y_many) v1 v2 v3 v4 v5 := fun post G => yc_named (fun _ => G) (fun n => absurd h n)
  by_cases d0 : v2 < 0
  · exact br_t d0 (Y81 _ (br_f (by decide) (br_t d0 ⟨rfl, I⟩)))
  · obtain ⟨d, hd, rfl⟩ := nI_of d0
    by_cases d8 : d < 8
    · by_cases s0 : v3 < 0
      · exact br_f d0 (br_f (by rw [xb_le8 hd]; omega) (br_t s0 (Y81 _ (br_f (by decide) (br_f d0 (br_f (by rw [xb_gt7 hd]; omega) (br_t s0 ⟨rfl, I⟩)))))))
      · obtain ⟨s, hs, rfl⟩ := nI_of s0
        by_cases s9 : s < 9
        · -- both sides are at the test of the constant
          have Y5 : ∀ post : Int32 → SY → Prop, ((v1 = 6 → (((v5 < 0 → (post 0 (y_place, y_least, y_most, y_smallest, y_greatest, y_ways, y_fault, y_base, y_otherKind, y_otherLo, y_otherHi, y_low, y_high, y_bytes, y_steps, y_op, y_first, y_second, y_offset, y_given, y_length, y_there, y_known, y_lo, y_hi, y_at, y_lookups, y_safe, y_met, y_tag, y_word, y_packet, y_keys, y_values, y_many))) ∧ (¬ v5 < 0 → (((31 < v5 → (post 0 (y_place, y_least, y_most, y_smallest, y_greatest, y_ways, y_fault, y_base, y_otherKind, y_otherLo, y_otherHi, y_low, y_high, y_bytes, y_steps, y_op, y_first, y_second, y_offset, y_given, y_length, y_there, y_known, y_lo, y_hi, y_at, y_lookups, y_safe, y_met, y_tag, y_word, y_packet, y_keys, y_values, y_many))) ∧ (¬ 31 < v5 → (wY_code_126 post v1 (nI d) (nI s) v4 v5 y_place y_least y_most y_smallest y_greatest y_ways y_fault y_base y_otherKind y_otherLo y_otherHi y_low y_high y_bytes y_steps y_op y_first y_second y_offset y_given y_length y_there y_known y_lo y_hi y_at y_lookups y_safe y_met y_tag y_word y_packet y_keys y_values y_many)))))))) ∧ (¬ v1 = 6 → (wY_code_126 post v1 (nI d) (nI s) v4 v5 y_place y_least y_most y_smallest y_greatest y_ways y_fault y_base y_otherKind y_otherLo y_otherHi y_low y_high y_bytes y_steps y_op y_first y_second y_offset y_given y_length y_there y_known y_lo y_hi y_at y_lookups y_safe y_met y_tag y_word y_packet y_keys y_values y_many))) → wpY_code post (y_place, y_least, y_most, y_smallest, y_greatest, y_ways, y_fault, y_base, y_otherKind, y_otherLo, y_otherHi, y_low, y_high, y_bytes, y_steps, y_op, y_first, y_second, y_offset, y_given, y_length, y_there, y_known, y_lo, y_hi, y_at, y_lookups, y_safe, y_met, y_tag, y_word, y_packet, y_keys, y_values, y_many) v1 (nI d) (nI s) v4 v5 := fun post G => Y81 _ (br_f (by decide) (br_f d0 (br_f (by rw [xb_gt7 hd]; omega) (br_f s0 (br_f (by rw [xb_gt8 hs]; omega) G)))))
          refine br_f d0 (br_f (by rw [xb_le8 hd]; omega) (br_f s0 (br_t (by rw [xb_ge8 hs]; omega) ?_)))
          have fin : ((v1 = 6 → ¬ v5 < 0 ∧ v5 ≤ 31)) → wX_code_49 (fun r u' => wpY_code (fun r' v' => r' = r ∧ i_Rel (k + 6) u' v') (y_place, y_least, y_most, y_smallest, y_greatest, y_ways, y_fault, y_base, y_otherKind, y_otherLo, y_otherHi, y_low, y_high, y_bytes, y_steps, y_op, y_first, y_second, y_offset, y_given, y_length, y_there, y_known, y_lo, y_hi, y_at, y_lookups, y_safe, y_met, y_tag, y_word, y_packet, y_keys, y_values, y_many) v1 (nI d) (nI s) v4 v5) v1 (nI d) (nI s) v4 v5 x_safe x_at x_exitLeast x_exitMost x_branches x_faultPlace x_provedLeast x_provedMost x_packetLength x_executed x_ops x_targets x_sources x_offsets x_immediates x_lengths x_kinds x_los x_his x_reached x_branchAt x_branchSafe x_branchKinds x_branchLos x_branchHis x_packet x_registers x_cells x_keyWords x_keyTaken := by
            intro c
            obtain ⟨⟨rfl, rfl, rfl, rfl, rfl, rfl⟩, ho, ⟨n, hn, hl⟩, ⟨rfl, rfl, rfl⟩, pk, rfl, mm, th, z16⟩ := I
            have Y6 : ∀ post : Int32 → SY → Prop, wY_code_126 post v1 (nI d) (nI s) v4 v5 x_faultPlace x_provedLeast x_provedMost y_smallest y_greatest y_ways y_fault y_base y_otherKind y_otherLo y_otherHi y_low y_high y_bytes x_executed x_ops x_targets x_sources x_offsets x_immediates x_lengths y_there y_known y_lo y_hi y_at y_lookups y_safe y_met y_tag y_word y_packet y_keys y_values y_many → wpY_code post (x_faultPlace, x_provedLeast, x_provedMost, y_smallest, y_greatest, y_ways, y_fault, y_base, y_otherKind, y_otherLo, y_otherHi, y_low, y_high, y_bytes, x_executed, x_ops, x_targets, x_sources, x_offsets, x_immediates, x_lengths, y_there, y_known, y_lo, y_hi, y_at, y_lookups, y_safe, y_met, y_tag, y_word, y_packet, y_keys, y_values, y_many) v1 (nI d) (nI s) v4 v5 := fun post G => Y5 post (br_c (fun z => br_f (c z).1 (br_f (Int32.not_lt.mpr (c z).2) G)) (fun _ => G))
            by_cases n40 : n = 40
            · refine br_f (by rw [hl, xb_lt40 (by omega)]; omega) (Y6 _ (br_t (by rw [hl, n40]; rfl) ⟨rfl, ⟨rfl, rfl, rfl, rfl, rfl, rfl⟩, ho, ⟨n, hn, hl⟩, ⟨rfl, rfl, rfl⟩, pk, rfl, mm, th, z16⟩))
            · have e80 : 80 + x_lengths 2 = nI (80 + n) := by rw [hl, xb_add80]
              have v : vp_in (nI (80 + n)) 120 := vp_in_nI (by omega) (by decide)
              have cl : (nI (80 + n)).toNatClampNeg = 80 + n := nI_clamp (by omega)
              obtain ⟨c1, hc1, ec1⟩ := ok_n h
              have eo : vp_nar .byte v1.toInt8.toInt32 = v1 := by rw [ec1, xb_nb hc1, xb_vb hc1]
              have ed : vp_nar .byte (nI d).toInt8.toInt32 = nI d := by rw [xb_nb (by omega), xb_vb (by omega)]
              have es : vp_nar .byte (nI s).toInt8.toInt32 = nI s := by rw [xb_nb (by omega), xb_vb (by omega)]
              refine br_t (by rw [hl, xb_lt40 (by omega)]; omega) (nm_r e80 ⟨v, nm_r (e' := upd x_ops (80 + n) v1) (by rw [cl]) ⟨v, nm_r (e' := upd x_targets (80 + n) (nI d)) (by rw [cl]) ⟨v, nm_r (e' := upd x_sources (80 + n) (nI s)) (by rw [cl]) ⟨v, nm_r (e' := upd x_offsets (80 + n) v4) (by rw [cl]) ⟨v, nm_r (e' := upd x_immediates (80 + n) v5) (by rw [cl]) (nm_r (e' := upd x_lengths 2 (nI (n + 1))) (by rw [hl, nI_1]) ?_)⟩⟩⟩⟩⟩)
              refine Y6 _ (br_f (fun z => n40 ((nI_eq (b := 40) (by omega) (by omega)).mp (hl.symm.trans z))) (nm_r (e' := upd x_lengths 2 (nI (n + 1))) (by rw [hl, nI_1, xb_nb (by omega), xb_vb (by omega)]) (nm_r e80 ⟨v, nm_r (e' := upd x_ops (80 + n) v1) (by rw [cl, eo]) ⟨v, nm_r (e' := upd x_targets (80 + n) (nI d)) (by rw [cl, ed]) ⟨v, nm_r (e' := upd x_sources (80 + n) (nI s)) (by rw [cl, es]) ⟨v, nm_r (e' := upd x_offsets (80 + n) v4) (by rw [cl]) ⟨v, nm_r (e' := upd x_immediates (80 + n) v5) (by rw [cl]) ?_⟩⟩⟩⟩⟩)))
              exact ⟨rfl, ⟨rfl, rfl, rfl, rfl, rfl, rfl⟩, po_code ho h d8 s9, ⟨n + 1, by omega, pk_us⟩, ⟨rfl, rfl, rfl⟩, pk, rfl, mm, th_code th, z16⟩
          refine br_c (fun z6 => br_c (fun z => Y5 _ (br_t z6 (br_t z ⟨rfl, I⟩))) (fun z => br_c (fun y => fin (fun _ => ⟨z, y⟩)) (fun y => Y5 _ (br_t z6 (br_f z (br_t (Int32.not_le.mp y) ⟨rfl, I⟩)))))) (fun z6 => fin (fun z => absurd z z6))
        · exact br_f d0 (br_f (by rw [xb_le8 hd]; omega) (br_f s0 (br_f (by rw [xb_ge8 hs]; omega) (Y81 _ (br_f (by decide) (br_f d0 (br_f (by rw [xb_gt7 hd]; omega) (br_f s0 (br_t (by rw [xb_gt8 hs]; omega) ⟨rfl, I⟩)))))))))
    · exact br_f d0 (br_t (by rw [xb_le8 hd]; omega) (Y81 _ (br_f (by decide) (br_f d0 (br_t (by rw [xb_gt7 hd]; omega) ⟨rfl, I⟩)))))
theorem i_vc_wipe {k : Nat} {u : SX} {v : SY} (I : i_Rel k u v) (hk : k + 6 ≤ 3072) : wpX_wipe (fun r u' => wpY_wipe (fun r' v' => r' = r ∧ i_Rel (k + 6) u' v') v) u := by
  obtain ⟨x_safe, x_at, x_exitLeast, x_exitMost, x_branches, x_faultPlace, x_provedLeast, x_provedMost, x_packetLength, x_executed, x_ops, x_targets, x_sources, x_offsets, x_immediates, x_lengths, x_kinds, x_los, x_his, x_reached, x_branchAt, x_branchSafe, x_branchKinds, x_branchLos, x_branchHis, x_packet, x_registers, x_cells, x_keyWords, x_keyTaken⟩ := u
  obtain ⟨y_place, y_least, y_most, y_smallest, y_greatest, y_ways, y_fault, y_base, y_otherKind, y_otherLo, y_otherHi, y_low, y_high, y_bytes, y_steps, y_op, y_first, y_second, y_offset, y_given, y_length, y_there, y_known, y_lo, y_hi, y_at, y_lookups, y_safe, y_met, y_tag, y_word, y_packet, y_keys, y_values, y_many⟩ := v
  obtain ⟨⟨rfl, rfl, rfl, rfl, rfl, rfl⟩, ho, ⟨n, hn, hl⟩, ⟨rfl, rfl, rfl⟩, pk, rfl, mm, th, z16⟩ := I
  refine nm_e (nm_e (nm_e (nm_r (e' := upd x_lengths 2 0) (by rw [xb_b0]) ?_)))
  refine ⟨rfl, ⟨rfl, rfl, rfl, rfl, rfl, rfl⟩, ho, ⟨0, by omega, pk_us⟩, ⟨rfl, rfl, rfl⟩, pk, rfl, mm, fun p hp => ?_, z16⟩
  rw [pk_un (by omega)]
  exact th p hp
theorem i_vc_place {k : Nat} {u : SX} {v : SY} (I : i_Rel k u v) (hk : k + 6 ≤ 3072) : wpX_place (fun r => wpY_place (fun r' => r' = r ∧ i_Rel (k + 6) u v) v) u := by
  obtain ⟨x_safe, x_at, x_exitLeast, x_exitMost, x_branches, x_faultPlace, x_provedLeast, x_provedMost, x_packetLength, x_executed, x_ops, x_targets, x_sources, x_offsets, x_immediates, x_lengths, x_kinds, x_los, x_his, x_reached, x_branchAt, x_branchSafe, x_branchKinds, x_branchLos, x_branchHis, x_packet, x_registers, x_cells, x_keyWords, x_keyTaken⟩ := u
  obtain ⟨y_place, y_least, y_most, y_smallest, y_greatest, y_ways, y_fault, y_base, y_otherKind, y_otherLo, y_otherHi, y_low, y_high, y_bytes, y_steps, y_op, y_first, y_second, y_offset, y_given, y_length, y_there, y_known, y_lo, y_hi, y_at, y_lookups, y_safe, y_met, y_tag, y_word, y_packet, y_keys, y_values, y_many⟩ := v
  exact ⟨I.2.2.2.1.1.symm, I⟩
theorem i_vc_least {k : Nat} {u : SX} {v : SY} (I : i_Rel k u v) (hk : k + 6 ≤ 3072) : wpX_least (fun r => wpY_least (fun r' => r' = r ∧ i_Rel (k + 6) u v) v) u := by
  obtain ⟨x_safe, x_at, x_exitLeast, x_exitMost, x_branches, x_faultPlace, x_provedLeast, x_provedMost, x_packetLength, x_executed, x_ops, x_targets, x_sources, x_offsets, x_immediates, x_lengths, x_kinds, x_los, x_his, x_reached, x_branchAt, x_branchSafe, x_branchKinds, x_branchLos, x_branchHis, x_packet, x_registers, x_cells, x_keyWords, x_keyTaken⟩ := u
  obtain ⟨y_place, y_least, y_most, y_smallest, y_greatest, y_ways, y_fault, y_base, y_otherKind, y_otherLo, y_otherHi, y_low, y_high, y_bytes, y_steps, y_op, y_first, y_second, y_offset, y_given, y_length, y_there, y_known, y_lo, y_hi, y_at, y_lookups, y_safe, y_met, y_tag, y_word, y_packet, y_keys, y_values, y_many⟩ := v
  exact ⟨I.2.2.2.1.2.1.symm, I⟩
theorem i_vc_most {k : Nat} {u : SX} {v : SY} (I : i_Rel k u v) (hk : k + 6 ≤ 3072) : wpX_most (fun r => wpY_most (fun r' => r' = r ∧ i_Rel (k + 6) u v) v) u := by
  obtain ⟨x_safe, x_at, x_exitLeast, x_exitMost, x_branches, x_faultPlace, x_provedLeast, x_provedMost, x_packetLength, x_executed, x_ops, x_targets, x_sources, x_offsets, x_immediates, x_lengths, x_kinds, x_los, x_his, x_reached, x_branchAt, x_branchSafe, x_branchKinds, x_branchLos, x_branchHis, x_packet, x_registers, x_cells, x_keyWords, x_keyTaken⟩ := u
  obtain ⟨y_place, y_least, y_most, y_smallest, y_greatest, y_ways, y_fault, y_base, y_otherKind, y_otherLo, y_otherHi, y_low, y_high, y_bytes, y_steps, y_op, y_first, y_second, y_offset, y_given, y_length, y_there, y_known, y_lo, y_hi, y_at, y_lookups, y_safe, y_met, y_tag, y_word, y_packet, y_keys, y_values, y_many⟩ := v
  exact ⟨I.2.2.2.1.2.2.symm, I⟩
theorem i_vc_feed {k : Nat} {u : SX} {v : SY} (I : i_Rel k u v) (hk : k + 6 ≤ 3072) (v1 : Int32) : wpX_feed (fun r u' => wpY_feed (fun r' v' => r' = r ∧ i_Rel (k + 6) u' v') v v1) u v1 := by
  obtain ⟨x_safe, x_at, x_exitLeast, x_exitMost, x_branches, x_faultPlace, x_provedLeast, x_provedMost, x_packetLength, x_executed, x_ops, x_targets, x_sources, x_offsets, x_immediates, x_lengths, x_kinds, x_los, x_his, x_reached, x_branchAt, x_branchSafe, x_branchKinds, x_branchLos, x_branchHis, x_packet, x_registers, x_cells, x_keyWords, x_keyTaken⟩ := u
  obtain ⟨y_place, y_least, y_most, y_smallest, y_greatest, y_ways, y_fault, y_base, y_otherKind, y_otherLo, y_otherHi, y_low, y_high, y_bytes, y_steps, y_op, y_first, y_second, y_offset, y_given, y_length, y_there, y_known, y_lo, y_hi, y_at, y_lookups, y_safe, y_met, y_tag, y_word, y_packet, y_keys, y_values, y_many⟩ := v
  obtain ⟨ar, ho, hl, pr, ⟨b, hb, rfl, rfl, hpk⟩, st, mm, th, z16⟩ := I
  by_cases z : b = 24
  · exact br_f (by rw [xb_lt24 (by omega)]; omega) (br_t (by rw [z]; rfl) ⟨rfl, ar, ho, hl, pr, ⟨b, hb, rfl, rfl, hpk⟩, st, mm, th, z16⟩)
  · have v : vp_in (nI b) 24 := vp_in_nI (by omega) (by decide)
    have c : (nI b).toNatClampNeg = b := nI_clamp (by omega)
    refine br_t (by rw [xb_lt24 (by omega)]; omega) ⟨v, nm_r (e' := upd x_packet b (v1 &&& 255)) (by rw [c]) (nm_r (nI_1 b) (br_f (fun q => z ((nI_eq (b := 24) (by omega) (by omega)).mp q)) (nm_r (nI_1 b) ⟨v, nm_r (e' := upd y_packet b v1.toInt8.toInt32) (by rw [c, ys_bb]) ?_⟩)))⟩
    refine ⟨rfl, ar, ho, hl, pr, ⟨b + 1, by omega, rfl, rfl, fun j => ?_⟩, st, mm, th, z16⟩
    by_cases y : j = b
    · rw [y, pk_us, pk_us, bp_b]
    · rw [pk_un y, pk_un y]; exact hpk j
theorem i_vc_next {k : Nat} {u : SX} {v : SY} (I : i_Rel k u v) (hk : k + 6 ≤ 3072) : wpX_next (fun r u' => wpY_next (fun r' v' => r' = r ∧ i_Rel (k + 6) u' v') v) u := by
  obtain ⟨x_safe, x_at, x_exitLeast, x_exitMost, x_branches, x_faultPlace, x_provedLeast, x_provedMost, x_packetLength, x_executed, x_ops, x_targets, x_sources, x_offsets, x_immediates, x_lengths, x_kinds, x_los, x_his, x_reached, x_branchAt, x_branchSafe, x_branchKinds, x_branchLos, x_branchHis, x_packet, x_registers, x_cells, x_keyWords, x_keyTaken⟩ := u
  obtain ⟨y_place, y_least, y_most, y_smallest, y_greatest, y_ways, y_fault, y_base, y_otherKind, y_otherLo, y_otherHi, y_low, y_high, y_bytes, y_steps, y_op, y_first, y_second, y_offset, y_given, y_length, y_there, y_known, y_lo, y_hi, y_at, y_lookups, y_safe, y_met, y_tag, y_word, y_packet, y_keys, y_values, y_many⟩ := v
  obtain ⟨ar, ho, hl, pr, ⟨b, hb, e1, e2, hpk⟩, st, mm, th, z16⟩ := I
  exact ⟨e2.trans e1.symm, ar, ho, hl, pr, ⟨0, by omega, rfl, rfl, hpk⟩, st, mm, th, z16⟩
theorem i_vc_run {k : Nat} {u : SX} {v : SY} (I : i_Rel k u v) (hk : k + 6 ≤ 3072) (v1 : Int32) : wpX_run (fun r u' => wpY_run (fun r' v' => r' = r ∧ i_Rel (k + 6) u' v') v v1) u v1 := by
  obtain ⟨x_safe, x_at, x_exitLeast, x_exitMost, x_branches, x_faultPlace, x_provedLeast, x_provedMost, x_packetLength, x_executed, x_ops, x_targets, x_sources, x_offsets, x_immediates, x_lengths, x_kinds, x_los, x_his, x_reached, x_branchAt, x_branchSafe, x_branchKinds, x_branchLos, x_branchHis, x_packet, x_registers, x_cells, x_keyWords, x_keyTaken⟩ := u
  obtain ⟨y_place, y_least, y_most, y_smallest, y_greatest, y_ways, y_fault, y_base, y_otherKind, y_otherLo, y_otherHi, y_low, y_high, y_bytes, y_steps, y_op, y_first, y_second, y_offset, y_given, y_length, y_there, y_known, y_lo, y_hi, y_at, y_lookups, y_safe, y_met, y_tag, y_word, y_packet, y_keys, y_values, y_many⟩ := v
  by_cases z : v1 < 0
  · exact br_t z (br_t z ⟨rfl, I⟩)
  · obtain ⟨p, hp, rfl⟩ := nI_of z
    by_cases h2 : p < 2
    · exact vc_run I h2
    · exact br_f z (br_f (by rw [xb_lt2 hp]; omega) (br_f z (br_f (by rw [xb_ge1 hp]; omega) ⟨rfl, I⟩)))
theorem i_vc_steps {k : Nat} {u : SX} {v : SY} (I : i_Rel k u v) (hk : k + 6 ≤ 3072) : wpX_steps (fun r => wpY_steps (fun r' => r' = r ∧ i_Rel (k + 6) u v) v) u := by
  obtain ⟨x_safe, x_at, x_exitLeast, x_exitMost, x_branches, x_faultPlace, x_provedLeast, x_provedMost, x_packetLength, x_executed, x_ops, x_targets, x_sources, x_offsets, x_immediates, x_lengths, x_kinds, x_los, x_his, x_reached, x_branchAt, x_branchSafe, x_branchKinds, x_branchLos, x_branchHis, x_packet, x_registers, x_cells, x_keyWords, x_keyTaken⟩ := u
  obtain ⟨y_place, y_least, y_most, y_smallest, y_greatest, y_ways, y_fault, y_base, y_otherKind, y_otherLo, y_otherHi, y_low, y_high, y_bytes, y_steps, y_op, y_first, y_second, y_offset, y_given, y_length, y_there, y_known, y_lo, y_hi, y_at, y_lookups, y_safe, y_met, y_tag, y_word, y_packet, y_keys, y_values, y_many⟩ := v
  exact ⟨I.2.2.2.2.2.1.symm, I⟩
theorem ix_2 {x : Int32} (h : ¬ (x < 0 ∨ ¬ x < 2)) : ∃ m : Nat, m < 2 ∧ x = nI m := by
  obtain ⟨m, hm, e⟩ := nI_of (x := x) (fun z => h (Or.inl z))
  refine ⟨m, ?_, e⟩
  have : x < 2 := Classical.byContradiction fun z => h (Or.inr z)
  rw [e, xb_lt2 hm] at this; exact this
theorem i_vc_value {k : Nat} {u : SX} {v : SY} (I : i_Rel k u v) (hk : k + 6 ≤ 3072) (v1 : Int32) (v2 : Int32) (v3 : Int32) : wpX_value (fun r => wpY_value (fun r' => r' = r ∧ i_Rel (k + 6) u v) v v1 v2 v3) u v1 v2 v3 := by
  obtain ⟨x_safe, x_at, x_exitLeast, x_exitMost, x_branches, x_faultPlace, x_provedLeast, x_provedMost, x_packetLength, x_executed, x_ops, x_targets, x_sources, x_offsets, x_immediates, x_lengths, x_kinds, x_los, x_his, x_reached, x_branchAt, x_branchSafe, x_branchKinds, x_branchLos, x_branchHis, x_packet, x_registers, x_cells, x_keyWords, x_keyTaken⟩ := u
  obtain ⟨y_place, y_least, y_most, y_smallest, y_greatest, y_ways, y_fault, y_base, y_otherKind, y_otherLo, y_otherHi, y_low, y_high, y_bytes, y_steps, y_op, y_first, y_second, y_offset, y_given, y_length, y_there, y_known, y_lo, y_hi, y_at, y_lookups, y_safe, y_met, y_tag, y_word, y_packet, y_keys, y_values, y_many⟩ := v
  by_cases c : v3 < 0 ∨ ¬ v3 < 2
  · have Y : ∀ post : Int64 → Prop, post (-1) → wpY_value post (y_place, y_least, y_most, y_smallest, y_greatest, y_ways, y_fault, y_base, y_otherKind, y_otherLo, y_otherHi, y_low, y_high, y_bytes, y_steps, y_op, y_first, y_second, y_offset, y_given, y_length, y_there, y_known, y_lo, y_hi, y_at, y_lookups, y_safe, y_met, y_tag, y_word, y_packet, y_keys, y_values, y_many) v1 v2 v3 := by
      intro post P
      refine br_c (fun _ => br_f ?_ P) (fun _ => P)
      rw [yl_map]; exact fun z => z c
    rcases c with c | c
    · exact br_t c (Y _ ⟨rfl, I⟩)
    · refine br_c (fun _ => Y _ ⟨rfl, I⟩) (fun _ => br_f c (Y _ ⟨rfl, I⟩))
  · obtain ⟨cc, hc, rfl⟩ := ix_2 c
    have c1 : ¬ nI cc < 0 := fun z => c (Or.inl z)
    have c2 : nI cc < 2 := Classical.byContradiction fun z => c (Or.inr z)
    refine br_f c1 (br_t c2 ?_)
    by_cases m : v1 < 0 ∨ ¬ v1 < 2
    · have Y : ∀ post : Int64 → Prop, post (-1) → wpY_value post (y_place, y_least, y_most, y_smallest, y_greatest, y_ways, y_fault, y_base, y_otherKind, y_otherLo, y_otherHi, y_low, y_high, y_bytes, y_steps, y_op, y_first, y_second, y_offset, y_given, y_length, y_there, y_known, y_lo, y_hi, y_at, y_lookups, y_safe, y_met, y_tag, y_word, y_packet, y_keys, y_values, y_many) v1 v2 (nI cc) := by
        intro post P
        exact br_f (by rw [yl_map]; exact fun z => z m) P
      rcases m with m | m
      · exact br_t m (br_f sx_m1 (Y _ ⟨rfl, I⟩))
      · exact br_c (fun _ => br_f sx_m1 (Y _ ⟨rfl, I⟩)) (fun _ => br_f m (br_f sx_m1 (Y _ ⟨rfl, I⟩)))
    · obtain ⟨mm, hm, rfl⟩ := ix_2 m
      obtain ⟨π, M⟩ := I.2.2.2.2.2.2.1
      obtain ⟨n, en, M1⟩ := M mm hm
      have Y : ∀ post : Int64 → Prop, wpY_find (fun r_3 => ((0 ≤ r_3 → (vp_in ((2 * r_3) + nI cc) 16 ∧ (post (y_values ((2 * r_3) + nI cc).toNatClampNeg)))) ∧ (¬ 0 ≤ r_3 → (post (-1))))) (y_place, y_least, y_most, y_smallest, y_greatest, y_ways, y_fault, y_base, y_otherKind, y_otherLo, y_otherHi, y_low, y_high, y_bytes, y_steps, y_op, y_first, y_second, y_offset, y_given, y_length, y_there, y_known, y_lo, y_hi, y_at, y_lookups, y_safe, y_met, y_tag, y_word, y_packet, y_keys, y_values, y_many) (nI mm) (v2.toInt64 &&& 4294967295) → wpY_value post (y_place, y_least, y_most, y_smallest, y_greatest, y_ways, y_fault, y_base, y_otherKind, y_otherLo, y_otherHi, y_low, y_high, y_bytes, y_steps, y_op, y_first, y_second, y_offset, y_given, y_length, y_there, y_known, y_lo, y_hi, y_at, y_lookups, y_safe, y_met, y_tag, y_word, y_packet, y_keys, y_values, y_many) (nI mm) v2 (nI cc) := by
        intro post P
        exact br_t (by rw [yl_map]; exact m) (br_t (by rw [yl_map]; exact c) P)
      rcases mp_find M1 (v2.toInt64 &&& 4294967295) with ⟨j, j1, j2, j3, j4, jx, jy, j5, j6, j7⟩ | ⟨nx, ny⟩
      · have val := (sm_val M (show j < 8 by omega) j3).2 cc hc
        refine xr_slot hm (fun s h1 h2 h3 h4 => ?_) (fun h => absurd j4 (h j j1 j2 j3))
        rw [jx s h1 h2 h3 h4]
        have e : 6 + nI j * 2 + nI cc = nI (6 + 2 * j + cc) := by rw [xb_mur2, xb_add6, nI_add, Nat.mul_comm]
        refine br_t (nI_pos' (by omega)) ⟨by rw [e]; exact vp_in_nI (by omega) (by decide), ?_⟩
        rw [e, nI_clamp (n := 6 + 2 * j + cc) (by omega)]
        refine Y _ (yr_find hm M1.1 en (fun k2 h5 h6 h7 => ?_) (fun h => absurd j7 (h _ j5 j6)))
        rw [jy k2 h5 h6 h7]
        have e2 : 2 * nI (π j) + nI cc = nI (2 * π j + cc) := by rw [xb_mul2, nI_add]
        have p4 := M1.1
        refine br_t (nI_pos' (by omega)) ⟨by rw [e2]; exact vp_in_nI (by omega) (by decide), ?_⟩
        rw [e2, nI_clamp (n := 2 * π j + cc) (by omega)]
        exact ⟨val.1, I⟩
      · refine xr_slot hm (fun s h1 h2 h3 h4 => absurd h4 (nx s h1 h2 h3)) (fun _ => br_f sx_m1 ?_)
        exact Y _ (yr_find hm M1.1 en (fun k2 h5 h6 h7 => absurd h7 (ny k2 h5 h6)) (fun _ => br_f sx_m1 ⟨rfl, I⟩))
theorem i_vc_keys {k : Nat} {u : SX} {v : SY} (I : i_Rel k u v) (hk : k + 6 ≤ 3072) (v1 : Int32) : wpX_keys (fun r => wpY_keys (fun r' => r' = r ∧ i_Rel (k + 6) u v) v v1) u v1 := by
  obtain ⟨x_safe, x_at, x_exitLeast, x_exitMost, x_branches, x_faultPlace, x_provedLeast, x_provedMost, x_packetLength, x_executed, x_ops, x_targets, x_sources, x_offsets, x_immediates, x_lengths, x_kinds, x_los, x_his, x_reached, x_branchAt, x_branchSafe, x_branchKinds, x_branchLos, x_branchHis, x_packet, x_registers, x_cells, x_keyWords, x_keyTaken⟩ := u
  obtain ⟨y_place, y_least, y_most, y_smallest, y_greatest, y_ways, y_fault, y_base, y_otherKind, y_otherLo, y_otherHi, y_low, y_high, y_bytes, y_steps, y_op, y_first, y_second, y_offset, y_given, y_length, y_there, y_known, y_lo, y_hi, y_at, y_lookups, y_safe, y_met, y_tag, y_word, y_packet, y_keys, y_values, y_many⟩ := v
  by_cases m : v1 < 0 ∨ ¬ v1 < 2
  · have Y : ∀ post : Int32 → Prop, post (-1) → wpY_keys post (y_place, y_least, y_most, y_smallest, y_greatest, y_ways, y_fault, y_base, y_otherKind, y_otherLo, y_otherHi, y_low, y_high, y_bytes, y_steps, y_op, y_first, y_second, y_offset, y_given, y_length, y_there, y_known, y_lo, y_hi, y_at, y_lookups, y_safe, y_met, y_tag, y_word, y_packet, y_keys, y_values, y_many) v1 := fun post P => br_f (by rw [yl_map]; exact fun z => z m) P
    rcases m with m | m
    · exact br_t m (Y _ ⟨rfl, I⟩)
    · exact br_c (fun _ => Y _ ⟨rfl, I⟩) (fun _ => br_f m (Y _ ⟨rfl, I⟩))
  · obtain ⟨mm, hm, rfl⟩ := ix_2 m
    obtain ⟨π, M⟩ := I.2.2.2.2.2.2.1
    obtain ⟨n, en, M1⟩ := M mm hm
    refine xk_keys hm (br_t (by rw [yl_map]; exact m) ⟨vp_in_nI hm (by decide), ?_, I⟩)
    rw [nI_clamp (by omega), en, M1.2.1]
theorem i_vc_forget {k : Nat} {u : SX} {v : SY} (I : i_Rel k u v) (hk : k + 6 ≤ 3072) : wpX_forget (fun u' => wpY_forget (fun v' => i_Rel (k + 6) u' v') v) u := by
  obtain ⟨x_safe, x_at, x_exitLeast, x_exitMost, x_branches, x_faultPlace, x_provedLeast, x_provedMost, x_packetLength, x_executed, x_ops, x_targets, x_sources, x_offsets, x_immediates, x_lengths, x_kinds, x_los, x_his, x_reached, x_branchAt, x_branchSafe, x_branchKinds, x_branchLos, x_branchHis, x_packet, x_registers, x_cells, x_keyWords, x_keyTaken⟩ := u
  obtain ⟨y_place, y_least, y_most, y_smallest, y_greatest, y_ways, y_fault, y_base, y_otherKind, y_otherLo, y_otherHi, y_low, y_high, y_bytes, y_steps, y_op, y_first, y_second, y_offset, y_given, y_length, y_there, y_known, y_lo, y_hi, y_at, y_lookups, y_safe, y_met, y_tag, y_word, y_packet, y_keys, y_values, y_many⟩ := v
  obtain ⟨ar, ho, hl, pr, pk, st, ⟨π, mm⟩, th, z16⟩ := I
  refine xk_forget (nm_r (e' := upd y_many 0 0) (by rw [xb_b0]) (nm_r (e' := upd (upd y_many 0 0) 1 0) (by rw [xb_b0]) ?_))
  exact ⟨ar, ho, hl, pr, pk, st, ⟨π, mp_forget (by rw [pk_un (by decide), pk_us]; rfl) (by rw [pk_us]; rfl)⟩, th, z16⟩
end
