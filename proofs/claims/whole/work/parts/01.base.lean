theorem pk_us {f : Nat → Int32} {k : Nat} {x : Int32} : upd f k x k = x := if_pos rfl
theorem pk_un {f : Nat → Int32} {k j : Nat} {x : Int32} (h : j ≠ k) : upd f k x j = f j := if_neg h
theorem pk_uLs {f : Nat → Int64} {k : Nat} {x : Int64} : vp_updL f k x k = x := if_pos rfl
theorem pk_uLn {f : Nat → Int64} {k j : Nat} {x : Int64} (h : j ≠ k) : vp_updL f k x j = f j := if_neg h
theorem pk_sub {a b : Nat} (h : b ≤ a) : nI a - nI b = nI (a - b) := by
  obtain ⟨c, rfl⟩ : ∃ c, a = c + b := ⟨a - b, by omega⟩
  rw [← nI_add, Int32.add_sub_cancel, Nat.add_sub_cancel]
theorem pk_m1 (n : Nat) : nI (n + 1) + (-1) = nI n := by
  rw [← nI_1, Int32.add_assoc, show (1 : Int32) + (-1) = 0 from rfl, Int32.add_zero]
theorem pk_mul (a b : Nat) : nI a * nI b = nI (a * b) := (Int32.ofNat_mul a b).symm
theorem pk_lT {n : Nat} (h : n < 2 ^ 63) : (lN n).toInt = (n : Int) := lg_ofNat_toInt h
theorem pk_lLT {a b : Nat} (ha : a < 2 ^ 63) (hb : b < 2 ^ 63) : lN a < lN b ↔ a < b := by
  rw [Int64.lt_iff_toInt_lt, pk_lT ha, pk_lT hb]; omega
theorem pk_lLE {a b : Nat} (ha : a < 2 ^ 63) (hb : b < 2 ^ 63) : lN a ≤ lN b ↔ a ≤ b := by
  rw [Int64.le_iff_toInt_le, pk_lT ha, pk_lT hb]; omega
theorem pk_lEQ {a b : Nat} (ha : a < 2 ^ 63) (hb : b < 2 ^ 63) : lN a = lN b ↔ a = b := by
  rw [← Int64.toInt_inj, pk_lT ha, pk_lT hb]; omega
theorem pk_lOf {x : Int64} (h : ¬ x < 0) : ∃ k : Nat, k < 2 ^ 63 ∧ x = lN k := by
  rw [Int64.lt_iff_toInt_lt] at h
  have h0 : (0 : Int64).toInt = 0 := by decide
  have hx := Int64.toInt_lt x
  refine ⟨x.toInt.toNat, by omega, Int64.toInt_inj.mp ?_⟩
  rw [pk_lT (by omega)]
  omega
theorem pk_lDiv {a b : Nat} (ha : a < 2 ^ 63) (h0 : 0 < b) (hb : b < 2 ^ 63) : lN a / lN b = lN (a / b) := by
  apply Int64.toInt_inj.mp
  rw [lg_ldiv_nonneg (by rw [pk_lT ha]; omega) (by rw [pk_lT hb]; omega), pk_lT ha, pk_lT hb, pk_lT (Nat.lt_of_le_of_lt (Nat.div_le_self a b) ha)]
  rfl
theorem pk_lRem {a b : Nat} (ha : a < 2 ^ 63) (h0 : 0 < b) (hb : b < 2 ^ 63) : lN a - lN a / lN b * lN b = lN (a % b) := by
  rw [pk_lDiv ha h0 hb, lN_mul, lN_sub (Nat.div_mul_le_self a b)]
  exact congrArg lN (by have := Nat.div_add_mod' a b; omega)
theorem xb_L1 : (1 : Int32) = nI 1 := by rfl
theorem xb_le1 {n : Nat} (h : n < 2 ^ 31) : (1 : Int32) ≤ nI n ↔ 1 ≤ n := by rw [xb_L1]; exact nI_leI (by decide) h
theorem xb_ge1 {n : Nat} (h : n < 2 ^ 31) : nI n ≤ (1 : Int32) ↔ n ≤ 1 := by rw [xb_L1]; exact nI_leI h (by decide)
theorem xb_lt1 {n : Nat} (h : n < 2 ^ 31) : nI n < (1 : Int32) ↔ n < 1 := by rw [xb_L1]; exact nI_ltI h (by decide)
theorem xb_gt1 {n : Nat} (h : n < 2 ^ 31) : (1 : Int32) < nI n ↔ 1 < n := by rw [xb_L1]; exact nI_ltI (by decide) h
theorem xb_eq1 {n : Nat} (h : n < 2 ^ 31) : nI n = (1 : Int32) ↔ n = 1 := by rw [xb_L1]; exact nI_eq h (by decide)
theorem xb_L2 : (2 : Int32) = nI 2 := by rfl
theorem xb_le2 {n : Nat} (h : n < 2 ^ 31) : (2 : Int32) ≤ nI n ↔ 2 ≤ n := by rw [xb_L2]; exact nI_leI (by decide) h
theorem xb_ge2 {n : Nat} (h : n < 2 ^ 31) : nI n ≤ (2 : Int32) ↔ n ≤ 2 := by rw [xb_L2]; exact nI_leI h (by decide)
theorem xb_lt2 {n : Nat} (h : n < 2 ^ 31) : nI n < (2 : Int32) ↔ n < 2 := by rw [xb_L2]; exact nI_ltI h (by decide)
theorem xb_gt2 {n : Nat} (h : n < 2 ^ 31) : (2 : Int32) < nI n ↔ 2 < n := by rw [xb_L2]; exact nI_ltI (by decide) h
theorem xb_eq2 {n : Nat} (h : n < 2 ^ 31) : nI n = (2 : Int32) ↔ n = 2 := by rw [xb_L2]; exact nI_eq h (by decide)
theorem xb_L3 : (3 : Int32) = nI 3 := by rfl
theorem xb_le3 {n : Nat} (h : n < 2 ^ 31) : (3 : Int32) ≤ nI n ↔ 3 ≤ n := by rw [xb_L3]; exact nI_leI (by decide) h
theorem xb_ge3 {n : Nat} (h : n < 2 ^ 31) : nI n ≤ (3 : Int32) ↔ n ≤ 3 := by rw [xb_L3]; exact nI_leI h (by decide)
theorem xb_lt3 {n : Nat} (h : n < 2 ^ 31) : nI n < (3 : Int32) ↔ n < 3 := by rw [xb_L3]; exact nI_ltI h (by decide)
theorem xb_gt3 {n : Nat} (h : n < 2 ^ 31) : (3 : Int32) < nI n ↔ 3 < n := by rw [xb_L3]; exact nI_ltI (by decide) h
theorem xb_eq3 {n : Nat} (h : n < 2 ^ 31) : nI n = (3 : Int32) ↔ n = 3 := by rw [xb_L3]; exact nI_eq h (by decide)
theorem xb_L4 : (4 : Int32) = nI 4 := by rfl
theorem xb_le4 {n : Nat} (h : n < 2 ^ 31) : (4 : Int32) ≤ nI n ↔ 4 ≤ n := by rw [xb_L4]; exact nI_leI (by decide) h
theorem xb_ge4 {n : Nat} (h : n < 2 ^ 31) : nI n ≤ (4 : Int32) ↔ n ≤ 4 := by rw [xb_L4]; exact nI_leI h (by decide)
theorem xb_lt4 {n : Nat} (h : n < 2 ^ 31) : nI n < (4 : Int32) ↔ n < 4 := by rw [xb_L4]; exact nI_ltI h (by decide)
theorem xb_gt4 {n : Nat} (h : n < 2 ^ 31) : (4 : Int32) < nI n ↔ 4 < n := by rw [xb_L4]; exact nI_ltI (by decide) h
theorem xb_eq4 {n : Nat} (h : n < 2 ^ 31) : nI n = (4 : Int32) ↔ n = 4 := by rw [xb_L4]; exact nI_eq h (by decide)
theorem xb_L5 : (5 : Int32) = nI 5 := by rfl
theorem xb_le5 {n : Nat} (h : n < 2 ^ 31) : (5 : Int32) ≤ nI n ↔ 5 ≤ n := by rw [xb_L5]; exact nI_leI (by decide) h
theorem xb_ge5 {n : Nat} (h : n < 2 ^ 31) : nI n ≤ (5 : Int32) ↔ n ≤ 5 := by rw [xb_L5]; exact nI_leI h (by decide)
theorem xb_lt5 {n : Nat} (h : n < 2 ^ 31) : nI n < (5 : Int32) ↔ n < 5 := by rw [xb_L5]; exact nI_ltI h (by decide)
theorem xb_gt5 {n : Nat} (h : n < 2 ^ 31) : (5 : Int32) < nI n ↔ 5 < n := by rw [xb_L5]; exact nI_ltI (by decide) h
theorem xb_eq5 {n : Nat} (h : n < 2 ^ 31) : nI n = (5 : Int32) ↔ n = 5 := by rw [xb_L5]; exact nI_eq h (by decide)
theorem xb_L6 : (6 : Int32) = nI 6 := by rfl
theorem xb_le6 {n : Nat} (h : n < 2 ^ 31) : (6 : Int32) ≤ nI n ↔ 6 ≤ n := by rw [xb_L6]; exact nI_leI (by decide) h
theorem xb_ge6 {n : Nat} (h : n < 2 ^ 31) : nI n ≤ (6 : Int32) ↔ n ≤ 6 := by rw [xb_L6]; exact nI_leI h (by decide)
theorem xb_lt6 {n : Nat} (h : n < 2 ^ 31) : nI n < (6 : Int32) ↔ n < 6 := by rw [xb_L6]; exact nI_ltI h (by decide)
theorem xb_gt6 {n : Nat} (h : n < 2 ^ 31) : (6 : Int32) < nI n ↔ 6 < n := by rw [xb_L6]; exact nI_ltI (by decide) h
theorem xb_eq6 {n : Nat} (h : n < 2 ^ 31) : nI n = (6 : Int32) ↔ n = 6 := by rw [xb_L6]; exact nI_eq h (by decide)
theorem xb_L7 : (7 : Int32) = nI 7 := by rfl
theorem xb_le7 {n : Nat} (h : n < 2 ^ 31) : (7 : Int32) ≤ nI n ↔ 7 ≤ n := by rw [xb_L7]; exact nI_leI (by decide) h
theorem xb_ge7 {n : Nat} (h : n < 2 ^ 31) : nI n ≤ (7 : Int32) ↔ n ≤ 7 := by rw [xb_L7]; exact nI_leI h (by decide)
theorem xb_lt7 {n : Nat} (h : n < 2 ^ 31) : nI n < (7 : Int32) ↔ n < 7 := by rw [xb_L7]; exact nI_ltI h (by decide)
theorem xb_gt7 {n : Nat} (h : n < 2 ^ 31) : (7 : Int32) < nI n ↔ 7 < n := by rw [xb_L7]; exact nI_ltI (by decide) h
theorem xb_eq7 {n : Nat} (h : n < 2 ^ 31) : nI n = (7 : Int32) ↔ n = 7 := by rw [xb_L7]; exact nI_eq h (by decide)
theorem xb_L8 : (8 : Int32) = nI 8 := by rfl
theorem xb_le8 {n : Nat} (h : n < 2 ^ 31) : (8 : Int32) ≤ nI n ↔ 8 ≤ n := by rw [xb_L8]; exact nI_leI (by decide) h
theorem xb_ge8 {n : Nat} (h : n < 2 ^ 31) : nI n ≤ (8 : Int32) ↔ n ≤ 8 := by rw [xb_L8]; exact nI_leI h (by decide)
theorem xb_lt8 {n : Nat} (h : n < 2 ^ 31) : nI n < (8 : Int32) ↔ n < 8 := by rw [xb_L8]; exact nI_ltI h (by decide)
theorem xb_gt8 {n : Nat} (h : n < 2 ^ 31) : (8 : Int32) < nI n ↔ 8 < n := by rw [xb_L8]; exact nI_ltI (by decide) h
theorem xb_eq8 {n : Nat} (h : n < 2 ^ 31) : nI n = (8 : Int32) ↔ n = 8 := by rw [xb_L8]; exact nI_eq h (by decide)
theorem xb_L10 : (10 : Int32) = nI 10 := by rfl
theorem xb_le10 {n : Nat} (h : n < 2 ^ 31) : (10 : Int32) ≤ nI n ↔ 10 ≤ n := by rw [xb_L10]; exact nI_leI (by decide) h
theorem xb_ge10 {n : Nat} (h : n < 2 ^ 31) : nI n ≤ (10 : Int32) ↔ n ≤ 10 := by rw [xb_L10]; exact nI_leI h (by decide)
theorem xb_lt10 {n : Nat} (h : n < 2 ^ 31) : nI n < (10 : Int32) ↔ n < 10 := by rw [xb_L10]; exact nI_ltI h (by decide)
theorem xb_gt10 {n : Nat} (h : n < 2 ^ 31) : (10 : Int32) < nI n ↔ 10 < n := by rw [xb_L10]; exact nI_ltI (by decide) h
theorem xb_eq10 {n : Nat} (h : n < 2 ^ 31) : nI n = (10 : Int32) ↔ n = 10 := by rw [xb_L10]; exact nI_eq h (by decide)
theorem xb_L12 : (12 : Int32) = nI 12 := by rfl
theorem xb_le12 {n : Nat} (h : n < 2 ^ 31) : (12 : Int32) ≤ nI n ↔ 12 ≤ n := by rw [xb_L12]; exact nI_leI (by decide) h
theorem xb_ge12 {n : Nat} (h : n < 2 ^ 31) : nI n ≤ (12 : Int32) ↔ n ≤ 12 := by rw [xb_L12]; exact nI_leI h (by decide)
theorem xb_lt12 {n : Nat} (h : n < 2 ^ 31) : nI n < (12 : Int32) ↔ n < 12 := by rw [xb_L12]; exact nI_ltI h (by decide)
theorem xb_gt12 {n : Nat} (h : n < 2 ^ 31) : (12 : Int32) < nI n ↔ 12 < n := by rw [xb_L12]; exact nI_ltI (by decide) h
theorem xb_eq12 {n : Nat} (h : n < 2 ^ 31) : nI n = (12 : Int32) ↔ n = 12 := by rw [xb_L12]; exact nI_eq h (by decide)
theorem xb_L14 : (14 : Int32) = nI 14 := by rfl
theorem xb_le14 {n : Nat} (h : n < 2 ^ 31) : (14 : Int32) ≤ nI n ↔ 14 ≤ n := by rw [xb_L14]; exact nI_leI (by decide) h
theorem xb_ge14 {n : Nat} (h : n < 2 ^ 31) : nI n ≤ (14 : Int32) ↔ n ≤ 14 := by rw [xb_L14]; exact nI_leI h (by decide)
theorem xb_lt14 {n : Nat} (h : n < 2 ^ 31) : nI n < (14 : Int32) ↔ n < 14 := by rw [xb_L14]; exact nI_ltI h (by decide)
theorem xb_gt14 {n : Nat} (h : n < 2 ^ 31) : (14 : Int32) < nI n ↔ 14 < n := by rw [xb_L14]; exact nI_ltI (by decide) h
theorem xb_eq14 {n : Nat} (h : n < 2 ^ 31) : nI n = (14 : Int32) ↔ n = 14 := by rw [xb_L14]; exact nI_eq h (by decide)
theorem xb_L16 : (16 : Int32) = nI 16 := by rfl
theorem xb_le16 {n : Nat} (h : n < 2 ^ 31) : (16 : Int32) ≤ nI n ↔ 16 ≤ n := by rw [xb_L16]; exact nI_leI (by decide) h
theorem xb_ge16 {n : Nat} (h : n < 2 ^ 31) : nI n ≤ (16 : Int32) ↔ n ≤ 16 := by rw [xb_L16]; exact nI_leI h (by decide)
theorem xb_lt16 {n : Nat} (h : n < 2 ^ 31) : nI n < (16 : Int32) ↔ n < 16 := by rw [xb_L16]; exact nI_ltI h (by decide)
theorem xb_gt16 {n : Nat} (h : n < 2 ^ 31) : (16 : Int32) < nI n ↔ 16 < n := by rw [xb_L16]; exact nI_ltI (by decide) h
theorem xb_eq16 {n : Nat} (h : n < 2 ^ 31) : nI n = (16 : Int32) ↔ n = 16 := by rw [xb_L16]; exact nI_eq h (by decide)
theorem xb_L20 : (20 : Int32) = nI 20 := by rfl
theorem xb_le20 {n : Nat} (h : n < 2 ^ 31) : (20 : Int32) ≤ nI n ↔ 20 ≤ n := by rw [xb_L20]; exact nI_leI (by decide) h
theorem xb_ge20 {n : Nat} (h : n < 2 ^ 31) : nI n ≤ (20 : Int32) ↔ n ≤ 20 := by rw [xb_L20]; exact nI_leI h (by decide)
theorem xb_lt20 {n : Nat} (h : n < 2 ^ 31) : nI n < (20 : Int32) ↔ n < 20 := by rw [xb_L20]; exact nI_ltI h (by decide)
theorem xb_gt20 {n : Nat} (h : n < 2 ^ 31) : (20 : Int32) < nI n ↔ 20 < n := by rw [xb_L20]; exact nI_ltI (by decide) h
theorem xb_eq20 {n : Nat} (h : n < 2 ^ 31) : nI n = (20 : Int32) ↔ n = 20 := by rw [xb_L20]; exact nI_eq h (by decide)
theorem xb_L22 : (22 : Int32) = nI 22 := by rfl
theorem xb_le22 {n : Nat} (h : n < 2 ^ 31) : (22 : Int32) ≤ nI n ↔ 22 ≤ n := by rw [xb_L22]; exact nI_leI (by decide) h
theorem xb_ge22 {n : Nat} (h : n < 2 ^ 31) : nI n ≤ (22 : Int32) ↔ n ≤ 22 := by rw [xb_L22]; exact nI_leI h (by decide)
theorem xb_lt22 {n : Nat} (h : n < 2 ^ 31) : nI n < (22 : Int32) ↔ n < 22 := by rw [xb_L22]; exact nI_ltI h (by decide)
theorem xb_gt22 {n : Nat} (h : n < 2 ^ 31) : (22 : Int32) < nI n ↔ 22 < n := by rw [xb_L22]; exact nI_ltI (by decide) h
theorem xb_eq22 {n : Nat} (h : n < 2 ^ 31) : nI n = (22 : Int32) ↔ n = 22 := by rw [xb_L22]; exact nI_eq h (by decide)
theorem xb_L24 : (24 : Int32) = nI 24 := by rfl
theorem xb_le24 {n : Nat} (h : n < 2 ^ 31) : (24 : Int32) ≤ nI n ↔ 24 ≤ n := by rw [xb_L24]; exact nI_leI (by decide) h
theorem xb_ge24 {n : Nat} (h : n < 2 ^ 31) : nI n ≤ (24 : Int32) ↔ n ≤ 24 := by rw [xb_L24]; exact nI_leI h (by decide)
theorem xb_lt24 {n : Nat} (h : n < 2 ^ 31) : nI n < (24 : Int32) ↔ n < 24 := by rw [xb_L24]; exact nI_ltI h (by decide)
theorem xb_gt24 {n : Nat} (h : n < 2 ^ 31) : (24 : Int32) < nI n ↔ 24 < n := by rw [xb_L24]; exact nI_ltI (by decide) h
theorem xb_eq24 {n : Nat} (h : n < 2 ^ 31) : nI n = (24 : Int32) ↔ n = 24 := by rw [xb_L24]; exact nI_eq h (by decide)
theorem xb_L30 : (30 : Int32) = nI 30 := by rfl
theorem xb_le30 {n : Nat} (h : n < 2 ^ 31) : (30 : Int32) ≤ nI n ↔ 30 ≤ n := by rw [xb_L30]; exact nI_leI (by decide) h
theorem xb_ge30 {n : Nat} (h : n < 2 ^ 31) : nI n ≤ (30 : Int32) ↔ n ≤ 30 := by rw [xb_L30]; exact nI_leI h (by decide)
theorem xb_lt30 {n : Nat} (h : n < 2 ^ 31) : nI n < (30 : Int32) ↔ n < 30 := by rw [xb_L30]; exact nI_ltI h (by decide)
theorem xb_gt30 {n : Nat} (h : n < 2 ^ 31) : (30 : Int32) < nI n ↔ 30 < n := by rw [xb_L30]; exact nI_ltI (by decide) h
theorem xb_eq30 {n : Nat} (h : n < 2 ^ 31) : nI n = (30 : Int32) ↔ n = 30 := by rw [xb_L30]; exact nI_eq h (by decide)
theorem xb_L31 : (31 : Int32) = nI 31 := by rfl
theorem xb_le31 {n : Nat} (h : n < 2 ^ 31) : (31 : Int32) ≤ nI n ↔ 31 ≤ n := by rw [xb_L31]; exact nI_leI (by decide) h
theorem xb_ge31 {n : Nat} (h : n < 2 ^ 31) : nI n ≤ (31 : Int32) ↔ n ≤ 31 := by rw [xb_L31]; exact nI_leI h (by decide)
theorem xb_lt31 {n : Nat} (h : n < 2 ^ 31) : nI n < (31 : Int32) ↔ n < 31 := by rw [xb_L31]; exact nI_ltI h (by decide)
theorem xb_gt31 {n : Nat} (h : n < 2 ^ 31) : (31 : Int32) < nI n ↔ 31 < n := by rw [xb_L31]; exact nI_ltI (by decide) h
theorem xb_eq31 {n : Nat} (h : n < 2 ^ 31) : nI n = (31 : Int32) ↔ n = 31 := by rw [xb_L31]; exact nI_eq h (by decide)
theorem xb_L32 : (32 : Int32) = nI 32 := by rfl
theorem xb_le32 {n : Nat} (h : n < 2 ^ 31) : (32 : Int32) ≤ nI n ↔ 32 ≤ n := by rw [xb_L32]; exact nI_leI (by decide) h
theorem xb_ge32 {n : Nat} (h : n < 2 ^ 31) : nI n ≤ (32 : Int32) ↔ n ≤ 32 := by rw [xb_L32]; exact nI_leI h (by decide)
theorem xb_lt32 {n : Nat} (h : n < 2 ^ 31) : nI n < (32 : Int32) ↔ n < 32 := by rw [xb_L32]; exact nI_ltI h (by decide)
theorem xb_gt32 {n : Nat} (h : n < 2 ^ 31) : (32 : Int32) < nI n ↔ 32 < n := by rw [xb_L32]; exact nI_ltI (by decide) h
theorem xb_eq32 {n : Nat} (h : n < 2 ^ 31) : nI n = (32 : Int32) ↔ n = 32 := by rw [xb_L32]; exact nI_eq h (by decide)
theorem xb_L39 : (39 : Int32) = nI 39 := by rfl
theorem xb_le39 {n : Nat} (h : n < 2 ^ 31) : (39 : Int32) ≤ nI n ↔ 39 ≤ n := by rw [xb_L39]; exact nI_leI (by decide) h
theorem xb_ge39 {n : Nat} (h : n < 2 ^ 31) : nI n ≤ (39 : Int32) ↔ n ≤ 39 := by rw [xb_L39]; exact nI_leI h (by decide)
theorem xb_lt39 {n : Nat} (h : n < 2 ^ 31) : nI n < (39 : Int32) ↔ n < 39 := by rw [xb_L39]; exact nI_ltI h (by decide)
theorem xb_gt39 {n : Nat} (h : n < 2 ^ 31) : (39 : Int32) < nI n ↔ 39 < n := by rw [xb_L39]; exact nI_ltI (by decide) h
theorem xb_eq39 {n : Nat} (h : n < 2 ^ 31) : nI n = (39 : Int32) ↔ n = 39 := by rw [xb_L39]; exact nI_eq h (by decide)
theorem xb_L40 : (40 : Int32) = nI 40 := by rfl
theorem xb_le40 {n : Nat} (h : n < 2 ^ 31) : (40 : Int32) ≤ nI n ↔ 40 ≤ n := by rw [xb_L40]; exact nI_leI (by decide) h
theorem xb_ge40 {n : Nat} (h : n < 2 ^ 31) : nI n ≤ (40 : Int32) ↔ n ≤ 40 := by rw [xb_L40]; exact nI_leI h (by decide)
theorem xb_lt40 {n : Nat} (h : n < 2 ^ 31) : nI n < (40 : Int32) ↔ n < 40 := by rw [xb_L40]; exact nI_ltI h (by decide)
theorem xb_gt40 {n : Nat} (h : n < 2 ^ 31) : (40 : Int32) < nI n ↔ 40 < n := by rw [xb_L40]; exact nI_ltI (by decide) h
theorem xb_eq40 {n : Nat} (h : n < 2 ^ 31) : nI n = (40 : Int32) ↔ n = 40 := by rw [xb_L40]; exact nI_eq h (by decide)
theorem xb_L42 : (42 : Int32) = nI 42 := by rfl
theorem xb_le42 {n : Nat} (h : n < 2 ^ 31) : (42 : Int32) ≤ nI n ↔ 42 ≤ n := by rw [xb_L42]; exact nI_leI (by decide) h
theorem xb_ge42 {n : Nat} (h : n < 2 ^ 31) : nI n ≤ (42 : Int32) ↔ n ≤ 42 := by rw [xb_L42]; exact nI_leI h (by decide)
theorem xb_lt42 {n : Nat} (h : n < 2 ^ 31) : nI n < (42 : Int32) ↔ n < 42 := by rw [xb_L42]; exact nI_ltI h (by decide)
theorem xb_gt42 {n : Nat} (h : n < 2 ^ 31) : (42 : Int32) < nI n ↔ 42 < n := by rw [xb_L42]; exact nI_ltI (by decide) h
theorem xb_eq42 {n : Nat} (h : n < 2 ^ 31) : nI n = (42 : Int32) ↔ n = 42 := by rw [xb_L42]; exact nI_eq h (by decide)
theorem xb_L50 : (50 : Int32) = nI 50 := by rfl
theorem xb_le50 {n : Nat} (h : n < 2 ^ 31) : (50 : Int32) ≤ nI n ↔ 50 ≤ n := by rw [xb_L50]; exact nI_leI (by decide) h
theorem xb_ge50 {n : Nat} (h : n < 2 ^ 31) : nI n ≤ (50 : Int32) ↔ n ≤ 50 := by rw [xb_L50]; exact nI_leI h (by decide)
theorem xb_lt50 {n : Nat} (h : n < 2 ^ 31) : nI n < (50 : Int32) ↔ n < 50 := by rw [xb_L50]; exact nI_ltI h (by decide)
theorem xb_gt50 {n : Nat} (h : n < 2 ^ 31) : (50 : Int32) < nI n ↔ 50 < n := by rw [xb_L50]; exact nI_ltI (by decide) h
theorem xb_eq50 {n : Nat} (h : n < 2 ^ 31) : nI n = (50 : Int32) ↔ n = 50 := by rw [xb_L50]; exact nI_eq h (by decide)
theorem xb_L52 : (52 : Int32) = nI 52 := by rfl
theorem xb_le52 {n : Nat} (h : n < 2 ^ 31) : (52 : Int32) ≤ nI n ↔ 52 ≤ n := by rw [xb_L52]; exact nI_leI (by decide) h
theorem xb_ge52 {n : Nat} (h : n < 2 ^ 31) : nI n ≤ (52 : Int32) ↔ n ≤ 52 := by rw [xb_L52]; exact nI_leI h (by decide)
theorem xb_lt52 {n : Nat} (h : n < 2 ^ 31) : nI n < (52 : Int32) ↔ n < 52 := by rw [xb_L52]; exact nI_ltI h (by decide)
theorem xb_gt52 {n : Nat} (h : n < 2 ^ 31) : (52 : Int32) < nI n ↔ 52 < n := by rw [xb_L52]; exact nI_ltI (by decide) h
theorem xb_eq52 {n : Nat} (h : n < 2 ^ 31) : nI n = (52 : Int32) ↔ n = 52 := by rw [xb_L52]; exact nI_eq h (by decide)
theorem xb_L60 : (60 : Int32) = nI 60 := by rfl
theorem xb_le60 {n : Nat} (h : n < 2 ^ 31) : (60 : Int32) ≤ nI n ↔ 60 ≤ n := by rw [xb_L60]; exact nI_leI (by decide) h
theorem xb_ge60 {n : Nat} (h : n < 2 ^ 31) : nI n ≤ (60 : Int32) ↔ n ≤ 60 := by rw [xb_L60]; exact nI_leI h (by decide)
theorem xb_lt60 {n : Nat} (h : n < 2 ^ 31) : nI n < (60 : Int32) ↔ n < 60 := by rw [xb_L60]; exact nI_ltI h (by decide)
theorem xb_gt60 {n : Nat} (h : n < 2 ^ 31) : (60 : Int32) < nI n ↔ 60 < n := by rw [xb_L60]; exact nI_ltI (by decide) h
theorem xb_eq60 {n : Nat} (h : n < 2 ^ 31) : nI n = (60 : Int32) ↔ n = 60 := by rw [xb_L60]; exact nI_eq h (by decide)
theorem xb_L120 : (120 : Int32) = nI 120 := by rfl
theorem xb_le120 {n : Nat} (h : n < 2 ^ 31) : (120 : Int32) ≤ nI n ↔ 120 ≤ n := by rw [xb_L120]; exact nI_leI (by decide) h
theorem xb_ge120 {n : Nat} (h : n < 2 ^ 31) : nI n ≤ (120 : Int32) ↔ n ≤ 120 := by rw [xb_L120]; exact nI_leI h (by decide)
theorem xb_lt120 {n : Nat} (h : n < 2 ^ 31) : nI n < (120 : Int32) ↔ n < 120 := by rw [xb_L120]; exact nI_ltI h (by decide)
theorem xb_gt120 {n : Nat} (h : n < 2 ^ 31) : (120 : Int32) < nI n ↔ 120 < n := by rw [xb_L120]; exact nI_ltI (by decide) h
theorem xb_eq120 {n : Nat} (h : n < 2 ^ 31) : nI n = (120 : Int32) ↔ n = 120 := by rw [xb_L120]; exact nI_eq h (by decide)
theorem xb_L1000000 : (1000000 : Int32) = nI 1000000 := by rfl
theorem xb_le1000000 {n : Nat} (h : n < 2 ^ 31) : (1000000 : Int32) ≤ nI n ↔ 1000000 ≤ n := by rw [xb_L1000000]; exact nI_leI (by decide) h
theorem xb_ge1000000 {n : Nat} (h : n < 2 ^ 31) : nI n ≤ (1000000 : Int32) ↔ n ≤ 1000000 := by rw [xb_L1000000]; exact nI_leI h (by decide)
theorem xb_lt1000000 {n : Nat} (h : n < 2 ^ 31) : nI n < (1000000 : Int32) ↔ n < 1000000 := by rw [xb_L1000000]; exact nI_ltI h (by decide)
theorem xb_gt1000000 {n : Nat} (h : n < 2 ^ 31) : (1000000 : Int32) < nI n ↔ 1000000 < n := by rw [xb_L1000000]; exact nI_ltI (by decide) h
theorem xb_eq1000000 {n : Nat} (h : n < 2 ^ 31) : nI n = (1000000 : Int32) ↔ n = 1000000 := by rw [xb_L1000000]; exact nI_eq h (by decide)
theorem xb_add6 (n : Nat) : (6 : Int32) + nI n = nI (6 + n) := nI_add 6 n
theorem xb_adr6 (n : Nat) : nI n + (6 : Int32) = nI (n + 6) := nI_add n 6
theorem xb_add8 (n : Nat) : (8 : Int32) + nI n = nI (8 + n) := nI_add 8 n
theorem xb_adr8 (n : Nat) : nI n + (8 : Int32) = nI (n + 8) := nI_add n 8
theorem xb_add10 (n : Nat) : (10 : Int32) + nI n = nI (10 + n) := nI_add 10 n
theorem xb_adr10 (n : Nat) : nI n + (10 : Int32) = nI (n + 10) := nI_add n 10
theorem xb_add14 (n : Nat) : (14 : Int32) + nI n = nI (14 + n) := nI_add 14 n
theorem xb_adr14 (n : Nat) : nI n + (14 : Int32) = nI (n + 14) := nI_add n 14
theorem xb_add80 (n : Nat) : (80 : Int32) + nI n = nI (80 + n) := nI_add 80 n
theorem xb_adr80 (n : Nat) : nI n + (80 : Int32) = nI (n + 80) := nI_add n 80
theorem xb_mul2 (n : Nat) : (2 : Int32) * nI n = nI (2 * n) := pk_mul 2 n
theorem xb_mur2 (n : Nat) : nI n * (2 : Int32) = nI (n * 2) := pk_mul n 2
theorem xb_mul4 (n : Nat) : (4 : Int32) * nI n = nI (4 * n) := pk_mul 4 n
theorem xb_mur4 (n : Nat) : nI n * (4 : Int32) = nI (n * 4) := pk_mul n 4
theorem xb_mul14 (n : Nat) : (14 : Int32) * nI n = nI (14 * n) := pk_mul 14 n
theorem xb_mur14 (n : Nat) : nI n * (14 : Int32) = nI (n * 14) := pk_mul n 14
theorem xb_mul16 (n : Nat) : (16 : Int32) * nI n = nI (16 * n) := pk_mul 16 n
theorem xb_mur16 (n : Nat) : nI n * (16 : Int32) = nI (n * 16) := pk_mul n 16
theorem xb_mul40 (n : Nat) : (40 : Int32) * nI n = nI (40 * n) := pk_mul 40 n
theorem xb_mur40 (n : Nat) : nI n * (40 : Int32) = nI (n * 40) := pk_mul n 40
theorem xb_lt0 {n : Nat} (h : n < 2 ^ 31) : ¬ nI n < 0 := nI_pos h
theorem xb_ge0 {n : Nat} (h : n < 2 ^ 31) : 0 ≤ nI n := nI_pos' h
theorem xb_eq0 {n : Nat} (h : n < 2 ^ 31) : nI n = 0 ↔ n = 0 := nI_eq (b := 0) h (by decide)
theorem xb_le0 {n : Nat} (h : n < 2 ^ 31) : nI n ≤ 0 ↔ n = 0 := by rw [← nI_0, nI_leI h (by decide)]; omega
theorem xb_s1 {n : Nat} (h : 1 ≤ n) : nI n - 1 = nI (n - 1) := pk_sub (b := 1) h
theorem xb_bt : vp_nar .boolean 1 = 1 := by rfl
theorem xb_bf : vp_nar .boolean 0 = 0 := by rfl
theorem xb_b0 : vp_nar .byte 0 = 0 := by rfl
theorem xb_s0 : vp_nar .short 0 = 0 := by rfl
theorem xb_b1 : vp_nar .byte 1 = 1 := by rfl
theorem xb_b5 : vp_nar .byte 5 = 5 := by rfl
/-- a number that a byte holds -/
theorem xb_nb {n : Nat} (h : n < 128) : (nI n).toInt8.toInt32 = nI n := by
  have e : (nI n).toInt = (n : Int) := nI_toInt (by omega)
  exact lg_i2b_small (by omega) (by omega)
theorem xb_vb {n : Nat} (h : n < 128) : vp_nar .byte (nI n) = nI n := by rw [vp_nar_byte]; exact xb_nb h
theorem xb_ns {n : Nat} (h : n < 32768) : (nI n).toInt16.toInt32 = nI n := by
  have e : (nI n).toInt = (n : Int) := nI_toInt (by omega)
  exact lg_i2s_small (by omega) (by omega)
theorem xb_vs {n : Nat} (h : n < 32768) : vp_nar .short (nI n) = nI n := by rw [vp_nar_short]; exact xb_ns h
theorem xb_10 : ¬ (10 : Int32) = 0 := by decide
theorem xb_100 : ¬ (100 : Int64) = 0 := by decide
theorem xb_updid {f : Nat → Int32} {k : Nat} {x : Int32} (h : f k = x) : upd f k x = f := by
  funext j; unfold upd; split
  · next e => rw [e, h]
  · rfl
theorem xb_updLid {f : Nat → Int64} {k : Nat} {x : Int64} (h : f k = x) : vp_updL f k x = f := by
  funext j; unfold vp_updL; split
  · next e => rw [e, h]
  · rfl
theorem xb_il {c A B : Prop} (h : c) : ((c → A) ∧ (¬ c → B)) ↔ A := ⟨fun z => z.1 h, fun a => ⟨fun _ => a, fun n => absurd h n⟩⟩
theorem xb_ir {c A B : Prop} (h : ¬ c) : ((c → A) ∧ (¬ c → B)) ↔ B := ⟨fun z => z.2 h, fun b => ⟨fun n => absurd n h, fun _ => b⟩⟩
