def Bk_ (b : Nat → Int32) (j : Nat) : Nat → Int32 := fun s => if s < 16 then b (16 * j + s) else 0
def BL_ (b : Nat → Int64) (j : Nat) : Nat → Int64 := fun s => if s < 16 then b (16 * j + s) else 0
theorem Bk_rs {o s : Nat → Int32} {b : Nat} (h : ∀ j, 16 ≤ j → o j = 0) : rs_ o b s 16 = Bk_ s b := by
  funext j; unfold rs_ Bk_
  by_cases z : j < 16
  · rw [if_pos z, if_pos z]
  · rw [if_neg z, if_neg z]; exact h j (by omega)
theorem BL_rs {o s : Nat → Int64} {b : Nat} (h : ∀ j, 16 ≤ j → o j = 0) : rs_ o b s 16 = BL_ s b := by
  funext j; unfold rs_ BL_
  by_cases z : j < 16
  · rw [if_pos z, if_pos z]
  · rw [if_neg z, if_neg z]; exact h j (by omega)
theorem Bk_sv {o K : Nat → Int32} {w : Nat} (h : ∀ j, 16 ≤ j → K j = 0) : Bk_ (sv_ o w K 16) w = K := by
  funext j; unfold Bk_ sv_
  by_cases z : j < 16
  · rw [if_pos z, if_pos (by omega)]; congr 1; omega
  · rw [if_neg z]; exact (h j (by omega)).symm
theorem BL_sv {o K : Nat → Int64} {w : Nat} (h : ∀ j, 16 ≤ j → K j = 0) : BL_ (sv_ o w K 16) w = K := by
  funext j; unfold BL_ sv_
  by_cases z : j < 16
  · rw [if_pos z, if_pos (by omega)]; congr 1; omega
  · rw [if_neg z]; exact (h j (by omega)).symm
theorem Bk_old {o K : Nat → Int32} {w j : Nat} (h : j < w) : Bk_ (sv_ o w K 16) j = Bk_ o j := by
  funext s; unfold Bk_ sv_
  by_cases z : s < 16
  · rw [if_pos z, if_pos z, if_neg (by omega)]
  · rw [if_neg z, if_neg z]
theorem BL_old {o K : Nat → Int64} {w j : Nat} (h : j < w) : BL_ (sv_ o w K 16) j = BL_ o j := by
  funext s; unfold BL_ sv_
  by_cases z : s < 16
  · rw [if_pos z, if_pos z, if_neg (by omega)]
  · rw [if_neg z, if_neg z]
/-- what is known where a jump that waits will go on -/
def GK_ (td : Nat → Nat) (bK : Nat → Int32) (q f : Nat → Nat) (j : Nat) : Nat → Int32 := ln_K (f j) (td (q j)) (Bk_ bK j)
noncomputable def GL_ (ops : Nat → Int32) (td ts : Nat → Nat) (bK : Nat → Int32) (bL bH : Nat → Int64) (q f : Nat → Nat) (j : Nat) : Nat → Int64 := ln_L (f j) (td (q j)) (q9_ (ops (80 + q j)) (ts (q j))) (Bk_ bK j) (BL_ bL j) (BL_ bH j)
noncomputable def GH_ (ops : Nat → Int32) (td ts : Nat → Nat) (bK : Nat → Int32) (bL bH : Nat → Int64) (q f : Nat → Nat) (j : Nat) : Nat → Int64 := ln_H (f j) (td (q j)) (q9_ (ops (80 + q j)) (ts (q j))) (Bk_ bK j) (BL_ bL j) (BL_ bH j)
noncomputable def GS_ (ops : Nat → Int32) (td ts : Nat → Nat) (bS : Nat → Int64) (bK : Nat → Int32) (bL : Nat → Int64) (q f : Nat → Nat) (j : Nat) : Int64 := ln_S (f j) (td (q j)) (q9_ (ops (80 + q j)) (ts (q j))) (Bk_ bK j) (BL_ bL j) (bS j)
def PX_ (ops off imm : Nat → Int32) (td ts : Nat → Nat) (n : Nat) (bA : Nat → Int32) (bS : Nat → Int64) (bK : Nat → Int32) (bL bH : Nat → Int64) (q f g : Nat → Nat) (j : Nat) : Prop := q j < n ∧ bA j = nI (q j) ∧ oj_ (ops (80 + q j)) (f j) ∧ off (80 + q j) = nI (g j) ∧ g j < 2 ^ 31 ∧ k9_ (ops (80 + q j)) (Bk_ bK j) = Bk_ bK j ∧ l9_ (ops (80 + q j)) ((imm (80 + q j)).toInt64 &&& 4294967295) (BL_ bL j) = BL_ bL j ∧ l9_ (ops (80 + q j)) ((imm (80 + q j)).toInt64 &&& 4294967295) (BL_ bH j) = BL_ bH j ∧ WF_ (GK_ td bK q f j) (GL_ ops td ts bK bL bH q f j) (GH_ ops td ts bK bL bH q f j) (GS_ ops td ts bS bK bL q f j) ∧ j ≤ cj_ ops n (gl_ n (q j) (g j))
def PY_ (K : Nat → Int32) (L H : Nat → Int64) (S : Int64) (y : Nat) (yat kn : Nat → Int32) (lo hi : Nat → Int64) (lk sf : Nat → Int32) (j : Nat) : Prop := yat j = nI y ∧ Fr_ K L H kn lo hi (14 * j) (lk j) ∧ (sf j).toInt64 = S ∧ vp_nar .byte (lk j) = lk j
def EX_ (el em sm gr : Int64) : Prop := (el = 4294967295 ∧ em = 0 ∧ sm = -1 ∧ gr = -1) ∨ ∃ p b : Nat, p < 2 ^ 32 ∧ b < 2 ^ 32 ∧ el = lN p ∧ sm = lN p ∧ em = lN b ∧ gr = lN b
theorem PY_cong {K : Nat → Int32} {L H : Nat → Int64} {S : Int64} {y : Nat} {yat kn yat' kn' : Nat → Int32} {lo hi lo' hi' : Nat → Int64} {lk sf lk' sf' : Nat → Int32} {j w : Nat} (hj : j < w) (P : PY_ K L H S y yat kn lo hi lk sf j) (h1 : ∀ i, i < 14 * w → kn' i = kn i ∧ lo' i = lo i ∧ hi' i = hi i) (h2 : yat' j = yat j) (h3 : lk' j = lk j) (h4 : sf' j = sf j) : PY_ K L H S y yat' kn' lo' hi' lk' sf' j := by
  obtain ⟨a, b, c, d⟩ := P
  refine ⟨h2.trans a, fun r hr => ?_, by rw [h4]; exact c, by rw [h3]; exact d⟩
  obtain ⟨x1, x2, x3⟩ := h1 (14 * j + r) (by omega)
  rw [x1, x2, x3, h3]; exact b r hr
theorem ie_N {a b c d : Nat} (ha : a < 2 ^ 32) (hb : b < 2 ^ 32) : (if lN a ≤ lN b then lN c else lN d) = lN (if a ≤ b then c else d) := by
  by_cases z : a ≤ b
  · rw [if_pos z, if_pos ((pk_lLE (by omega) (by omega)).mpr z)]
  · rw [if_neg z, if_neg (fun y => z ((pk_lLE (by omega) (by omega)).mp y))]
theorem EX_step {el em sm gr : Int64} {p b : Nat} (E : EX_ el em sm gr) (pb : p ≤ b) (hb : b < 2 ^ 32) : ∃ x y : Nat, x < 2 ^ 32 ∧ y < 2 ^ 32 ∧ (if el ≤ lN p then el else lN p) = lN x ∧ (if sm < 0 then lN p else if sm ≤ lN p then sm else lN p) = lN x ∧ (if lN b ≤ em then em else lN b) = lN y ∧ (if lN b ≤ gr then gr else lN b) = lN y := by
  rcases E with ⟨rfl, rfl, rfl, rfl⟩ | ⟨x, y, hx, hy, rfl, rfl, rfl, rfl⟩
  · refine ⟨p, b, by omega, hb, ?_, ?_, ?_, ?_⟩
    · split
      · next z => rw [pu_M, pk_lLE (by omega) (by omega)] at z; rw [pu_M]; congr 1; omega
      · rfl
    · rw [if_pos (by decide)]
    · split
      · next z => rw [pu_0, pk_lLE (by omega) (by omega)] at z; rw [pu_0]; congr 1; omega
      · rfl
    · rw [if_neg]
      intro z
      rw [Int64.le_iff_toInt_le, pk_lT (by omega)] at z
      have : (-1 : Int64).toInt = -1 := by decide
      omega
  · have n0 : ¬ lN x < 0 := by rw [pu_0, pk_lLT (by omega) (by omega)]; omega
    refine ⟨if x ≤ p then x else p, if b ≤ y then y else b, by split <;> omega, by split <;> omega, ?_, ?_, ?_, ?_⟩
    · exact ie_N hx (by omega)
    · rw [if_neg n0]; exact ie_N hx (by omega)
    · exact ie_N hb hy
    · exact ie_N hb hy
