def cd_ (o : Int32) : Prop := ¬ o ≤ 20 ∧ ¬ 40 ≤ o
def ok_ (o : Int32) : Prop := (∃ f, oa_ o f) ∨ o = 20 ∨ (∃ f, oj_ o f) ∨ (o = 40 ∨ o = 41 ∨ o = 42) ∨ (o = 50 ∨ o = 51 ∨ o = 52) ∨ o = 60
theorem cd_oj {o : Int32} {f : Nat} (h : oj_ o f) : cd_ o := by
  obtain ⟨h1, h4, h⟩ := h
  have e : f = 1 ∨ f = 2 ∨ f = 3 ∨ f = 4 := by omega
  unfold cd_
  rcases e with rfl | rfl | rfl | rfl <;> rcases h with rfl | rfl <;> decide
theorem cd_oa {o : Int32} {f : Nat} (h : oa_ o f) : ¬ cd_ o := fun z => z.1 (Int32.le_of_lt (oa_f h).1)
theorem cd_no {o : Int32} (h : o = 20 ∨ (o = 40 ∨ o = 41 ∨ o = 42) ∨ (o = 50 ∨ o = 51 ∨ o = 52) ∨ o = 60) : ¬ cd_ o := by
  unfold cd_
  rcases h with rfl | (rfl | rfl | rfl) | (rfl | rfl | rfl) | rfl <;> decide
noncomputable def cj_ (ops : Nat → Int32) (n : Nat) : Nat → Nat
  | 0 => 0
  | k + 1 => cj_ ops n k + @ite _ (k < n ∧ cd_ (ops (80 + k))) (Classical.propDecidable _) 1 0
section
variable {ops : Nat → Int32} {n : Nat}
theorem cj_t {k : Nat} (h : k < n) (c : cd_ (ops (80 + k))) : cj_ ops n (k + 1) = cj_ ops n k + 1 := by rw [cj_, if_pos ⟨h, c⟩]
theorem cj_f {k : Nat} (c : ¬ cd_ (ops (80 + k))) : cj_ ops n (k + 1) = cj_ ops n k := by rw [cj_, if_neg (fun z => c z.2), Nat.add_zero]
theorem cj_le (k : Nat) : cj_ ops n k ≤ cj_ ops n (k + 1) := by rw [cj_]; omega
theorem cj_mono {k l : Nat} (h : k ≤ l) : cj_ ops n k ≤ cj_ ops n l := by
  induction l with
  | zero => have : k = 0 := by omega
            subst this; omega
  | succ l ih =>
    by_cases z : k = l + 1
    · rw [z]; omega
    · have := ih (by omega)
      have := cj_le (ops := ops) (n := n) l
      omega
noncomputable def wt_ (ops : Nat → Int32) (n k : Nat) : Nat := (41 - k) * 2 ^ (10 - cj_ ops n k)
theorem wt_pos {k : Nat} (h : k ≤ 40) : 1 ≤ wt_ ops n k := by
  unfold wt_
  have : 0 < (41 - k) * 2 ^ (10 - cj_ ops n k) := Nat.mul_pos (by omega) (Nat.pow_pos (by decide))
  omega
theorem wt_lt {k l : Nat} (h : k < l) (hl : l ≤ 40) : wt_ ops n l < wt_ ops n k := by
  unfold wt_
  have c := cj_mono (ops := ops) (n := n) (show k ≤ l by omega)
  have p : 2 ^ (10 - cj_ ops n l) ≤ 2 ^ (10 - cj_ ops n k) := Nat.pow_le_pow_right (by decide) (by omega)
  have q : 0 < 2 ^ (10 - cj_ ops n k) := Nat.pow_pos (by decide)
  have a : (41 - l) * 2 ^ (10 - cj_ ops n l) ≤ (41 - l) * 2 ^ (10 - cj_ ops n k) := Nat.mul_le_mul_left _ p
  have b : (41 - l) * 2 ^ (10 - cj_ ops n k) < (41 - k) * 2 ^ (10 - cj_ ops n k) := Nat.mul_lt_mul_of_pos_right (by omega) q
  omega
/-- two ways from a conditional jump weigh less than it does -/
theorem wt_2 {k l : Nat} (hk : k < n) (c : cd_ (ops (80 + k))) (h : k < l) (hl : l ≤ 40) (h10 : cj_ ops n (k + 1) ≤ 10) : wt_ ops n (k + 1) + wt_ ops n l < wt_ ops n k := by
  have e := cj_t hk c
  have m := cj_mono (ops := ops) (n := n) (show k + 1 ≤ l by omega)
  unfold wt_
  obtain ⟨x, hx⟩ : ∃ x, 10 - cj_ ops n k = x + 1 := ⟨10 - cj_ ops n k - 1, by omega⟩
  have e1 : 10 - cj_ ops n (k + 1) = x := by omega
  have p : 2 ^ (10 - cj_ ops n l) ≤ 2 ^ x := Nat.pow_le_pow_right (by decide) (by omega)
  have q : 0 < 2 ^ x := Nat.pow_pos (by decide)
  rw [hx, e1, Nat.pow_succ]
  have a : (41 - l) * 2 ^ (10 - cj_ ops n l) ≤ (40 - k) * 2 ^ x := Nat.mul_le_mul (by omega) p
  have b : (41 - (k + 1)) * 2 ^ x = (40 - k) * 2 ^ x := by congr 1; omega
  have d : (41 - k) * (2 ^ x * 2) = (40 - k) * 2 ^ x + (40 - k) * 2 ^ x + 2 ^ x * 2 := by
    obtain ⟨y, hy⟩ : ∃ y, 41 - k = y + 1 := ⟨40 - k, by omega⟩
    have hz : 40 - k = y := by omega
    rw [hy, hz, Nat.add_mul, Nat.one_mul, ← Nat.mul_assoc, Nat.mul_two]
  omega
end
def ms_ (W : Nat → Nat) : Nat → Nat
  | 0 => 0
  | j + 1 => ms_ W j + W j
theorem ms_cong {W W' : Nat → Nat} : ∀ {w : Nat}, (∀ j, j < w → W' j = W j) → ms_ W' w = ms_ W w
  | 0, _ => rfl
  | w + 1, h => by rw [ms_, ms_, ms_cong (fun j hj => h j (by omega)), h w (by omega)]
def pl_ (n y : Nat) : Nat := if n ≤ y then n else y
theorem pl_gm {n a g : Nat} (hn : n ≤ 40) : pl_ n (gm_ a g) = gl_ n a g := by
  unfold pl_ gm_ gl_
  by_cases h : a + 1 + g ≤ 40
  · rw [if_pos h]
  · rw [if_neg h, if_pos hn, if_pos (by omega)]
theorem gl_gt {n a g : Nat} (h : a < n) : a < gl_ n a g ∧ gl_ n a g ≤ n := by
  unfold gl_; split <;> omega
