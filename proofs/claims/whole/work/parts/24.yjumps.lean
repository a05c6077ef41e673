theorem mh_yg {f a b c e : Nat} (h1 : 1 ≤ f) (h4 : f ≤ 4) (ab : a ≤ b) (hb : b < 2 ^ 32) (ce : c ≤ e) (he : e < 2 ^ 32) : yg_ f (lN a) (lN b) (lN c) (lN e) ↔ mh_ f (lN a) (lN b) (lN c) (lN e) := by
  unfold yg_ mh_
  split
  · exact Iff.rfl
  · split
    · rw [pk_lEQ (by omega) (by omega), pk_lEQ (by omega) (by omega), pk_lEQ (by omega) (by omega), pk_lEQ (by omega) (by omega), pk_lEQ (by omega) (by omega)]
      omega
    · exact Iff.rfl
/-- mh_ in numbers -/
def mN_ (f a b c e : Nat) : Prop := if f = 1 then a ≤ e ∧ c ≤ b else if f = 2 then ¬ (a = e ∧ c = b) else if f = 3 then a < e else c ≤ b
theorem mh_N {f a b c e : Nat} (ab : a ≤ b) (hb : b < 2 ^ 32) (ce : c ≤ e) (he : e < 2 ^ 32) : mh_ f (lN a) (lN b) (lN c) (lN e) ↔ mN_ f a b c e := by
  unfold mh_ mN_
  split
  · rw [pk_lLT (by omega) (by omega), pk_lLT (by omega) (by omega)]; omega
  · split
    · rw [pk_lEQ (by omega) (by omega), pk_lEQ (by omega) (by omega)]
    · split
      · rw [pk_lLE (by omega) (by omega)]; omega
      · rw [pk_lLT (by omega) (by omega)]; omega
theorem mN_op {f a b c e : Nat} (h1 : 1 ≤ f) (h4 : f ≤ 4) (ab : a ≤ b) (ce : c ≤ e) (n : ¬ mN_ (op_ f) a b c e) : mN_ f a b c e := by
  have ef : f = 1 ∨ f = 2 ∨ f = 3 ∨ f = 4 := by omega
  rcases ef with rfl | rfl | rfl | rfl <;> simp [mN_, op_] at n ⊢ <;> omega
/-- a cut where one way alone is open changes nothing -/
theorem yc_no {f a b c : Nat} (h1 : 1 ≤ f) (h4 : f ≤ 4) (ab : a ≤ b) (hb : b < 2 ^ 32) (hc : c < 2 ^ 32) (y : mN_ f a b c c) (n : ¬ mN_ (op_ f) a b c c) : yc_l f (lN c) (lN a) (lN b) = lN a ∧ yc_h f (lN c) (lN a) (lN b) = lN b := by
  have ef : f = 1 ∨ f = 2 ∨ f = 3 ∨ f = 4 := by omega
  rcases ef with rfl | rfl | rfl | rfl
  · simp [mN_, op_] at n y
    have e1 : a = c := by omega
    have e2 : b = c := by omega
    subst e1; subst e2
    exact ⟨by simp [yc_l], by simp [yc_h]⟩
  · simp [mN_, op_] at n y
    have e1 : ¬ lN a = lN c := by rw [pk_lEQ (by omega) (by omega)]; omega
    have e2 : ¬ lN b = lN c := by rw [pk_lEQ (by omega) (by omega)]; omega
    exact ⟨by simp [yc_l, e1], by simp [yc_h, e2]⟩
  · simp [mN_, op_] at n y
    have e2 : lN b < lN c := by rw [pk_lLT (by omega) (by omega)]; omega
    exact ⟨by simp [yc_l], by simp [yc_h, e2]⟩
  · simp [mN_, op_] at n y
    have e2 : lN c ≤ lN a := by rw [pk_lLE (by omega) (by omega)]; omega
    exact ⟨by simp [yc_l, e2], by simp [yc_h]⟩
/-- where both ways are open, X's cut is Y's -/
theorem yc_cu {f a b c : Nat} (h1 : 1 ≤ f) (h4 : f ≤ 4) (ab : a ≤ b) (hb : b < 2 ^ 32) (hc : c < 2 ^ 32) (y : mN_ f a b c c) (n : mN_ (op_ f) a b c c) : yc_l f (lN c) (lN a) (lN b) = cu_l f (lN c) (lN a) (lN b) ∧ yc_h f (lN c) (lN a) (lN b) = cu_h f (lN c) (lN a) (lN b) := by
  have ef : f = 1 ∨ f = 2 ∨ f = 3 ∨ f = 4 := by omega
  rcases ef with rfl | rfl | rfl | rfl
  · exact ⟨by simp [yc_l, cu_l], by simp [yc_h, cu_h]⟩
  · constructor
    · simp only [yc_l, cu_l]
      by_cases z : lN a = lN c
      · simp [z]
      · simp [z]
    · simp only [yc_h, cu_h]
      by_cases z : lN b = lN c
      · simp [z]
      · simp [z]
  · simp [mN_, op_] at n y
    have e2 : ¬ lN b < lN c := by rw [pk_lLT (by omega) (by omega)]; omega
    exact ⟨by simp [yc_l, cu_l], by simp only [yc_h, cu_h, e2]; simp⟩
  · simp [mN_, op_] at n y
    have e2 : ¬ lN c ≤ lN a := by rw [pk_lLE (by omega) (by omega)]; omega
    exact ⟨by simp only [yc_l, cu_l, e2]; simp, by simp [yc_h, cu_h]⟩
/-- what a cut leaves is in order again -/
theorem cu_iv {f a b c : Nat} (h1 : 1 ≤ f) (h4 : f ≤ 4) (ab : a ≤ b) (hb : b < 2 ^ 32) (hc : c < 2 ^ 32) (y : mN_ f a b c c) (n : mN_ (op_ f) a b c c) : iv_ (cu_l f (lN c) (lN a) (lN b)) (cu_h f (lN c) (lN a) (lN b)) (2 ^ 32) := by
  have ef : f = 1 ∨ f = 2 ∨ f = 3 ∨ f = 4 := by omega
  rcases ef with rfl | rfl | rfl | rfl
  · exact ⟨c, c, Nat.le_refl _, hc, by simp [cu_l], by simp [cu_h]⟩
  · simp [mN_, op_] at n y
    refine ⟨if a = c then c + 1 else a, if b = c then c - 1 else b, ?_, ?_, ?_, ?_⟩
    · split <;> split <;> omega
    · split <;> omega
    · simp only [cu_l, pk_lEQ (show a < 2 ^ 63 by omega) (show c < 2 ^ 63 by omega)]
      by_cases z : a = c
      · simp [z, lN_1]
      · simp [z]
    · simp only [cu_h, pk_lEQ (show b < 2 ^ 63 by omega) (show c < 2 ^ 63 by omega)]
      by_cases z : b = c
      · have : lN c - 1 = lN (c - 1) := lN_sub (b := 1) (by omega)
        simp [z, this]
      · simp [z]
  · simp [mN_, op_] at n y
    have : lN c - 1 = lN (c - 1) := lN_sub (b := 1) (by omega)
    exact ⟨a, c - 1, by omega, by omega, by simp [cu_l], by simp [cu_h, this]⟩
  · simp [mN_, op_] at n y
    exact ⟨c, b, by omega, hb, by simp [cu_l], by simp [cu_h]⟩
theorem op_op {f : Nat} (h1 : 1 ≤ f) (h4 : f ≤ 4) : op_ (op_ f) = f := by
  have ef : f = 1 ∨ f = 2 ∨ f = 3 ∨ f = 4 := by omega
  rcases ef with rfl | rfl | rfl | rfl <;> rfl
theorem ra_N {s n : Nat} (hs : s < 2 ^ 63) (hn : n < 2 ^ 63) : ra_S (lN s) (lN n) = lN (if n ≤ s then s else n) := by
  unfold ra_S
  by_cases z : n ≤ s
  · rw [if_pos ((pk_lLE hn hs).mpr z), if_pos z]
  · rw [if_neg (by rw [pk_lLE hn hs]; exact z), if_neg z]
