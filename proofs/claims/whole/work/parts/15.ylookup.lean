def bt (x : Int32) (i : Nat) : Bool := x.toBitVec.getLsbD i
theorem b_ext {x y : Int32} (h : ∀ i, i < 32 → bt x i = bt y i) : x = y := Int32.toBitVec_inj.mp (BitVec.eq_of_getLsbD_eq (fun i hi => h i hi))
theorem b_and (x y : Int32) (i : Nat) : bt (x &&& y) i = (bt x i && bt y i) := by unfold bt; rw [Int32.toBitVec_and, BitVec.getLsbD_and]
theorem bp_b (x : Int32) : x.toInt8.toInt32 &&& 255 = x &&& 255 := by
  apply Int32.toBitVec_inj.mp
  rw [Int32.toBitVec_and, Int32.toBitVec_and, Int8.toBitVec_toInt32, Int32.toBitVec_toInt8]
  apply BitVec.eq_of_getLsbD_eq
  intro i hi
  rw [BitVec.getLsbD_and, BitVec.getLsbD_and]
  have hm : ∀ i < 32, 8 ≤ i → (255 : Int32).toBitVec.getLsbD i = false := by decide
  rcases Nat.lt_or_ge i 8 with z | z
  · rw [BitVec.getLsbD_signExtend, BitVec.getLsbD_signExtend, if_pos z, if_pos hi]
    simp only [z, hi, decide_true, Bool.true_and]
  · rw [hm i hi z]; simp
theorem pk_and (x : Int32) {m : Int32} (k : Nat) (hm : m.toBitVec.toNat = 2 ^ k - 1) : x &&& m = nI (x.toBitVec.toNat % 2 ^ k) := by
  apply Int32.toBitVec_inj.mp
  apply BitVec.eq_of_toNat_eq
  rw [Int32.toBitVec_and, BitVec.toNat_and, hm, Nat.and_two_pow_sub_one_eq_mod]
  show _ = (BitVec.ofNat 32 _).toNat
  rw [BitVec.toNat_ofNat]
  exact (Nat.mod_eq_of_lt (Nat.lt_of_le_of_lt (Nat.mod_le _ _) x.toBitVec.isLt)).symm
theorem pk_andE (x : Int32) {m : Int32} (k : Nat) (hm : m.toBitVec.toNat = 2 ^ k - 1) : ∃ j : Nat, j < 2 ^ k ∧ x &&& m = nI j := ⟨_, Nat.mod_lt _ (Nat.two_pow_pos k), pk_and x k hm⟩
theorem ys_bb (z : Int32) : vp_nar .byte z.toInt8.toInt32 = z.toInt8.toInt32 := by
  rw [vp_nar_byte]; exact lg_i2b_small (lg_i2b_range z).1 (lg_i2b_range z).2
theorem yl_m2 : ∀ i, i < 32 → bt (-2) i = decide (1 ≤ i) := by decide
theorem yl_1 : ∀ i, i < 32 → bt 1 i = decide (i = 0) := by decide
theorem yl_0 : ∀ i, i < 32 → bt 0 i = false := by decide
theorem yl_map (x : Int32) : x &&& (-2) = 0 ↔ ¬ (x < 0 ∨ ¬ x < 2) := by
  constructor
  · intro h
    have e : x &&& 1 = x := by
      apply b_ext
      intro i hi
      rw [b_and, yl_1 i hi]
      by_cases z : i = 0
      · simp [z]
      · have q := congrArg (fun y => bt y i) h
        simp only [b_and, yl_m2 i hi, yl_0 i hi] at q
        have : 1 ≤ i := by omega
        simp [this] at q
        simp [z, q]
    obtain ⟨j, hj, ej⟩ := pk_andE x (m := 1) 1 (by decide)
    rw [e] at ej
    have : j = 0 ∨ j = 1 := by omega
    rcases this with rfl | rfl
    · rw [ej]; decide
    · rw [ej]; decide
  · intro h
    have h0 : ¬ x < 0 := fun z => h (Or.inl z)
    have h2 : x < 2 := Classical.byContradiction fun z => h (Or.inr z)
    obtain ⟨j, hj, rfl⟩ := nI_of h0
    rw [xb_lt2 hj] at h2
    have : j = 0 ∨ j = 1 := by omega
    rcases this with rfl | rfl <;> decide
def yi_ (kn : Nat → Int32) (B m j : Nat) : Prop := B ≤ j ∧ j < B + m ∧ ((B + 1 ≤ j ∧ j ≤ B + 5) ∨ kn j = 5 ∨ kn j = 6)
noncomputable def yw_ (kn : Nat → Int32) (B m : Nat) : Nat → Int32 := fun j => @ite _ (yi_ kn B m j) (Classical.propDecidable _) 0 (kn j)
theorem yw_0 (kn : Nat → Int32) (B : Nat) : yw_ kn B 0 = kn := by funext j; unfold yw_; exact if_neg (fun h => absurd h.2.1 (by have := h.1; omega))
theorem yw_at (kn : Nat → Int32) (B m : Nat) : yw_ kn B m (B + m) = kn (B + m) := by unfold yw_; exact if_neg (fun h => absurd h.2.1 (by omega))
theorem yw_t {kn : Nat → Int32} {B m : Nat} (h : yi_ kn B (m + 1) (B + m)) : upd (yw_ kn B m) (B + m) 0 = yw_ kn B (m + 1) := by
  funext j; unfold upd yw_
  by_cases e : j = B + m
  · subst e; rw [if_pos rfl]; exact (if_pos h).symm
  · rw [if_neg e]
    by_cases w : yi_ kn B m j
    · rw [if_pos w]; exact (if_pos ⟨w.1, by have := w.2.1; omega, w.2.2⟩).symm
    · rw [if_neg w]; exact (if_neg (fun z => w ⟨z.1, by have := z.2.1; omega, z.2.2⟩)).symm
theorem yw_f {kn : Nat → Int32} {B m : Nat} (h : ¬ yi_ kn B (m + 1) (B + m)) : yw_ kn B m = yw_ kn B (m + 1) := by
  funext j; unfold yw_
  by_cases w : yi_ kn B m j
  · rw [if_pos w]; exact (if_pos ⟨w.1, by have := w.2.1; omega, w.2.2⟩).symm
  · rw [if_neg w]
    refine (if_neg (fun z => ?_)).symm
    by_cases e : j = B + m
    · subst e; exact h z
    · exact w ⟨z.1, by have := z.2.1; omega, z.2.2⟩
section
variable {y_place : Int32} {y_least : Int64} {y_most : Int64} {y_smallest : Int64} {y_greatest : Int64} {y_ways : Int32} {y_fault : Int32} {y_base : Int32} {y_otherKind : Int32} {y_otherLo : Int64} {y_otherHi : Int64} {y_low : Int64} {y_high : Int64} {y_bytes : Int32} {y_steps : Int32} {y_op : Nat → Int32} {y_first : Nat → Int32} {y_second : Nat → Int32} {y_offset : Nat → Int32} {y_given : Nat → Int32} {y_length : Nat → Int32} {y_there : Nat → Int32} {y_known : Nat → Int32} {y_lo : Nat → Int64} {y_hi : Nat → Int64} {y_at : Nat → Int32} {y_lookups : Nat → Int32} {y_safe : Nat → Int32} {y_met : Nat → Int32} {y_tag : Nat → Int32} {y_word : Nat → Int64} {y_packet : Nat → Int32} {y_keys : Nat → Int64} {y_values : Nat → Int64} {y_many : Nat → Int32}
theorem yv_l101 {post : SY → Prop} {B w : Nat} {o : Int32} (hB : B + 14 ≤ 168) (hw : w < 12) (H : ∀ lk : Nat → Int32, ∀ l : Int64, (o = 50 → lk = upd y_lookups w ((y_lookups w + 1).toInt8.toInt32) ∧ l = ((y_lookups w + 1).toInt8.toInt32).toInt64) → (¬ o = 50 → lk = y_lookups ∧ l = 0) → post (y_place, y_least, y_most, y_smallest, y_greatest, nI (w + 1), y_fault, nI B, y_otherKind, y_otherLo, y_otherHi, y_low, y_high, y_bytes, y_steps, y_op, y_first, y_second, y_offset, y_given, y_length, y_there, upd (yw_ y_known B 14) B (if o = 50 then 6 else 1), vp_updL y_lo B l, vp_updL y_hi B (if o = 50 then 0 else 1), y_at, lk, y_safe, y_met, y_tag, y_word, y_packet, y_keys, y_values, y_many)) : ∀ d m : Nat, m + d = 14 → wY_lookup_101 post o y_place y_least y_most y_smallest y_greatest (nI (w + 1)) y_fault (nI B) y_otherKind y_otherLo y_otherHi y_low y_high y_bytes y_steps (d + 1) (nI m) y_op y_first y_second y_offset y_given y_length y_there (yw_ y_known B m) y_lo y_hi y_at y_lookups y_safe y_met y_tag y_word y_packet y_keys y_values y_many := by
  intro d
  have vw : vp_in (nI (w + 1) - 1) 12 := by rw [nI_pred]; exact vp_in_nI hw (by decide)
  have cw : (nI (w + 1) - 1).toNatClampNeg = w := by rw [nI_pred]; exact nI_clamp (by omega)
  induction d with
  | zero =>
    intro m hm
    have e : m = 14 := by omega
    subst e
    refine br_t (by decide) (br_c (fun z => ⟨vw, vw, ?_⟩) (fun z => ?_))
    · rw [cw]
      refine nm_r (e' := upd y_lookups w ((y_lookups w + 1).toInt8.toInt32)) ?_ ?_
      · rw [ys_bb]
      · have G := H _ _ (fun _ => ⟨rfl, rfl⟩) (fun n => absurd z n)
        simp only [z, if_true] at G
        exact (yv_set0 (by omega) (by unfold k7_; simp)).mpr G
    · have G := H _ _ (fun n => absurd n z) (fun _ => ⟨rfl, rfl⟩)
      simp only [z, if_false] at G
      exact (yv_set0 (by omega) (by unfold k7_; simp)).mpr G
  | succ d ih =>
    intro m hm
    have v : vp_in (nI B + nI m) 168 := by rw [nI_add]; exact vp_in_nI (by omega) (by decide)
    have c : (nI B + nI m).toNatClampNeg = B + m := by rw [nI_add, nI_clamp (by omega)]
    have go : yi_ y_known B (m + 1) (B + m) → wY_lookup_153 post (wY_lookup_101 post o y_place y_least y_most y_smallest y_greatest (nI (w + 1)) y_fault (nI B) y_otherKind y_otherLo y_otherHi y_low y_high y_bytes y_steps (d + 1)) o (nI m) y_place y_least y_most y_smallest y_greatest (nI (w + 1)) y_fault (nI B) y_otherKind y_otherLo y_otherHi y_low y_high y_bytes y_steps y_op y_first y_second y_offset y_given y_length y_there (yw_ y_known B m) y_lo y_hi y_at y_lookups y_safe y_met y_tag y_word y_packet y_keys y_values y_many := by
      intro q
      refine ⟨v, nm_r (e' := yw_ y_known B (m + 1)) (by rw [c, xb_b0, yw_t q]) (nm_r (nI_1 m) (ih (m + 1) (by omega)))⟩
    have w120 : ¬ (1 ≤ m ∧ m ≤ 5) → wY_lookup_120 post (wY_lookup_101 post o y_place y_least y_most y_smallest y_greatest (nI (w + 1)) y_fault (nI B) y_otherKind y_otherLo y_otherHi y_low y_high y_bytes y_steps (d + 1)) o (nI m) y_place y_least y_most y_smallest y_greatest (nI (w + 1)) y_fault (nI B) y_otherKind y_otherLo y_otherHi y_low y_high y_bytes y_steps y_op y_first y_second y_offset y_given y_length y_there (yw_ y_known B m) y_lo y_hi y_at y_lookups y_safe y_met y_tag y_word y_packet y_keys y_values y_many := by
      intro z
      refine ⟨v, ?_⟩
      rw [c, yw_at]
      refine br_c (fun a => go ⟨by omega, by omega, Or.inr (Or.inl a)⟩) (fun a => ⟨v, br_c (fun b => go ⟨by omega, by omega, Or.inr (Or.inr b)⟩) (fun b => nm_r (nI_1 m) ?_)⟩)
      have n : ¬ yi_ y_known B (m + 1) (B + m) := by
        rintro ⟨-, -, y | y | y⟩
        · omega
        · exact a y
        · exact b y
      rw [yw_f n]
      exact ih (m + 1) (by omega)
    refine br_f (by rw [xb_le14 (by omega)]; omega) (br_c (fun a => w120 ?_) (fun a => br_c (fun b => go ⟨by omega, by omega, Or.inl ?_⟩) (fun b => w120 ?_)))
    · rw [xb_le0 (by omega)] at a; omega
    · rw [xb_le0 (by omega)] at a; rw [xb_lt6 (by omega)] at b; omega
    · rw [xb_lt6 (by omega)] at b; omega
theorem yv_l62 {post : SY → Prop} {B e : Nat} {a o : Int32} (hB : B + 14 ≤ 168) (he : e ≤ 3) (A : (∀ r, 1 ≤ r → r ≤ e → y_known (B + r) = 1) → ∃ n, wY_lookup_101 post o y_place y_least y_most y_smallest y_greatest y_ways y_fault (nI B) y_otherKind y_otherLo y_otherHi y_low y_high y_bytes y_steps n 0 y_op y_first y_second y_offset y_given y_length y_there y_known y_lo y_hi y_at y_lookups y_safe y_met y_tag y_word y_packet y_keys y_values y_many) (F : ¬ (∀ r, 1 ≤ r → r ≤ e → y_known (B + r) = 1) → post (a, y_least, y_most, y_smallest, y_greatest, y_ways, 3, nI B, y_otherKind, y_otherLo, y_otherHi, y_low, y_high, y_bytes, y_steps, y_op, y_first, y_second, y_offset, y_given, y_length, y_there, y_known, y_lo, y_hi, y_at, y_lookups, y_safe, y_met, y_tag, y_word, y_packet, y_keys, y_values, y_many)) : ∀ d m : Nat, m + d = e + 1 → (∀ r, 1 ≤ r → r < m → y_known (B + r) = 1) → 1 ≤ m → wY_lookup_62 post a o (nI e) y_place y_least y_most y_smallest y_greatest y_ways y_fault (nI B) y_otherKind y_otherLo y_otherHi y_low y_high y_bytes y_steps y_op y_first y_second y_offset y_given y_length y_there y_known y_lo y_hi y_at y_lookups y_safe y_met y_tag y_word y_packet y_keys y_values y_many (d + 1) (nI m) := by
  intro d
  induction d with
  | zero =>
    intro m hm hp h1
    exact br_t (by rw [nI_ltI (by omega) (by omega)]; omega) (A (fun r x y => hp r x (by omega)))
  | succ d ih =>
    intro m hm hp h1
    have v : vp_in (nI B + nI m) 168 := by rw [nI_add]; exact vp_in_nI (by omega) (by decide)
    have c : (nI B + nI m).toNatClampNeg = B + m := by rw [nI_add, nI_clamp (by omega)]
    refine br_f (by rw [nI_ltI (by omega) (by omega)]; omega) ⟨v, ?_⟩
    rw [c]
    refine br_c (fun k => nm_r (nI_1 m) (ih (m + 1) (by omega) (fun r x y => ?_) (by omega))) (fun k => F (fun n => k (n m h1 (by omega))))
    by_cases q : r = m
    · rw [q]; exact k
    · exact hp r x (by omega)
theorem yv_l35 {post : SY → Prop} {B e : Nat} {a o : Int32} (hB : B + 14 ≤ 168) (he : e ≤ 3) (A : (∀ r, 1 ≤ r → r ≤ e → ¬ y_known (B + r) = 0) → ∃ n, wY_lookup_62 post a o (nI e) y_place y_least y_most y_smallest y_greatest y_ways y_fault (nI B) y_otherKind y_otherLo y_otherHi y_low y_high y_bytes y_steps y_op y_first y_second y_offset y_given y_length y_there y_known y_lo y_hi y_at y_lookups y_safe y_met y_tag y_word y_packet y_keys y_values y_many n 1) (F : ¬ (∀ r, 1 ≤ r → r ≤ e → ¬ y_known (B + r) = 0) → post (a, y_least, y_most, y_smallest, y_greatest, y_ways, 2, nI B, y_otherKind, y_otherLo, y_otherHi, y_low, y_high, y_bytes, y_steps, y_op, y_first, y_second, y_offset, y_given, y_length, y_there, y_known, y_lo, y_hi, y_at, y_lookups, y_safe, y_met, y_tag, y_word, y_packet, y_keys, y_values, y_many)) : ∀ d m : Nat, m + d = e + 1 → (∀ r, 1 ≤ r → r < m → ¬ y_known (B + r) = 0) → 1 ≤ m → wY_lookup_35 post a o (nI e) (d + 1) (nI m) y_place y_least y_most y_smallest y_greatest y_ways y_fault (nI B) y_otherKind y_otherLo y_otherHi y_low y_high y_bytes y_steps y_op y_first y_second y_offset y_given y_length y_there y_known y_lo y_hi y_at y_lookups y_safe y_met y_tag y_word y_packet y_keys y_values y_many := by
  intro d
  induction d with
  | zero =>
    intro m hm hp h1
    exact br_t (by rw [nI_ltI (by omega) (by omega)]; omega) (A (fun r x y => hp r x (by omega)))
  | succ d ih =>
    intro m hm hp h1
    refine br_f (by rw [nI_ltI (by omega) (by omega)]; omega) ?_
    by_cases k : y_known (B + m) = 0
    · refine (yv_missY (by omega) (by omega) k).mpr ?_
      exact br_f (by decide) (F (fun n => n m h1 (by omega) k))
    · refine (yv_missN (by omega) (Or.inr k)).mpr ?_
      refine br_t rfl (nm_r (nI_1 m) (ih (m + 1) (by omega) (fun r x y => ?_) (by omega)))
      by_cases q : r = m
      · rw [q]; exact k
      · exact hp r x (by omega)
theorem yv_look {post : SY → Prop} {B w i e : Nat} {a o : Int32} (hi : i < 120) (hB : B + 14 ≤ 168) (hw : w < 12) (ee : e = if o = 51 then 3 else 1) (F1 : y_given i < 0 ∨ ¬ y_given i < 2 → post (a, y_least, y_most, y_smallest, y_greatest, nI (w + 1), 1, nI B, y_otherKind, y_otherLo, y_otherHi, y_low, y_high, y_bytes, y_steps, y_op, y_first, y_second, y_offset, y_given, y_length, y_there, y_known, y_lo, y_hi, y_at, y_lookups, y_safe, y_met, y_tag, y_word, y_packet, y_keys, y_values, y_many)) (F2 : ¬ (y_given i < 0 ∨ ¬ y_given i < 2) → ¬ (∀ r, 1 ≤ r → r ≤ e → ¬ y_known (B + r) = 0) → post (a, y_least, y_most, y_smallest, y_greatest, nI (w + 1), 2, nI B, y_otherKind, y_otherLo, y_otherHi, y_low, y_high, y_bytes, y_steps, y_op, y_first, y_second, y_offset, y_given, y_length, y_there, y_known, y_lo, y_hi, y_at, y_lookups, y_safe, y_met, y_tag, y_word, y_packet, y_keys, y_values, y_many)) (F3 : ¬ (y_given i < 0 ∨ ¬ y_given i < 2) → (∀ r, 1 ≤ r → r ≤ e → ¬ y_known (B + r) = 0) → ¬ (∀ r, 1 ≤ r → r ≤ e → y_known (B + r) = 1) → post (a, y_least, y_most, y_smallest, y_greatest, nI (w + 1), 3, nI B, y_otherKind, y_otherLo, y_otherHi, y_low, y_high, y_bytes, y_steps, y_op, y_first, y_second, y_offset, y_given, y_length, y_there, y_known, y_lo, y_hi, y_at, y_lookups, y_safe, y_met, y_tag, y_word, y_packet, y_keys, y_values, y_many)) (H : ¬ (y_given i < 0 ∨ ¬ y_given i < 2) → (∀ r, 1 ≤ r → r ≤ e → y_known (B + r) = 1) → ∀ lk : Nat → Int32, ∀ l : Int64, (o = 50 → lk = upd y_lookups w ((y_lookups w + 1).toInt8.toInt32) ∧ l = ((y_lookups w + 1).toInt8.toInt32).toInt64) → (¬ o = 50 → lk = y_lookups ∧ l = 0) → post (y_place, y_least, y_most, y_smallest, y_greatest, nI (w + 1), y_fault, nI B, y_otherKind, y_otherLo, y_otherHi, y_low, y_high, y_bytes, y_steps, y_op, y_first, y_second, y_offset, y_given, y_length, y_there, upd (yw_ y_known B 14) B (if o = 50 then 6 else 1), vp_updL y_lo B l, vp_updL y_hi B (if o = 50 then 0 else 1), y_at, lk, y_safe, y_met, y_tag, y_word, y_packet, y_keys, y_values, y_many)) : wpY_lookup post (y_place, y_least, y_most, y_smallest, y_greatest, nI (w + 1), y_fault, nI B, y_otherKind, y_otherLo, y_otherHi, y_low, y_high, y_bytes, y_steps, y_op, y_first, y_second, y_offset, y_given, y_length, y_there, y_known, y_lo, y_hi, y_at, y_lookups, y_safe, y_met, y_tag, y_word, y_packet, y_keys, y_values, y_many) (nI i) a o := by
  refine ⟨vp_in_nI hi (by decide), ?_⟩
  rw [nI_clamp (by omega), yl_map]
  refine br_c (fun g => ?_) (fun g => F1 (Classical.byContradiction g))
  have W : ∃ n, wY_lookup_35 post a o (nI e) n (nI 1) y_place y_least y_most y_smallest y_greatest (nI (w + 1)) y_fault (nI B) y_otherKind y_otherLo y_otherHi y_low y_high y_bytes y_steps y_op y_first y_second y_offset y_given y_length y_there y_known y_lo y_hi y_at y_lookups y_safe y_met y_tag y_word y_packet y_keys y_values y_many := by
    have e3 : e ≤ 3 := by rw [ee]; split <;> omega
    have e1 : 1 ≤ e := by rw [ee]; split <;> omega
    refine ⟨e + 1, yv_l35 hB e3 (fun A => ?_) (fun n => F2 g n) e 1 (by omega) (fun r x y => absurd y (by omega)) (by decide)⟩
    refine ⟨e + 1, yv_l62 hB e3 (fun A2 => ?_) (fun n => F3 g A n) e 1 (by omega) (fun r x y => absurd y (by omega)) (by decide)⟩
    refine ⟨15, ?_⟩
    have := yv_l101 (post := post) (o := o) hB hw (H g A2) 14 0 rfl
    rw [yw_0] at this
    exact this
  by_cases z : o = 51
  · rw [if_pos z] at ee; subst ee; exact br_t z W
  · rw [if_neg z] at ee; subst ee; exact br_f z W
end
