def uN (x : Int64) : Nat := x.toUInt64.toNat
theorem uN_lt (x : Int64) : uN x < 18446744073709551616 := x.toUInt64.toNat_lt
theorem uN_inj {x y : Int64} (h : uN x = uN y) : x = y := congrArg UInt64.toInt64 (UInt64.toNat_inj.mp h)
theorem uN_add (x y : Int64) : uN (x + y) = (uN x + uN y) % 18446744073709551616 := by
  show (x.toUInt64 + y.toUInt64).toNat = _
  exact UInt64.toNat_add _ _
theorem uN_lo (x : Int64) : uN (x &&& 4294967295) = uN x % 4294967296 := by
  show (x.toUInt64 &&& Int64.toUInt64 4294967295).toNat = _
  rw [UInt64.toNat_and]
  exact Nat.and_two_pow_sub_one_eq_mod _ 32
def inb_ (l h x : Int64) : Prop := ∃ a n c : Nat, a ≤ n ∧ n ≤ c ∧ c < 2 ^ 32 ∧ l = lN a ∧ x = lN n ∧ h = lN c
def wd_ (x : Int64) : Prop := ∃ n : Nat, n < 2 ^ 32 ∧ x = lN n
/-- a slot's value in a run: X's word x, Y's tag t and word w; b bytes of packet; X's taken slots kt, where Y has them π -/
def V_ (k : Int32) (l h x : Int64) (t : Int32) (w : Int64) (b : Nat) (π : Nat → Nat) (kt : Nat → Int32) : Prop :=
  (k = 1 → t = 1 ∧ w = x ∧ inb_ l h x) ∧ (k = 2 → t = 2 ∧ w = x ∧ inb_ l h x) ∧ (k = 3 → t = 3 ∧ w = lN b ∧ x = lN b) ∧ (k = 4 → t = 4 ∧ w = l ∧ x = l &&& 4294967295) ∧
  (k = 5 → t = 5 ∧ ∃ s, s < 8 ∧ ¬ kt s = 0 ∧ w = lN (100 * (8 + π s)) + l ∧ x = (lN (6 + 2 * s) + l) &&& 4294967295) ∧
  (k = 6 → (t = 1 ∧ w = 0 ∧ x = 0) ∨ (t = 5 ∧ ∃ s, s < 8 ∧ ¬ kt s = 0 ∧ w = lN (100 * (8 + π s)) ∧ x = lN (6 + 2 * s)))
def b1_ (x : Int32) : Nat := if x = 0 then 0 else 1
def cn_ (kt : Nat → Int32) (m : Nat) : Nat := b1_ (kt (4 * m)) + b1_ (kt (4 * m + 1)) + b1_ (kt (4 * m + 2)) + b1_ (kt (4 * m + 3))
def M1_ (π : Nat → Nat) (kt : Nat → Int32) (kw ce ks vs : Nat → Int64) (m n : Nat) : Prop :=
  n ≤ 4 ∧ cn_ kt m = n ∧
  (∀ s, 4 * m ≤ s → s < 4 * m + 4 → ¬ kt s = 0 → 4 * m ≤ π s ∧ π s < 4 * m + n ∧ ks (π s) = kw s ∧ vs (2 * π s) = ce (6 + 2 * s) ∧ vs (2 * π s + 1) = ce (6 + 2 * s + 1) ∧ wd_ (ce (6 + 2 * s)) ∧ wd_ (ce (6 + 2 * s + 1))) ∧
  (∀ s t, 4 * m ≤ s → s < 4 * m + 4 → 4 * m ≤ t → t < 4 * m + 4 → ¬ kt s = 0 → ¬ kt t = 0 → (π s = π t ∨ kw s = kw t) → s = t) ∧
  (∀ k, 4 * m ≤ k → k < 4 * m + n → ∃ s, 4 * m ≤ s ∧ s < 4 * m + 4 ∧ ¬ kt s = 0 ∧ π s = k)
def Mp_ (π : Nat → Nat) (kt : Nat → Int32) (kw ce ks vs : Nat → Int64) (mn : Nat → Int32) : Prop := ∀ m, m < 2 → ∃ n, mn m = nI n ∧ M1_ π kt kw ce ks vs m n
def cx_ (rg ce : Nat → Int64) (r : Nat) : Int64 := if r < 8 then rg r else ce (r - 8)
/-- all that may be a VALUE comes from one LOOKUP -/
def Un_ (K : Nat → Int32) (rg ce : Nat → Int64) (tg : Nat → Int32) (wd : Nat → Int64) : Prop := ∀ r t, r < 14 → t < 14 → K (g_ r) = 6 → K (g_ t) = 6 → cx_ rg ce r = cx_ rg ce t ∧ tg r = tg t ∧ wd r = wd t
def Con_ (K : Nat → Int32) (L H : Nat → Int64) (S : Int64) (π : Nat → Nat) (rg ce : Nat → Int64) (kt : Nat → Int32) (kw : Nat → Int64) (tg : Nat → Int32) (wd ks vs : Nat → Int64) (mn : Nat → Int32) (b : Nat) : Prop :=
  (∀ r, r < 14 → V_ (K (g_ r)) (L (g_ r)) (H (g_ r)) (cx_ rg ce r) (tg r) (wd r) b π kt) ∧ rg 8 = 0 ∧ ((∃ sn : Nat, sn ≤ b ∧ S = lN sn) ∧ Un_ K rg ce tg wd) ∧ Mp_ π kt kw ce ks vs mn
theorem V_1 {l h x w : Int64} {b : Nat} {π : Nat → Nat} {kt : Nat → Int32} (e : w = x) (i : inb_ l h x) : V_ 1 l h x 1 w b π kt := ⟨fun _ => ⟨rfl, e, i⟩, fun z => absurd z (by decide), fun z => absurd z (by decide), fun z => absurd z (by decide), fun z => absurd z (by decide), fun z => absurd z (by decide)⟩
theorem V_2 {l h x w : Int64} {b : Nat} {π : Nat → Nat} {kt : Nat → Int32} (e : w = x) (i : inb_ l h x) : V_ 2 l h x 2 w b π kt := ⟨fun z => absurd z (by decide), fun _ => ⟨rfl, e, i⟩, fun z => absurd z (by decide), fun z => absurd z (by decide), fun z => absurd z (by decide), fun z => absurd z (by decide)⟩
theorem V_3 {l h x w : Int64} {b : Nat} {π : Nat → Nat} {kt : Nat → Int32} (e : w = lN b) (i : x = lN b) : V_ 3 l h x 3 w b π kt := ⟨fun z => absurd z (by decide), fun z => absurd z (by decide), fun _ => ⟨rfl, e, i⟩, fun z => absurd z (by decide), fun z => absurd z (by decide), fun z => absurd z (by decide)⟩
theorem V_4 {l h x w : Int64} {b : Nat} {π : Nat → Nat} {kt : Nat → Int32} (e : w = l) (i : x = l &&& 4294967295) : V_ 4 l h x 4 w b π kt := ⟨fun z => absurd z (by decide), fun z => absurd z (by decide), fun z => absurd z (by decide), fun _ => ⟨rfl, e, i⟩, fun z => absurd z (by decide), fun z => absurd z (by decide)⟩
theorem V_5 {l h x w : Int64} {b : Nat} {π : Nat → Nat} {kt : Nat → Int32} (i : ∃ s, s < 8 ∧ ¬ kt s = 0 ∧ w = lN (100 * (8 + π s)) + l ∧ x = (lN (6 + 2 * s) + l) &&& 4294967295) : V_ 5 l h x 5 w b π kt := ⟨fun z => absurd z (by decide), fun z => absurd z (by decide), fun z => absurd z (by decide), fun z => absurd z (by decide), fun _ => ⟨rfl, i⟩, fun z => absurd z (by decide)⟩
theorem V_6 {l h x w : Int64} {t : Int32} {b : Nat} {π : Nat → Nat} {kt : Nat → Int32} (i : (t = 1 ∧ w = 0 ∧ x = 0) ∨ (t = 5 ∧ ∃ s, s < 8 ∧ ¬ kt s = 0 ∧ w = lN (100 * (8 + π s)) ∧ x = lN (6 + 2 * s))) : V_ 6 l h x t w b π kt := ⟨fun z => absurd z (by decide), fun z => absurd z (by decide), fun z => absurd z (by decide), fun z => absurd z (by decide), fun z => absurd z (by decide), fun _ => i⟩
theorem V_0 {l h x w : Int64} {t : Int32} {b : Nat} {π : Nat → Nat} {kt : Nat → Int32} : V_ 0 l h x t w b π kt := ⟨fun z => absurd z (by decide), fun z => absurd z (by decide), fun z => absurd z (by decide), fun z => absurd z (by decide), fun z => absurd z (by decide), fun z => absurd z (by decide)⟩
theorem V_ind {k t : Int32} {l h x w : Int64} {b : Nat} {π π' : Nat → Nat} {kt kt' : Nat → Int32} (v : V_ k l h x t w b π kt) (n5 : ¬ k = 5) (n6 : ¬ k = 6) : V_ k l h x t w b π' kt' := ⟨v.1, v.2.1, v.2.2.1, v.2.2.2.1, fun z => absurd z n5, fun z => absurd z n6⟩
theorem V_t {k t : Int32} {l h x w : Int64} {b : Nat} {π : Nat → Nat} {kt : Nat → Int32} (v : V_ k l h x t w b π kt) (k7 : k7_ k) (n : ¬ k = 0) : k7_ t := by
  unfold k7_
  rcases k7 with z | z | z | z | z | z | z
  · exact absurd z n
  · rw [(v.1 z).1]; simp
  · rw [(v.2.1 z).1]; simp
  · rw [(v.2.2.1 z).1]; simp
  · rw [(v.2.2.2.1 z).1]; simp
  · rw [(v.2.2.2.2.1 z).1]; simp
  · rcases v.2.2.2.2.2 z with q | q
    · rw [q.1]; simp
    · rw [q.1]; simp
section
variable {K : Nat → Int32} {L H : Nat → Int64} {S : Int64} {π : Nat → Nat} {rg ce : Nat → Int64} {kt : Nat → Int32} {kw : Nat → Int64} {tg : Nat → Int32} {wd ks vs : Nat → Int64} {mn : Nat → Int32} {b : Nat}
theorem Un_upd {e : Nat} {k t : Int32} {x w : Int64} {rg' ce' : Nat → Int64} (U : Un_ K rg ce tg wd) (he : e < 14) (x1 : cx_ rg' ce' e = x) (x2 : ∀ r, r < 14 → ¬ r = e → cx_ rg' ce' r = cx_ rg ce r) (u : k = 6 → ∀ r, r < 14 → K (g_ r) = 6 → cx_ rg ce r = x ∧ tg r = t ∧ wd r = w) : Un_ (upd K (g_ e) k) rg' ce' (upd tg e t) (vp_updL wd e w) := by
  intro r q hr hq kr kq
  by_cases a : r = e
  · by_cases c : q = e
    · rw [a, c]; exact ⟨rfl, rfl, rfl⟩
    · have n1 : ¬ g_ q = g_ e := fun z => c (g_inj z)
      rw [a, pk_us] at kr
      rw [pk_un n1] at kq
      obtain ⟨y1, y2, y3⟩ := u kr q hq kq
      rw [a, x1, x2 q hq c, pk_us, pk_un c, pk_uLs, pk_uLn c]
      exact ⟨y1.symm, y2.symm, y3.symm⟩
  · have n1 : ¬ g_ r = g_ e := fun z => a (g_inj z)
    rw [pk_un n1] at kr
    by_cases c : q = e
    · rw [c, pk_us] at kq
      obtain ⟨y1, y2, y3⟩ := u kq r hr kr
      rw [c, x1, x2 r hr a, pk_us, pk_un a, pk_uLs, pk_uLn a]
      exact ⟨y1, y2, y3⟩
    · have n2 : ¬ g_ q = g_ e := fun z => c (g_inj z)
      rw [pk_un n2] at kq
      rw [x2 r hr a, x2 q hq c, pk_un a, pk_un c, pk_uLn a, pk_uLn c]
      exact U r q hr hq kr kq
theorem Con_reg {d : Nat} {k t : Int32} {l h x w : Int64} (C : Con_ K L H S π rg ce kt kw tg wd ks vs mn b) (hd : d < 8) (v : V_ k l h x t w b π kt) (u : k = 6 → ∀ r, r < 14 → K (g_ r) = 6 → cx_ rg ce r = x ∧ tg r = t ∧ wd r = w) : Con_ (upd K d k) (vp_updL L d l) (vp_updL H d h) S π (vp_updL rg d x) ce kt kw (upd tg d t) (vp_updL wd d w) ks vs mn b := by
  have un := Un_upd (e := d) (k := k) (rg' := vp_updL rg d x) (ce' := ce) C.2.2.1.2 (by omega) (by unfold cx_; rw [if_pos hd, pk_uLs]) (fun r _ e => by unfold cx_; rw [pk_uLn e]) u
  rw [g_lo hd] at un
  refine ⟨fun r hr => ?_, by rw [pk_uLn (by omega)]; exact C.2.1, ⟨C.2.2.1.1, un⟩, C.2.2.2⟩
  by_cases e : r = d
  · subst e
    have ex : cx_ (vp_updL rg r x) ce r = x := by unfold cx_; rw [if_pos hd, pk_uLs]
    rw [g_lo hd, pk_us, pk_us, pk_uLs, pk_uLs, pk_uLs, ex]
    exact v
  · have n1 : ¬ g_ r = d := by rw [← g_lo hd]; exact fun z => e (g_inj z)
    have ex : cx_ (vp_updL rg d x) ce r = cx_ rg ce r := by unfold cx_; rw [pk_uLn e]
    rw [pk_un n1, pk_un e, pk_uLn n1, pk_uLn n1, pk_uLn e, ex]
    exact C.1 r hr
theorem Mp_ce {c : Nat} {x : Int64} (hc : c < 6) (M : Mp_ π kt kw ce ks vs mn) : Mp_ π kt kw (vp_updL ce c x) ks vs mn := by
  intro m hm
  obtain ⟨n, e, a1, a2, a3, a4⟩ := M m hm
  refine ⟨n, e, a1, a2, fun s h1 h2 h3 => ?_, a4⟩
  rw [pk_uLn (by omega), pk_uLn (by omega)]
  exact a3 s h1 h2 h3
theorem Con_cell {c : Nat} {k t : Int32} {l h x w : Int64} (C : Con_ K L H S π rg ce kt kw tg wd ks vs mn b) (hc : c < 6) (v : V_ k l h x t w b π kt) (u : k = 6 → ∀ r, r < 14 → K (g_ r) = 6 → cx_ rg ce r = x ∧ tg r = t ∧ wd r = w) : Con_ (upd K (10 + c) k) (vp_updL L (10 + c) l) (vp_updL H (10 + c) h) S π rg (vp_updL ce c x) kt kw (upd tg (8 + c) t) (vp_updL wd (8 + c) w) ks vs mn b := by
  have un := Un_upd (e := 8 + c) (k := k) (rg' := rg) (ce' := vp_updL ce c x) C.2.2.1.2 (by omega) (by unfold cx_; rw [if_neg (by omega), show 8 + c - 8 = c from by omega, pk_uLs]) (fun r _ e => by unfold cx_; split <;> first | rfl | rw [pk_uLn (by omega)]) u
  rw [g_hi] at un
  refine ⟨fun r hr => ?_, C.2.1, ⟨C.2.2.1.1, un⟩, Mp_ce hc C.2.2.2⟩
  by_cases e : r = 8 + c
  · subst e
    have ex : cx_ rg (vp_updL ce c x) (8 + c) = x := by unfold cx_; rw [if_neg (by omega), show 8 + c - 8 = c from by omega, pk_uLs]
    rw [g_hi, pk_us, pk_us, pk_uLs, pk_uLs, pk_uLs, ex]
    exact v
  · have n1 : ¬ g_ r = 10 + c := by rw [← g_hi c]; exact fun z => e (g_inj z)
    have ex : cx_ rg (vp_updL ce c x) r = cx_ rg ce r := by
      unfold cx_; split
      · rfl
      · rw [pk_uLn (by omega)]
    rw [pk_un n1, pk_un e, pk_uLn n1, pk_uLn n1, pk_uLn e, ex]
    exact C.1 r hr
theorem Con_9 {k : Int32} {l h : Int64} (C : Con_ K L H S π rg ce kt kw tg wd ks vs mn b) : Con_ (upd K 9 k) (vp_updL L 9 l) (vp_updL H 9 h) S π rg ce kt kw tg wd ks vs mn b := by
  refine ⟨fun r hr => ?_, C.2.1, ⟨C.2.2.1.1, fun r t hr ht kr kt => ?_⟩, C.2.2.2⟩
  · rw [pk_un (g_9 r), pk_uLn (g_9 r), pk_uLn (g_9 r)]; exact C.1 r hr
  · rw [pk_un (g_9 r)] at kr
    rw [pk_un (g_9 t)] at kt
    exact C.2.2.1.2 r t hr ht kr kt
theorem Con_k9 {o : Int32} {w : Int64} (C : Con_ K L H S π rg ce kt kw tg wd ks vs mn b) : Con_ (k9_ o K) (l9_ o w L) (l9_ o w H) S π rg ce kt kw tg wd ks vs mn b := by
  by_cases r : rg_ o
  · rw [k9_t r, l9_t r, l9_t r]; exact C
  · rw [k9_f r, l9_f r, l9_f r]; exact Con_9 C
/-- a register, the frame too -/
theorem Con_s {s : Nat} (W : WF_ K L H S) (C : Con_ K L H S π rg ce kt kw tg wd ks vs mn b) (hs : s < 9) : V_ (K s) (L s) (H s) (rg s) (if s = 8 then 4 else tg s) (if s = 8 then 0 else wd s) b π kt := by
  by_cases z : s = 8
  · subst z
    rw [if_pos rfl, if_pos rfl, W.2.1, W.2.2.1, C.2.1]
    exact V_4 rfl (by decide)
  · rw [if_neg z, if_neg z]
    have v := C.1 s (by omega)
    rw [g_lo (by omega)] at v
    have ex : cx_ rg ce s = rg s := by unfold cx_; rw [if_pos (by omega)]
    rw [ex] at v
    exact v
theorem Con_su {s : Nat} (W : WF_ K L H S) (C : Con_ K L H S π rg ce kt kw tg wd ks vs mn b) (hs : s < 9) (k6 : K s = 6) : ∀ r, r < 14 → K (g_ r) = 6 → cx_ rg ce r = rg s ∧ tg r = (if s = 8 then 4 else tg s) ∧ wd r = (if s = 8 then 0 else wd s) := by
  intro r hr kr
  have s8 : ¬ s = 8 := by intro z; rw [z, W.2.1] at k6; exact absurd k6 (by decide)
  have ex : cx_ rg ce s = rg s := by unfold cx_; rw [if_pos (by omega)]
  rw [if_neg s8, if_neg s8, ← ex]
  exact C.2.2.1.2 r s hr (by omega) kr (by rw [g_lo (by omega)]; exact k6)
theorem Con_qu {s : Nat} {o imm : Int32} (W : WF_ K L H S) (n9 : nine_ o (imm.toInt64 &&& 4294967295) K L H) (C : Con_ K L H S π rg ce kt kw tg wd ks vs mn b) (hs : s < 9) (k6 : K (q9_ o s) = 6) : ∀ r, r < 14 → K (g_ r) = 6 → cx_ rg ce r = (@ite _ (rg_ o) (Classical.propDecidable _) (rg s) (imm.toInt64 &&& 4294967295)) ∧ tg r = (@ite _ (rg_ o) (Classical.propDecidable _) (if s = 8 then 4 else tg s) 1) ∧ wd r = (@ite _ (rg_ o) (Classical.propDecidable _) (if s = 8 then 0 else wd s) (imm.toInt64 &&& 4294967295)) := by
  by_cases q : rg_ o
  · rw [if_pos q, if_pos q, if_pos q]
    rw [q9_t q] at k6
    exact Con_su W C hs k6
  · rw [q9_f q, (n9 q).1] at k6
    exact absurd k6 (by decide)
theorem Con_q {s : Nat} {o imm : Int32} (W : WF_ K L H S) (n9 : nine_ o (imm.toInt64 &&& 4294967295) K L H) (C : Con_ K L H S π rg ce kt kw tg wd ks vs mn b) (hs : s < 9) : V_ (K (q9_ o s)) (L (q9_ o s)) (H (q9_ o s)) (@ite _ (rg_ o) (Classical.propDecidable _) (rg s) (imm.toInt64 &&& 4294967295)) (@ite _ (rg_ o) (Classical.propDecidable _) (if s = 8 then 4 else tg s) 1) (@ite _ (rg_ o) (Classical.propDecidable _) (if s = 8 then 0 else wd s) (imm.toInt64 &&& 4294967295)) b π kt := by
  by_cases r : rg_ o
  · rw [if_pos r, if_pos r, if_pos r, q9_t r]
    exact Con_s W C hs
  · rw [if_neg r, if_neg r, if_neg r, q9_f r]
    obtain ⟨a1, a2, a3⟩ := n9 r
    rw [a1, a2, a3]
    obtain ⟨m, hm, e⟩ := pf_andw imm.toInt64
    rw [e]
    exact V_1 rfl ⟨m, m, m, Nat.le_refl _, Nat.le_refl _, hm, rfl, rfl, rfl⟩
end
