def pn_ (π : Nat → Nat) (s v : Nat) : Nat → Nat := fun j => if j = s then v else π j
theorem pn_s {π : Nat → Nat} {s v j : Nat} (h : j = s) : pn_ π s v j = v := by unfold pn_; exact if_pos h
theorem pn_n {π : Nat → Nat} {s v j : Nat} (h : ¬ j = s) : pn_ π s v j = π j := by unfold pn_; exact if_neg h
def pd_ (π : Nat → Nat) (m l v : Nat) : Nat → Nat := fun j => if 4 * m ≤ j ∧ j < 4 * m + 4 ∧ π j = l then v else π j
theorem pd_t {π : Nat → Nat} {m l v j : Nat} (h : 4 * m ≤ j ∧ j < 4 * m + 4 ∧ π j = l) : pd_ π m l v j = v := by unfold pd_; exact if_pos h
theorem pd_f {π : Nat → Nat} {m l v j : Nat} (h : ¬ (4 * m ≤ j ∧ j < 4 * m + 4 ∧ π j = l)) : pd_ π m l v j = π j := by unfold pd_; exact if_neg h
section
variable {π : Nat → Nat} {kt : Nat → Int32} {kw ce ks vs : Nat → Int64} {mn : Nat → Int32} {m n s : Nat} {key p q : Int64}
theorem mp_upd (M : Mp_ π kt kw ce ks vs mn) (hm : m < 2) (h1 : 4 * m ≤ s) (h2 : s < 4 * m + 4) (h3 : ¬ kt s = 0) (h4 : kw s = key) (wp : wd_ p) (wq : wd_ q) : Mp_ π (upd kt s 1) (vp_updL kw s key) (vp_updL (vp_updL ce (6 + 2 * s) p) (6 + 2 * s + 1) q) (vp_updL ks (π s) key) (vp_updL (vp_updL vs (2 * π s) p) (2 * π s + 1) q) mn := by
  have ek : vp_updL kw s key = kw := xb_updLid h4
  intro m2 hm2
  obtain ⟨n2, e2, M2⟩ := M m2 hm2
  obtain ⟨n, e, a1, a2, a3, a4, a5⟩ := M m hm
  obtain ⟨q1, q2, q3, q4, q5, q6, q7⟩ := a3 s h1 h2 h3
  have es : vp_updL ks (π s) key = ks := xb_updLid (q3.trans h4)
  rw [ek, es]
  by_cases z : m2 = m
  · subst z
    refine ⟨n, e, a1, ?_, fun t t1 t2 t3 => ?_, fun t u t1 t2 u1 u2 t3 u3 tu => ?_, fun k k1 k2 => ?_⟩
    · have := cn_u (kt := kt) 1 h1 h2
      rw [b1_1 h3, b1_1 (by decide)] at this
      omega
    · by_cases y : t = s
      · subst y
        refine ⟨q1, q2, q3, ?_, ?_, ?_, ?_⟩
        · rw [pk_uLn (by omega), pk_uLs, pk_uLn (by omega), pk_uLs]
        · rw [pk_uLs, pk_uLs]
        · rw [pk_uLn (by omega), pk_uLs]; exact wp
        · rw [pk_uLs]; exact wq
      · rw [pk_un y] at t3
        have np : ¬ π t = π s := fun zz => y (a4 t s t1 t2 h1 h2 t3 h3 (Or.inl zz))
        rw [pk_uLn (by omega), pk_uLn (by omega), pk_uLn (by omega), pk_uLn (by omega), pk_uLn (by omega), pk_uLn (by omega), pk_uLn (by omega), pk_uLn (by omega)]
        exact a3 t t1 t2 t3
    · have g : ∀ j, ¬ upd kt s 1 j = 0 → ¬ kt j = 0 := by
        intro j hj
        by_cases y : j = s
        · rw [y]; exact h3
        · rw [pk_un y] at hj; exact hj
      exact a4 t u t1 t2 u1 u2 (g t t3) (g u u3) tu
    · obtain ⟨t, t1, t2, t3, t4⟩ := a5 k k1 k2
      refine ⟨t, t1, t2, ?_, t4⟩
      by_cases y : t = s
      · rw [y, pk_us]; decide
      · rw [pk_un y]; exact t3
  · refine ⟨n2, e2, M1_cong M2 (fun t t1 t2 => ⟨pk_un (by omega), rfl, ?_, ?_, rfl⟩) (fun k k1 k2 => ⟨rfl, ?_, ?_⟩)⟩
    · rw [pk_uLn (by omega), pk_uLn (by omega)]
    · rw [pk_uLn (by omega), pk_uLn (by omega)]
    · rw [pk_uLn (by omega), pk_uLn (by omega)]
    · rw [pk_uLn (by omega), pk_uLn (by omega)]
theorem mp_new (M : Mp_ π kt kw ce ks vs mn) (hm : m < 2) (e : mn m = nI n) (hn : n < 4) (M0 : M1_ π kt kw ce ks vs m n) (h1 : 4 * m ≤ s) (h2 : s < 4 * m + 4) (h3 : kt s = 0) (nk : ∀ s, 4 * m ≤ s → s < 4 * m + 4 → ¬ kt s = 0 → ¬ kw s = key) (wp : wd_ p) (wq : wd_ q) : Mp_ (pn_ π s (4 * m + n)) (upd kt s 1) (vp_updL kw s key) (vp_updL (vp_updL ce (6 + 2 * s) p) (6 + 2 * s + 1) q) (vp_updL ks (4 * m + n) key) (vp_updL (vp_updL vs (2 * (4 * m + n)) p) (2 * (4 * m + n) + 1) q) (upd mn m (nI (n + 1))) := by
  intro m2 hm2
  obtain ⟨n2, e2, M2⟩ := M m2 hm2
  obtain ⟨a1, a2, a3, a4, a5⟩ := M0
  have g : ∀ j, ¬ upd kt s 1 j = 0 → j = s ∨ (¬ j = s ∧ ¬ kt j = 0) := by
    intro j hj
    by_cases y : j = s
    · exact Or.inl y
    · rw [pk_un y] at hj; exact Or.inr ⟨y, hj⟩
  by_cases z : m2 = m
  · subst z
    refine ⟨n + 1, pk_us, by omega, ?_, fun t t1 t2 t3 => ?_, fun t u t1 t2 u1 u2 t3 u3 tu => ?_, fun k k1 k2 => ?_⟩
    · have := cn_u (kt := kt) 1 h1 h2
      rw [b1_0 h3, b1_1 (by decide)] at this
      omega
    · rcases g t t3 with y | ⟨y, t3⟩
      · subst y
        rw [pn_s rfl]
        refine ⟨by omega, by omega, ?_, ?_, ?_, ?_, ?_⟩
        · rw [pk_uLs, pk_uLs]
        · rw [pk_uLn (by omega), pk_uLs, pk_uLn (by omega), pk_uLs]
        · rw [pk_uLs, pk_uLs]
        · rw [pk_uLn (by omega), pk_uLs]; exact wp
        · rw [pk_uLs]; exact wq
      · obtain ⟨q1, q2, q3, q4, q5, q6, q7⟩ := a3 t t1 t2 t3
        rw [pn_n y, pk_uLn (k := 4 * m2 + n) (by omega), pk_uLn y, pk_uLn (by omega), pk_uLn (by omega), pk_uLn (by omega), pk_uLn (by omega), pk_uLn (by omega), pk_uLn (by omega), pk_uLn (by omega), pk_uLn (by omega)]
        exact ⟨q1, by omega, q3, q4, q5, q6, q7⟩
    · rcases g t t3 with y | ⟨y, t3⟩
      · rcases g u u3 with x | ⟨x, u3⟩
        · rw [y, x]
        · exfalso
          obtain ⟨q1, q2, -⟩ := a3 u u1 u2 u3
          rcases tu with w | w
          · rw [pn_s y, pn_n x] at w; omega
          · rw [y, pk_uLs, pk_uLn x] at w
            exact nk u u1 u2 u3 w.symm
      · rcases g u u3 with x | ⟨x, u3⟩
        · exfalso
          obtain ⟨q1, q2, -⟩ := a3 t t1 t2 t3
          rcases tu with w | w
          · rw [pn_n y, pn_s x] at w; omega
          · rw [x, pk_uLs, pk_uLn y] at w
            exact nk t t1 t2 t3 w
        · rw [pn_n y, pn_n x, pk_uLn y, pk_uLn x] at tu
          exact a4 t u t1 t2 u1 u2 t3 u3 tu
    · by_cases y : k = 4 * m2 + n
      · exact ⟨s, h1, h2, by rw [pk_us]; decide, by rw [pn_s rfl, y]⟩
      · obtain ⟨t, t1, t2, t3, t4⟩ := a5 k k1 (by omega)
        have ts : ¬ t = s := fun w => t3 (by rw [w]; exact h3)
        exact ⟨t, t1, t2, by rw [pk_un ts]; exact t3, by rw [pn_n ts]; exact t4⟩
  · refine ⟨n2, by rw [pk_un z]; exact e2, M1_cong M2 (fun t t1 t2 => ⟨pk_un (by omega), pk_uLn (by omega), ?_, ?_, pn_n (by omega)⟩) (fun k k1 k2 => ⟨pk_uLn (by omega), ?_, ?_⟩)⟩
    · rw [pk_uLn (by omega), pk_uLn (by omega)]
    · rw [pk_uLn (by omega), pk_uLn (by omega)]
    · rw [pk_uLn (by omega), pk_uLn (by omega)]
    · rw [pk_uLn (by omega), pk_uLn (by omega)]
theorem mp_del {l : Nat} (M : Mp_ π kt kw ce ks vs mn) (hm : m < 2) (e : mn m = nI n) (M0 : M1_ π kt kw ce ks vs m n) (h1 : 4 * m ≤ s) (h2 : s < 4 * m + 4) (h3 : ¬ kt s = 0) (el : l + 1 = 4 * m + n) : Mp_ (pd_ π m l (π s)) (upd kt s 0) kw ce (vp_updL ks (π s) (ks l)) (vp_updL (vp_updL vs (2 * π s) (vs (2 * l))) (2 * π s + 1) (vs (2 * l + 1))) (upd mn m (nI (n - 1))) := by
  intro m2 hm2
  obtain ⟨n2, e2, M2⟩ := M m2 hm2
  obtain ⟨a1, a2, a3, a4, a5⟩ := M0
  obtain ⟨q1, q2, q3, q4, q5, q6, q7⟩ := a3 s h1 h2 h3
  have g : ∀ j, ¬ upd kt s 0 j = 0 → ¬ j = s ∧ ¬ kt j = 0 := by
    intro j hj
    by_cases y : j = s
    · rw [y, pk_us] at hj; exact absurd rfl hj
    · rw [pk_un y] at hj; exact ⟨y, hj⟩
  by_cases z : m2 = m
  · subst z
    refine ⟨n - 1, pk_us, by omega, ?_, fun t t1 t2 t3 => ?_, fun t u t1 t2 u1 u2 t3 u3 tu => ?_, fun k k1 k2 => ?_⟩
    · have := cn_u (kt := kt) 0 h1 h2
      rw [b1_1 h3, b1_0 rfl] at this
      omega
    · obtain ⟨y, t3⟩ := g t t3
      obtain ⟨r1, r2, r3, r4, r5, r6, r7⟩ := a3 t t1 t2 t3
      have np : ¬ π t = π s := fun zz => y (a4 t s t1 t2 h1 h2 t3 h3 (Or.inl zz))
      by_cases w : π t = l
      · rw [pd_t ⟨t1, t2, w⟩]
        refine ⟨q1, by omega, ?_, ?_, ?_, r6, r7⟩
        · rw [pk_uLs, ← w]; exact r3
        · rw [pk_uLn (by omega), pk_uLs, ← w]; exact r4
        · rw [pk_uLs, ← w]; exact r5
      · rw [pd_f (fun x => w x.2.2), pk_uLn np, pk_uLn (by omega), pk_uLn (by omega), pk_uLn (by omega), pk_uLn (by omega)]
        exact ⟨r1, by omega, r3, r4, r5, r6, r7⟩
    · obtain ⟨y, t3⟩ := g t t3
      obtain ⟨x, u3⟩ := g u u3
      refine a4 t u t1 t2 u1 u2 t3 u3 ?_
      rcases tu with tu | tu
      · left
        have nt : ¬ π t = π s := fun zz => y (a4 t s t1 t2 h1 h2 t3 h3 (Or.inl zz))
        have nu : ¬ π u = π s := fun zz => x (a4 u s u1 u2 h1 h2 u3 h3 (Or.inl zz))
        by_cases w : π t = l
        · by_cases v : π u = l
          · rw [w, v]
          · rw [pd_t ⟨t1, t2, w⟩, pd_f (fun x => v x.2.2)] at tu
            exact absurd tu.symm nu
        · by_cases v : π u = l
          · rw [pd_f (fun x => w x.2.2), pd_t ⟨u1, u2, v⟩] at tu
            exact absurd tu nt
          · rw [pd_f (fun x => w x.2.2), pd_f (fun x => v x.2.2)] at tu
            exact tu
      · exact Or.inr tu
    · by_cases y : k = π s
      · obtain ⟨t, t1, t2, t3, t4⟩ := a5 l (by omega) (by omega)
        have ts : ¬ t = s := by
          intro w
          rw [w] at t4; omega
        exact ⟨t, t1, t2, by rw [pk_un ts]; exact t3, by rw [pd_t ⟨t1, t2, t4⟩, y]⟩
      · obtain ⟨t, t1, t2, t3, t4⟩ := a5 k k1 (by omega)
        have ts : ¬ t = s := fun w => y (by rw [← t4, w])
        exact ⟨t, t1, t2, by rw [pk_un ts]; exact t3, by rw [pd_f (fun w => absurd w.2.2 (by omega))]; exact t4⟩
  · refine ⟨n2, by rw [pk_un z]; exact e2, M1_cong M2 (fun t t1 t2 => ⟨pk_un (by omega), rfl, rfl, rfl, pd_f (by omega)⟩) (fun k k1 k2 => ⟨pk_uLn (by omega), ?_, ?_⟩)⟩
    · rw [pk_uLn (by omega), pk_uLn (by omega)]
    · rw [pk_uLn (by omega), pk_uLn (by omega)]
end
