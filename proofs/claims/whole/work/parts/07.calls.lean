/-! the relation, and what the owed rows need of the small calls -/
variable {xd xb xs xl xq xe : Int32} {yd yb ys ye yl yq : Int32} {K A B C P L Q O bp vs cl fr : Nat → Int32} {n d b s ln dp : Nat} {ev : Int32}
def db_R (d b n s ln dp : Nat) (ev : Int32) (K A B P L Q bp vs cl fr : Nat → Int32) : Prop := 1 ≤ d ∧ d ≤ 8 ∧ 1 ≤ b ∧ b ≤ 4096 ∧ n ≤ 32 ∧ K 0 = 0 ∧ (∀ x, 1 ≤ x → x ≤ n → db_OK (K x) (A x) (B x)) ∧ ((s = 0 ∧ ln = 0 ∧ dp = 0 ∧ ev = 0 ∧ bp = (fun _ => 0) ∧ vs = (fun _ => 0)) ∨ (db_CP K A P L Q n ∧ (((s = 1 ∨ s = 3) ∧ ln = 0 ∧ dp = 0) ∨ ((s = 2 ∨ s = 4) ∧ db_EV K cl fr n d ln dp))))
def i_Rel (_ : Nat) (u : SX) (v : SY) : Prop := ∃ (d b n s ln dp : Nat) (ev : Int32) (K A B C P L Q O bp vs cl fr : Nat → Int32), u = (nI d, nI b, nI n, nI s, nI ln, nI dp, ev, K, A, B, C, P, L, Q, O, bp, vs, cl) ∧ v = (nI d, nI b, nI n, nI s, ev, nI ln, nI dp, K, A, B, C, bp, vs, fr) ∧ db_R d b n s ln dp ev K A B P L Q bp vs cl fr
theorem re_mk {k : Nat} (h : db_R d b n s ln dp ev K A B P L Q bp vs cl fr) : i_Rel k (nI d, nI b, nI n, nI s, nI ln, nI dp, ev, K, A, B, C, P, L, Q, O, bp, vs, cl) (nI d, nI b, nI n, nI s, ev, nI ln, nI dp, K, A, B, C, bp, vs, fr) :=
  ⟨d, b, n, s, ln, dp, ev, K, A, B, C, P, L, Q, O, bp, vs, cl, fr, rfl, rfl, h⟩
theorem re_s4 (h : db_R d b n s ln dp ev K A B P L Q bp vs cl fr) : s ≤ 4 := by
  rcases h.2.2.2.2.2.2.2 with ⟨z, _⟩ | ⟨_, ⟨z, _⟩ | ⟨z, _⟩⟩
  · omega
  · rcases z with z | z <;> omega
  · rcases z with z | z <;> omega
/-- a number against 1 .. n -/
theorem re_ln (v : Int32) (hn : n ≤ 32) : v < 1 ∨ (¬ v < 1 ∧ nI n < v) ∨ ∃ x, 1 ≤ x ∧ x ≤ n ∧ v = nI x := by
  by_cases h : v < 1
  · exact Or.inl h
  · have h0 : ¬ v < 0 := fun z => h (Int32.lt_trans z (by decide))
    obtain ⟨j, hj, rfl⟩ := nI_of h0
    have h1 : ¬ j < 1 := fun z => h (nI_lt (a := j) (b := 1) z (by omega))
    by_cases hjn : j ≤ n
    · exact Or.inr (Or.inr ⟨j, by omega, hjn, rfl⟩)
    · exact Or.inr (Or.inl ⟨h, nI_lt (by omega) hj⟩)
/-! clamping -/
def re_C (k Mi : Int32) (M p : Nat) : Prop := (¬ 1 ≤ k ∧ p = 1) ∨ (1 ≤ k ∧ ¬ k ≤ Mi ∧ p = M) ∨ (1 ≤ k ∧ k ≤ Mi ∧ k = nI p)
theorem re_Cx (k Mi : Int32) (M : Nat) (hM : Mi = nI M) (h1 : 1 ≤ M) (hb : M < 2 ^ 31) : ∃ p, re_C k Mi M p ∧ 1 ≤ p ∧ p ≤ M := by
  by_cases h0 : 1 ≤ k
  · by_cases h2 : k ≤ Mi
    · have hn : ¬ k < 0 := fun z => absurd (Int32.lt_of_le_of_lt h0 z) (by decide)
      obtain ⟨j, hj, rfl⟩ := nI_of hn
      have a : j ≤ M := by rw [hM, nI_leI hj hb] at h2; exact h2
      have c : 1 ≤ j := (nI_leI (a := 1) (b := j) (by omega) hj).mp h0
      exact ⟨j, Or.inr (Or.inr ⟨h0, h2, rfl⟩), c, a⟩
    · exact ⟨M, Or.inr (Or.inl ⟨h0, h2, rfl⟩), h1, Nat.le_refl _⟩
  · exact ⟨1, Or.inl ⟨h0, rfl⟩, Nat.le_refl _, h1⟩
theorem re_Cl {post : Int32 → Prop} {k Mi : Int32} {M p : Nat} (hM : Mi = nI M) (h : re_C k Mi M p) (hp : post (nI p)) : wpX_clampFromOne post k Mi := by
  rcases h with ⟨a, e⟩ | ⟨a, c, e⟩ | ⟨a, c, e⟩
  · subst e
    exact br_f a hp
  · subst e
    refine br_t a (br_f c ?_)
    rw [hM]
    exact hp
  · refine br_t a (br_t c ?_)
    rw [e]
    exact hp
theorem re_Y82 {post : SY → Prop} {k z0 yc yst : Int32} {p : Nat} (h : re_C k 4096 4096 p) (hp : post (z0, nI p, yc, 0, ye, yl, yq, K, A, B, C, bp, vs, fr)) : wY_init_82 post k z0 yd yb yc yst ye yl yq K A B C bp vs fr := by
  unfold wY_init_82
  rcases h with ⟨a, e⟩ | ⟨a, c, e⟩ | ⟨a, c, e⟩
  · subst e
    exact br_f a hp
  · subst e
    exact br_t a (br_f c hp)
  · refine br_t a (br_t c ?_)
    rw [e]
    exact hp
theorem re_Y0 {post : SY → Prop} {k0 k1 : Int32} {p q : Nat} (h : re_C k0 8 8 p) (h1 : re_C k1 4096 4096 q) (hp : post (nI p, nI q, 0, 0, 0, 0, 0, fun _ => 0, fun _ => 0, fun _ => 0, fun _ => 0, fun _ => 0, fun _ => 0, fun _ => 0)) : wpY_init post k0 k1 := by
  unfold wpY_init
  rcases h with ⟨a, e⟩ | ⟨a, c, e⟩ | ⟨a, c, e⟩
  · subst e
    exact br_f a (re_Y82 h1 hp)
  · subst e
    exact br_t a (br_f c (re_Y82 h1 hp))
  · refine br_t a (br_t c (re_Y82 h1 ?_))
    rw [e]
    exact hp
/-! addLine: the operands -/
def re_V (N : Nat) (a : Int32) : Prop := ∃ j, j < N ∧ a = nI j
theorem re_v1 {post : Int32 → Prop} {a : Int32} (h : re_V 8 a) (p : post 1) : wpX_isVariable post a := by
  obtain ⟨j, hj, rfl⟩ := h
  exact br_f (nI_pos (by omega)) (br_f (nI_ge (a := j) (b := 8) (by omega) (by omega)) p)
theorem re_v0 {post : Int32 → Prop} {a : Int32} (h : ¬ re_V 8 a) (p : post 0) : wpX_isVariable post a := by
  by_cases y : a < 0
  · exact br_t y p
  · rcases pk_ix a (n := 8) (by omega) with z | z | z
    · exact absurd z y
    · exact br_f y (br_t z p)
    · exact absurd z h
theorem re_p1 {post : Int32 → Prop} {a : Int32} (h : re_V 4 a) (p : post 1) : wpX_isProcedure post a := by
  obtain ⟨j, hj, rfl⟩ := h
  exact br_f (nI_pos (by omega)) (br_f (nI_ge (a := j) (b := 4) (by omega) (by omega)) p)
theorem re_p0 {post : Int32 → Prop} {a : Int32} (h : ¬ re_V 4 a) (p : post 0) : wpX_isProcedure post a := by
  by_cases y : a < 0
  · exact br_t y p
  · rcases pk_ix a (n := 4) (by omega) with z | z | z
    · exact absurd z y
    · exact br_f y (br_t z p)
    · exact absurd z h
theorem re_y1 {a : Int32} {S Z : Prop} (h : re_V 8 a) (x : S) : (a < 0 → Z) ∧ (¬ a < 0 → ((a ≤ 7 → S) ∧ (¬ a ≤ 7 → Z))) := by
  obtain ⟨j, hj, rfl⟩ := h
  exact br_f (nI_pos (by omega)) (br_t (nI_le (a := j) (b := 7) (by omega) (by omega)) x)
theorem re_y0 {a : Int32} {S Z : Prop} (h : ¬ re_V 8 a) (x : Z) : (a < 0 → Z) ∧ (¬ a < 0 → ((a ≤ 7 → S) ∧ (¬ a ≤ 7 → Z))) := by
  refine ⟨fun _ => x, fun y => ⟨fun z => ?_, fun _ => x⟩⟩
  obtain ⟨j, hj, e⟩ := nI_of2 (M := 7) (n := 7) (by decide) y z
  exact absurd ⟨j, by omega, e⟩ h
theorem re_w1 {a : Int32} {S Z : Prop} (h : re_V 4 a) (x : S) : (a < 0 → Z) ∧ (¬ a < 0 → ((a ≤ 3 → S) ∧ (¬ a ≤ 3 → Z))) := by
  obtain ⟨j, hj, rfl⟩ := h
  exact br_f (nI_pos (by omega)) (br_t (nI_le (a := j) (b := 3) (by omega) (by omega)) x)
theorem re_w0 {a : Int32} {S Z : Prop} (h : ¬ re_V 4 a) (x : Z) : (a < 0 → Z) ∧ (¬ a < 0 → ((a ≤ 3 → S) ∧ (¬ a ≤ 3 → Z))) := by
  refine ⟨fun _ => x, fun y => ⟨fun z => ?_, fun _ => x⟩⟩
  obtain ⟨j, hj, e⟩ := nI_of2 (M := 3) (n := 3) (by decide) y z
  exact absurd ⟨j, by omega, e⟩ h
def re_F (k a x : Int32) : Prop := db_OK k a x ∧ (∀ post : Int32 → Prop, post 1 → wpX_operandsFit post k a x)
def re_N (k a x : Int32) : Prop := ∀ post : Int32 → Prop, post 0 → wpX_operandsFit post k a x
theorem re_k1 (hn : n < 32) (a x c : Int32) : (re_F 1 a x ∧ (∀ post : Int32 → SY → Prop, wY_addLine_115 post 1 a x c yd yb (nI n) 0 ye yl yq K A B C bp vs fr → wpY_addLine post (yd, yb, nI n, 0, ye, yl, yq, K, A, B, C, bp, vs, fr) 1 a x c)) ∨ (re_N 1 a x ∧ (∀ post : Int32 → SY → Prop, post 0 (yd, yb, nI n, 0, ye, yl, yq, K, A, B, C, bp, vs, fr) → wpY_addLine post (yd, yb, nI n, 0, ye, yl, yq, K, A, B, C, bp, vs, fr) 1 a x c)) := by
  have n32 : ¬ nI n = 32 := fun z => absurd ((nI_eq (a := n) (b := 32) (by omega) (by omega)).mp z) (by omega)
  by_cases hv : re_V 8 a
  · refine Or.inl ⟨⟨⟨⟨1, by decide, by decide, rfl⟩, fun _ => hv, fun z => absurd z (by decide), fun z => absurd z (by decide)⟩, fun post p => br_f (by decide) (br_f (by decide) (br_t rfl (re_v1 hv ⟨rfl, p⟩)))⟩, fun post p => ?_⟩
    exact br_t rfl (br_f n32 (br_f (by decide) (br_t (by decide) (br_t rfl (br_f (by decide) (re_y1 hv (br_f (by decide) (br_f (by decide) (br_f (by decide) (p))))))))))
  · refine Or.inr ⟨fun post p => br_f (by decide) (br_f (by decide) (br_t rfl (re_v0 hv ⟨rfl, p⟩))), fun post p => ?_⟩
    exact br_t rfl (br_f n32 (br_f (by decide) (br_t (by decide) (br_t rfl (br_f (by decide) (re_y0 hv p))))))
theorem re_k2 (hn : n < 32) (a x c : Int32) : (re_F 2 a x ∧ (∀ post : Int32 → SY → Prop, wY_addLine_115 post 2 a x c yd yb (nI n) 0 ye yl yq K A B C bp vs fr → wpY_addLine post (yd, yb, nI n, 0, ye, yl, yq, K, A, B, C, bp, vs, fr) 2 a x c)) ∨ (re_N 2 a x ∧ (∀ post : Int32 → SY → Prop, post 0 (yd, yb, nI n, 0, ye, yl, yq, K, A, B, C, bp, vs, fr) → wpY_addLine post (yd, yb, nI n, 0, ye, yl, yq, K, A, B, C, bp, vs, fr) 2 a x c)) := by
  have n32 : ¬ nI n = 32 := fun z => absurd ((nI_eq (a := n) (b := 32) (by omega) (by omega)).mp z) (by omega)
  by_cases hv : re_V 8 a
  · by_cases hx : re_V 8 x
    · refine Or.inl ⟨⟨⟨⟨2, by decide, by decide, rfl⟩, fun _ => hv, fun _ => hx, fun z => absurd z (by decide)⟩, fun post p => br_f (by decide) (br_f (by decide) (br_f (by decide) (br_t rfl (re_v1 hv (br_f (by decide) (re_v1 hx (br_f (by decide) p)))))))⟩, fun post p => ?_⟩
      exact br_t rfl (br_f n32 (br_f (by decide) (br_t (by decide) (br_f (by decide) (br_t rfl (br_f (by decide) (re_y1 hv (br_t rfl (re_y1 hx (br_f (by decide) (br_f (by decide) (p))))))))))))
    · refine Or.inr ⟨fun post p => br_f (by decide) (br_f (by decide) (br_f (by decide) (br_t rfl (re_v1 hv (br_f (by decide) (re_v0 hx (br_t rfl p))))))), fun post p => ?_⟩
      exact br_t rfl (br_f n32 (br_f (by decide) (br_t (by decide) (br_f (by decide) (br_t rfl (br_f (by decide) (re_y1 hv (br_t rfl (re_y0 hx p)))))))))
  · refine Or.inr ⟨fun post p => br_f (by decide) (br_f (by decide) (br_f (by decide) (br_t rfl (re_v0 hv (br_t rfl p))))), fun post p => ?_⟩
    exact br_t rfl (br_f n32 (br_f (by decide) (br_t (by decide) (br_f (by decide) (br_t rfl (br_f (by decide) (re_y0 hv p)))))))
theorem re_k3 (hn : n < 32) (a x c : Int32) : (re_F 3 a x ∧ (∀ post : Int32 → SY → Prop, wY_addLine_115 post 3 a x c yd yb (nI n) 0 ye yl yq K A B C bp vs fr → wpY_addLine post (yd, yb, nI n, 0, ye, yl, yq, K, A, B, C, bp, vs, fr) 3 a x c)) ∨ (re_N 3 a x ∧ (∀ post : Int32 → SY → Prop, post 0 (yd, yb, nI n, 0, ye, yl, yq, K, A, B, C, bp, vs, fr) → wpY_addLine post (yd, yb, nI n, 0, ye, yl, yq, K, A, B, C, bp, vs, fr) 3 a x c)) := by
  have n32 : ¬ nI n = 32 := fun z => absurd ((nI_eq (a := n) (b := 32) (by omega) (by omega)).mp z) (by omega)
  by_cases hv : re_V 8 a
  · refine Or.inl ⟨⟨⟨⟨3, by decide, by decide, rfl⟩, fun _ => hv, fun z => absurd z (by decide), fun z => absurd z (by decide)⟩, fun post p => br_f (by decide) (br_f (by decide) (br_f (by decide) (br_f (by decide) (br_t rfl (re_v1 hv ⟨rfl, p⟩)))))⟩, fun post p => ?_⟩
    exact br_t rfl (br_f n32 (br_f (by decide) (br_t (by decide) (br_f (by decide) (br_f (by decide) (br_t rfl (br_f (by decide) (re_y1 hv (br_f (by decide) (br_f (by decide) (br_f (by decide) (p))))))))))))
  · refine Or.inr ⟨fun post p => br_f (by decide) (br_f (by decide) (br_f (by decide) (br_f (by decide) (br_t rfl (re_v0 hv ⟨rfl, p⟩))))), fun post p => ?_⟩
    exact br_t rfl (br_f n32 (br_f (by decide) (br_t (by decide) (br_f (by decide) (br_f (by decide) (br_t rfl (br_f (by decide) (re_y0 hv p))))))))
theorem re_k4 (hn : n < 32) (a x c : Int32) : (re_F 4 a x ∧ (∀ post : Int32 → SY → Prop, wY_addLine_115 post 4 a x c yd yb (nI n) 0 ye yl yq K A B C bp vs fr → wpY_addLine post (yd, yb, nI n, 0, ye, yl, yq, K, A, B, C, bp, vs, fr) 4 a x c)) ∨ (re_N 4 a x ∧ (∀ post : Int32 → SY → Prop, post 0 (yd, yb, nI n, 0, ye, yl, yq, K, A, B, C, bp, vs, fr) → wpY_addLine post (yd, yb, nI n, 0, ye, yl, yq, K, A, B, C, bp, vs, fr) 4 a x c)) := by
  have n32 : ¬ nI n = 32 := fun z => absurd ((nI_eq (a := n) (b := 32) (by omega) (by omega)).mp z) (by omega)
  by_cases hv : re_V 8 a
  · refine Or.inl ⟨⟨⟨⟨4, by decide, by decide, rfl⟩, fun _ => hv, fun z => absurd z (by decide), fun z => absurd z (by decide)⟩, fun post p => br_f (by decide) (br_f (by decide) (br_f (by decide) (br_f (by decide) (br_f (by decide) (br_t rfl (re_v1 hv ⟨rfl, p⟩))))))⟩, fun post p => ?_⟩
    exact br_t rfl (br_f n32 (br_f (by decide) (br_t (by decide) (br_f (by decide) (br_f (by decide) (br_f (by decide) (br_t rfl (br_f (by decide) (re_y1 hv (br_f (by decide) (br_f (by decide) (br_f (by decide) (p)))))))))))))
  · refine Or.inr ⟨fun post p => br_f (by decide) (br_f (by decide) (br_f (by decide) (br_f (by decide) (br_f (by decide) (br_t rfl (re_v0 hv ⟨rfl, p⟩)))))), fun post p => ?_⟩
    exact br_t rfl (br_f n32 (br_f (by decide) (br_t (by decide) (br_f (by decide) (br_f (by decide) (br_f (by decide) (br_t rfl (br_f (by decide) (re_y0 hv p)))))))))
theorem re_k5 (hn : n < 32) (a x c : Int32) : (re_F 5 a x ∧ (∀ post : Int32 → SY → Prop, wY_addLine_115 post 5 a x c yd yb (nI n) 0 ye yl yq K A B C bp vs fr → wpY_addLine post (yd, yb, nI n, 0, ye, yl, yq, K, A, B, C, bp, vs, fr) 5 a x c)) ∨ (re_N 5 a x ∧ (∀ post : Int32 → SY → Prop, post 0 (yd, yb, nI n, 0, ye, yl, yq, K, A, B, C, bp, vs, fr) → wpY_addLine post (yd, yb, nI n, 0, ye, yl, yq, K, A, B, C, bp, vs, fr) 5 a x c)) := by
  have n32 : ¬ nI n = 32 := fun z => absurd ((nI_eq (a := n) (b := 32) (by omega) (by omega)).mp z) (by omega)
  refine Or.inl ⟨⟨⟨⟨5, by decide, by decide, rfl⟩, fun z => absurd z (by decide), fun z => absurd z (by decide), fun z => absurd z (by decide)⟩, fun post p => br_f (by decide) (br_f (by decide) (br_f (by decide) (br_f (by decide) (br_f (by decide) (br_f (by decide) (br_t rfl (p)))))))⟩, fun post p => ?_⟩
  exact br_t rfl (br_f n32 (br_f (by decide) (br_t (by decide) (br_f (by decide) (br_f (by decide) (br_f (by decide) (br_f (by decide) (br_t rfl (br_f (by decide) (br_f (by decide) (br_f (by decide) (p))))))))))))
theorem re_k6 (hn : n < 32) (a x c : Int32) : (re_F 6 a x ∧ (∀ post : Int32 → SY → Prop, wY_addLine_115 post 6 a x c yd yb (nI n) 0 ye yl yq K A B C bp vs fr → wpY_addLine post (yd, yb, nI n, 0, ye, yl, yq, K, A, B, C, bp, vs, fr) 6 a x c)) ∨ (re_N 6 a x ∧ (∀ post : Int32 → SY → Prop, post 0 (yd, yb, nI n, 0, ye, yl, yq, K, A, B, C, bp, vs, fr) → wpY_addLine post (yd, yb, nI n, 0, ye, yl, yq, K, A, B, C, bp, vs, fr) 6 a x c)) := by
  have n32 : ¬ nI n = 32 := fun z => absurd ((nI_eq (a := n) (b := 32) (by omega) (by omega)).mp z) (by omega)
  by_cases hw : re_V 4 a
  · refine Or.inl ⟨⟨⟨⟨6, by decide, by decide, rfl⟩, fun z => absurd z (by decide), fun z => absurd z (by decide), fun _ => hw⟩, fun post p => br_f (by decide) (br_f (by decide) (br_f (by decide) (br_f (by decide) (br_f (by decide) (br_f (by decide) (br_f (by decide) (br_t rfl (re_p1 hw ⟨rfl, p⟩))))))))⟩, fun post p => ?_⟩
    exact br_t rfl (br_f n32 (br_f (by decide) (br_t (by decide) (br_f (by decide) (br_f (by decide) (br_f (by decide) (br_f (by decide) (br_t rfl (br_f (by decide) (br_t rfl (re_w1 hw p)))))))))))
  · refine Or.inr ⟨fun post p => br_f (by decide) (br_f (by decide) (br_f (by decide) (br_f (by decide) (br_f (by decide) (br_f (by decide) (br_f (by decide) (br_t rfl (re_p0 hw ⟨rfl, p⟩)))))))), fun post p => ?_⟩
    exact br_t rfl (br_f n32 (br_f (by decide) (br_t (by decide) (br_f (by decide) (br_f (by decide) (br_f (by decide) (br_f (by decide) (br_t rfl (br_f (by decide) (br_t rfl (re_w0 hw p)))))))))))
theorem re_k7 (hn : n < 32) (a x c : Int32) : (re_F 7 a x ∧ (∀ post : Int32 → SY → Prop, wY_addLine_115 post 7 a x c yd yb (nI n) 0 ye yl yq K A B C bp vs fr → wpY_addLine post (yd, yb, nI n, 0, ye, yl, yq, K, A, B, C, bp, vs, fr) 7 a x c)) ∨ (re_N 7 a x ∧ (∀ post : Int32 → SY → Prop, post 0 (yd, yb, nI n, 0, ye, yl, yq, K, A, B, C, bp, vs, fr) → wpY_addLine post (yd, yb, nI n, 0, ye, yl, yq, K, A, B, C, bp, vs, fr) 7 a x c)) := by
  have n32 : ¬ nI n = 32 := fun z => absurd ((nI_eq (a := n) (b := 32) (by omega) (by omega)).mp z) (by omega)
  by_cases hw : re_V 4 a
  · refine Or.inl ⟨⟨⟨⟨7, by decide, by decide, rfl⟩, fun z => absurd z (by decide), fun z => absurd z (by decide), fun _ => hw⟩, fun post p => br_f (by decide) (br_f (by decide) (br_f (by decide) (br_f (by decide) (br_f (by decide) (br_f (by decide) (br_f (by decide) (br_f (by decide) (br_t rfl (re_p1 hw ⟨rfl, p⟩)))))))))⟩, fun post p => ?_⟩
    exact br_t rfl (br_f n32 (br_f (by decide) (br_t (by decide) (br_f (by decide) (br_f (by decide) (br_f (by decide) (br_f (by decide) (br_t rfl (br_f (by decide) (br_f (by decide) (br_t rfl (re_w1 hw p))))))))))))
  · refine Or.inr ⟨fun post p => br_f (by decide) (br_f (by decide) (br_f (by decide) (br_f (by decide) (br_f (by decide) (br_f (by decide) (br_f (by decide) (br_f (by decide) (br_t rfl (re_p0 hw ⟨rfl, p⟩))))))))), fun post p => ?_⟩
    exact br_t rfl (br_f n32 (br_f (by decide) (br_t (by decide) (br_f (by decide) (br_f (by decide) (br_f (by decide) (br_f (by decide) (br_t rfl (br_f (by decide) (br_f (by decide) (br_t rfl (re_w0 hw p))))))))))))
theorem re_k8 (hn : n < 32) (a x c : Int32) : (re_F 8 a x ∧ (∀ post : Int32 → SY → Prop, wY_addLine_115 post 8 a x c yd yb (nI n) 0 ye yl yq K A B C bp vs fr → wpY_addLine post (yd, yb, nI n, 0, ye, yl, yq, K, A, B, C, bp, vs, fr) 8 a x c)) ∨ (re_N 8 a x ∧ (∀ post : Int32 → SY → Prop, post 0 (yd, yb, nI n, 0, ye, yl, yq, K, A, B, C, bp, vs, fr) → wpY_addLine post (yd, yb, nI n, 0, ye, yl, yq, K, A, B, C, bp, vs, fr) 8 a x c)) := by
  have n32 : ¬ nI n = 32 := fun z => absurd ((nI_eq (a := n) (b := 32) (by omega) (by omega)).mp z) (by omega)
  refine Or.inl ⟨⟨⟨⟨8, by decide, by decide, rfl⟩, fun z => absurd z (by decide), fun z => absurd z (by decide), fun z => absurd z (by decide)⟩, fun post p => br_f (by decide) (br_t (by decide) p)⟩, fun post p => ?_⟩
  exact br_t rfl (br_f n32 (br_f (by decide) (br_t (by decide) (br_f (by decide) (br_f (by decide) (br_f (by decide) (br_f (by decide) (br_t rfl (br_f (by decide) (br_f (by decide) (br_f (by decide) (p))))))))))))
theorem re_kk (hn : n < 32) {k : Int32} (h1 : ¬ k < 1) (h8 : k ≤ 8) (a x c : Int32) : (re_F k a x ∧ (∀ post : Int32 → SY → Prop, wY_addLine_115 post k a x c yd yb (nI n) 0 ye yl yq K A B C bp vs fr → wpY_addLine post (yd, yb, nI n, 0, ye, yl, yq, K, A, B, C, bp, vs, fr) k a x c)) ∨ (re_N k a x ∧ (∀ post : Int32 → SY → Prop, post 0 (yd, yb, nI n, 0, ye, yl, yq, K, A, B, C, bp, vs, fr) → wpY_addLine post (yd, yb, nI n, 0, ye, yl, yq, K, A, B, C, bp, vs, fr) k a x c)) := by
  rcases re_ln k (n := 8) (by omega) with z | ⟨_, z⟩ | ⟨i, i1, i8, rfl⟩
  · exact absurd z h1
  · exact absurd h8 (Int32.not_le.mpr z)
  · have hc : i = 1 ∨ i = 2 ∨ i = 3 ∨ i = 4 ∨ i = 5 ∨ i = 6 ∨ i = 7 ∨ i = 8 := by omega
    rcases hc with z | z | z | z | z | z | z | z <;> subst z
    · exact re_k1 hn a x c
    · exact re_k2 hn a x c
    · exact re_k3 hn a x c
    · exact re_k4 hn a x c
    · exact re_k5 hn a x c
    · exact re_k6 hn a x c
    · exact re_k7 hn a x c
    · exact re_k8 hn a x c
theorem re_xa (hn : n < 32) {k a x c : Int32} (h1 : ¬ k < 1) (h8 : k ≤ 8) (hF : ∀ post : Int32 → Prop, post 1 → wpX_operandsFit post k a x) {post : Int32 → SX → Prop} (hp : post (nI (n + 1)) (xd, xb, nI (n + 1), 0, xl, xq, xe, upd K (n + 1) k, upd A (n + 1) a, upd B (n + 1) x, upd C (n + 1) c, P, L, Q, O, bp, vs, cl)) : wpX_addLine post (xd, xb, nI n, 0, xl, xq, xe, K, A, B, C, P, L, Q, O, bp, vs, cl) k a x c := by
  have e : (nI (n + 1)).toNatClampNeg = n + 1 := nI_clamp (by omega)
  have wv : vp_in (nI (n + 1)) 34 := vp_in_nI (by omega) (by omega)
  exact br_t rfl (br_t (nI_lt (a := n) (b := 32) hn (by omega)) (br_f h1 (br_f (Int32.not_lt.mpr h8) (hF _ (br_f (by decide) (nm_r (nI_1 n) ⟨wv, nm_r (by rw [e]) ⟨wv, nm_r (by rw [e]) ⟨wv, nm_r (by rw [e]) ⟨wv, nm_r (by rw [e]) hp⟩⟩⟩⟩))))))
theorem re_xn (hn : n < 32) {k a x c : Int32} (h1 : ¬ k < 1) (h8 : k ≤ 8) (hN : ∀ post : Int32 → Prop, post 0 → wpX_operandsFit post k a x) {post : Int32 → SX → Prop} (hp : post 0 (xd, xb, nI n, 0, xl, xq, xe, K, A, B, C, P, L, Q, O, bp, vs, cl)) : wpX_addLine post (xd, xb, nI n, 0, xl, xq, xe, K, A, B, C, P, L, Q, O, bp, vs, cl) k a x c :=
  br_t rfl (br_t (nI_lt (a := n) (b := 32) hn (by omega)) (br_f h1 (br_f (Int32.not_lt.mpr h8) (hN _ (br_t rfl hp)))))
theorem re_ya (hn : n < 32) {k a x c : Int32} {post : Int32 → SY → Prop} (hp : post (nI (n + 1)) (yd, yb, nI (n + 1), 0, ye, yl, yq, upd K (n + 1) k, upd A (n + 1) a, upd B (n + 1) x, upd C (n + 1) c, bp, vs, fr)) : wY_addLine_115 post k a x c yd yb (nI n) 0 ye yl yq K A B C bp vs fr := by
  have e : (nI (n + 1)).toNatClampNeg = n + 1 := nI_clamp (by omega)
  have wv : vp_in (nI (n + 1)) 33 := vp_in_nI (by omega) (by omega)
  exact nm_r (nI_1 n) ⟨wv, nm_r (by rw [e]) ⟨wv, nm_r (by rw [e]) ⟨wv, nm_r (by rw [e]) ⟨wv, nm_r (by rw [e]) hp⟩⟩⟩⟩
theorem re_ok {k a x : Int32} (h : ∀ y, 1 ≤ y → y ≤ n → db_OK (K y) (A y) (B y)) (hk : db_OK k a x) : ∀ y, 1 ≤ y → y ≤ n + 1 → db_OK (upd K (n + 1) k y) (upd A (n + 1) a y) (upd B (n + 1) x y) := by
  intro y y1 y2
  by_cases e : y = n + 1
  · subst e
    rw [pk_us, pk_us, pk_us]
    exact hk
  · rw [pk_un e, pk_un e, pk_un e]
    exact h y y1 (by omega)
/-! lines and breakpoints -/
theorem re_il1 {post : Int32 → Prop} {x : Nat} (hn : n ≤ 32) (h1 : 1 ≤ x) (hx : x ≤ n) (p : post 1) : wpX_isLine post (xd, xb, nI n, xs, xl, xq, xe, K, A, B, C, P, L, Q, O, bp, vs, cl) (nI x) :=
  br_f (nI_nlt (a := x) (b := 1) (by omega) (by omega)) (br_f (nI_nlt (by omega) (by omega)) p)
theorem re_il0 {post : Int32 → Prop} {v : Int32} (h : v < 1 ∨ (¬ v < 1 ∧ nI n < v)) (p : post 0) : wpX_isLine post (xd, xb, nI n, xs, xl, xq, xe, K, A, B, C, P, L, Q, O, bp, vs, cl) v := by
  rcases h with z | ⟨z1, z2⟩
  · exact br_t z p
  · exact br_f z1 (br_t z2 p)
theorem re_sb (hn : n ≤ 32) (h5 : db_P5 K P (n + 1)) : ∀ g x, n + 1 - x ≤ g → 1 ≤ x → x ≤ n + 1 → ∃ (r : Int32) (bp' : Nat → Int32),
    (∀ post : Int32 → SX → Prop, post r (xd, xb, nI n, xs, xl, xq, xe, K, A, B, C, P, L, Q, O, bp', vs, cl) → ∀ f, g < f → wX_setBreakpoint_19 post xd xb (nI n) xs xl xq xe K A B C P L Q O bp vs cl f (nI x)) ∧
    (∀ post : Int32 → SY → Prop, post r (yd, yb, nI n, ys, ye, yl, yq, K, A, B, C, bp', vs, fr) → ∀ f, g < f → wY_setBreakpoint_24 post yd yb (nI n) ys ye yl yq K A B C bp vs fr f (nI x)) := by
  intro g
  induction g with
  | zero =>
    intro x hg h1 hx
    have hlt : nI n < nI x := nI_lt (by omega) (by omega)
    refine ⟨0, bp, fun post hp f hf => ?_, fun post hp f hf => ?_⟩
    · obtain ⟨f, rfl⟩ : ∃ g, f = g + 1 := ⟨f - 1, by omega⟩
      exact br_t hlt hp
    · obtain ⟨f, rfl⟩ : ∃ g, f = g + 1 := ⟨f - 1, by omega⟩
      exact br_t hlt hp
  | succ g ih =>
    intro x hg h1 hx
    by_cases e : n < x
    · have hlt : nI n < nI x := nI_lt (by omega) (by omega)
      refine ⟨0, bp, fun post hp f hf => ?_, fun post hp f hf => ?_⟩
      · obtain ⟨f, rfl⟩ : ∃ g, f = g + 1 := ⟨f - 1, by omega⟩
        exact br_t hlt hp
      · obtain ⟨f, rfl⟩ : ∃ g, f = g + 1 := ⟨f - 1, by omega⟩
        exact br_t hlt hp
    · have ex : (nI x).toNatClampNeg = x := nI_clamp (by omega)
      have nl : ¬ nI n < nI x := nI_nlt (by omega) (by omega)
      have n32 : ¬ (32 : Int32) < nI x := nI_nlt (a := 32) (b := x) (by omega) (by omega)
      by_cases hE : db_E K x
      · obtain ⟨r, bp', hX, hY⟩ := ih (x + 1) (by omega) (by omega) (by omega)
        refine ⟨r, bp', fun post hp f hf => ?_, fun post hp f hf => ?_⟩
        · obtain ⟨f, rfl⟩ : ∃ g, f = g + 1 := ⟨f - 1, by omega⟩
          exact br_f nl (xa_E1 hn h5 h1 (by omega) hE (br_f (by decide) (nm_r (nI_1 x) (hX post hp f (by omega)))))
        · obtain ⟨f, rfl⟩ : ∃ g, f = g + 1 := ⟨f - 1, by omega⟩
          exact br_f nl (br_f n32 (ya_E1 hn h5 h1 (by omega) hE (br_f (by decide) (nm_r (nI_1 x) (hY post hp f (by omega))))))
      · refine ⟨nI x, upd bp x (vp_nar .boolean 1), fun post hp f hf => ?_, fun post hp f hf => ?_⟩
        · obtain ⟨f, rfl⟩ : ∃ g, f = g + 1 := ⟨f - 1, by omega⟩
          exact br_f nl (xa_E0 hn h5 h1 (by omega) hE (br_t rfl ⟨vp_in_nI (by omega) (by omega), nm_r (by rw [ex]) hp⟩))
        · obtain ⟨f, rfl⟩ : ∃ g, f = g + 1 := ⟨f - 1, by omega⟩
          exact br_f nl (br_f n32 (ya_E0 hn h5 h1 (by omega) hE (br_t rfl ⟨vp_in_nI (by omega) (by omega), nm_r (by rw [ex]) hp⟩)))
/-! resuming, from any related states -/
theorem re_re {m : Nat} (hm : m ≤ 3) (hI : db_R d b n s ln dp ev K A B P L Q bp vs cl fr) : ∃ (r : Int32) (s' ln' dp' : Nat) (ev' : Int32) (vs2 cl2 fr2 : Nat → Int32), db_R d b n s' ln' dp' ev' K A B P L Q bp vs2 cl2 fr2 ∧
    (∀ post : Int32 → SX → Prop, post r (nI d, nI b, nI n, nI s', nI ln', nI dp', ev', K, A, B, C, P, L, Q, O, bp, vs2, cl2) → wpX_resume post (nI d, nI b, nI n, nI s, nI ln, nI dp, ev, K, A, B, C, P, L, Q, O, bp, vs, cl) (nI m)) ∧
    (∀ post : Int32 → SY → Prop, post r (nI d, nI b, nI n, nI s', ev', nI ln', nI dp', K, A, B, C, bp, vs2, fr2) → wpY_resume post (nI d, nI b, nI n, nI s, ev, nI ln, nI dp, K, A, B, C, bp, vs, fr) (nI m)) := by
  have hs4 := re_s4 hI
  have hI' := hI
  obtain ⟨d1, d8, b1, b4, hn, hK0, hOK, hS⟩ := hI
  by_cases h12 : s = 1 ∨ s = 2
  · have hCP : db_CP K A P L Q n := by
      rcases hS with ⟨z, _⟩ | ⟨z, _⟩
      · omega
      · exact z
    have fin : ∀ (s' ln' dp' : Nat) (ev' : Int32) (vs2 cl2 fr2 : Nat → Int32), db_RR K cl2 fr2 n d s' ln' dp' → db_R d b n s' ln' dp' ev' K A B P L Q bp vs2 cl2 fr2 := by
      intro s' ln' dp' ev' vs2 cl2 fr2 hR
      refine ⟨d1, d8, b1, b4, hn, hK0, hOK, Or.inr ⟨hCP, ?_⟩⟩
      rcases hR with ⟨z1, z2, z3⟩ | z
      · exact Or.inl ⟨Or.inr z1, z2, z3⟩
      · exact Or.inr z
    rcases h12 with rfl | rfl
    · rcases hS with ⟨z, _⟩ | ⟨_, ⟨_, rfl, rfl⟩ | ⟨z, _⟩⟩
      · exact absurd z (by decide)
      · obtain ⟨r, s', ln', dp', ev', vs2, cl2, fr2, hR, hX, hY⟩ := rs_1 (C := C) (O := O) (bp := bp) (ev := ev) (vs := vs) (cl := cl) (fr := fr) hn d8 b1 b4 hm hCP hOK hK0
        exact ⟨r, s', ln', dp', ev', vs2, cl2, fr2, fin _ _ _ _ _ _ _ hR, hX, hY⟩
      · exact absurd z (by decide)
    · rcases hS with ⟨z, _⟩ | ⟨_, ⟨z, _⟩ | ⟨_, z⟩⟩
      · exact absurd z (by decide)
      · exact absurd z (by decide)
      · obtain ⟨r, s', ln', dp', ev', vs2, cl2, fr2, hR, hX, hY⟩ := rs_2 (C := C) (O := O) (bp := bp) (ev := ev) (vs := vs) hn d8 b1 b4 hm hCP hOK z
        exact ⟨r, s', ln', dp', ev', vs2, cl2, fr2, fin _ _ _ _ _ _ _ hR, hX, hY⟩
  · have n1 : ¬ nI s = 1 := fun z => h12 (Or.inl ((nI_eq (a := s) (b := 1) (by omega) (by omega)).mp z))
    have n2 : ¬ nI s = 2 := fun z => h12 (Or.inr ((nI_eq (a := s) (b := 2) (by omega) (by omega)).mp z))
    exact ⟨0, s, ln, dp, ev, vs, cl, fr, hI', fun post hp => br_f n1 (br_f n2 hp), fun post hp => br_f n1 (br_f n2 hp)⟩
