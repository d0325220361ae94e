/-! the reference's searches: each answers the pure search -/
variable {yd yb ys ye yl yq : Int32} {K A B C bp vs fr P L Q : Nat → Int32} {n : Nat}
theorem ya_op1 {yc : Int32} {post : Int32 → Prop} {k : Int32} (h : k = 3 ∨ k = 4 ∨ k = 6) (p : post 1) : wpY_opens post (yd, yb, yc, ys, ye, yl, yq, K, A, B, C, bp, vs, fr) k := by
  rcases h with rfl | rfl | rfl
  · exact br_t rfl p
  · exact br_f (by decide) (br_t rfl p)
  · exact br_f (by decide) (br_f (by decide) (br_t rfl p))
theorem ya_op0 {yc : Int32} {post : Int32 → Prop} {k : Int32} (h : ¬ (k = 3 ∨ k = 4 ∨ k = 6)) (p : post 0) : wpY_opens post (yd, yb, yc, ys, ye, yl, yq, K, A, B, C, bp, vs, fr) k :=
  br_f (fun z => h (Or.inl z)) (br_f (fun z => h (Or.inr (Or.inl z))) (br_f (fun z => h (Or.inr (Or.inr z))) p))
theorem ya_me (hn : n ≤ 32) (post : Int32 → Prop) : ∀ f x o, n + 1 - x < f → 1 ≤ x → o ≤ x → x ≤ n + 1 → post (nI (db_M K n x o)) → wY_matchEnd_6 post yd yb (nI n) ys ye yl yq K A B C bp vs fr f (nI o) (nI x) := by
  intro f
  induction f with
  | zero => intro x o hf; exact absurd hf (by omega)
  | succ f ih =>
    intro x o hf h1 ho hx hp
    by_cases hnx : n < x
    · rw [db_M0 hnx] at hp
      exact br_t (nI_lt hnx (by omega)) hp
    · have ex : (nI x).toNatClampNeg = x := nI_clamp (by omega)
      have w : vp_in (nI x) 33 := vp_in_nI (by omega) (by omega)
      refine br_f (nI_nlt (by omega) (by omega)) (br_f (nI_nlt (a := 32) (b := x) (by omega) (by omega)) ⟨w, ?_⟩)
      rw [ex]
      by_cases h3 : K x = 3 ∨ K x = 4 ∨ K x = 6
      · rw [db_M1 (by omega) (db_c1 h3)] at hp
        exact ya_op1 h3 (br_f (by decide) (nm_r (nI_1 o) (nm_r (nI_1 x) (ih (x + 1) (o + 1) (by omega) (by omega) (by omega) (by omega) hp))))
      · by_cases h5 : K x = 5
        · by_cases h0 : o = 0
          · subst h0
            rw [db_M2z (by omega) (db_c5 h5)] at hp
            exact ya_op0 h3 (br_t rfl ⟨w, br_t h5 (br_t nI_0 hp)⟩)
          · obtain ⟨o', rfl⟩ : ∃ o', o = o' + 1 := ⟨o - 1, by omega⟩
            rw [db_M2s (by omega) (db_c5 h5)] at hp
            exact ya_op0 h3 (br_t rfl ⟨w, br_t h5 (br_f (nI_ne0 (by omega) (by omega)) (nm_r (pk_m1 o') (nm_r (nI_1 x) (ih (x + 1) o' (by omega) (by omega) (by omega) (by omega) hp))))⟩)
        · rw [db_M3 (by omega) (db_c0 h5 h3)] at hp
          exact ya_op0 h3 (br_t rfl ⟨w, br_f h5 (nm_r (nI_1 x) (ih (x + 1) o (by omega) (by omega) (by omega) (by omega) hp))⟩)
theorem ya_Me (hn : n ≤ 32) {post : Int32 → Prop} {l : Nat} (hl : l ≤ n) (hp : post (nI (db_M K n (l + 1) 0))) : wpY_matchEnd post (yd, yb, nI n, ys, ye, yl, yq, K, A, B, C, bp, vs, fr) (nI l) :=
  nm_r (nI_1 l) ⟨n + 2, ya_me hn post (n + 2) (l + 1) 0 (by omega) (by omega) (by omega) (by omega) hp⟩
theorem ya_opn {yc : Int32} (post : Int32 → Prop) : ∀ x c f, x < f → c + x ≤ 64 → x ≤ 32 → post (nI (db_op K x c)) → wY_opener_6 post yd yb yc ys ye yl yq K A B C bp vs fr f (nI c) (nI x) := by
  intro x
  induction x with
  | zero =>
    intro c f hf hc hx hp
    obtain ⟨f, rfl⟩ : ∃ g, f = g + 1 := ⟨f - 1, by omega⟩
    exact br_t (nI_lt (a := 0) (b := 1) (by omega) (by omega)) hp
  | succ x ih =>
    intro c f hf hc hx hp
    obtain ⟨f, rfl⟩ : ∃ g, f = g + 1 := ⟨f - 1, by omega⟩
    have ex : (nI (x + 1)).toNatClampNeg = x + 1 := nI_clamp (by omega)
    have w : vp_in (nI (x + 1)) 33 := vp_in_nI (by omega) (by omega)
    refine br_f (nI_nlt (a := x + 1) (b := 1) (by omega) (by omega)) (br_f (nI_nlt (a := 32) (b := x + 1) (by omega) (by omega)) ⟨w, ?_⟩)
    rw [ex]
    by_cases h5 : K (x + 1) = 5
    · rw [db_o2 (db_c5 h5)] at hp
      exact br_t h5 (nm_r (nI_1 c) (nm_r (pk_m1 x) (ih (c + 1) f (by omega) (by omega) (by omega) hp)))
    · refine br_f h5 ⟨w, ?_⟩
      by_cases h3 : K (x + 1) = 3 ∨ K (x + 1) = 4 ∨ K (x + 1) = 6
      · by_cases h0 : c = 0
        · subst h0
          rw [db_o1z (db_c1 h3)] at hp
          exact ya_op1 h3 (br_f (by decide) (br_t nI_0 hp))
        · obtain ⟨c', rfl⟩ : ∃ c', c = c' + 1 := ⟨c - 1, by omega⟩
          rw [db_o1s (db_c1 h3)] at hp
          exact ya_op1 h3 (br_f (by decide) (br_f (nI_ne0 (by omega) (by omega)) (nm_r (pk_m1 c') (nm_r (pk_m1 x) (ih c' f (by omega) (by omega) (by omega) hp)))))
      · rw [db_o0 (db_c0 h5 h3)] at hp
        exact ya_op0 h3 (br_t rfl (nm_r (pk_m1 x) (ih c f (by omega) (by omega) (by omega) hp)))
theorem ya_Op {yc : Int32} {post : Int32 → Prop} {e : Nat} (h1 : 1 ≤ e) (he : e ≤ 32) (hp : post (nI (db_op K (e - 1) 0))) : wpY_opener post (yd, yb, yc, ys, ye, yl, yq, K, A, B, C, bp, vs, fr) (nI e) := by
  obtain ⟨x, rfl⟩ : ∃ x, e = x + 1 := ⟨e - 1, by omega⟩
  exact nm_r (nI_pred x) ⟨x + 1, ya_opn post x 0 (x + 1) (by omega) (by omega) (by omega) hp⟩
theorem ya_pl (hn : n ≤ 32) (post : Int32 → Prop) {p q : Nat} (hq : db_PP K A p (n + 1) q) (hp : post (nI q)) : ∀ f x, n + 1 - x < f → 1 ≤ x → x ≤ n + 1 → (∀ y, 1 ≤ y → y < x → ¬ (K y = 6 ∧ A y = nI p)) → wY_procLine_2 post (nI p) yd yb (nI n) ys ye yl yq K A B C bp vs fr f (nI x) := by
  intro f
  induction f with
  | zero => intro x hf; exact absurd hf (by omega)
  | succ f ih =>
    intro x hf h1 hx hy
    by_cases hnx : n < x
    · have q0 : q = 0 := by
        rcases hq with ⟨z, _⟩ | ⟨z1, z2, z3, z4, _⟩
        · exact z
        · exact absurd ⟨z3, z4⟩ (hy q z1 (by omega))
      rw [q0] at hp
      exact br_t (nI_lt hnx (by omega)) hp
    · have ex : (nI x).toNatClampNeg = x := nI_clamp (by omega)
      have w : vp_in (nI x) 33 := vp_in_nI (by omega) (by omega)
      refine br_f (nI_nlt (by omega) (by omega)) (br_f (nI_nlt (a := 32) (b := x) (by omega) (by omega)) ⟨w, ?_⟩)
      rw [ex]
      by_cases h6 : K x = 6
      · by_cases ha : A x = nI p
        · have qx : q = x := by
            rcases hq with ⟨_, z⟩ | ⟨z1, z2, z3, z4, z5⟩
            · exact absurd ⟨h6, ha⟩ (z x h1 (by omega))
            · rcases Nat.lt_trichotomy q x with l | l | l
              · exact absurd ⟨z3, z4⟩ (hy q z1 l)
              · exact l
              · exact absurd ⟨h6, ha⟩ (z5 x h1 l)
          rw [qx] at hp
          exact br_t h6 ⟨w, br_t ha hp⟩
        · exact br_t h6 ⟨w, br_f ha (nm_r (nI_1 x) (ih (x + 1) (by omega) (by omega) (by omega) (fun y y1 y2 => by
            by_cases e : y = x
            · subst e
              exact fun z => ha z.2
            · exact hy y y1 (by omega))))⟩
      · exact br_f h6 (nm_r (nI_1 x) (ih (x + 1) (by omega) (by omega) (by omega) (fun y y1 y2 => by
            by_cases e : y = x
            · subst e
              exact fun z => h6 z.1
            · exact hy y y1 (by omega))))
theorem ya_Pl (hn : n ≤ 32) {post : Int32 → Prop} {p q : Nat} (hq : db_PP K A p (n + 1) q) (hp : post (nI q)) : wpY_procLine post (yd, yb, nI n, ys, ye, yl, yq, K, A, B, C, bp, vs, fr) (nI p) :=
  ⟨n + 2, ya_pl hn post hq hp (n + 2) 1 (by omega) (by omega) (by omega) (fun y y1 y2 => absurd y2 (by omega))⟩
theorem ya_E1 (hn : n ≤ 32) (h5 : db_P5 K P (n + 1)) {post : Int32 → Prop} {x : Nat} (h1 : 1 ≤ x) (hx : x ≤ n) (hE : db_E K x) (hp : post 1) : wpY_endOfIf post (yd, yb, nI n, ys, ye, yl, yq, K, A, B, C, bp, vs, fr) (nI x) := by
  have ex : (nI x).toNatClampNeg = x := nI_clamp (by omega)
  obtain ⟨o, o1, o2, o3, o4, _⟩ := h5 x h1 (by omega) hE.1
  have eo : (nI o).toNatClampNeg = o := nI_clamp (by omega)
  have hK := hE.2
  rw [o1] at hK
  refine ⟨vp_in_nI (by omega) (by omega), ?_⟩
  rw [ex]
  refine br_t hE.1 (ya_Op h1 (by omega) ?_)
  rw [o1]
  refine br_f (nI_ne0 (by omega) (by omega)) ⟨vp_in_nI (by omega) (by omega), ?_⟩
  rw [eo]
  exact br_t hK hp
theorem ya_E0 (hn : n ≤ 32) (h5 : db_P5 K P (n + 1)) {post : Int32 → Prop} {x : Nat} (h1 : 1 ≤ x) (hx : x ≤ n) (hE : ¬ db_E K x) (hp : post 0) : wpY_endOfIf post (yd, yb, nI n, ys, ye, yl, yq, K, A, B, C, bp, vs, fr) (nI x) := by
  have ex : (nI x).toNatClampNeg = x := nI_clamp (by omega)
  refine ⟨vp_in_nI (by omega) (by omega), ?_⟩
  rw [ex]
  by_cases hk : K x = 5
  · obtain ⟨o, o1, o2, o3, o4, _⟩ := h5 x h1 (by omega) hk
    have eo : (nI o).toNatClampNeg = o := nI_clamp (by omega)
    have hK : ¬ K o = 3 := fun z => hE ⟨hk, by rw [o1]; exact z⟩
    refine br_t hk (ya_Op h1 (by omega) ?_)
    rw [o1]
    refine br_f (nI_ne0 (by omega) (by omega)) ⟨vp_in_nI (by omega) (by omega), ?_⟩
    rw [eo]
    exact br_f hK hp
  · exact br_f hk hp
theorem ya_su (hn : n ≤ 32) (h : db_CP K A P L Q n) (post : Int32 → Prop) : ∀ f x i, n + 1 - x < f → 1 ≤ x → x ≤ n + 1 → i + (n + 1 - x) ≤ 63 → post (L x) → wY_succ_6 post yd yb (nI n) ys ye yl yq K A B C bp vs fr f (nI x) (nI i) := by
  intro f
  induction f with
  | zero => intro x i hf; exact absurd hf (by omega)
  | succ f ih =>
    intro x i hf h1 hx hi hp
    refine br_f (nI_ge (a := i) (b := 64) (by omega) (by omega)) (br_f (nI_nlt (a := x) (b := 1) (by omega) (by omega)) ?_)
    by_cases hnx : n < x
    · have e : x = n + 1 := by omega
      rw [e, h.2.2.1.1] at hp
      exact br_t (nI_lt hnx (by omega)) hp
    · have ex : (nI x).toNatClampNeg = x := nI_clamp (by omega)
      have w : vp_in (nI x) 33 := vp_in_nI (by omega) (by omega)
      have hl := h.2.2.1.2 x h1 h1 (by omega)
      refine br_f (nI_nlt (by omega) (by omega)) (br_t (nI_le (a := x) (b := 32) (by omega) (by omega)) ⟨w, ?_⟩)
      rw [ex]
      by_cases h6 : K x = 6
      · obtain ⟨e, he, h2, h3, _⟩ := h.2.1 x h1 (by omega) (Or.inr (Or.inr h6))
        rw [hl.1 h6, he] at hp
        refine br_t h6 (ya_Me hn (by omega) ?_)
        rw [he]
        exact br_f (nI_ne0 (by omega) (by omega)) (nm_r (nI_1 e) (nm_r (nI_1 i) (ih (e + 1) (i + 1) (by omega) (by omega) (by omega) (by omega) hp)))
      · by_cases hE : db_E K x
        · rw [hl.2.1 h6 hE] at hp
          exact br_f h6 (ya_E1 hn h.1 h1 (by omega) hE (br_f (by decide) (nm_r (nI_1 x) (nm_r (nI_1 i) (ih (x + 1) (i + 1) (by omega) (by omega) (by omega) (by omega) hp)))))
        · rw [hl.2.2 h6 hE] at hp
          exact br_f h6 (ya_E0 hn h.1 h1 (by omega) hE (br_t rfl hp))
theorem ya_Su (hn : n ≤ 32) (h : db_CP K A P L Q n) {post : Int32 → Prop} {l : Nat} (hl : l ≤ n) (hp : post (L (l + 1))) : wpY_succ post (yd, yb, nI n, ys, ye, yl, yq, K, A, B, C, bp, vs, fr) (nI l) :=
  nm_r (nI_1 l) ⟨n + 2, ya_su hn h post (n + 2) (l + 1) 0 (by omega) (by omega) (by omega) (by omega) hp⟩
theorem ya_mv0 {yc : Int32} {post : Int32 → SY → Prop} (hp : post 1 (yd, yb, yc, ys, ye, yl, yq, K, A, B, C, bp, vs, fr)) : wpY_moveTo post (yd, yb, yc, ys, ye, yl, yq, K, A, B, C, bp, vs, fr) (nI 0) := br_t nI_0 hp
theorem ya_mv1 {yc : Int32} {post : Int32 → SY → Prop} {q : Nat} (h1 : 1 ≤ q) (hq : q ≤ 32) (hp : post 0 (yd, yb, yc, ys, ye, nI q, yq, K, A, B, C, bp, vs, fr)) : wpY_moveTo post (yd, yb, yc, ys, ye, yl, yq, K, A, B, C, bp, vs, fr) (nI q) := br_f (nI_ne0 (by omega) (by omega)) hp
theorem ya_rs43 {yc : Int32} (post : SY → Prop) (hp : post (yd, yb, yc, ys, ye, yl, yq, K, A, B, C, bp, vs, db_z fr 9)) : ∀ g i, i + g = 9 → wY_reset_43 post yd yb yc ys ye yl yq (g + 1) (nI i) K A B C bp vs (db_z fr i) := by
  intro g
  induction g with
  | zero =>
    intro i hi
    have e : i = 9 := by omega
    subst e
    exact br_t (nI_le (a := 9) (b := 9) (by omega) (by omega)) hp
  | succ g ih =>
    intro i hi
    have ex : (nI i).toNatClampNeg = i := nI_clamp (by omega)
    refine br_f (nI_ge (a := i) (b := 9) (by omega) (by omega)) ⟨vp_in_nI (by omega) (by omega), nm_r (by rw [ex]; exact db_zs) (nm_r (nI_1 i) (ih (i + 1) (by omega)))⟩
theorem ya_rs22 {yc : Int32} (post : SY → Prop) (hp : post (yd, yb, yc, ys, ye, yl, yq, K, A, B, C, bp, db_z vs 8, db_z fr 9)) : ∀ g i, i + g = 8 → wY_reset_22 post yd yb yc ys ye yl yq (g + 1) (nI i) K A B C bp (db_z vs i) fr := by
  intro g
  induction g with
  | zero =>
    intro i hi
    have e : i = 8 := by omega
    subst e
    refine br_t (nI_le (a := 8) (b := 8) (by omega) (by omega)) ⟨10, ?_⟩
    have H := ya_rs43 (yd := yd) (yb := yb) (yc := yc) (ys := ys) (ye := ye) (yl := yl) (yq := yq) (K := K) (A := A) (B := B) (C := C) (bp := bp) (vs := db_z vs 8) (fr := fr) post hp 9 0 (by omega)
    rw [db_z0] at H
    exact H
  | succ g ih =>
    intro i hi
    have ex : (nI i).toNatClampNeg = i := nI_clamp (by omega)
    refine br_f (nI_ge (a := i) (b := 8) (by omega) (by omega)) ⟨vp_in_nI (by omega) (by omega), nm_r (by rw [ex]; exact db_zs) (nm_r (nI_1 i) (ih (i + 1) (by omega)))⟩
theorem ya_rs {yc : Int32} {post : SY → Prop} (hp : post (yd, yb, yc, 1, 0, 0, 0, K, A, B, C, bp, db_z vs 8, db_z fr 9)) : wpY_reset post (yd, yb, yc, ys, ye, yl, yq, K, A, B, C, bp, vs, fr) := by
  refine ⟨9, ?_⟩
  have H := ya_rs22 (yd := yd) (yb := yb) (yc := yc) (ys := 1) (ye := 0) (yl := 0) (yq := 0) (K := K) (A := A) (B := B) (C := C) (bp := bp) (vs := vs) (fr := fr) post hp 8 0 (by omega)
  rw [db_z0] at H
  exact H
