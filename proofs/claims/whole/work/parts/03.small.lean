/-! the class's small methods, and its compile beside the reference's -/
variable {xd xb xs xl xq xe : Int32} {yd yb ys ye yl yq : Int32} {K A B C P L Q O bp vs cl fr : Nat → Int32} {n : Nat}
theorem xa_E1 (hn : n ≤ 32) (h5 : db_P5 K P (n + 1)) {xc : Int32} {post : Int32 → Prop} {x : Nat} (h1 : 1 ≤ x) (hx : x ≤ n) (hE : db_E K x) (hp : post 1) : wpX_closesIf post (xd, xb, xc, xs, xl, xq, xe, K, A, B, C, P, L, Q, O, bp, vs, cl) (nI x) := by
  have ex : (nI x).toNatClampNeg = x := nI_clamp (by omega)
  obtain ⟨o, o1, o2, o3, o4, o5⟩ := h5 x h1 (by omega) hE.1
  have eo : (nI o).toNatClampNeg = o := nI_clamp (by omega)
  have hK := hE.2
  rw [o1] at hK
  have w : vp_in (nI x) 34 := vp_in_nI (by omega) (by omega)
  refine ⟨w, ?_⟩
  rw [ex]
  refine br_t hE.1 ⟨w, ?_⟩
  rw [o5, eo]
  exact ⟨vp_in_nI (by omega) (by omega), br_t hK hp⟩
theorem xa_E0 (hn : n ≤ 32) (h5 : db_P5 K P (n + 1)) {xc : Int32} {post : Int32 → Prop} {x : Nat} (h1 : 1 ≤ x) (hx : x ≤ n) (hE : ¬ db_E K x) (hp : post 0) : wpX_closesIf post (xd, xb, xc, xs, xl, xq, xe, K, A, B, C, P, L, Q, O, bp, vs, cl) (nI x) := by
  have ex : (nI x).toNatClampNeg = x := nI_clamp (by omega)
  have w : vp_in (nI x) 34 := vp_in_nI (by omega) (by omega)
  refine ⟨w, ?_⟩
  rw [ex]
  by_cases hk : K x = 5
  · obtain ⟨o, o1, o2, o3, o4, o5⟩ := h5 x h1 (by omega) hk
    have eo : (nI o).toNatClampNeg = o := nI_clamp (by omega)
    have hK : ¬ K o = 3 := fun z => hE ⟨hk, by rw [o1]; exact z⟩
    refine br_t hk ⟨w, ?_⟩
    rw [o5, eo]
    exact ⟨vp_in_nI (by omega) (by omega), br_f hK hp⟩
  · exact br_f hk hp
theorem xa_ob1 {xc : Int32} {post : Int32 → Prop} {x : Nat} (hx : x ≤ 33) (h : K x = 3 ∨ K x = 4 ∨ K x = 6) (p : post 1) : wpX_opensBlock post (xd, xb, xc, xs, xl, xq, xe, K, A, B, C, P, L, Q, O, bp, vs, cl) (nI x) := by
  have ex : K (nI x).toNatClampNeg = K x := by rw [nI_clamp (by omega)]
  refine ⟨vp_in_nI (by omega) (by omega), nm_r ex ?_⟩
  rcases h with h | h | h <;> rw [h]
  · exact br_t rfl p
  · exact br_f (by decide) (br_t rfl p)
  · exact br_f (by decide) (br_f (by decide) (br_t rfl p))
theorem xa_ob0 {xc : Int32} {post : Int32 → Prop} {x : Nat} (hx : x ≤ 33) (h : ¬ (K x = 3 ∨ K x = 4 ∨ K x = 6)) (p : post 0) : wpX_opensBlock post (xd, xb, xc, xs, xl, xq, xe, K, A, B, C, P, L, Q, O, bp, vs, cl) (nI x) := by
  have ex : K (nI x).toNatClampNeg = K x := by rw [nI_clamp (by omega)]
  exact ⟨vp_in_nI (by omega) (by omega), nm_r ex (br_f (fun z => h (Or.inl z)) (br_f (fun z => h (Or.inr (Or.inl z))) (br_f (fun z => h (Or.inr (Or.inr z))) p)))⟩
theorem xa_jb {xc : Int32} {post : SX → Prop} {s x : Nat} (hs : s ≤ 33) (hx : x ≤ 33) (p : post (xd, xb, xc, xs, xl, xq, xe, K, A, B, C, upd (upd P s (nI x)) x (nI s), L, Q, O, bp, vs, cl)) : wpX_joinBlock post (xd, xb, xc, xs, xl, xq, xe, K, A, B, C, P, L, Q, O, bp, vs, cl) (nI s) (nI x) := by
  have es : (nI s).toNatClampNeg = s := nI_clamp (by omega)
  have ex : (nI x).toNatClampNeg = x := nI_clamp (by omega)
  exact ⟨vp_in_nI (by omega) (by omega), nm_r (by rw [es]) ⟨vp_in_nI (by omega) (by omega), nm_r (by rw [ex]) p⟩⟩
theorem xa_fp2 {xc : Int32} (post : SX → Prop) (hp : post (xd, xb, xc, xs, xl, xq, xe, K, A, B, C, P, L, db_z Q 4, O, bp, vs, cl)) : ∀ g i, i + g = 4 → wX_forgetProcedures_2 post xd xb xc xs xl xq xe (g + 1) (nI i) K A B C P L (db_z Q i) O bp vs cl := by
  intro g
  induction g with
  | zero =>
    intro i hi
    have e : i = 4 := by omega
    subst e
    exact br_t (nI_le (a := 4) (b := 4) (by omega) (by omega)) hp
  | succ g ih =>
    intro i hi
    have ex : (nI i).toNatClampNeg = i := nI_clamp (by omega)
    exact br_f (nI_ge (a := i) (b := 4) (by omega) (by omega)) ⟨vp_in_nI (by omega) (by omega), nm_r (by rw [ex]; exact db_zs) (nm_r (nI_1 i) (ih (i + 1) (by omega)))⟩
theorem xa_fp {xc : Int32} {post : SX → Prop} (hp : post (xd, xb, xc, xs, xl, xq, xe, K, A, B, C, P, L, db_z Q 4, O, bp, vs, cl)) : wpX_forgetProcedures post (xd, xb, xc, xs, xl, xq, xe, K, A, B, C, P, L, Q, O, bp, vs, cl) := by
  refine ⟨5, ?_⟩
  have H := xa_fp2 (xd := xd) (xb := xb) (xs := xs) (xl := xl) (xq := xq) (xe := xe) (K := K) (A := A) (B := B) (C := C) (P := P) (L := L) (Q := Q) (O := O) (bp := bp) (vs := vs) (cl := cl) post hp 4 0 (by omega)
  rw [db_z0] at H
  exact H
theorem xa_mr16 {xc : Int32} (post : SX → Prop) (hp : post (xd, xb, xc, xs, xl, xq, xe, K, A, B, C, P, L, Q, O, bp, db_z vs 8, cl)) : ∀ g i, i + g = 8 → wX_makeReady_16 post xd xb xc xs xl xq xe (g + 1) (nI i) K A B C P L Q O bp (db_z vs i) cl := by
  intro g
  induction g with
  | zero =>
    intro i hi
    have e : i = 8 := by omega
    subst e
    exact br_t (nI_le (a := 8) (b := 8) (by omega) (by omega)) hp
  | succ g ih =>
    intro i hi
    have ex : (nI i).toNatClampNeg = i := nI_clamp (by omega)
    exact br_f (nI_ge (a := i) (b := 8) (by omega) (by omega)) ⟨vp_in_nI (by omega) (by omega), nm_r (by rw [ex]; exact db_zs) (nm_r (nI_1 i) (ih (i + 1) (by omega)))⟩
theorem xa_mr {xc : Int32} {post : SX → Prop} (hp : post (xd, xb, xc, 1, 0, 0, 0, K, A, B, C, P, L, Q, O, bp, db_z vs 8, cl)) : wpX_makeReady post (xd, xb, xc, xs, xl, xq, xe, K, A, B, C, P, L, Q, O, bp, vs, cl) := by
  have H := xa_mr16 (xd := xd) (xb := xb) (xc := xc) (xs := 1) (xl := 0) (xq := 0) (xe := 0) (K := K) (A := A) (B := B) (C := C) (P := P) (L := L) (Q := Q) (O := O) (bp := bp) (vs := vs) (cl := cl) post hp 8 0 (by omega)
  rw [db_z0] at H
  exact ⟨9, H⟩
theorem xa_fl (hn : n ≤ 32) (h5 : db_P5 K P (n + 1)) (h1 : db_P1 K P n) (post : SX → Prop) (hp : ∀ L', db_LA K L' n 1 → post (xd, xb, nI n, xs, xl, xq, xe, K, A, B, C, P, L', Q, O, bp, vs, cl)) : ∀ x L f, x < f → x ≤ n → db_LA K L n (x + 1) → wX_findLandings_17 post xd xb (nI n) xs xl xq xe f (nI x) K A B C P L Q O bp vs cl := by
  intro x
  induction x with
  | zero =>
    intro L f hf hx hL
    obtain ⟨f, rfl⟩ : ∃ g, f = g + 1 := ⟨f - 1, by omega⟩
    exact br_t (nI_lt (a := 0) (b := 1) (by omega) (by omega)) (hp L hL)
  | succ x ih =>
    intro L f hf hx hL
    obtain ⟨f, rfl⟩ : ∃ g, f = g + 1 := ⟨f - 1, by omega⟩
    have ex : (nI (x + 1)).toNatClampNeg = x + 1 := nI_clamp (by omega)
    have w : vp_in (nI (x + 1)) 34 := vp_in_nI (by omega) (by omega)
    refine br_f (nI_nlt (a := x + 1) (b := 1) (by omega) (by omega)) ⟨w, ?_⟩
    rw [ex]
    by_cases h6 : K (x + 1) = 6
    · obtain ⟨e, he, h2, h3, h4⟩ := h1 (x + 1) (by omega) hx (Or.inr (Or.inr h6))
      refine br_t h6 ⟨w, ?_⟩
      rw [h4, nI_1 e, nI_clamp (n := e + 1) (by omega)]
      exact ⟨vp_in_nI (by omega) (by omega), w, nm_e (nm_r (pk_m1 x) (ih _ f (by omega) (by omega) (db_la_s h1 hL (by omega) hx (fun _ => by rw [he]) (fun z => absurd h6 z) (fun z => absurd h6 z))))⟩
    · refine br_f h6 ?_
      by_cases hE : db_E K (x + 1)
      · refine xa_E1 hn h5 (by omega) hx hE (br_f (by decide) ?_)
        rw [nI_1 (x + 1), nI_clamp (n := x + 1 + 1) (by omega)]
        exact ⟨vp_in_nI (by omega) (by omega), w, nm_e (nm_r (pk_m1 x) (ih _ f (by omega) (by omega) (db_la_s h1 hL (by omega) hx (fun z => absurd z h6) (fun _ _ => rfl) (fun _ z => absurd hE z))))⟩
      · refine xa_E0 hn h5 (by omega) hx hE (br_t rfl ?_)
        exact ⟨w, nm_e (nm_r (pk_m1 x) (ih _ f (by omega) (by omega) (db_la_s h1 hL (by omega) hx (fun z => absurd z h6) (fun _ z => absurd z hE) (fun _ _ => rfl))))⟩
theorem xa_Fl (hn : n ≤ 32) (h5 : db_P5 K P (n + 1)) (h1 : db_P1 K P n) {post : SX → Prop} (hp : ∀ L', db_LA K L' n 1 → post (xd, xb, nI n, xs, xl, xq, xe, K, A, B, C, P, L', Q, O, bp, vs, cl)) : wpX_findLandings post (xd, xb, nI n, xs, xl, xq, xe, K, A, B, C, P, L, Q, O, bp, vs, cl) := by
  have e : (nI n + 1).toNatClampNeg = n + 1 := by rw [nI_1, nI_clamp (by omega)]
  refine ⟨by rw [nI_1]; exact vp_in_nI (by omega) (by omega), nm_r (by rw [e]) ⟨n + 1, xa_fl hn h5 h1 post hp n _ (n + 1) (by omega) (by omega) db_la_0⟩⟩
/-! the reference's search for a procedure told twice -/
theorem ya_du0 (hn : n ≤ 32) (post : Int32 → SY → Prop) (J : Int32 → Int32 → Prop) {m x : Nat} (hx : x ≤ n) (hd : ∀ y, 1 ≤ y → y < x → ¬ (K y = 6 ∧ A y = A x)) (hJ : J (nI (m + 1)) (nI (x + 1))) : ∀ f y, x - y < f → 1 ≤ y → y ≤ x → wY_compile_66 post J (nI m) (nI x) yd yb (nI n) ys ye yl yq K A B C bp vs fr f (nI y) := by
  intro f
  induction f with
  | zero => intro y hf; exact absurd hf (by omega)
  | succ f ih =>
    intro y hf h1 hy
    by_cases e : y = x
    · subst e
      exact br_t (nI_le (by omega) (by omega)) (nm_r (nI_1 m) (nm_r (nI_1 y) hJ))
    · have ey : (nI y).toNatClampNeg = y := nI_clamp (by omega)
      have ex : (nI x).toNatClampNeg = x := nI_clamp (by omega)
      have w : vp_in (nI y) 33 := vp_in_nI (by omega) (by omega)
      refine br_f (nI_ge (by omega) (by omega)) ⟨w, ?_⟩
      rw [ey, ex]
      have t := ih (y + 1) (by omega) (by omega) (by omega)
      by_cases h6 : K y = 6
      · have ha : ¬ A y = A x := fun z => hd y h1 (by omega) ⟨h6, z⟩
        exact br_t h6 ⟨w, vp_in_nI (by omega) (by omega), br_f ha (nm_r (nI_1 y) t)⟩
      · exact br_f h6 (nm_r (nI_1 y) t)
theorem ya_du1 (hn : n ≤ 32) (post : Int32 → SY → Prop) (J : Int32 → Int32 → Prop) {m x q : Nat} (hx : x ≤ n) (q6 : K q = 6) (qa : A q = A x) (hq : q < x) (hp : post (nI x) (yd, yb, nI n, ys, ye, yl, yq, K, A, B, C, bp, vs, fr)) : ∀ f y, x - y < f → 1 ≤ y → y ≤ q → wY_compile_66 post J (nI m) (nI x) yd yb (nI n) ys ye yl yq K A B C bp vs fr f (nI y) := by
  intro f
  induction f with
  | zero => intro y hf; exact absurd hf (by omega)
  | succ f ih =>
    intro y hf h1 hy
    have ey : (nI y).toNatClampNeg = y := nI_clamp (by omega)
    have ex : (nI x).toNatClampNeg = x := nI_clamp (by omega)
    have w : vp_in (nI y) 33 := vp_in_nI (by omega) (by omega)
    refine br_f (nI_ge (by omega) (by omega)) ⟨w, ?_⟩
    rw [ey, ex]
    by_cases h6 : K y = 6
    · by_cases ha : A y = A x
      · exact br_t h6 ⟨w, vp_in_nI (by omega) (by omega), br_t ha hp⟩
      · have hne : y ≠ q := fun z => ha (by rw [z]; exact qa)
        exact br_t h6 ⟨w, vp_in_nI (by omega) (by omega), br_f ha (nm_r (nI_1 y) (ih (y + 1) (by omega) (by omega) (by omega)))⟩
    · have hne : y ≠ q := fun z => h6 (by rw [z]; exact q6)
      exact br_f h6 (nm_r (nI_1 y) (ih (y + 1) (by omega) (by omega) (by omega)))
