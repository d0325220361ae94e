/-! compile: the class's matching beside the reference's, line by line -/
variable {xd xb xs xl xq xe : Int32} {yd yb ys ye yl yq : Int32} {K A B C P L Q O bp vs cl fr : Nat → Int32} {n : Nat}
theorem cm_pr {m x : Nat} (h : db_IV K A O P Q n x m) : db_PR K A Q x := by
  obtain ⟨S, _, _, _, _, hp⟩ := h
  exact hp
theorem cm_end (hn : n ≤ 32) {m : Nat} (h : db_IV K A O P Q n (n + 1) m) : ∃ (r : Int32) (O' P' Q' : Nat → Int32), ((r = 0 ∧ db_P5 K P' (n + 1) ∧ db_P1 K P' n ∧ db_PR K A Q' (n + 1)) ∨ ¬ r = 0) ∧
    (∀ (post : Int32 → SX → Prop), post r (xd, xb, nI n, xs, xl, xq, xe, K, A, B, C, P', L, Q', O', bp, vs, cl) → ∀ f, wX_matchBlocks_8 post (f + 1) (nI m) (nI (n + 1)) xd xb (nI n) xs xl xq xe K A B C P L Q O bp vs cl) ∧
    (∀ (post : Int32 → SY → Prop), (r = 0 → ∃ n146, wY_compile_146 post yd yb (nI n) ys ye yl yq K A B C bp vs fr n146 1) → (¬ r = 0 → post r (yd, yb, nI n, ys, ye, yl, yq, K, A, B, C, bp, vs, fr)) → ∀ f, wY_compile_13 post yd yb (nI n) ys ye yl yq K A B C bp vs fr (f + 1) (nI m) (nI (n + 1))) := by
  have hm := db_iv_m h (by omega)
  have hlt : nI n < nI (n + 1) := nI_lt (by omega) (by omega)
  by_cases m0 : m = 0
  · subst m0
    have hz : nI 0 ≤ 0 := nI_le (a := 0) (b := 0) (by omega) (by omega)
    exact ⟨0, O, P, Q, Or.inl ⟨rfl, db_iv_z h⟩, fun post hp f => br_t hlt (br_t hz hp), fun post h0 h1 f => br_t hlt (br_t hz (h0 rfl))⟩
  · have hz : ¬ nI m ≤ 0 := nI_nle (by omega) (by omega)
    have hne : ¬ nI (n + 1) = 0 := nI_ne0 (by omega) (by omega)
    exact ⟨nI (n + 1), O, P, Q, Or.inr hne, fun post hp f => br_t hlt (br_f hz (by rw [nI_1]; exact hp)), fun post h0 h1 f => br_t hlt (br_f hz (by rw [nI_1]; exact h1 hne))⟩
theorem cm_mb (hn : n ≤ 32) (hOK : ∀ x, 1 ≤ x → x ≤ n → db_OK (K x) (A x) (B x)) : ∀ g x m (O P Q : Nat → Int32), n + 1 - x ≤ g → 1 ≤ x → x ≤ n + 1 → db_IV K A O P Q n x m → ∃ (r : Int32) (O' P' Q' : Nat → Int32), ((r = 0 ∧ db_P5 K P' (n + 1) ∧ db_P1 K P' n ∧ db_PR K A Q' (n + 1)) ∨ ¬ r = 0) ∧
    (∀ (post : Int32 → SX → Prop), post r (xd, xb, nI n, xs, xl, xq, xe, K, A, B, C, P', L, Q', O', bp, vs, cl) → ∀ f, g < f → wX_matchBlocks_8 post f (nI m) (nI x) xd xb (nI n) xs xl xq xe K A B C P L Q O bp vs cl) ∧
    (∀ (post : Int32 → SY → Prop), (r = 0 → ∃ n146, wY_compile_146 post yd yb (nI n) ys ye yl yq K A B C bp vs fr n146 1) → (¬ r = 0 → post r (yd, yb, nI n, ys, ye, yl, yq, K, A, B, C, bp, vs, fr)) → ∀ f, g < f → wY_compile_13 post yd yb (nI n) ys ye yl yq K A B C bp vs fr f (nI m) (nI x)) := by
  intro g
  induction g with
  | zero =>
    intro x m O P Q hg h1 hx h
    have e : x = n + 1 := by omega
    subst e
    obtain ⟨r, O', P', Q', hr, hX, hY⟩ := cm_end (xd := xd) (xb := xb) (xs := xs) (xl := xl) (xq := xq) (xe := xe) (yd := yd) (yb := yb) (ys := ys) (ye := ye) (yl := yl) (yq := yq) (B := B) (C := C) (L := L) (bp := bp) (vs := vs) (cl := cl) (fr := fr) hn h
    refine ⟨r, O', P', Q', hr, fun post hp f hf => ?_, fun post h0 h1 f hf => ?_⟩
    · obtain ⟨f, rfl⟩ : ∃ g, f = g + 1 := ⟨f - 1, by omega⟩
      exact hX post hp f
    · obtain ⟨f, rfl⟩ : ∃ g, f = g + 1 := ⟨f - 1, by omega⟩
      exact hY post h0 h1 f
  | succ g ih =>
    intro x m O P Q hg h1 hx h
    by_cases e : x = n + 1
    · subst e
      obtain ⟨r, O', P', Q', hr, hX, hY⟩ := cm_end (xd := xd) (xb := xb) (xs := xs) (xl := xl) (xq := xq) (xe := xe) (yd := yd) (yb := yb) (ys := ys) (ye := ye) (yl := yl) (yq := yq) (B := B) (C := C) (L := L) (bp := bp) (vs := vs) (cl := cl) (fr := fr) hn h
      refine ⟨r, O', P', Q', hr, fun post hp f hf => ?_, fun post h0 h1 f hf => ?_⟩
      · obtain ⟨f, rfl⟩ : ∃ g, f = g + 1 := ⟨f - 1, by omega⟩
        exact hX post hp f
      · obtain ⟨f, rfl⟩ : ∃ g, f = g + 1 := ⟨f - 1, by omega⟩
        exact hY post h0 h1 f
    · have hxn : x ≤ n := by omega
      have hm := db_iv_m h h1
      have ex : (nI x).toNatClampNeg = x := nI_clamp (by omega)
      have w : vp_in (nI x) 34 := vp_in_nI (by omega) (by omega)
      have w' : vp_in (nI x) 33 := vp_in_nI (by omega) (by omega)
      have nl : ¬ nI n < nI x := nI_nlt (by omega) (by omega)
      have n32 : ¬ (32 : Int32) < nI x := nI_nlt (a := 32) (b := x) (by omega) (by omega)
      have hne : ¬ nI x = 0 := nI_ne0 (by omega) (by omega)
      have hnm : ∀ j, (nI m).toNatClampNeg = j → m = j := fun j z => by rw [nI_clamp (by omega)] at z; exact z
      have em : (nI m).toNatClampNeg = m := nI_clamp (by omega)
      have wm : vp_in (nI m) 34 := vp_in_nI (by omega) (by omega)
      by_cases h6 : K x = 6
      · obtain ⟨p, p4, ha⟩ := (hOK x h1 hxn).2.2.2 (Or.inl h6)
        obtain ⟨q, hQ, hPP⟩ := cm_pr h p p4
        have ep : (nI p).toNatClampNeg = p := nI_clamp (by omega)
        have wp : vp_in (nI p) 4 := vp_in_nI (by omega) (by omega)
        have ky : K (nI x).toNatClampNeg = 6 := by rw [ex]; exact h6
        by_cases m0 : m = 0
        · subst m0
          have nz : ¬ (0 : Int32) < nI 0 := nI_nlt (a := 0) (b := 0) (by omega) (by omega)
          have hz : nI 0 ≤ 0 := nI_le (a := 0) (b := 0) (by omega) (by omega)
          by_cases q0 : q = 0
          · subst q0
            have hQ0 : Q p = 0 := hQ
            obtain ⟨r, O', P', Q', hr, hX, hY⟩ := ih (x + 1) 1 (upd O 0 (nI x)) P (upd Q p (nI x)) (by omega) (by omega) (by omega) (db_iv_o h h1 (db_c1 (Or.inr (Or.inr h6))) (db_PRx (cm_pr h) h1 (by omega) p4 h6 ha hQ0))
            refine ⟨r, O', P', Q', hr, fun post hp f hf => ?_, fun post h0 h1' f hf => ?_⟩
            · obtain ⟨f, rfl⟩ : ∃ g, f = g + 1 := ⟨f - 1, by omega⟩
              refine br_f nl ⟨w, ?_⟩
              rw [ex]
              refine br_t h6 (br_f nz ⟨w, ?_⟩)
              rw [ha, ep]
              refine ⟨wp, br_t hQ0 ⟨w, wp, nm_e ?_⟩⟩
              unfold wX_matchBlocks_59
              exact xa_ob1 (by omega) (Or.inr (Or.inr h6)) (br_f (by decide) ⟨wm, nm_r (by rw [em]) (nm_r (nI_1 0) (nm_r (nI_1 x) (hX post hp f (by omega))))⟩)
            · obtain ⟨f, rfl⟩ : ∃ g, f = g + 1 := ⟨f - 1, by omega⟩
              refine br_f nl (br_f n32 ⟨w', nm_r ky (br_f (by decide) (br_t rfl (br_t hz ⟨x, ?_⟩)))⟩)
              refine ya_du0 (n := n) (m := 0) (x := x) hn post _ hxn (fun y y1 y2 z => ?_) (hY post h0 h1' f (by omega)) x 1 (by omega) (by omega) (by omega)
              rcases hPP with ⟨_, zz⟩ | ⟨zz, _⟩
              · exact zz y y1 y2 ⟨z.1, z.2.trans ha⟩
              · exact absurd zz (by decide)
          · have hQ0 : ¬ Q p = 0 := by
              rw [hQ]
              rcases hPP with ⟨z, _⟩ | ⟨z1, z2, _⟩
              · exact absurd z q0
              · exact nI_ne0 (by omega) (by omega)
            refine ⟨nI x, O, P, Q, Or.inr hne, fun post hp f hf => ?_, fun post h0 h1' f hf => ?_⟩
            · obtain ⟨f, rfl⟩ : ∃ g, f = g + 1 := ⟨f - 1, by omega⟩
              refine br_f nl ⟨w, ?_⟩
              rw [ex]
              refine br_t h6 (br_f nz ⟨w, ?_⟩)
              rw [ha, ep]
              exact ⟨wp, br_f hQ0 hp⟩
            · obtain ⟨f, rfl⟩ : ∃ g, f = g + 1 := ⟨f - 1, by omega⟩
              refine br_f nl (br_f n32 ⟨w', nm_r ky (br_f (by decide) (br_t rfl (br_t hz ⟨x, ?_⟩)))⟩)
              rcases hPP with ⟨z, _⟩ | ⟨z1, z2, z3, z4, _⟩
              · exact absurd z q0
              · exact ya_du1 (n := n) (m := 0) (x := x) (q := q) hn post _ hxn z3 (z4.trans ha.symm) z2 (h1' hne) x 1 (by omega) (by omega) (by omega)
        · have nz : (0 : Int32) < nI m := nI_lt (a := 0) (b := m) (by omega) (by omega)
          have hz : ¬ nI m ≤ 0 := nI_nle (by omega) (by omega)
          refine ⟨nI x, O, P, Q, Or.inr hne, fun post hp f hf => ?_, fun post h0 h1' f hf => ?_⟩
          · obtain ⟨f, rfl⟩ : ∃ g, f = g + 1 := ⟨f - 1, by omega⟩
            refine br_f nl ⟨w, ?_⟩
            rw [ex]
            exact br_t h6 (br_t nz hp)
          · obtain ⟨f, rfl⟩ : ∃ g, f = g + 1 := ⟨f - 1, by omega⟩
            exact br_f nl (br_f n32 ⟨w', nm_r ky (br_f (by decide) (br_t rfl (br_f hz (h1' hne))))⟩)
      · by_cases h34 : K x = 3 ∨ K x = 4
        · have ho : K x = 3 ∨ K x = 4 ∨ K x = 6 := by
            rcases h34 with z | z
            · exact Or.inl z
            · exact Or.inr (Or.inl z)
          obtain ⟨r, O', P', Q', hr, hX, hY⟩ := ih (x + 1) (m + 1) (upd O m (nI x)) P Q (by omega) (by omega) (by omega) (db_iv_o h h1 (db_c1 ho) (db_PRn (cm_pr h) h6))
          refine ⟨r, O', P', Q', hr, fun post hp f hf => ?_, fun post h0 h1' f hf => ?_⟩
          · obtain ⟨f, rfl⟩ : ∃ g, f = g + 1 := ⟨f - 1, by omega⟩
            refine br_f nl ⟨w, ?_⟩
            rw [ex]
            refine br_f h6 ?_
            unfold wX_matchBlocks_59
            exact xa_ob1 (by omega) ho (br_f (by decide) ⟨wm, nm_r (by rw [em]) (nm_r (nI_1 m) (nm_r (nI_1 x) (hX post hp f (by omega))))⟩)
          · obtain ⟨f, rfl⟩ : ∃ g, f = g + 1 := ⟨f - 1, by omega⟩
            have t := hY post h0 h1' f (by omega)
            rcases h34 with z | z
            · exact br_f nl (br_f n32 ⟨w', nm_r (by rw [ex]; exact z) (br_f (by decide) (br_f (by decide) (br_t rfl (nm_r (nI_1 m) (nm_r (nI_1 x) t)))))⟩)
            · exact br_f nl (br_f n32 ⟨w', nm_r (by rw [ex]; exact z) (br_f (by decide) (br_f (by decide) (br_f (by decide) (br_t rfl (nm_r (nI_1 m) (nm_r (nI_1 x) t))))))⟩)
        · have hno : ¬ (K x = 3 ∨ K x = 4 ∨ K x = 6) := by
            intro z
            rcases z with z | z | z
            · exact h34 (Or.inl z)
            · exact h34 (Or.inr z)
            · exact h6 z
          by_cases h5 : K x = 5
          · by_cases m0 : m = 0
            · subst m0
              refine ⟨nI x, O, P, Q, Or.inr hne, fun post hp f hf => ?_, fun post h0 h1' f hf => ?_⟩
              · obtain ⟨f, rfl⟩ : ∃ g, f = g + 1 := ⟨f - 1, by omega⟩
                refine br_f nl ⟨w, ?_⟩
                rw [ex]
                refine br_f h6 ?_
                unfold wX_matchBlocks_59
                refine xa_ob0 (by omega) hno (br_t rfl ⟨w, ?_⟩)
                rw [ex]
                exact br_t h5 (br_t nI_0 hp)
              · obtain ⟨f, rfl⟩ : ∃ g, f = g + 1 := ⟨f - 1, by omega⟩
                exact br_f nl (br_f n32 ⟨w', nm_r (by rw [ex]; exact h5) (br_t rfl (br_t nI_0 (h1' hne)))⟩)
            · obtain ⟨j, rfl⟩ : ∃ j, m = j + 1 := ⟨m - 1, by omega⟩
              obtain ⟨s, hO, s1, s2, hIV⟩ := db_iv_e h h1 hxn h5
              obtain ⟨r, O', P', Q', hr, hX, hY⟩ := ih (x + 1) j O (upd (upd P s (nI x)) x (nI s)) Q (by omega) (by omega) (by omega) hIV
              have mne : ¬ nI (j + 1) = 0 := nI_ne0 (by omega) (by omega)
              have ej : (nI j).toNatClampNeg = j := nI_clamp (by omega)
              refine ⟨r, O', P', Q', hr, fun post hp f hf => ?_, fun post h0 h1' f hf => ?_⟩
              · obtain ⟨f, rfl⟩ : ∃ g, f = g + 1 := ⟨f - 1, by omega⟩
                refine br_f nl ⟨w, ?_⟩
                rw [ex]
                refine br_f h6 ?_
                unfold wX_matchBlocks_59
                refine xa_ob0 (by omega) hno (br_t rfl ⟨w, ?_⟩)
                rw [ex]
                refine br_t h5 (br_f mne (nm_r (pk_m1 j) ⟨vp_in_nI (by omega) (by omega), ?_⟩))
                rw [ej, hO]
                exact xa_jb (by omega) (by omega) (nm_r (nI_1 x) (hX post hp f (by omega)))
              · obtain ⟨f, rfl⟩ : ∃ g, f = g + 1 := ⟨f - 1, by omega⟩
                exact br_f nl (br_f n32 ⟨w', nm_r (by rw [ex]; exact h5) (br_t rfl (br_f mne (nm_r (pk_m1 j) (nm_r (nI_1 x) (hY post h0 h1' f (by omega))))))⟩)
          · obtain ⟨r, O', P', Q', hr, hX, hY⟩ := ih (x + 1) m O P Q (by omega) (by omega) (by omega) (db_iv_n h h1 hxn (db_c0 h5 hno))
            refine ⟨r, O', P', Q', hr, fun post hp f hf => ?_, fun post h0 h1' f hf => ?_⟩
            · obtain ⟨f, rfl⟩ : ∃ g, f = g + 1 := ⟨f - 1, by omega⟩
              refine br_f nl ⟨w, ?_⟩
              rw [ex]
              refine br_f h6 ?_
              unfold wX_matchBlocks_59
              refine xa_ob0 (by omega) hno (br_t rfl ⟨w, ?_⟩)
              rw [ex]
              exact br_f h5 (nm_r (nI_1 x) (hX post hp f (by omega)))
            · obtain ⟨f, rfl⟩ : ∃ g, f = g + 1 := ⟨f - 1, by omega⟩
              refine br_f nl (br_f n32 ⟨w', nm_r (by rw [ex]) (br_f h5 (br_f h6 (br_f (fun z => h34 (Or.inl z)) (br_f (fun z => h34 (Or.inr z)) (nm_r (nI_1 x) (hY post h0 h1' f (by omega)))))))⟩)
theorem cm_fc (hn : n ≤ 32) (hOK : ∀ x, 1 ≤ x → x ≤ n → db_OK (K x) (A x) (B x)) (hPR : db_PR K A Q (n + 1)) : ∀ g x, n + 1 - x ≤ g → 1 ≤ x → x ≤ n + 1 → ∃ r : Int32,
    (∀ (post : Int32 → Prop), post r → ∀ f, g < f → wX_firstCallOfNoProcedure_2 post xd xb (nI n) xs xl xq xe K A B C P L Q O bp vs cl f (nI x)) ∧
    (∀ (post : Int32 → SY → Prop), (r = 0 → ∃ n194, wY_compile_194 post yd yb (nI n) ys ye yl yq n194 0 K A B C bp vs fr) → (¬ r = 0 → post r (yd, yb, nI n, ys, ye, yl, yq, K, A, B, C, bp, vs, fr)) → ∀ f, g < f → wY_compile_146 post yd yb (nI n) ys ye yl yq K A B C bp vs fr f (nI x)) := by
  intro g
  induction g with
  | zero =>
    intro x hg h1 hx
    have hlt : nI n < nI x := nI_lt (by omega) (by omega)
    refine ⟨0, fun post hp f hf => ?_, fun post h0 h1' f hf => ?_⟩
    · obtain ⟨f, rfl⟩ : ∃ g, f = g + 1 := ⟨f - 1, by omega⟩
      exact br_t hlt hp
    · obtain ⟨f, rfl⟩ : ∃ g, f = g + 1 := ⟨f - 1, by omega⟩
      exact br_t hlt (h0 rfl)
  | succ g ih =>
    intro x hg h1 hx
    by_cases e : n < x
    · have hlt : nI n < nI x := nI_lt (by omega) (by omega)
      refine ⟨0, fun post hp f hf => ?_, fun post h0 h1' f hf => ?_⟩
      · obtain ⟨f, rfl⟩ : ∃ g, f = g + 1 := ⟨f - 1, by omega⟩
        exact br_t hlt hp
      · obtain ⟨f, rfl⟩ : ∃ g, f = g + 1 := ⟨f - 1, by omega⟩
        exact br_t hlt (h0 rfl)
    · have ex : (nI x).toNatClampNeg = x := nI_clamp (by omega)
      have w : vp_in (nI x) 34 := vp_in_nI (by omega) (by omega)
      have w' : vp_in (nI x) 33 := vp_in_nI (by omega) (by omega)
      have nl : ¬ nI n < nI x := nI_nlt (by omega) (by omega)
      have n32 : ¬ (32 : Int32) < nI x := nI_nlt (a := 32) (b := x) (by omega) (by omega)
      have hne : ¬ nI x = 0 := nI_ne0 (by omega) (by omega)
      obtain ⟨r, hX, hY⟩ := ih (x + 1) (by omega) (by omega) (by omega)
      by_cases h7 : K x = 7
      · obtain ⟨p, p4, ha⟩ := (hOK x h1 (by omega)).2.2.2 (Or.inr h7)
        obtain ⟨q, hQ, hPP⟩ := hPR p p4
        have ep : (nI p).toNatClampNeg = p := nI_clamp (by omega)
        have wp : vp_in (nI p) 4 := vp_in_nI (by omega) (by omega)
        have hqn : q ≤ n := by
          rcases hPP with ⟨z, _⟩ | ⟨_, z, _⟩ <;> omega
        by_cases q0 : q = 0
        · subst q0
          refine ⟨nI x, fun post hp f hf => ?_, fun post h0 h1' f hf => ?_⟩
          · obtain ⟨f, rfl⟩ : ∃ g, f = g + 1 := ⟨f - 1, by omega⟩
            refine br_f nl ⟨w, ?_⟩
            rw [ex]
            refine br_t h7 ⟨w, ?_⟩
            rw [ha, ep]
            exact ⟨wp, br_t hQ hp⟩
          · obtain ⟨f, rfl⟩ : ∃ g, f = g + 1 := ⟨f - 1, by omega⟩
            refine br_f nl (br_f n32 ⟨w', ?_⟩)
            rw [ex]
            refine br_t h7 ⟨w', ?_⟩
            rw [ha]
            exact ya_Pl hn hPP (br_t nI_0 (h1' hne))
        · have hq0 : ¬ nI q = 0 := nI_ne0 (by omega) (by omega)
          refine ⟨r, fun post hp f hf => ?_, fun post h0 h1' f hf => ?_⟩
          · obtain ⟨f, rfl⟩ : ∃ g, f = g + 1 := ⟨f - 1, by omega⟩
            refine br_f nl ⟨w, ?_⟩
            rw [ex]
            refine br_t h7 ⟨w, ?_⟩
            rw [ha, ep]
            exact ⟨wp, br_f (by rw [hQ]; exact hq0) (nm_r (nI_1 x) (hX post hp f (by omega)))⟩
          · obtain ⟨f, rfl⟩ : ∃ g, f = g + 1 := ⟨f - 1, by omega⟩
            refine br_f nl (br_f n32 ⟨w', ?_⟩)
            rw [ex]
            refine br_t h7 ⟨w', ?_⟩
            rw [ha]
            exact ya_Pl hn hPP (br_f hq0 (nm_r (nI_1 x) (hY post h0 h1' f (by omega))))
      · refine ⟨r, fun post hp f hf => ?_, fun post h0 h1' f hf => ?_⟩
        · obtain ⟨f, rfl⟩ : ∃ g, f = g + 1 := ⟨f - 1, by omega⟩
          refine br_f nl ⟨w, ?_⟩
          rw [ex]
          exact br_f h7 (nm_r (nI_1 x) (hX post hp f (by omega)))
        · obtain ⟨f, rfl⟩ : ∃ g, f = g + 1 := ⟨f - 1, by omega⟩
          refine br_f nl (br_f n32 ⟨w', ?_⟩)
          rw [ex]
          exact br_f h7 (nm_r (nI_1 x) (hY post h0 h1' f (by omega)))
theorem cm_b0 : vp_nar .boolean 0 = 0 := rfl
theorem cm_u0 {i : Nat} : upd (fun _ => 0) i (vp_nar .boolean 0) = (fun _ => (0 : Int32)) := by
  rw [cm_b0]
  funext j
  unfold upd
  by_cases h : j = i
  · rw [if_pos h]
  · rw [if_neg h]
theorem cm_bp {yc : Int32} (post : Int32 → SY → Prop) (hp : post 0 (yd, yb, yc, 1, 0, 0, 0, K, A, B, C, (fun _ => 0), db_z vs 8, db_z fr 9)) : ∀ g i, i + g = 33 → wY_compile_194 post yd yb yc ys ye yl yq (g + 1) (nI i) K A B C (fun _ => 0) vs fr := by
  intro g
  induction g with
  | zero =>
    intro i hi
    have e : i = 33 := by omega
    subst e
    exact br_t (nI_le (a := 33) (b := 33) (by omega) (by omega)) (ya_rs hp)
  | succ g ih =>
    intro i hi
    have ex : (nI i).toNatClampNeg = i := nI_clamp (by omega)
    exact br_f (nI_ge (a := i) (b := 33) (by omega) (by omega)) ⟨vp_in_nI (by omega) (by omega), nm_r cm_u0 (nm_r (nI_1 i) (ih (i + 1) (by omega)))⟩
theorem cm_MB {xc : Int32} {post : Int32 → SX → Prop} {f : Nat} (h : wX_matchBlocks_8 post f 0 1 xd xb xc xs xl xq xe K A B C P L (db_z Q 4) O bp vs cl) : wpX_matchBlocks post (xd, xb, xc, xs, xl, xq, xe, K, A, B, C, P, L, Q, O, bp, vs, cl) := by
  unfold wpX_matchBlocks
  exact xa_fp ⟨f, h⟩
theorem cm_all (hn : n ≤ 32) (hOK : ∀ x, 1 ≤ x → x ≤ n → db_OK (K x) (A x) (B x)) : ∃ (r : Int32) (O' P' Q' : Nat → Int32),
    (¬ r = 0 ∧ (∀ (post : Int32 → SX → Prop), post r (xd, xb, nI n, 0, xl, xq, xe, K, A, B, C, P', L, Q', O', (fun _ => 0), vs, cl) → wpX_compile post (xd, xb, nI n, 0, xl, xq, xe, K, A, B, C, P, L, Q, O, (fun _ => 0), vs, cl)) ∧
      (∀ (post : Int32 → SY → Prop), post r (yd, yb, nI n, 0, ye, yl, yq, K, A, B, C, (fun _ => 0), vs, fr) → wpY_compile post (yd, yb, nI n, 0, ye, yl, yq, K, A, B, C, (fun _ => 0), vs, fr))) ∨
    (r = 0 ∧ (∀ (post : Int32 → SX → Prop), (∀ L', db_CP K A P' L' Q' n → post r (xd, xb, nI n, 1, 0, 0, 0, K, A, B, C, P', L', Q', O', (fun _ => 0), db_z vs 8, cl)) → wpX_compile post (xd, xb, nI n, 0, xl, xq, xe, K, A, B, C, P, L, Q, O, (fun _ => 0), vs, cl)) ∧
      (∀ (post : Int32 → SY → Prop), post r (yd, yb, nI n, 1, 0, 0, 0, K, A, B, C, (fun _ => 0), db_z vs 8, db_z fr 9) → wpY_compile post (yd, yb, nI n, 0, ye, yl, yq, K, A, B, C, (fun _ => 0), vs, fr))) := by
  obtain ⟨r, O', P', Q', hr, hX, hY⟩ := cm_mb (xd := xd) (xb := xb) (xs := 0) (xl := xl) (xq := xq) (xe := xe) (yd := yd) (yb := yb) (ys := 0) (ye := ye) (yl := yl) (yq := yq) (K := K) (A := A) (B := B) (C := C) (L := L) (bp := fun _ => 0) (vs := vs) (cl := cl) (fr := fr) hn hOK n 1 0 O P (db_z Q 4) (by omega) (by omega) (by omega) (db_iv_0 (fun p hp => db_zb hp))
  rcases hr with ⟨rfl, h5, h1, hPR⟩ | hr
  · obtain ⟨r, hX2, hY2⟩ := cm_fc (xd := xd) (xb := xb) (xs := 0) (xl := xl) (xq := xq) (xe := xe) (yd := yd) (yb := yb) (ys := 0) (ye := ye) (yl := yl) (yq := yq) (K := K) (A := A) (B := B) (C := C) (P := P') (L := L) (Q := Q') (O := O') (bp := fun _ => 0) (vs := vs) (cl := cl) (fr := fr) hn hOK hPR n 1 (by omega) (by omega) (by omega)
    by_cases r0 : r = 0
    · subst r0
      refine ⟨0, O', P', Q', Or.inr ⟨rfl, fun post hp => ?_, fun post hp => ?_⟩⟩
      · refine br_t rfl (cm_MB (f := n + 1) (hX _ (br_t rfl ⟨n + 1, hX2 _ ?_ (n + 1) (by omega)⟩) (n + 1) (by omega)))
        unfold wX_compile_23
        exact br_t rfl (xa_Fl hn h5 h1 (fun L' hL => xa_mr (hp L' ⟨h5, h1, hL, hPR⟩)))
      · refine br_t rfl ⟨n + 1, hY _ (fun _ => ⟨n + 1, hY2 _ (fun _ => ⟨34, ?_⟩) (fun z => absurd rfl z) (n + 1) (by omega)⟩) (fun z => absurd rfl z) (n + 1) (by omega)⟩
        exact cm_bp _ hp 33 0 (by omega)
    · refine ⟨r, O', P', Q', Or.inl ⟨r0, fun post hp => ?_, fun post hp => ?_⟩⟩
      · refine br_t rfl (cm_MB (f := n + 1) (hX _ (br_t rfl ⟨n + 1, hX2 _ ?_ (n + 1) (by omega)⟩) (n + 1) (by omega)))
        unfold wX_compile_23
        exact br_f r0 hp
      · exact br_t rfl ⟨n + 1, hY _ (fun _ => ⟨n + 1, hY2 _ (fun z => absurd z r0) (fun _ => hp) (n + 1) (by omega)⟩) (fun z => absurd rfl z) (n + 1) (by omega)⟩
  · refine ⟨r, O', P', Q', Or.inl ⟨hr, fun post hp => ?_, fun post hp => ?_⟩⟩
    · refine br_t rfl (cm_MB (f := n + 1) (hX _ (br_f hr ?_) (n + 1) (by omega)))
      unfold wX_compile_23
      exact br_f hr hp
    · exact br_t rfl ⟨n + 1, hY _ (fun z => absurd z hr) (fun _ => hp) (n + 1) (by omega)⟩
