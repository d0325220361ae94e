/-! one performed line: the class and the reference side by side -/
variable {xb xs xl xq xe : Int32} {yb ys ye yl yq : Int32} {K A B C P L Q O bp vs cl fr : Nat → Int32} {n d ln dp : Nat}
def db_FR (cl fr : Nat → Int32) (n dp : Nat) : Prop := ∀ j, 1 ≤ j → j ≤ dp → cl j = fr j ∧ ∃ c, cl j = nI c ∧ 1 ≤ c ∧ c ≤ n
def db_EV (K cl fr : Nat → Int32) (n d ln dp : Nat) : Prop := 1 ≤ ln ∧ ln ≤ n ∧ ¬ db_E K ln ∧ dp ≤ d ∧ db_FR cl fr n dp
def db_OUT (K cl fr : Nat → Int32) (n d ln : Nat) (rX rY lY qX qY : Int32) : Prop := (rX = 0 ∧ rY = 1) ∨ (∃ dp, rX = -1 ∧ rY = 2 ∧ lY = nI ln ∧ qX = nI dp ∧ qY = nI dp ∧ db_EV K cl fr n d ln dp) ∨ (∃ q dp, rX = nI q ∧ rY = 0 ∧ lY = nI q ∧ qX = nI dp ∧ qY = nI dp ∧ db_EV K cl fr n d q dp)
theorem pf_a7 {a : Nat} (h : a < 8) : nI a &&& 7 = nI a := (pk_andN (by omega) 3 (by decide)).trans (congrArg nI (Nat.mod_eq_of_lt h))
theorem pf_la {xd : Int32} (hn : n ≤ 32) {post : Int32 → Prop} {l : Nat} (hl : l ≤ n) (hp : post (L (l + 1))) : wpX_lineAfter post (xd, xb, nI n, xs, xl, xq, xe, K, A, B, C, P, L, Q, O, bp, vs, cl) (nI l) := by
  have e : L (nI l + 1).toNatClampNeg = L (l + 1) := by rw [nI_1, nI_clamp (by omega)]
  refine ⟨by rw [nI_1]; exact vp_in_nI (by omega) (by omega), ?_⟩
  rw [e]
  exact hp
theorem pf_go {yd : Int32} (hn : n ≤ 32) (h : db_CP K A P L Q n) {post : Int32 → SY → Prop} {l q : Nat} (hl : l ≤ n) (hq : L (l + 1) = nI q) (hqn : q ≤ n) (h0 : q = 0 → post 1 (yd, yb, nI n, ys, ye, yl, yq, K, A, B, C, bp, vs, fr)) (h1 : 1 ≤ q → post 0 (yd, yb, nI n, ys, ye, nI q, yq, K, A, B, C, bp, vs, fr)) : wpY_succ (fun r => wpY_moveTo post (yd, yb, nI n, ys, ye, yl, yq, K, A, B, C, bp, vs, fr) r) (yd, yb, nI n, ys, ye, yl, yq, K, A, B, C, bp, vs, fr) (nI l) := by
  refine ya_Su hn h hl ?_
  rw [hq]
  by_cases z : q = 0
  · subst z
    exact ya_mv0 (h0 rfl)
  · exact ya_mv1 (by omega) (by omega) (h1 (by omega))
theorem pf_xl0 {xd : Int32} {post : Int32 → SX → Prop} (hp : post 0 (xd, xb, nI n, xs, xl, nI 0, xe, K, A, B, C, P, L, Q, O, bp, vs, cl)) : wpX_leaveProcedure post (xd, xb, nI n, xs, xl, nI 0, xe, K, A, B, C, P, L, Q, O, bp, vs, cl) := br_t nI_0 hp
theorem pf_yl0 {yd : Int32} {post : Int32 → SY → Prop} (hp : post 1 (yd, yb, nI n, ys, ye, yl, nI 0, K, A, B, C, bp, vs, fr)) : wpY_leave post (yd, yb, nI n, ys, ye, yl, nI 0, K, A, B, C, bp, vs, fr) := br_t (nI_le (a := 0) (b := 0) (by omega) (by omega)) hp
theorem pf_xl1 {xd : Int32} (hn : n ≤ 32) {post : Int32 → SX → Prop} {j c : Nat} (hj : j + 1 ≤ 8) (hc : cl (j + 1) = nI c) (hcn : c ≤ n) (hp : post (L (c + 1)) (xd, xb, nI n, xs, xl, nI j, xe, K, A, B, C, P, L, Q, O, bp, vs, cl)) : wpX_leaveProcedure post (xd, xb, nI n, xs, xl, nI (j + 1), xe, K, A, B, C, P, L, Q, O, bp, vs, cl) :=
  br_f (nI_ne0 (by omega) (by omega)) ⟨vp_in_nI (by omega) (by omega), nm_r (by rw [nI_clamp (by omega)]; exact hc) (nm_r (nI_pred j) (pf_la hn hcn hp))⟩
theorem pf_yl1 {yd : Int32} (hn : n ≤ 32) (h : db_CP K A P L Q n) {post : Int32 → SY → Prop} {j c q : Nat} (hj : j + 1 ≤ 8) (hc : fr (j + 1) = nI c) (hcn : c ≤ n) (hq : L (c + 1) = nI q) (hqn : q ≤ n) (h0 : q = 0 → post 1 (yd, yb, nI n, ys, ye, yl, nI j, K, A, B, C, bp, vs, upd fr (j + 1) 0)) (h1 : 1 ≤ q → post 0 (yd, yb, nI n, ys, ye, nI q, nI j, K, A, B, C, bp, vs, upd fr (j + 1) 0)) : wpY_leave post (yd, yb, nI n, ys, ye, yl, nI (j + 1), K, A, B, C, bp, vs, fr) := by
  have ej : (nI (j + 1)).toNatClampNeg = j + 1 := nI_clamp (by omega)
  have w : vp_in (nI (j + 1)) 9 := vp_in_nI (by omega) (by omega)
  exact br_f (nI_nle (by omega) (by omega)) (br_t (nI_le (a := j + 1) (b := 8) (by omega) (by omega)) ⟨w, nm_r (by rw [ej]; exact hc) ⟨w, nm_r (by rw [ej]) (nm_r (nI_pred j) (pf_go hn h hcn hq hqn h0 h1))⟩⟩)
theorem pf_FR1 {j : Nat} {z : Int32} (h : db_FR cl fr n (j + 1)) : db_FR cl (upd fr (j + 1) z) n j := by
  intro i i1 i2
  rw [pk_un (by omega)]
  exact h i i1 (by omega)
theorem pf_FR2 (h : db_FR cl fr n dp) (h1 : 1 ≤ ln) (hl : ln ≤ n) : db_FR (upd cl (dp + 1) (nI ln)) (upd fr (dp + 1) (nI ln)) n (dp + 1) := by
  intro i i1 i2
  by_cases e : i = dp + 1
  · subst e
    exact ⟨by rw [pk_us, pk_us], ln, pk_us, h1, hl⟩
  · rw [pk_un e, pk_un e]
    exact h i i1 (by omega)
theorem pf_out {vs' cl' fr' : Nat → Int32} {dp' l q : Nat} (hq : L (l + 1) = nI q) (hq2 : q = 0 ∨ (1 ≤ q ∧ q ≤ n ∧ ¬ db_E K q)) (hd : dp' ≤ d) (hF : db_FR cl' fr' n dp')
    (hX : ∀ post : Int32 → SX → Prop, post (L (l + 1)) (nI d, xb, nI n, xs, nI ln, nI dp', xe, K, A, B, C, P, L, Q, O, bp, vs', cl') → wpX_perform post (nI d, xb, nI n, xs, nI ln, nI dp, xe, K, A, B, C, P, L, Q, O, bp, vs, cl))
    (hY : ∀ post : Int32 → SY → Prop, (q = 0 → post 1 (nI d, yb, nI n, ys, ye, nI ln, nI dp', K, A, B, C, bp, vs', fr')) → (1 ≤ q → post 0 (nI d, yb, nI n, ys, ye, nI q, nI dp', K, A, B, C, bp, vs', fr')) → wpY_perform post (nI d, yb, nI n, ys, ye, nI ln, nI dp, K, A, B, C, bp, vs, fr)) : ∃ (rX rY lY qX qY : Int32) (vs' cl' fr' : Nat → Int32), db_OUT K cl' fr' n d ln rX rY lY qX qY ∧
    (∀ post : Int32 → SX → Prop, post rX (nI d, xb, nI n, xs, nI ln, qX, xe, K, A, B, C, P, L, Q, O, bp, vs', cl') → wpX_perform post (nI d, xb, nI n, xs, nI ln, nI dp, xe, K, A, B, C, P, L, Q, O, bp, vs, cl)) ∧
    (∀ post : Int32 → SY → Prop, post rY (nI d, yb, nI n, ys, ye, lY, qY, K, A, B, C, bp, vs', fr') → wpY_perform post (nI d, yb, nI n, ys, ye, nI ln, nI dp, K, A, B, C, bp, vs, fr)) := by
  rcases hq2 with z | ⟨q1, q2, q3⟩
  · refine ⟨0, 1, nI ln, nI dp', nI dp', vs', cl', fr', Or.inl ⟨rfl, rfl⟩, fun post hp => hX post ?_, fun post hp => hY post (fun _ => hp) (fun z1 => absurd z1 (by omega))⟩
    rw [hq, z]
    exact hp
  · refine ⟨nI q, 0, nI q, nI dp', nI dp', vs', cl', fr', Or.inr (Or.inr ⟨q, dp', rfl, rfl, rfl, rfl, rfl, q1, q2, q3, hd, hF⟩), fun post hp => hX post ?_, fun post hp => hY post (fun z => absurd z (by omega)) (fun _ => hp)⟩
    rw [hq]
    exact hp
theorem pf_1 (hn : n ≤ 32) (hd : d ≤ 8) (h : db_CP K A P L Q n) (hOK : db_OK (K ln) (A ln) (B ln)) (hE : db_EV K cl fr n d ln dp) (hk : K ln = 1) : ∃ (rX rY lY qX qY : Int32) (vs' cl' fr' : Nat → Int32), db_OUT K cl' fr' n d ln rX rY lY qX qY ∧
    (∀ post : Int32 → SX → Prop, post rX (nI d, xb, nI n, xs, nI ln, qX, xe, K, A, B, C, P, L, Q, O, bp, vs', cl') → wpX_perform post (nI d, xb, nI n, xs, nI ln, nI dp, xe, K, A, B, C, P, L, Q, O, bp, vs, cl)) ∧
    (∀ post : Int32 → SY → Prop, post rY (nI d, yb, nI n, ys, ye, lY, qY, K, A, B, C, bp, vs', fr') → wpY_perform post (nI d, yb, nI n, ys, ye, nI ln, nI dp, K, A, B, C, bp, vs, fr)) := by
  obtain ⟨l1, l2, l3, l4, l5⟩ := hE
  have ex : (nI ln).toNatClampNeg = ln := nI_clamp (by omega)
  have w : vp_in (nI ln) 34 := vp_in_nI (by omega) (by omega)
  have w' : vp_in (nI ln) 33 := vp_in_nI (by omega) (by omega)
  have c1 : ¬ nI ln < 1 := nI_nlt (a := ln) (b := 1) (by omega) (by omega)
  have c2 : ¬ nI n < nI ln := nI_nlt (by omega) (by omega)
  have c3 : nI ln ≤ 32 := nI_le (a := ln) (b := 32) (by omega) (by omega)
  have kx : K (nI ln).toNatClampNeg = K ln := by rw [ex]
  obtain ⟨a, a8, ha⟩ := hOK.2.1 (Or.inl hk)
  have ka : A (nI ln).toNatClampNeg = nI a := by rw [ex]; exact ha
  have ea : (nI a).toNatClampNeg = a := nI_clamp (by omega)
  obtain ⟨q, hq, hq2⟩ := db_land h (n + 1) (ln + 1) (by omega) (by omega) (by omega)
  have hqn : q ≤ n := by rcases hq2 with z | ⟨_, z, _⟩ <;> omega
  refine pf_out (vs' := upd vs a (B ln)) (cl' := cl) (fr' := fr) (dp' := dp) hq hq2 l4 l5 (fun post hp => ?_) (fun post h0 h1 => ?_)
  · refine ⟨w, nm_r ka ⟨w, nm_r (kx.trans hk) (br_f (by decide) (br_f (by decide) (br_t rfl ⟨w, vp_in_nI (by omega) (by omega), nm_r (e' := upd vs a (B ln)) (by rw [ea, ex]) (pf_la hn l2 hp)⟩)))⟩⟩
  · refine br_f c1 (br_f c2 (br_t c3 ⟨w', nm_r (kx.trans hk) ⟨w', nm_r ka (br_t rfl ⟨w', ?_⟩)⟩⟩))
    rw [pf_a7 a8]
    exact ⟨vp_in_nI (by omega) (by omega), nm_r (e' := upd vs a (B ln)) (by rw [ea, ex]) (pf_go hn h l2 hq hqn h0 h1)⟩
theorem pf_2 (hn : n ≤ 32) (hd : d ≤ 8) (h : db_CP K A P L Q n) (hOK : db_OK (K ln) (A ln) (B ln)) (hE : db_EV K cl fr n d ln dp) (hk : K ln = 2) : ∃ (rX rY lY qX qY : Int32) (vs' cl' fr' : Nat → Int32), db_OUT K cl' fr' n d ln rX rY lY qX qY ∧
    (∀ post : Int32 → SX → Prop, post rX (nI d, xb, nI n, xs, nI ln, qX, xe, K, A, B, C, P, L, Q, O, bp, vs', cl') → wpX_perform post (nI d, xb, nI n, xs, nI ln, nI dp, xe, K, A, B, C, P, L, Q, O, bp, vs, cl)) ∧
    (∀ post : Int32 → SY → Prop, post rY (nI d, yb, nI n, ys, ye, lY, qY, K, A, B, C, bp, vs', fr') → wpY_perform post (nI d, yb, nI n, ys, ye, nI ln, nI dp, K, A, B, C, bp, vs, fr)) := by
  obtain ⟨l1, l2, l3, l4, l5⟩ := hE
  have ex : (nI ln).toNatClampNeg = ln := nI_clamp (by omega)
  have w : vp_in (nI ln) 34 := vp_in_nI (by omega) (by omega)
  have w' : vp_in (nI ln) 33 := vp_in_nI (by omega) (by omega)
  have c1 : ¬ nI ln < 1 := nI_nlt (a := ln) (b := 1) (by omega) (by omega)
  have c2 : ¬ nI n < nI ln := nI_nlt (by omega) (by omega)
  have c3 : nI ln ≤ 32 := nI_le (a := ln) (b := 32) (by omega) (by omega)
  have kx : K (nI ln).toNatClampNeg = K ln := by rw [ex]
  obtain ⟨a, a8, ha⟩ := hOK.2.1 (Or.inr (Or.inl hk))
  obtain ⟨b, b8, hb⟩ := hOK.2.2.1 hk
  have eb : (nI b).toNatClampNeg = b := nI_clamp (by omega)
  have ka : A (nI ln).toNatClampNeg = nI a := by rw [ex]; exact ha
  have ea : (nI a).toNatClampNeg = a := nI_clamp (by omega)
  obtain ⟨q, hq, hq2⟩ := db_land h (n + 1) (ln + 1) (by omega) (by omega) (by omega)
  have hqn : q ≤ n := by rcases hq2 with z | ⟨_, z, _⟩ <;> omega
  refine pf_out (vs' := upd vs a (vs b + C ln)) (cl' := cl) (fr' := fr) (dp' := dp) hq hq2 l4 l5 (fun post hp => ?_) (fun post h0 h1 => ?_)
  · refine ⟨w, nm_r ka ⟨w, nm_r (kx.trans hk) (br_f (by decide) (br_f (by decide) (br_f (by decide) (br_t rfl ⟨w, ?_⟩))))⟩⟩
    rw [ex, hb]
    exact ⟨vp_in_nI (by omega) (by omega), w, vp_in_nI (by omega) (by omega), nm_r (e' := upd vs a (vs b + C ln)) (by rw [ea, eb]) (pf_la hn l2 hp)⟩
  · refine br_f c1 (br_f c2 (br_t c3 ⟨w', nm_r (kx.trans hk) ⟨w', nm_r ka (br_f (by decide) (br_t rfl ⟨w', ?_⟩))⟩⟩))
    rw [ex, hb, pf_a7 a8, pf_a7 b8]
    exact ⟨vp_in_nI (by omega) (by omega), w', vp_in_nI (by omega) (by omega), nm_r (e' := upd vs a (vs b + C ln)) (by rw [ea, eb]) (pf_go hn h l2 hq hqn h0 h1)⟩
theorem pf_3 (hn : n ≤ 32) (hd : d ≤ 8) (h : db_CP K A P L Q n) (hOK : db_OK (K ln) (A ln) (B ln)) (hE : db_EV K cl fr n d ln dp) (hk : K ln = 3) : ∃ (rX rY lY qX qY : Int32) (vs' cl' fr' : Nat → Int32), db_OUT K cl' fr' n d ln rX rY lY qX qY ∧
    (∀ post : Int32 → SX → Prop, post rX (nI d, xb, nI n, xs, nI ln, qX, xe, K, A, B, C, P, L, Q, O, bp, vs', cl') → wpX_perform post (nI d, xb, nI n, xs, nI ln, nI dp, xe, K, A, B, C, P, L, Q, O, bp, vs, cl)) ∧
    (∀ post : Int32 → SY → Prop, post rY (nI d, yb, nI n, ys, ye, lY, qY, K, A, B, C, bp, vs', fr') → wpY_perform post (nI d, yb, nI n, ys, ye, nI ln, nI dp, K, A, B, C, bp, vs, fr)) := by
  obtain ⟨l1, l2, l3, l4, l5⟩ := hE
  have ex : (nI ln).toNatClampNeg = ln := nI_clamp (by omega)
  have w : vp_in (nI ln) 34 := vp_in_nI (by omega) (by omega)
  have w' : vp_in (nI ln) 33 := vp_in_nI (by omega) (by omega)
  have c1 : ¬ nI ln < 1 := nI_nlt (a := ln) (b := 1) (by omega) (by omega)
  have c2 : ¬ nI n < nI ln := nI_nlt (by omega) (by omega)
  have c3 : nI ln ≤ 32 := nI_le (a := ln) (b := 32) (by omega) (by omega)
  have kx : K (nI ln).toNatClampNeg = K ln := by rw [ex]
  obtain ⟨a, a8, ha⟩ := hOK.2.1 (Or.inr (Or.inr (Or.inl hk)))
  have ka : A (nI ln).toNatClampNeg = nI a := by rw [ex]; exact ha
  have ea : (nI a).toNatClampNeg = a := nI_clamp (by omega)
  have wa : vp_in (nI a) 8 := vp_in_nI (by omega) (by omega)
  by_cases hv : vs a = 0
  · obtain ⟨e, he, e1, e2, e3⟩ := h.2.1 ln l1 l2 (Or.inl hk)
    obtain ⟨q, hq, hq2⟩ := db_land h (n + 1) (e + 1) (by omega) (by omega) (by omega)
    have hqn : q ≤ n := by rcases hq2 with z | ⟨_, z, _⟩ <;> omega
    refine pf_out (vs' := vs) (cl' := cl) (fr' := fr) (dp' := dp) hq hq2 l4 l5 (fun post hp => ?_) (fun post h0 h1 => ?_)
    · refine ⟨w, nm_r ka ⟨w, nm_r (kx.trans hk) (br_f (by decide) (br_f (by decide) (br_f (by decide) (br_f (by decide) (br_t rfl ?_)))))⟩⟩
      unfold wX_perform_127
      rw [ea]
      refine ⟨wa, br_t hv ⟨w, ?_⟩⟩
      unfold wX_perform_153
      rw [ex, e3]
      exact pf_la hn e2 hp
    · refine br_f c1 (br_f c2 (br_t c3 ⟨w', nm_r (kx.trans hk) ⟨w', nm_r ka (br_f (by decide) (br_f (by decide) (br_t rfl ?_)))⟩⟩))
      unfold wY_perform_133
      rw [pf_a7 a8, ea]
      refine ⟨wa, br_t hv (ya_Me hn l2 ?_)⟩
      rw [he]
      exact br_f (nI_ne0 (by omega) (by omega)) (pf_go hn h e2 hq hqn h0 h1)
  · obtain ⟨q, hq, hq2⟩ := db_land h (n + 1) (ln + 1) (by omega) (by omega) (by omega)
    have hqn : q ≤ n := by rcases hq2 with z | ⟨_, z, _⟩ <;> omega
    refine pf_out (vs' := vs) (cl' := cl) (fr' := fr) (dp' := dp) hq hq2 l4 l5 (fun post hp => ?_) (fun post h0 h1 => ?_)
    · refine ⟨w, nm_r ka ⟨w, nm_r (kx.trans hk) (br_f (by decide) (br_f (by decide) (br_f (by decide) (br_f (by decide) (br_t rfl ?_)))))⟩⟩
      unfold wX_perform_127
      rw [ea]
      refine ⟨wa, br_f hv ?_⟩
      unfold wX_perform_153
      exact pf_la hn l2 hp
    · refine br_f c1 (br_f c2 (br_t c3 ⟨w', nm_r (kx.trans hk) ⟨w', nm_r ka (br_f (by decide) (br_f (by decide) (br_t rfl ?_)))⟩⟩))
      unfold wY_perform_133
      rw [pf_a7 a8, ea]
      exact ⟨wa, br_f hv (pf_go hn h l2 hq hqn h0 h1)⟩
theorem pf_4 (hn : n ≤ 32) (hd : d ≤ 8) (h : db_CP K A P L Q n) (hOK : db_OK (K ln) (A ln) (B ln)) (hE : db_EV K cl fr n d ln dp) (hk : K ln = 4) : ∃ (rX rY lY qX qY : Int32) (vs' cl' fr' : Nat → Int32), db_OUT K cl' fr' n d ln rX rY lY qX qY ∧
    (∀ post : Int32 → SX → Prop, post rX (nI d, xb, nI n, xs, nI ln, qX, xe, K, A, B, C, P, L, Q, O, bp, vs', cl') → wpX_perform post (nI d, xb, nI n, xs, nI ln, nI dp, xe, K, A, B, C, P, L, Q, O, bp, vs, cl)) ∧
    (∀ post : Int32 → SY → Prop, post rY (nI d, yb, nI n, ys, ye, lY, qY, K, A, B, C, bp, vs', fr') → wpY_perform post (nI d, yb, nI n, ys, ye, nI ln, nI dp, K, A, B, C, bp, vs, fr)) := by
  obtain ⟨l1, l2, l3, l4, l5⟩ := hE
  have ex : (nI ln).toNatClampNeg = ln := nI_clamp (by omega)
  have w : vp_in (nI ln) 34 := vp_in_nI (by omega) (by omega)
  have w' : vp_in (nI ln) 33 := vp_in_nI (by omega) (by omega)
  have c1 : ¬ nI ln < 1 := nI_nlt (a := ln) (b := 1) (by omega) (by omega)
  have c2 : ¬ nI n < nI ln := nI_nlt (by omega) (by omega)
  have c3 : nI ln ≤ 32 := nI_le (a := ln) (b := 32) (by omega) (by omega)
  have kx : K (nI ln).toNatClampNeg = K ln := by rw [ex]
  obtain ⟨a, a8, ha⟩ := hOK.2.1 (Or.inr (Or.inr (Or.inr hk)))
  have ka : A (nI ln).toNatClampNeg = nI a := by rw [ex]; exact ha
  have ea : (nI a).toNatClampNeg = a := nI_clamp (by omega)
  have wa : vp_in (nI a) 8 := vp_in_nI (by omega) (by omega)
  by_cases hv : vs a = 0
  · obtain ⟨e, he, e1, e2, e3⟩ := h.2.1 ln l1 l2 (Or.inr (Or.inl hk))
    obtain ⟨q, hq, hq2⟩ := db_land h (n + 1) (e + 1) (by omega) (by omega) (by omega)
    have hqn : q ≤ n := by rcases hq2 with z | ⟨_, z, _⟩ <;> omega
    refine pf_out (vs' := vs) (cl' := cl) (fr' := fr) (dp' := dp) hq hq2 l4 l5 (fun post hp => ?_) (fun post h0 h1 => ?_)
    · refine ⟨w, nm_r ka ⟨w, nm_r (kx.trans hk) (br_f (by decide) (br_f (by decide) (br_f (by decide) (br_f (by decide) (br_f (by decide) (br_t rfl ?_))))))⟩⟩
      unfold wX_perform_127
      rw [ea]
      refine ⟨wa, br_t hv ⟨w, ?_⟩⟩
      unfold wX_perform_153
      rw [ex, e3]
      exact pf_la hn e2 hp
    · refine br_f c1 (br_f c2 (br_t c3 ⟨w', nm_r (kx.trans hk) ⟨w', nm_r ka (br_f (by decide) (br_f (by decide) (br_f (by decide) (br_t rfl ?_))))⟩⟩))
      unfold wY_perform_133
      rw [pf_a7 a8, ea]
      refine ⟨wa, br_t hv (ya_Me hn l2 ?_)⟩
      rw [he]
      exact br_f (nI_ne0 (by omega) (by omega)) (pf_go hn h e2 hq hqn h0 h1)
  · obtain ⟨q, hq, hq2⟩ := db_land h (n + 1) (ln + 1) (by omega) (by omega) (by omega)
    have hqn : q ≤ n := by rcases hq2 with z | ⟨_, z, _⟩ <;> omega
    refine pf_out (vs' := vs) (cl' := cl) (fr' := fr) (dp' := dp) hq hq2 l4 l5 (fun post hp => ?_) (fun post h0 h1 => ?_)
    · refine ⟨w, nm_r ka ⟨w, nm_r (kx.trans hk) (br_f (by decide) (br_f (by decide) (br_f (by decide) (br_f (by decide) (br_f (by decide) (br_t rfl ?_))))))⟩⟩
      unfold wX_perform_127
      rw [ea]
      refine ⟨wa, br_f hv ?_⟩
      unfold wX_perform_153
      exact pf_la hn l2 hp
    · refine br_f c1 (br_f c2 (br_t c3 ⟨w', nm_r (kx.trans hk) ⟨w', nm_r ka (br_f (by decide) (br_f (by decide) (br_f (by decide) (br_t rfl ?_))))⟩⟩))
      unfold wY_perform_133
      rw [pf_a7 a8, ea]
      exact ⟨wa, br_f hv (pf_go hn h l2 hq hqn h0 h1)⟩
theorem pf_6 (hn : n ≤ 32) (hd : d ≤ 8) (h : db_CP K A P L Q n) (hOK : db_OK (K ln) (A ln) (B ln)) (hE : db_EV K cl fr n d ln dp) (hk : K ln = 6) : ∃ (rX rY lY qX qY : Int32) (vs' cl' fr' : Nat → Int32), db_OUT K cl' fr' n d ln rX rY lY qX qY ∧
    (∀ post : Int32 → SX → Prop, post rX (nI d, xb, nI n, xs, nI ln, qX, xe, K, A, B, C, P, L, Q, O, bp, vs', cl') → wpX_perform post (nI d, xb, nI n, xs, nI ln, nI dp, xe, K, A, B, C, P, L, Q, O, bp, vs, cl)) ∧
    (∀ post : Int32 → SY → Prop, post rY (nI d, yb, nI n, ys, ye, lY, qY, K, A, B, C, bp, vs', fr') → wpY_perform post (nI d, yb, nI n, ys, ye, nI ln, nI dp, K, A, B, C, bp, vs, fr)) := by
  obtain ⟨l1, l2, l3, l4, l5⟩ := hE
  have ex : (nI ln).toNatClampNeg = ln := nI_clamp (by omega)
  have w : vp_in (nI ln) 34 := vp_in_nI (by omega) (by omega)
  have w' : vp_in (nI ln) 33 := vp_in_nI (by omega) (by omega)
  have c1 : ¬ nI ln < 1 := nI_nlt (a := ln) (b := 1) (by omega) (by omega)
  have c2 : ¬ nI n < nI ln := nI_nlt (by omega) (by omega)
  have c3 : nI ln ≤ 32 := nI_le (a := ln) (b := 32) (by omega) (by omega)
  have kx : K (nI ln).toNatClampNeg = K ln := by rw [ex]
  obtain ⟨q, hq, hq2⟩ := db_land h (n + 1) (ln + 1) (by omega) (by omega) (by omega)
  have hqn : q ≤ n := by rcases hq2 with z | ⟨_, z, _⟩ <;> omega
  refine pf_out (vs' := vs) (cl' := cl) (fr' := fr) (dp' := dp) hq hq2 l4 l5 (fun post hp => ?_) (fun post h0 h1 => ?_)
  · refine ⟨w, nm_e ⟨w, nm_r (kx.trans hk) (br_f (by decide) (br_f (by decide) (br_f (by decide) (br_f (by decide) (br_f (by decide) (br_f (by decide) (br_f (by decide) (br_t rfl ?_))))))))⟩⟩
    unfold wX_perform_173
    exact pf_la hn l2 hp
  · exact br_f c1 (br_f c2 (br_t c3 ⟨w', nm_r (kx.trans hk) ⟨w', nm_e (br_f (by decide) (br_f (by decide) (br_f (by decide) (br_f (by decide) (br_t rfl (pf_go hn h l2 hq hqn h0 h1))))))⟩⟩))
theorem pf_7 (hn : n ≤ 32) (hd : d ≤ 8) (h : db_CP K A P L Q n) (hOK : db_OK (K ln) (A ln) (B ln)) (hE : db_EV K cl fr n d ln dp) (hk : K ln = 7) : ∃ (rX rY lY qX qY : Int32) (vs' cl' fr' : Nat → Int32), db_OUT K cl' fr' n d ln rX rY lY qX qY ∧
    (∀ post : Int32 → SX → Prop, post rX (nI d, xb, nI n, xs, nI ln, qX, xe, K, A, B, C, P, L, Q, O, bp, vs', cl') → wpX_perform post (nI d, xb, nI n, xs, nI ln, nI dp, xe, K, A, B, C, P, L, Q, O, bp, vs, cl)) ∧
    (∀ post : Int32 → SY → Prop, post rY (nI d, yb, nI n, ys, ye, lY, qY, K, A, B, C, bp, vs', fr') → wpY_perform post (nI d, yb, nI n, ys, ye, nI ln, nI dp, K, A, B, C, bp, vs, fr)) := by
  obtain ⟨l1, l2, l3, l4, l5⟩ := hE
  have ex : (nI ln).toNatClampNeg = ln := nI_clamp (by omega)
  have w : vp_in (nI ln) 34 := vp_in_nI (by omega) (by omega)
  have w' : vp_in (nI ln) 33 := vp_in_nI (by omega) (by omega)
  have c1 : ¬ nI ln < 1 := nI_nlt (a := ln) (b := 1) (by omega) (by omega)
  have c2 : ¬ nI n < nI ln := nI_nlt (by omega) (by omega)
  have c3 : nI ln ≤ 32 := nI_le (a := ln) (b := 32) (by omega) (by omega)
  have kx : K (nI ln).toNatClampNeg = K ln := by rw [ex]
  obtain ⟨a, a4, ha⟩ := hOK.2.2.2 (Or.inr hk)
  have ka : A (nI ln).toNatClampNeg = nI a := by rw [ex]; exact ha
  have ea : (nI a).toNatClampNeg = a := nI_clamp (by omega)
  have wa : vp_in (nI a) 4 := vp_in_nI (by omega) (by omega)
  by_cases hdd : dp < d
  · have hlt : nI dp < nI d := nI_lt hdd (by omega)
    obtain ⟨q, hQ, hPP⟩ := h.2.2.2 a a4
    have hqn : q ≤ n := by
      rcases hPP with ⟨z, _⟩ | ⟨_, z, _⟩ <;> omega
    have e1 : (nI (dp + 1)).toNatClampNeg = dp + 1 := nI_clamp (by omega)
    have HX : ∀ post : Int32 → SX → Prop, post (nI q) (nI d, xb, nI n, xs, nI ln, nI (dp + 1), xe, K, A, B, C, P, L, Q, O, bp, vs, upd cl (dp + 1) (nI ln)) → wpX_perform post (nI d, xb, nI n, xs, nI ln, nI dp, xe, K, A, B, C, P, L, Q, O, bp, vs, cl) := by
      intro post hp
      refine ⟨w, nm_r ka ⟨w, nm_r (kx.trans hk) (br_f (by decide) (br_f (by decide) (br_f (by decide) (br_f (by decide) (br_f (by decide) (br_f (by decide) (br_f (by decide) (br_f (by decide) (br_t rfl (br_t hlt (nm_r (nI_1 dp) ⟨vp_in_nI (by omega) (by omega), nm_r (e' := upd cl (dp + 1) (nI ln)) (by rw [e1]) ⟨wa, ?_⟩⟩)))))))))))⟩⟩
      rw [ea, hQ]
      exact hp
    by_cases q0 : q = 0
    · subst q0
      refine ⟨0, 1, nI ln, nI (dp + 1), nI dp, vs, upd cl (dp + 1) (nI ln), fr, Or.inl ⟨rfl, rfl⟩, HX, fun post hp => ?_⟩
      exact br_f c1 (br_f c2 (br_t c3 ⟨w', nm_r (kx.trans hk) ⟨w', nm_r ka (br_f (by decide) (br_f (by decide) (br_f (by decide) (br_f (by decide) (br_f (by decide) (br_t rfl (br_t hlt (ya_Pl hn hPP (br_t nI_0 hp)))))))))⟩⟩))
    · have ev : db_EV K (upd cl (dp + 1) (nI ln)) (upd fr (dp + 1) (nI ln)) n d q (dp + 1) := by
        rcases hPP with ⟨z, _⟩ | ⟨z1, z2, z3, _⟩
        · exact absurd z q0
        · exact ⟨z1, hqn, fun z => absurd (z3.symm.trans z.1) (by decide), by omega, pf_FR2 l5 l1 l2⟩
      refine ⟨nI q, 0, nI q, nI (dp + 1), nI (dp + 1), vs, upd cl (dp + 1) (nI ln), upd fr (dp + 1) (nI ln), Or.inr (Or.inr ⟨q, dp + 1, rfl, rfl, rfl, rfl, rfl, ev⟩), HX, fun post hp => ?_⟩
      refine br_f c1 (br_f c2 (br_t c3 ⟨w', nm_r (kx.trans hk) ⟨w', nm_r ka (br_f (by decide) (br_f (by decide) (br_f (by decide) (br_f (by decide) (br_f (by decide) (br_t rfl (br_t hlt (ya_Pl hn hPP (br_f (nI_ne0 (by omega) (by omega)) ?_)))))))))⟩⟩))
      rw [nI_1 dp, e1]
      exact br_t (nI_le (a := dp + 1) (b := 8) (by omega) (by omega)) ⟨vp_in_nI (by omega) (by omega), nm_e (nm_e hp)⟩
  · have hlt : ¬ nI dp < nI d := nI_nlt (by omega) (by omega)
    refine ⟨-1, 2, nI ln, nI dp, nI dp, vs, cl, fr, Or.inr (Or.inl ⟨dp, rfl, rfl, rfl, rfl, rfl, l1, l2, l3, l4, l5⟩), fun post hp => ?_, fun post hp => ?_⟩
    · exact ⟨w, nm_r ka ⟨w, nm_r (kx.trans hk) (br_f (by decide) (br_f (by decide) (br_f (by decide) (br_f (by decide) (br_f (by decide) (br_f (by decide) (br_f (by decide) (br_f (by decide) (br_t rfl (br_f hlt hp))))))))))⟩⟩
    · exact br_f c1 (br_f c2 (br_t c3 ⟨w', nm_r (kx.trans hk) ⟨w', nm_r ka (br_f (by decide) (br_f (by decide) (br_f (by decide) (br_f (by decide) (br_f (by decide) (br_t rfl (br_f hlt hp)))))))⟩⟩))
theorem pf_8 (hn : n ≤ 32) (hd : d ≤ 8) (h : db_CP K A P L Q n) (hOK : db_OK (K ln) (A ln) (B ln)) (hE : db_EV K cl fr n d ln dp) (hk : K ln = 8) : ∃ (rX rY lY qX qY : Int32) (vs' cl' fr' : Nat → Int32), db_OUT K cl' fr' n d ln rX rY lY qX qY ∧
    (∀ post : Int32 → SX → Prop, post rX (nI d, xb, nI n, xs, nI ln, qX, xe, K, A, B, C, P, L, Q, O, bp, vs', cl') → wpX_perform post (nI d, xb, nI n, xs, nI ln, nI dp, xe, K, A, B, C, P, L, Q, O, bp, vs, cl)) ∧
    (∀ post : Int32 → SY → Prop, post rY (nI d, yb, nI n, ys, ye, lY, qY, K, A, B, C, bp, vs', fr') → wpY_perform post (nI d, yb, nI n, ys, ye, nI ln, nI dp, K, A, B, C, bp, vs, fr)) := by
  obtain ⟨l1, l2, l3, l4, l5⟩ := hE
  have ex : (nI ln).toNatClampNeg = ln := nI_clamp (by omega)
  have w : vp_in (nI ln) 34 := vp_in_nI (by omega) (by omega)
  have w' : vp_in (nI ln) 33 := vp_in_nI (by omega) (by omega)
  have c1 : ¬ nI ln < 1 := nI_nlt (a := ln) (b := 1) (by omega) (by omega)
  have c2 : ¬ nI n < nI ln := nI_nlt (by omega) (by omega)
  have c3 : nI ln ≤ 32 := nI_le (a := ln) (b := 32) (by omega) (by omega)
  have kx : K (nI ln).toNatClampNeg = K ln := by rw [ex]
  by_cases d0 : dp = 0
  · subst d0
    refine ⟨0, 1, nI ln, nI 0, nI 0, vs, cl, fr, Or.inl ⟨rfl, rfl⟩, fun post hp => ?_, fun post hp => ?_⟩
    · exact ⟨w, nm_e ⟨w, nm_r (kx.trans hk) (br_f (by decide) (br_f (by decide) (br_f (by decide) (br_f (by decide) (br_f (by decide) (br_f (by decide) (br_f (by decide) (br_f (by decide) (br_f (by decide) (br_t rfl (pf_xl0 hp)))))))))))⟩⟩
    · exact br_f c1 (br_f c2 (br_t c3 ⟨w', nm_r (kx.trans hk) ⟨w', nm_e (br_f (by decide) (br_f (by decide) (br_f (by decide) (br_f (by decide) (br_f (by decide) (br_f (by decide) (br_t rfl (pf_yl0 hp))))))))⟩⟩))
  · obtain ⟨j, rfl⟩ : ∃ j, dp = j + 1 := ⟨dp - 1, by omega⟩
    obtain ⟨f1, c, f2, f3, f4⟩ := l5 (j + 1) (by omega) (by omega)
    obtain ⟨q, hq, hq2⟩ := db_land h (n + 1) (c + 1) (by omega) (by omega) (by omega)
    have hqn : q ≤ n := by rcases hq2 with z | ⟨_, z, _⟩ <;> omega
    refine pf_out (vs' := vs) (cl' := cl) (fr' := upd fr (j + 1) 0) (dp' := j) hq hq2 (by omega) (pf_FR1 l5) (fun post hp => ?_) (fun post h0 h1 => ?_)
    · exact ⟨w, nm_e ⟨w, nm_r (kx.trans hk) (br_f (by decide) (br_f (by decide) (br_f (by decide) (br_f (by decide) (br_f (by decide) (br_f (by decide) (br_f (by decide) (br_f (by decide) (br_f (by decide) (br_t rfl (pf_xl1 hn (by omega) f2 f4 hp)))))))))))⟩⟩
    · exact br_f c1 (br_f c2 (br_t c3 ⟨w', nm_r (kx.trans hk) ⟨w', nm_e (br_f (by decide) (br_f (by decide) (br_f (by decide) (br_f (by decide) (br_f (by decide) (br_f (by decide) (br_t rfl (pf_yl1 hn h (by omega) (f1.symm.trans f2) f4 hq hqn h0 h1))))))))⟩⟩))
theorem pf_5 (hn : n ≤ 32) (hd : d ≤ 8) (h : db_CP K A P L Q n) (hOK : db_OK (K ln) (A ln) (B ln)) (hE : db_EV K cl fr n d ln dp) (hk : K ln = 5) : ∃ (rX rY lY qX qY : Int32) (vs' cl' fr' : Nat → Int32), db_OUT K cl' fr' n d ln rX rY lY qX qY ∧
    (∀ post : Int32 → SX → Prop, post rX (nI d, xb, nI n, xs, nI ln, qX, xe, K, A, B, C, P, L, Q, O, bp, vs', cl') → wpX_perform post (nI d, xb, nI n, xs, nI ln, nI dp, xe, K, A, B, C, P, L, Q, O, bp, vs, cl)) ∧
    (∀ post : Int32 → SY → Prop, post rY (nI d, yb, nI n, ys, ye, lY, qY, K, A, B, C, bp, vs', fr') → wpY_perform post (nI d, yb, nI n, ys, ye, nI ln, nI dp, K, A, B, C, bp, vs, fr)) := by
  obtain ⟨l1, l2, l3, l4, l5⟩ := hE
  have ex : (nI ln).toNatClampNeg = ln := nI_clamp (by omega)
  have w : vp_in (nI ln) 34 := vp_in_nI (by omega) (by omega)
  have w' : vp_in (nI ln) 33 := vp_in_nI (by omega) (by omega)
  have c1 : ¬ nI ln < 1 := nI_nlt (a := ln) (b := 1) (by omega) (by omega)
  have c2 : ¬ nI n < nI ln := nI_nlt (by omega) (by omega)
  have c3 : nI ln ≤ 32 := nI_le (a := ln) (b := 32) (by omega) (by omega)
  have kx : K (nI ln).toNatClampNeg = K ln := by rw [ex]
  obtain ⟨o, o1, o2, o3, o4, o5⟩ := h.1 ln l1 (by omega) hk
  have eo : (nI o).toNatClampNeg = o := nI_clamp (by omega)
  by_cases k4 : K o = 4
  · have ev : db_EV K cl fr n d o dp := ⟨o2, by omega, fun z => absurd (k4.symm.trans z.1) (by decide), l4, l5⟩
    refine ⟨nI o, 0, nI o, nI dp, nI dp, vs, cl, fr, Or.inr (Or.inr ⟨o, dp, rfl, rfl, rfl, rfl, rfl, ev⟩), fun post hp => ?_, fun post hp => ?_⟩
    · exact ⟨w, nm_e ⟨w, nm_r (kx.trans hk) (br_f (by decide) (br_f (by decide) (br_f (by decide) (br_f (by decide) (br_f (by decide) (br_f (by decide) (br_t rfl ⟨w, nm_r (by rw [ex]; exact o5) ⟨vp_in_nI (by omega) (by omega), br_t (by rw [eo]; exact k4) hp⟩⟩)))))))⟩⟩
    · refine br_f c1 (br_f c2 (br_t c3 ⟨w', nm_r (kx.trans hk) ⟨w', nm_e (br_f (by decide) (br_f (by decide) (br_f (by decide) (br_f (by decide) (br_f (by decide) (br_f (by decide) (br_f (by decide) (ya_Op l1 (by omega) ?_))))))))⟩⟩))
      rw [o1]
      exact br_f (nI_ne0 (by omega) (by omega)) ⟨vp_in_nI (by omega) (by omega), br_t (by rw [eo]; exact k4) hp⟩
  · have k6 : K o = 6 := by
      rcases o4 with z | z | z
      · exact absurd ⟨hk, by rw [o1]; exact z⟩ l3
      · exact absurd z k4
      · exact z
    by_cases d0 : dp = 0
    · subst d0
      refine ⟨0, 1, nI ln, nI 0, nI 0, vs, cl, fr, Or.inl ⟨rfl, rfl⟩, fun post hp => ?_, fun post hp => ?_⟩
      · exact ⟨w, nm_e ⟨w, nm_r (kx.trans hk) (br_f (by decide) (br_f (by decide) (br_f (by decide) (br_f (by decide) (br_f (by decide) (br_f (by decide) (br_t rfl ⟨w, nm_r (by rw [ex]; exact o5) ⟨vp_in_nI (by omega) (by omega), br_f (by rw [eo]; exact k4) (pf_xl0 hp)⟩⟩)))))))⟩⟩
      · exact br_f c1 (br_f c2 (br_t c3 ⟨w', nm_r (kx.trans hk) ⟨w', nm_e (br_f (by decide) (br_f (by decide) (br_f (by decide) (br_f (by decide) (br_f (by decide) (br_f (by decide) (br_f (by decide) (ya_Op l1 (by omega) (by rw [o1]; exact br_f (nI_ne0 (by omega) (by omega)) ⟨vp_in_nI (by omega) (by omega), br_f (by rw [eo]; exact k4) ⟨vp_in_nI (by omega) (by omega), br_t (by rw [eo]; exact k6) (pf_yl0 hp)⟩⟩)))))))))⟩⟩))
    · obtain ⟨j, rfl⟩ : ∃ j, dp = j + 1 := ⟨dp - 1, by omega⟩
      obtain ⟨f1, c, f2, f3, f4⟩ := l5 (j + 1) (by omega) (by omega)
      obtain ⟨q, hq, hq2⟩ := db_land h (n + 1) (c + 1) (by omega) (by omega) (by omega)
      have hqn : q ≤ n := by rcases hq2 with z | ⟨_, z, _⟩ <;> omega
      refine pf_out (vs' := vs) (cl' := cl) (fr' := upd fr (j + 1) 0) (dp' := j) hq hq2 (by omega) (pf_FR1 l5) (fun post hp => ?_) (fun post h0 h1 => ?_)
      · exact ⟨w, nm_e ⟨w, nm_r (kx.trans hk) (br_f (by decide) (br_f (by decide) (br_f (by decide) (br_f (by decide) (br_f (by decide) (br_f (by decide) (br_t rfl ⟨w, nm_r (by rw [ex]; exact o5) ⟨vp_in_nI (by omega) (by omega), br_f (by rw [eo]; exact k4) (pf_xl1 hn (by omega) f2 f4 hp)⟩⟩)))))))⟩⟩
      · exact br_f c1 (br_f c2 (br_t c3 ⟨w', nm_r (kx.trans hk) ⟨w', nm_e (br_f (by decide) (br_f (by decide) (br_f (by decide) (br_f (by decide) (br_f (by decide) (br_f (by decide) (br_f (by decide) (ya_Op l1 (by omega) (by rw [o1]; exact br_f (nI_ne0 (by omega) (by omega)) ⟨vp_in_nI (by omega) (by omega), br_f (by rw [eo]; exact k4) ⟨vp_in_nI (by omega) (by omega), br_t (by rw [eo]; exact k6) (pf_yl1 hn h (by omega) (f1.symm.trans f2) f4 hq hqn h0 h1)⟩⟩)))))))))⟩⟩))
theorem pf_all (hn : n ≤ 32) (hd : d ≤ 8) (h : db_CP K A P L Q n) (hOK : db_OK (K ln) (A ln) (B ln)) (hE : db_EV K cl fr n d ln dp) : ∃ (rX rY lY qX qY : Int32) (vs' cl' fr' : Nat → Int32), db_OUT K cl' fr' n d ln rX rY lY qX qY ∧
    (∀ post : Int32 → SX → Prop, post rX (nI d, xb, nI n, xs, nI ln, qX, xe, K, A, B, C, P, L, Q, O, bp, vs', cl') → wpX_perform post (nI d, xb, nI n, xs, nI ln, nI dp, xe, K, A, B, C, P, L, Q, O, bp, vs, cl)) ∧
    (∀ post : Int32 → SY → Prop, post rY (nI d, yb, nI n, ys, ye, lY, qY, K, A, B, C, bp, vs', fr') → wpY_perform post (nI d, yb, nI n, ys, ye, nI ln, nI dp, K, A, B, C, bp, vs, fr)) := by
  obtain ⟨i, i1, i8, hi⟩ := hOK.1
  have hc : i = 1 ∨ i = 2 ∨ i = 3 ∨ i = 4 ∨ i = 5 ∨ i = 6 ∨ i = 7 ∨ i = 8 := by omega
  rcases hc with z | z | z | z | z | z | z | z <;> subst z
  · exact pf_1 hn hd h hOK hE hi
  · exact pf_2 hn hd h hOK hE hi
  · exact pf_3 hn hd h hOK hE hi
  · exact pf_4 hn hd h hOK hE hi
  · exact pf_5 hn hd h hOK hE hi
  · exact pf_6 hn hd h hOK hE hi
  · exact pf_7 hn hd h hOK hE hi
  · exact pf_8 hn hd h hOK hE hi
