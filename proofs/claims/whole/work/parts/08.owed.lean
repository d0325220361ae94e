/-! the owed rows -/
theorem i_up {k : Nat} {u : SX} {v : SY} (h : i_Rel k u v) : i_Rel (k + 5) u v := h
theorem i_vc0 (k0 : Int32) (k1 : Int32) : wpX_init (fun u => wpY_init (fun v => i_Rel 2 u v) k0 k1) k0 k1 := by
  obtain ⟨p, hp, p1, p8⟩ := re_Cx k0 8 8 rfl (by omega) (by omega)
  obtain ⟨q, hq, q1, q4⟩ := re_Cx k1 4096 4096 rfl (by omega) (by omega)
  refine re_Cl rfl hp (re_Cl rfl hq (re_Y0 hp hq ?_))
  exact ⟨p, q, 0, 0, 0, 0, 0, fun _ => 0, fun _ => 0, fun _ => 0, fun _ => 0, fun _ => 0, fun _ => 0, fun _ => 0, fun _ => 0, fun _ => 0, fun _ => 0, fun _ => 0, fun _ => 0, rfl, rfl, p1, p8, q1, q4, by omega, rfl, fun x h1 h2 => absurd h2 (by omega), Or.inl ⟨rfl, rfl, rfl, rfl, rfl, rfl⟩⟩
theorem i_vc_addLine {k : Nat} {u : SX} {v : SY} (I : i_Rel k u v) (hk : k + 5 ≤ 2562) (v1 : Int32) (v2 : Int32) (v3 : Int32) (v4 : Int32) : wpX_addLine (fun r u' => wpY_addLine (fun r' v' => r' = r ∧ i_Rel (k + 5) u' v') v v1 v2 v3 v4) u v1 v2 v3 v4 := by
  obtain ⟨d, b, n, s, ln, dp, ev, K, A, B, C, P, L, Q, O, bp, vs, cl, fr, rfl, rfl, hI⟩ := I
  have hs4 := re_s4 hI
  have J := hI
  obtain ⟨d1, d8, b1, b4, hn, hK0, hOK, hS⟩ := hI
  by_cases s0 : s = 0
  · subst s0
    obtain ⟨_, rfl, rfl, rfl, rfl, rfl⟩ : 0 = 0 ∧ ln = 0 ∧ dp = 0 ∧ ev = 0 ∧ bp = (fun _ => 0) ∧ vs = (fun _ => 0) := by
      rcases hS with z | ⟨_, ⟨z, _⟩ | ⟨z, _⟩⟩
      · exact z
      · exact absurd z (by decide)
      · exact absurd z (by decide)
    by_cases hc : n < 32
    · by_cases h1 : v1 < 1
      · have c32 : ¬ nI n = 32 := fun z => absurd ((nI_eq (a := n) (b := 32) (by omega) (by omega)).mp z) (by omega)
        exact br_t rfl (br_t (nI_lt (a := n) (b := 32) hc (by omega)) (br_t h1 (br_t rfl (br_f c32 (br_t h1 ⟨rfl, re_mk J⟩)))))
      · by_cases h8 : v1 ≤ 8
        · rcases re_kk (yd := nI d) (yb := nI b) (ye := 0) (yl := nI 0) (yq := nI 0) (K := K) (A := A) (B := B) (C := C) (bp := fun _ => 0) (vs := fun _ => 0) (fr := fr) hc h1 h8 v2 v3 v4 with ⟨⟨hk, hF⟩, hY⟩ | ⟨hN, hY⟩
          · refine re_xa hc h1 h8 hF (hY _ (re_ya hc ⟨rfl, re_mk (s := 0) (ln := 0) (dp := 0) ⟨d1, d8, b1, b4, hc, ?_, re_ok hOK hk, Or.inl ⟨rfl, rfl, rfl, rfl, rfl, rfl⟩⟩⟩))
            rw [pk_un (by omega)]
            exact hK0
          · exact re_xn hc h1 h8 hN (hY _ ⟨rfl, re_mk J⟩)
        · have c32 : ¬ nI n = 32 := fun z => absurd ((nI_eq (a := n) (b := 32) (by omega) (by omega)).mp z) (by omega)
          exact br_t rfl (br_t (nI_lt (a := n) (b := 32) hc (by omega)) (br_f h1 (br_t (Int32.not_le.mp h8) (br_t rfl (br_f c32 (br_f h1 (br_f h8 ⟨rfl, re_mk J⟩)))))))
    · have c32 : nI n = 32 := congrArg nI (show n = 32 by omega)
      exact br_t rfl (br_f (nI_nlt (a := n) (b := 32) (by omega) (by omega)) (br_t rfl (br_t c32 ⟨rfl, re_mk J⟩)))
  · have hs : ¬ nI s = 0 := nI_ne0 (by omega) (by omega)
    exact br_f hs (br_f hs ⟨rfl, re_mk J⟩)
theorem i_vc_compile {k : Nat} {u : SX} {v : SY} (I : i_Rel k u v) (hk : k + 5 ≤ 2562) : wpX_compile (fun r u' => wpY_compile (fun r' v' => r' = r ∧ i_Rel (k + 5) u' v') v) u := by
  obtain ⟨d, b, n, s, ln, dp, ev, K, A, B, C, P, L, Q, O, bp, vs, cl, fr, rfl, rfl, hI⟩ := I
  have hs4 := re_s4 hI
  have J := hI
  obtain ⟨d1, d8, b1, b4, hn, hK0, hOK, hS⟩ := hI
  by_cases s0 : s = 0
  · subst s0
    obtain ⟨_, rfl, rfl, rfl, rfl, rfl⟩ : 0 = 0 ∧ ln = 0 ∧ dp = 0 ∧ ev = 0 ∧ bp = (fun _ => 0) ∧ vs = (fun _ => 0) := by
      rcases hS with z | ⟨_, ⟨z, _⟩ | ⟨z, _⟩⟩
      · exact z
      · exact absurd z (by decide)
      · exact absurd z (by decide)
    obtain ⟨r, O', P', Q', hr⟩ := cm_all (xd := nI d) (xb := nI b) (xl := nI 0) (xq := nI 0) (xe := 0) (yd := nI d) (yb := nI b) (ye := 0) (yl := nI 0) (yq := nI 0) (K := K) (A := A) (B := B) (C := C) (P := P) (L := L) (Q := Q) (O := O) (vs := fun _ => 0) (cl := cl) (fr := fr) hn hOK
    rcases hr with ⟨hr, hX, hY⟩ | ⟨hr, hX, hY⟩
    · exact hX _ (hY _ ⟨rfl, re_mk (s := 0) (ln := 0) (dp := 0) ⟨d1, d8, b1, b4, hn, hK0, hOK, Or.inl ⟨rfl, rfl, rfl, rfl, rfl, rfl⟩⟩⟩)
    · exact hX _ (fun L' hL => hY _ ⟨rfl, re_mk (s := 1) (ln := 0) (dp := 0) ⟨d1, d8, b1, b4, hn, hK0, hOK, Or.inr ⟨hL, Or.inl ⟨Or.inl rfl, rfl, rfl⟩⟩⟩⟩)
  · have hs : ¬ nI s = 0 := nI_ne0 (by omega) (by omega)
    exact br_f hs (br_f hs ⟨rfl, re_mk J⟩)
theorem i_vc_setBreakpoint {k : Nat} {u : SX} {v : SY} (I : i_Rel k u v) (hk : k + 5 ≤ 2562) (v1 : Int32) : wpX_setBreakpoint (fun r u' => wpY_setBreakpoint (fun r' v' => r' = r ∧ i_Rel (k + 5) u' v') v v1) u v1 := by
  obtain ⟨d, b, n, s, ln, dp, ev, K, A, B, C, P, L, Q, O, bp, vs, cl, fr, rfl, rfl, hI⟩ := I
  have hs4 := re_s4 hI
  have J := hI
  obtain ⟨d1, d8, b1, b4, hn, hK0, hOK, hS⟩ := hI
  by_cases s0 : s = 0
  · have hs : nI s = 0 := congrArg nI s0
    exact br_t hs (br_t hs ⟨rfl, re_mk J⟩)
  · have hs : ¬ nI s = 0 := nI_ne0 (by omega) (by omega)
    have hCP : db_CP K A P L Q n := by
      rcases hS with ⟨z, _⟩ | ⟨z, _⟩
      · exact absurd z s0
      · exact z
    have hR := hS.resolve_left (fun z => s0 z.1)
    rcases re_ln v1 hn with z | ⟨z1, z2⟩ | ⟨x, x1, x2, rfl⟩
    · exact br_f hs (re_il0 (Or.inl z) (br_t rfl (br_f hs (br_t z ⟨rfl, re_mk J⟩))))
    · exact br_f hs (re_il0 (Or.inr ⟨z1, z2⟩) (br_t rfl (br_f hs (br_f z1 (br_f (Int32.not_le.mpr z2) ⟨rfl, re_mk J⟩)))))
    · obtain ⟨r, bp', hX, hY⟩ := re_sb (xd := nI d) (xb := nI b) (xs := nI s) (xl := nI ln) (xq := nI dp) (xe := ev) (yd := nI d) (yb := nI b) (ys := nI s) (ye := ev) (yl := nI ln) (yq := nI dp) (A := A) (B := B) (C := C) (L := L) (Q := Q) (O := O) (bp := bp) (vs := vs) (cl := cl) (fr := fr) hn hCP.1 (n + 1) x (by omega) x1 (by omega)
      exact br_f hs (re_il1 hn x1 x2 (br_f (by decide) ⟨n + 2, hX _ (br_f hs (br_f (nI_nlt (a := x) (b := 1) (by omega) (by omega)) (br_t (nI_le x2 (by omega)) ⟨n + 2, hY _ ⟨rfl, re_mk ⟨d1, d8, b1, b4, hn, hK0, hOK, Or.inr hR⟩⟩ (n + 2) (by omega)⟩))) (n + 2) (by omega)⟩))
theorem i_vc_clearBreakpoint {k : Nat} {u : SX} {v : SY} (I : i_Rel k u v) (hk : k + 5 ≤ 2562) (v1 : Int32) : wpX_clearBreakpoint (fun r u' => wpY_clearBreakpoint (fun r' v' => r' = r ∧ i_Rel (k + 5) u' v') v v1) u v1 := by
  obtain ⟨d, b, n, s, ln, dp, ev, K, A, B, C, P, L, Q, O, bp, vs, cl, fr, rfl, rfl, hI⟩ := I
  have hs4 := re_s4 hI
  have J := hI
  obtain ⟨d1, d8, b1, b4, hn, hK0, hOK, hS⟩ := hI
  by_cases s0 : s = 0
  · have hs : nI s = 0 := congrArg nI s0
    exact br_t hs (br_t hs ⟨rfl, re_mk J⟩)
  · have hs : ¬ nI s = 0 := nI_ne0 (by omega) (by omega)
    have hCP : db_CP K A P L Q n := by
      rcases hS with ⟨z, _⟩ | ⟨z, _⟩
      · exact absurd z s0
      · exact z
    have hR := hS.resolve_left (fun z => s0 z.1)
    rcases re_ln v1 hn with z | ⟨z1, z2⟩ | ⟨x, x1, x2, rfl⟩
    · exact br_f hs (re_il0 (Or.inl z) (br_t rfl (br_f hs (br_t z ⟨rfl, re_mk J⟩))))
    · exact br_f hs (re_il0 (Or.inr ⟨z1, z2⟩) (br_t rfl (br_f hs (br_f z1 (br_t z2 ⟨rfl, re_mk J⟩)))))
    · have l1 : ¬ nI x < 1 := nI_nlt (a := x) (b := 1) (by omega) (by omega)
      have l2 : ¬ nI n < nI x := nI_nlt (by omega) (by omega)
      have w : vp_in (nI x) 34 := vp_in_nI (by omega) (by omega)
      have w' : vp_in (nI x) 33 := vp_in_nI (by omega) (by omega)
      by_cases hb : bp (nI x).toNatClampNeg = 0
      · exact br_f hs (re_il1 hn x1 x2 (br_f (by decide) ⟨w, br_t hb (br_f hs (br_f l1 (br_f l2 ⟨w', br_t hb ⟨rfl, re_mk J⟩⟩)))⟩))
      · exact br_f hs (re_il1 hn x1 x2 (br_f (by decide) ⟨w, br_f hb ⟨w, nm_e (br_f hs (br_f l1 (br_f l2 ⟨w', br_f hb ⟨w', nm_e ⟨rfl, re_mk ⟨d1, d8, b1, b4, hn, hK0, hOK, Or.inr hR⟩⟩⟩⟩)))⟩⟩))
theorem i_vc_restart {k : Nat} {u : SX} {v : SY} (I : i_Rel k u v) (hk : k + 5 ≤ 2562) : wpX_restart (fun r u' => wpY_restart (fun r' v' => r' = r ∧ i_Rel (k + 5) u' v') v) u := by
  obtain ⟨d, b, n, s, ln, dp, ev, K, A, B, C, P, L, Q, O, bp, vs, cl, fr, rfl, rfl, hI⟩ := I
  have hs4 := re_s4 hI
  have J := hI
  obtain ⟨d1, d8, b1, b4, hn, hK0, hOK, hS⟩ := hI
  by_cases s0 : s = 0
  · have hs : nI s = 0 := congrArg nI s0
    exact br_t hs (br_t hs ⟨rfl, re_mk J⟩)
  · have hs : ¬ nI s = 0 := nI_ne0 (by omega) (by omega)
    have hCP : db_CP K A P L Q n := by
      rcases hS with ⟨z, _⟩ | ⟨z, _⟩
      · exact absurd z s0
      · exact z
    have hR := hS.resolve_left (fun z => s0 z.1)
    exact br_f hs (xa_mr (br_f hs (ya_rs ⟨rfl, re_mk (s := 1) (ln := 0) (dp := 0) ⟨d1, d8, b1, b4, hn, hK0, hOK, Or.inr ⟨hCP, Or.inl ⟨Or.inl rfl, rfl, rfl⟩⟩⟩⟩)))
theorem i_vc_cont {k : Nat} {u : SX} {v : SY} (I : i_Rel k u v) (hk : k + 5 ≤ 2562) : wpX_cont (fun r u' => wpY_cont (fun r' v' => r' = r ∧ i_Rel (k + 5) u' v') v) u := by
  obtain ⟨d, b, n, s, ln, dp, ev, K, A, B, C, P, L, Q, O, bp, vs, cl, fr, rfl, rfl, hI⟩ := I
  obtain ⟨r, s', ln', dp', ev', vs2, cl2, fr2, hR, hX, hY⟩ := re_re (m := 0) (C := C) (O := O) (by omega) hI
  unfold wpX_cont
  refine hX _ ?_
  dsimp only
  unfold wpY_cont
  exact hY _ ⟨rfl, re_mk hR⟩
theorem i_vc_stepInto {k : Nat} {u : SX} {v : SY} (I : i_Rel k u v) (hk : k + 5 ≤ 2562) : wpX_stepInto (fun r u' => wpY_stepInto (fun r' v' => r' = r ∧ i_Rel (k + 5) u' v') v) u := by
  obtain ⟨d, b, n, s, ln, dp, ev, K, A, B, C, P, L, Q, O, bp, vs, cl, fr, rfl, rfl, hI⟩ := I
  obtain ⟨r, s', ln', dp', ev', vs2, cl2, fr2, hR, hX, hY⟩ := re_re (m := 1) (C := C) (O := O) (by omega) hI
  unfold wpX_stepInto
  refine hX _ ?_
  dsimp only
  unfold wpY_stepInto
  exact hY _ ⟨rfl, re_mk hR⟩
theorem i_vc_stepOver {k : Nat} {u : SX} {v : SY} (I : i_Rel k u v) (hk : k + 5 ≤ 2562) : wpX_stepOver (fun r u' => wpY_stepOver (fun r' v' => r' = r ∧ i_Rel (k + 5) u' v') v) u := by
  obtain ⟨d, b, n, s, ln, dp, ev, K, A, B, C, P, L, Q, O, bp, vs, cl, fr, rfl, rfl, hI⟩ := I
  obtain ⟨r, s', ln', dp', ev', vs2, cl2, fr2, hR, hX, hY⟩ := re_re (m := 2) (C := C) (O := O) (by omega) hI
  unfold wpX_stepOver
  refine hX _ ?_
  dsimp only
  unfold wpY_stepOver
  exact hY _ ⟨rfl, re_mk hR⟩
theorem i_vc_stepOut {k : Nat} {u : SX} {v : SY} (I : i_Rel k u v) (hk : k + 5 ≤ 2562) : wpX_stepOut (fun r u' => wpY_stepOut (fun r' v' => r' = r ∧ i_Rel (k + 5) u' v') v) u := by
  obtain ⟨d, b, n, s, ln, dp, ev, K, A, B, C, P, L, Q, O, bp, vs, cl, fr, rfl, rfl, hI⟩ := I
  obtain ⟨r, s', ln', dp', ev', vs2, cl2, fr2, hR, hX, hY⟩ := re_re (m := 3) (C := C) (O := O) (by omega) hI
  unfold wpX_stepOut
  refine hX _ ?_
  dsimp only
  unfold wpY_stepOut
  exact hY _ ⟨rfl, re_mk hR⟩
theorem i_vc_state {k : Nat} {u : SX} {v : SY} (I : i_Rel k u v) (hk : k + 5 ≤ 2562) : wpX_state (fun r => wpY_state (fun r' => r' = r ∧ i_Rel (k + 5) u v) v) u := by
  obtain ⟨d, b, n, s, ln, dp, ev, K, A, B, C, P, L, Q, O, bp, vs, cl, fr, rfl, rfl, hI⟩ := I
  exact ⟨rfl, re_mk hI⟩
theorem i_vc_currentLine {k : Nat} {u : SX} {v : SY} (I : i_Rel k u v) (hk : k + 5 ≤ 2562) : wpX_currentLine (fun r => wpY_currentLine (fun r' => r' = r ∧ i_Rel (k + 5) u v) v) u := by
  obtain ⟨d, b, n, s, ln, dp, ev, K, A, B, C, P, L, Q, O, bp, vs, cl, fr, rfl, rfl, hI⟩ := I
  have hs4 := re_s4 hI
  have J := hI
  obtain ⟨d1, d8, b1, b4, hn, hK0, hOK, hS⟩ := hI
  by_cases s24 : s = 2 ∨ s = 4
  · rcases s24 with s2 | s4
    · have h2 : nI s = 2 := congrArg nI s2
      exact br_t h2 ⟨rfl, re_mk J⟩
    · have h2 : ¬ nI s = 2 := fun z => absurd ((nI_eq (a := s) (b := 2) (by omega) (by omega)).mp z) (by omega)
      have h4 : nI s = 4 := congrArg nI s4
      exact br_f h2 (br_t h4 ⟨rfl, re_mk J⟩)
  · have h2 : ¬ nI s = 2 := fun z => s24 (Or.inl ((nI_eq (a := s) (b := 2) (by omega) (by omega)).mp z))
    have h4 : ¬ nI s = 4 := fun z => s24 (Or.inr ((nI_eq (a := s) (b := 4) (by omega) (by omega)).mp z))
    have hz : ln = 0 ∧ dp = 0 := by
      rcases hS with ⟨_, z1, z2, _⟩ | ⟨_, ⟨_, z1, z2⟩ | ⟨z, _⟩⟩
      · exact ⟨z1, z2⟩
      · exact ⟨z1, z2⟩
      · exact absurd z s24
    refine br_f h2 (br_f h4 ⟨?_, re_mk J⟩)
    rw [hz.1]
    exact nI_0.symm
theorem i_vc_depth {k : Nat} {u : SX} {v : SY} (I : i_Rel k u v) (hk : k + 5 ≤ 2562) : wpX_depth (fun r => wpY_depth (fun r' => r' = r ∧ i_Rel (k + 5) u v) v) u := by
  obtain ⟨d, b, n, s, ln, dp, ev, K, A, B, C, P, L, Q, O, bp, vs, cl, fr, rfl, rfl, hI⟩ := I
  have hs4 := re_s4 hI
  have J := hI
  obtain ⟨d1, d8, b1, b4, hn, hK0, hOK, hS⟩ := hI
  by_cases s24 : s = 2 ∨ s = 4
  · rcases s24 with s2 | s4
    · have h2 : nI s = 2 := congrArg nI s2
      exact br_t h2 ⟨rfl, re_mk J⟩
    · have h2 : ¬ nI s = 2 := fun z => absurd ((nI_eq (a := s) (b := 2) (by omega) (by omega)).mp z) (by omega)
      have h4 : nI s = 4 := congrArg nI s4
      exact br_f h2 (br_t h4 ⟨rfl, re_mk J⟩)
  · have h2 : ¬ nI s = 2 := fun z => s24 (Or.inl ((nI_eq (a := s) (b := 2) (by omega) (by omega)).mp z))
    have h4 : ¬ nI s = 4 := fun z => s24 (Or.inr ((nI_eq (a := s) (b := 4) (by omega) (by omega)).mp z))
    have hz : ln = 0 ∧ dp = 0 := by
      rcases hS with ⟨_, z1, z2, _⟩ | ⟨_, ⟨_, z1, z2⟩ | ⟨z, _⟩⟩
      · exact ⟨z1, z2⟩
      · exact ⟨z1, z2⟩
      · exact absurd z s24
    refine br_f h2 (br_f h4 ⟨?_, re_mk J⟩)
    rw [hz.2]
    exact nI_0.symm
theorem i_vc_frameLine {k : Nat} {u : SX} {v : SY} (I : i_Rel k u v) (hk : k + 5 ≤ 2562) (v1 : Int32) : wpX_frameLine (fun r => wpY_frameLine (fun r' => r' = r ∧ i_Rel (k + 5) u v) v v1) u v1 := by
  obtain ⟨d, b, n, s, ln, dp, ev, K, A, B, C, P, L, Q, O, bp, vs, cl, fr, rfl, rfl, hI⟩ := I
  have hs4 := re_s4 hI
  have J := hI
  obtain ⟨d1, d8, b1, b4, hn, hK0, hOK, hS⟩ := hI
  have hdp : dp ≤ 8 := by
    rcases hS with ⟨_, _, z, _⟩ | ⟨_, ⟨_, _, z⟩ | ⟨_, z⟩⟩
    · omega
    · omega
    · have := z.2.2.2.1
      omega
  by_cases s24 : s = 2 ∨ s = 4
  · have hF : db_FR cl fr n dp := by
      rcases hS with ⟨z, _⟩ | ⟨_, ⟨z, _⟩ | ⟨_, z⟩⟩
      · omega
      · omega
      · exact z.2.2.2.2
    have hY : ∀ post : Int32 → Prop, wY_frameLine_18 post v1 (nI d) (nI b) (nI n) (nI s) ev (nI ln) (nI dp) K A B C bp vs fr → wpY_frameLine post (nI d, nI b, nI n, nI s, ev, nI ln, nI dp, K, A, B, C, bp, vs, fr) v1 := by
      intro post hp
      rcases s24 with s2 | s4
      · exact br_t (congrArg nI s2) hp
      · exact br_f (fun z => absurd ((nI_eq (a := s) (b := 2) (by omega) (by omega)).mp z) (by omega)) (br_t (congrArg nI s4) hp)
    rcases re_ln v1 (n := dp) (by omega) with z | ⟨z1, z2⟩ | ⟨x, x1, x2, rfl⟩
    · exact br_t z (hY _ (br_t z ⟨rfl, re_mk J⟩))
    · exact br_f z1 (br_f (Int32.not_le.mpr z2) (hY _ (br_f z1 (br_t z2 ⟨rfl, re_mk J⟩))))
    · have l1 : ¬ nI x < 1 := nI_nlt (a := x) (b := 1) (by omega) (by omega)
      have w : vp_in (nI x) 9 := vp_in_nI (by omega) (by omega)
      have e : fr (nI x).toNatClampNeg = cl (nI x).toNatClampNeg := by
        rw [nI_clamp (by omega)]
        exact (hF x x1 x2).1.symm
      exact br_f l1 (br_t (nI_le x2 (by omega)) ⟨w, hY _ (br_f l1 (br_f (nI_nlt (by omega) (by omega)) (br_t (nI_le (a := x) (b := 8) (by omega) (by omega)) ⟨w, e, re_mk J⟩)))⟩)
  · have h2 : ¬ nI s = 2 := fun z => s24 (Or.inl ((nI_eq (a := s) (b := 2) (by omega) (by omega)).mp z))
    have h4 : ¬ nI s = 4 := fun z => s24 (Or.inr ((nI_eq (a := s) (b := 4) (by omega) (by omega)).mp z))
    have hz : ln = 0 ∧ dp = 0 := by
      rcases hS with ⟨_, z1, z2, _⟩ | ⟨_, ⟨_, z1, z2⟩ | ⟨z, _⟩⟩
      · exact ⟨z1, z2⟩
      · exact ⟨z1, z2⟩
      · exact absurd z s24
    have hY : ∀ post : Int32 → Prop, post 0 → wpY_frameLine post (nI d, nI b, nI n, nI s, ev, nI ln, nI dp, K, A, B, C, bp, vs, fr) v1 := fun post hp => br_f h2 (br_f h4 hp)
    rcases re_ln v1 (n := dp) (by omega) with z | ⟨z1, z2⟩ | ⟨x, x1, x2, rfl⟩
    · exact br_t z (hY _ ⟨rfl, re_mk J⟩)
    · exact br_f z1 (br_f (Int32.not_le.mpr z2) (hY _ ⟨rfl, re_mk J⟩))
    · omega
theorem i_vc_variable {k : Nat} {u : SX} {v : SY} (I : i_Rel k u v) (hk : k + 5 ≤ 2562) (v1 : Int32) : wpX_variable (fun r => wpY_variable (fun r' => r' = r ∧ i_Rel (k + 5) u v) v v1) u v1 := by
  obtain ⟨d, b, n, s, ln, dp, ev, K, A, B, C, P, L, Q, O, bp, vs, cl, fr, rfl, rfl, hI⟩ := I
  unfold wpX_variable
  dsimp only
  have hs4 := re_s4 hI
  have J := hI
  obtain ⟨d1, d8, b1, b4, hn, hK0, hOK, hS⟩ := hI
  by_cases s0 : s = 0
  · have hs : nI s = 0 := congrArg nI s0
    have hv : vs = (fun _ => 0) := by
      rcases hS with ⟨_, _, _, _, _, z⟩ | ⟨_, ⟨z, _⟩ | ⟨z, _⟩⟩
      · exact z
      · omega
      · omega
    by_cases h : re_V 8 v1
    · refine re_v1 h (br_f (by decide) ⟨?_, br_t hs ⟨?_, re_mk J⟩⟩)
      · obtain ⟨j, hj, rfl⟩ := h
        exact vp_in_nI hj (by omega)
      · rw [hv]
    · exact re_v0 h (br_t rfl (br_t hs ⟨rfl, re_mk J⟩))
  · have hs : ¬ nI s = 0 := nI_ne0 (by omega) (by omega)
    by_cases h : re_V 8 v1
    · have w : vp_in v1 8 := by
        obtain ⟨j, hj, rfl⟩ := h
        exact vp_in_nI hj (by omega)
      exact re_v1 h (br_f (by decide) ⟨w, br_f hs (re_y1 h ⟨w, rfl, re_mk J⟩)⟩)
    · exact re_v0 h (br_t rfl (br_f hs (re_y0 h ⟨rfl, re_mk J⟩)))
theorem i_vc_eventCount {k : Nat} {u : SX} {v : SY} (I : i_Rel k u v) (hk : k + 5 ≤ 2562) : wpX_eventCount (fun r => wpY_eventCount (fun r' => r' = r ∧ i_Rel (k + 5) u v) v) u := by
  obtain ⟨d, b, n, s, ln, dp, ev, K, A, B, C, P, L, Q, O, bp, vs, cl, fr, rfl, rfl, hI⟩ := I
  have hs4 := re_s4 hI
  have J := hI
  obtain ⟨d1, d8, b1, b4, hn, hK0, hOK, hS⟩ := hI
  by_cases s0 : s = 0
  · have hs : nI s = 0 := congrArg nI s0
    have hv : ev = 0 := by
      rcases hS with ⟨_, _, _, z, _⟩ | ⟨_, ⟨z, _⟩ | ⟨z, _⟩⟩
      · exact z
      · omega
      · omega
    exact br_t hs ⟨hv.symm, re_mk J⟩
  · have hs : ¬ nI s = 0 := nI_ne0 (by omega) (by omega)
    exact br_f hs ⟨rfl, re_mk J⟩
theorem i_vc_hasCode {k : Nat} {u : SX} {v : SY} (I : i_Rel k u v) (hk : k + 5 ≤ 2562) (v1 : Int32) : wpX_hasCode (fun r => wpY_hasCode (fun r' => r' = r ∧ i_Rel (k + 5) u v) v v1) u v1 := by
  obtain ⟨d, b, n, s, ln, dp, ev, K, A, B, C, P, L, Q, O, bp, vs, cl, fr, rfl, rfl, hI⟩ := I
  have hs4 := re_s4 hI
  have J := hI
  obtain ⟨d1, d8, b1, b4, hn, hK0, hOK, hS⟩ := hI
  by_cases s0 : s = 0
  · have hs : nI s = 0 := congrArg nI s0
    exact br_t hs (br_t hs ⟨rfl, re_mk J⟩)
  · have hs : ¬ nI s = 0 := nI_ne0 (by omega) (by omega)
    have hCP : db_CP K A P L Q n := by
      rcases hS with ⟨z, _⟩ | ⟨z, _⟩
      · exact absurd z s0
      · exact z
    have hR := hS.resolve_left (fun z => s0 z.1)
    rcases re_ln v1 hn with z | ⟨z1, z2⟩ | ⟨x, x1, x2, rfl⟩
    · exact br_f hs (re_il0 (Or.inl z) (br_t rfl (br_f hs (br_t z ⟨rfl, re_mk J⟩))))
    · exact br_f hs (re_il0 (Or.inr ⟨z1, z2⟩) (br_t rfl (br_f hs (br_f z1 (br_f (Int32.not_le.mpr z2) ⟨rfl, re_mk J⟩)))))
    · have l1 : ¬ nI x < 1 := nI_nlt (a := x) (b := 1) (by omega) (by omega)
      have l2 : nI x ≤ nI n := nI_le x2 (by omega)
      by_cases hE : db_E K x
      · exact br_f hs (re_il1 hn x1 x2 (br_f (by decide) (xa_E1 hn hCP.1 x1 x2 hE (br_f (by decide) (br_f hs (br_f l1 (br_t l2 (ya_E1 hn hCP.1 x1 x2 hE (br_f (by decide) ⟨rfl, re_mk J⟩)))))))))
      · exact br_f hs (re_il1 hn x1 x2 (br_f (by decide) (xa_E0 hn hCP.1 x1 x2 hE (br_t rfl (br_f hs (br_f l1 (br_t l2 (ya_E0 hn hCP.1 x1 x2 hE (br_t rfl ⟨rfl, re_mk J⟩)))))))))
