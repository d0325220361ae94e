/-! resuming: the two loops, event by event -/
variable {K A B C P L Q O bp : Nat → Int32} {n d b m l0 d0 : Nat}
def db_RR (K cl fr : Nat → Int32) (n d s ln dp : Nat) : Prop := (s = 3 ∧ ln = 0 ∧ dp = 0) ∨ ((s = 2 ∨ s = 4) ∧ db_EV K cl fr n d ln dp)
def db_st (m dp d0 q l0 : Nat) : Prop := m = 1 ∨ (m = 2 ∧ (dp < d0 ∨ (dp = d0 ∧ ¬ q = l0))) ∨ (m = 3 ∧ dp < d0)
theorem rs_m1 {q : Nat} (h : q ≤ 32) : ¬ nI q = -1 := fun z => by
  have e := congrArg Int32.toInt z
  rw [nI_toInt (by omega), show (-1 : Int32).toInt = -1 from by decide] at e
  omega
theorem rs_se {xd xb xc xs xe : Int32} {vs cl : Nat → Int32} {post : Int32 → Prop} {dp q : Nat} (hm : m ≤ 3) (hl0 : l0 ≤ 32) (hd0 : d0 ≤ 8) (hq : q ≤ 32) (hdp : dp ≤ 8) (hT : db_st m dp d0 q l0 → post 1) (hF : ¬ db_st m dp d0 q l0 → post 0) : wpX_stepEnds post (xd, xb, xc, xs, nI q, nI dp, xe, K, A, B, C, P, L, Q, O, bp, vs, cl) (nI m) (nI l0) (nI d0) := by
  have i1 : nI m < 1 ↔ m < 1 := nI_ltI (b := 1) (by omega) (by omega)
  have i3 : 3 < nI m ↔ 3 < m := nI_ltI (a := 3) (by omega) (by omega)
  have e1 : nI m = 1 ↔ m = 1 := nI_eq (b := 1) (by omega) (by omega)
  have e2 : nI m = 2 ↔ m = 2 := nI_eq (b := 2) (by omega) (by omega)
  have e3 : nI m = 3 ↔ m = 3 := nI_eq (b := 3) (by omega) (by omega)
  have t1 : nI dp < nI d0 ↔ dp < d0 := nI_ltI (by omega) (by omega)
  have t2 : nI dp = nI d0 ↔ dp = d0 := nI_eq (by omega) (by omega)
  have t3 : nI q = nI l0 ↔ q = l0 := nI_eq (by omega) (by omega)
  have t4 : nI d0 ≤ nI dp ↔ d0 ≤ dp := nI_leI (by omega) (by omega)
  unfold wpX_stepEnds
  dsimp only
  rw [i1, i3, e1, e2, e3, t1, t2, t3, t4]
  refine ⟨fun z => hF ?_, fun z1 => ⟨fun z => hF ?_, fun z2 => ⟨fun z => hT ?_, fun z3 => ⟨fun z => ⟨fun y => hT ?_, fun y => ⟨fun y2 => ⟨fun y3 => hF ?_, fun y3 => hT ?_⟩, fun y2 => hF ?_⟩⟩, fun z4 => ⟨fun z => ⟨fun y => hF ?_, fun y => hT ?_⟩, fun _ => trivial⟩⟩⟩⟩⟩
  all_goals (unfold db_st; omega)
theorem rs_ye {dp q : Nat} {T F G : Prop} (hm : m ≤ 3) (hl0 : l0 ≤ 32) (hd0 : d0 ≤ 8) (hq : q ≤ 32) (hdp : dp ≤ 8) (hG : (((nI m = 3 → (((nI d0 ≤ nI dp → F) ∧ (¬ nI d0 ≤ nI dp → T)))) ∧ (¬ nI m = 3 → F))) → G) (hT : db_st m dp d0 q l0 → T) (hF : ¬ db_st m dp d0 q l0 → F) :
    (nI m = 1 → T) ∧ (¬ nI m = 1 → ((nI m = 2 → ((nI dp < nI d0 → T) ∧ (¬ nI dp < nI d0 → ((nI dp = nI d0 → ((nI q = nI l0 → G) ∧ (¬ nI q = nI l0 → T))) ∧ (¬ nI dp = nI d0 → G))))) ∧ (¬ nI m = 2 → G))) := by
  have e1 : nI m = 1 ↔ m = 1 := nI_eq (b := 1) (by omega) (by omega)
  have e2 : nI m = 2 ↔ m = 2 := nI_eq (b := 2) (by omega) (by omega)
  have e3 : nI m = 3 ↔ m = 3 := nI_eq (b := 3) (by omega) (by omega)
  have t1 : nI dp < nI d0 ↔ dp < d0 := nI_ltI (by omega) (by omega)
  have t2 : nI dp = nI d0 ↔ dp = d0 := nI_eq (by omega) (by omega)
  have t3 : nI q = nI l0 ↔ q = l0 := nI_eq (by omega) (by omega)
  have t4 : nI d0 ≤ nI dp ↔ d0 ≤ dp := nI_leI (by omega) (by omega)
  rw [e3, t4] at hG
  rw [e1, e2, t1, t2, t3]
  refine ⟨fun z => hT ?_, fun z1 => ⟨fun z => ⟨fun y => hT ?_, fun y => ⟨fun y2 => ⟨fun y3 => hG ⟨fun x => absurd x ?_, fun x => hF ?_⟩, fun y3 => hT ?_⟩, fun y2 => hG ⟨fun x => absurd x ?_, fun x => hF ?_⟩⟩⟩, fun z2 => hG ⟨fun x => ⟨fun y => hF ?_, fun y => hT ?_⟩, fun x => hF ?_⟩⟩⟩
  all_goals (first | (unfold db_st; omega) | omega)
theorem rs_loop (hn : n ≤ 32) (hd : d ≤ 8) (hb : b ≤ 4096) (hm : m ≤ 3) (hl0 : l0 ≤ 32) (hd0 : d0 ≤ 8) (h : db_CP K A P L Q n) (hOK : ∀ x, 1 ≤ x → x ≤ n → db_OK (K x) (A x) (B x)) : ∀ rem j, j + rem = b → 1 ≤ j → ∀ (xs ys ev dpX rX rY lY qX qY : Int32) (ln : Nat) (vs cl vs' cl' fr' : Nat → Int32),
    (∀ post : Int32 → SX → Prop, post rX (nI d, nI b, nI n, xs, nI ln, qX, ev, K, A, B, C, P, L, Q, O, bp, vs', cl') → wpX_perform post (nI d, nI b, nI n, xs, nI ln, dpX, ev, K, A, B, C, P, L, Q, O, bp, vs, cl)) →
    db_OUT K cl' fr' n d ln rX rY lY qX qY →
    ∃ (r : Int32) (s' ln' dp' : Nat) (ev' : Int32) (vs2 cl2 fr2 : Nat → Int32), db_RR K cl2 fr2 n d s' ln' dp' ∧
      (∀ post : Int32 → SX → Prop, post r (nI d, nI b, nI n, nI s', nI ln', nI dp', ev', K, A, B, C, P, L, Q, O, bp, vs2, cl2) → ∀ f, rem + 1 < f → wX_resume_31 post (nI m) (nI l0) (nI d0) f (nI j) (nI d) (nI b) (nI n) xs (nI ln) dpX ev K A B C P L Q O bp vs cl) ∧
      (∀ post : Int32 → SY → Prop, post r (nI d, nI b, nI n, nI s', ev', nI ln', nI dp', K, A, B, C, bp, vs2, fr2) → ∀ f, rem + 1 < f → wY_resume_68 post (nI m) (nI l0) (nI d0) f rY (nI j) (nI d) (nI b) (nI n) ys ev lY qY K A B C bp vs' fr') := by
  intro rem
  induction rem using Nat.strongRecOn with
  | _ rem ih =>
    intro j hj j1 xs ys ev dpX rX rY lY qX qY ln vs cl vs' cl' fr' hX hO
    have nl : ¬ nI b < nI j := nI_nlt (by omega) (by omega)
    rcases hO with ⟨rfl, rfl⟩ | ⟨dp, rfl, rfl, rfl, rfl, rfl, hev⟩ | ⟨q, dp, rfl, rfl, rfl, rfl, rfl, hev⟩
    · refine ⟨4, 3, 0, 0, ev, vs', cl', fr', Or.inl ⟨rfl, rfl, rfl⟩, fun post hp f hf => ?_, fun post hp f hf => ?_⟩
      · obtain ⟨f, rfl⟩ : ∃ g, f = g + 1 := ⟨f - 1, by omega⟩
        exact br_f nl (hX _ (br_t rfl hp))
      · obtain ⟨f, rfl⟩ : ∃ g, f = g + 1 := ⟨f - 1, by omega⟩
        exact br_f nl (br_t rfl hp)
    · refine ⟨5, 4, ln, dp, ev, vs', cl', fr', Or.inr ⟨Or.inr rfl, hev⟩, fun post hp f hf => ?_, fun post hp f hf => ?_⟩
      · obtain ⟨f, rfl⟩ : ∃ g, f = g + 1 := ⟨f - 1, by omega⟩
        exact br_f nl (hX _ (br_f (by decide) (br_t rfl hp)))
      · obtain ⟨f, rfl⟩ : ∃ g, f = g + 1 := ⟨f - 1, by omega⟩
        exact br_f nl (br_f (by decide) (br_t rfl hp))
    · have q1 := hev.1
      have qn := hev.2.1
      have hdp : dp ≤ d := hev.2.2.2.1
      have qz : ¬ nI q = 0 := nI_ne0 (by omega) (by omega)
      have qm : ¬ nI q = -1 := rs_m1 (by omega)
      have eq : bp (nI q).toNatClampNeg = bp q := by rw [nI_clamp (by omega)]
      have w : vp_in (nI q) 34 := vp_in_nI (by omega) (by omega)
      have w' : vp_in (nI q) 33 := vp_in_nI (by omega) (by omega)
      by_cases st : db_st m dp d0 q l0
      · refine ⟨1, 2, q, dp, ev + 1, vs', cl', fr', Or.inr ⟨Or.inl rfl, hev⟩, fun post hp f hf => ?_, fun post hp f hf => ?_⟩
        · obtain ⟨f, rfl⟩ : ∃ g, f = g + 1 := ⟨f - 1, by omega⟩
          exact br_f nl (hX _ (br_f qz (br_f qm (nm_e (rs_se hm hl0 hd0 (by omega) (by omega) (fun _ => br_f (by decide) hp) (fun z => absurd st z))))))
        · obtain ⟨f, rfl⟩ : ∃ g, f = g + 1 := ⟨f - 1, by omega⟩
          exact br_f nl (br_f (by decide) (br_f (by decide) (nm_e (rs_ye hm hl0 hd0 (by omega) (by omega) (fun z => z) (fun _ => br_f (by decide) hp) (fun z => absurd st z)))))
      · by_cases hbp : bp q = 0
        · by_cases jb : j = b
          · refine ⟨3, 2, q, dp, ev + 1, vs', cl', fr', Or.inr ⟨Or.inl rfl, hev⟩, fun post hp f hf => ?_, fun post hp f hf => ?_⟩
            · obtain ⟨f, rfl⟩ : ∃ g, f = g + 1 + 1 := ⟨f - 2, by omega⟩
              exact br_f nl (hX _ (br_f qz (br_f qm (nm_e (rs_se hm hl0 hd0 (by omega) (by omega) (fun z => absurd z st) (fun _ => br_t rfl ⟨w, br_t (eq.trans hbp) (nm_r (nI_1 j) (br_t (nI_lt (by omega) (by omega)) hp))⟩))))))
            · obtain ⟨f, rfl⟩ : ∃ g, f = g + 1 := ⟨f - 1, by omega⟩
              exact br_f nl (br_f (by decide) (br_f (by decide) (nm_e (rs_ye hm hl0 hd0 (by omega) (by omega) (fun z => z) (fun z => absurd z st) (fun _ => br_t rfl ⟨w', br_t (eq.trans hbp) (br_t (congrArg nI jb) hp)⟩)))))
          · obtain ⟨rX', rY', lY', qX', qY', vs3, cl3, fr3, hO', hX', hY'⟩ := pf_all (xb := nI b) (xs := 2) (xe := ev + 1) (yb := nI b) (ys := 2) (ye := ev + 1) (C := C) (O := O) (bp := bp) (vs := vs') hn hd h (hOK q q1 qn) hev
            obtain ⟨r, s', ln', dp', ev', vs2, cl2, fr2, hR, HX, HY⟩ := ih (rem - 1) (by omega) (j + 1) (by omega) (by omega) 2 2 (ev + 1) (nI dp) rX' rY' lY' qX' qY' q vs' cl' vs3 cl3 fr3 hX' hO'
            refine ⟨r, s', ln', dp', ev', vs2, cl2, fr2, hR, fun post hp f hf => ?_, fun post hp f hf => ?_⟩
            · obtain ⟨f, rfl⟩ : ∃ g, f = g + 1 := ⟨f - 1, by omega⟩
              exact br_f nl (hX _ (br_f qz (br_f qm (nm_e (rs_se hm hl0 hd0 (by omega) (by omega) (fun z => absurd z st) (fun _ => br_t rfl ⟨w, br_t (eq.trans hbp) (nm_r (nI_1 j) (HX post hp f (by omega)))⟩))))))
            · obtain ⟨f, rfl⟩ : ∃ g, f = g + 1 := ⟨f - 1, by omega⟩
              have jne : ¬ nI j = nI b := fun z => jb ((nI_eq (by omega) (by omega)).mp z)
              exact br_f nl (br_f (by decide) (br_f (by decide) (nm_e (rs_ye hm hl0 hd0 (by omega) (by omega) (fun z => z) (fun z => absurd z st) (fun _ => br_t rfl ⟨w', br_t (eq.trans hbp) (br_f jne (hY' _ (nm_r (nI_1 j) (HY post hp f (by omega)))))⟩)))))
        · refine ⟨2, 2, q, dp, ev + 1, vs', cl', fr', Or.inr ⟨Or.inl rfl, hev⟩, fun post hp f hf => ?_, fun post hp f hf => ?_⟩
          · obtain ⟨f, rfl⟩ : ∃ g, f = g + 1 := ⟨f - 1, by omega⟩
            exact br_f nl (hX _ (br_f qz (br_f qm (nm_e (rs_se hm hl0 hd0 (by omega) (by omega) (fun z => absurd z st) (fun _ => br_t rfl ⟨w, br_f (by rw [eq]; exact hbp) hp⟩))))))
          · obtain ⟨f, rfl⟩ : ∃ g, f = g + 1 := ⟨f - 1, by omega⟩
            exact br_f nl (br_f (by decide) (br_f (by decide) (nm_e (rs_ye hm hl0 hd0 (by omega) (by omega) (fun z => z) (fun z => absurd z st) (fun _ => br_t rfl ⟨w', br_f (by rw [eq]; exact hbp) hp⟩)))))
theorem rs_2 {ev : Int32} {ln dp : Nat} {vs cl fr : Nat → Int32} (hn : n ≤ 32) (hd : d ≤ 8) (hb1 : 1 ≤ b) (hb : b ≤ 4096) (hm : m ≤ 3) (h : db_CP K A P L Q n) (hOK : ∀ x, 1 ≤ x → x ≤ n → db_OK (K x) (A x) (B x)) (hev : db_EV K cl fr n d ln dp) : ∃ (r : Int32) (s' ln' dp' : Nat) (ev' : Int32) (vs2 cl2 fr2 : Nat → Int32), db_RR K cl2 fr2 n d s' ln' dp' ∧
      (∀ post : Int32 → SX → Prop, post r (nI d, nI b, nI n, nI s', nI ln', nI dp', ev', K, A, B, C, P, L, Q, O, bp, vs2, cl2) → wpX_resume post (nI d, nI b, nI n, 2, nI ln, nI dp, ev, K, A, B, C, P, L, Q, O, bp, vs, cl) (nI m)) ∧
      (∀ post : Int32 → SY → Prop, post r (nI d, nI b, nI n, nI s', ev', nI ln', nI dp', K, A, B, C, bp, vs2, fr2) → wpY_resume post (nI d, nI b, nI n, 2, ev, nI ln, nI dp, K, A, B, C, bp, vs, fr) (nI m)) := by
  obtain ⟨rX, rY, lY, qX, qY, vs3, cl3, fr3, hO, hX, hY⟩ := pf_all (xb := nI b) (xs := 2) (xe := ev) (yb := nI b) (ys := 2) (ye := ev) (C := C) (O := O) (bp := bp) (vs := vs) hn hd h (hOK ln hev.1 hev.2.1) hev
  have hl2 := hev.2.1
  have hdp : dp ≤ d := hev.2.2.2.1
  obtain ⟨r, s', ln', dp', ev', vs2, cl2, fr2, hR, HX, HY⟩ := rs_loop (l0 := ln) (d0 := dp) hn hd hb hm (by omega) (by omega) h hOK (b - 1) 1 (by omega) (by omega) 2 2 ev (nI dp) rX rY lY qX qY ln vs cl vs3 cl3 fr3 hX hO
  refine ⟨r, s', ln', dp', ev', vs2, cl2, fr2, hR, fun post hp => ?_, fun post hp => ?_⟩
  · refine br_f (by decide) (br_t rfl ?_)
    exact ⟨b + 1, HX post hp (b + 1) (by omega)⟩
  · refine br_f (by decide) (br_t rfl ?_)
    unfold wY_resume_18
    exact br_t rfl (hY _ ⟨b + 1, HY post hp (b + 1) (by omega)⟩)
theorem rs_1 {ev : Int32} {vs cl fr : Nat → Int32} (hn : n ≤ 32) (hd : d ≤ 8) (hb1 : 1 ≤ b) (hb : b ≤ 4096) (hm : m ≤ 3) (h : db_CP K A P L Q n) (hOK : ∀ x, 1 ≤ x → x ≤ n → db_OK (K x) (A x) (B x)) (hK : K 0 = 0) : ∃ (r : Int32) (s' ln' dp' : Nat) (ev' : Int32) (vs2 cl2 fr2 : Nat → Int32), db_RR K cl2 fr2 n d s' ln' dp' ∧
      (∀ post : Int32 → SX → Prop, post r (nI d, nI b, nI n, nI s', nI ln', nI dp', ev', K, A, B, C, P, L, Q, O, bp, vs2, cl2) → wpX_resume post (nI d, nI b, nI n, 1, nI 0, nI 0, ev, K, A, B, C, P, L, Q, O, bp, vs, cl) (nI m)) ∧
      (∀ post : Int32 → SY → Prop, post r (nI d, nI b, nI n, nI s', ev', nI ln', nI dp', K, A, B, C, bp, vs2, fr2) → wpY_resume post (nI d, nI b, nI n, 1, ev, nI 0, nI 0, K, A, B, C, bp, vs, fr) (nI m)) := by
  obtain ⟨q, hq, hq2⟩ := db_land h (n + 1) 1 (by omega) (by omega) (by omega)
  have hqn : q ≤ n := by rcases hq2 with z | ⟨_, z, _⟩ <;> omega
  have e0 : (nI 0).toNatClampNeg = 0 := nI_clamp (by omega)
  have w : vp_in (nI 0) 34 := vp_in_nI (by omega) (by omega)
  have hX : ∀ post : Int32 → SX → Prop, post (nI q) (nI d, nI b, nI n, 1, nI 0, nI 0, ev, K, A, B, C, P, L, Q, O, bp, vs, cl) → wpX_perform post (nI d, nI b, nI n, 1, nI 0, nI 0, ev, K, A, B, C, P, L, Q, O, bp, vs, cl) := by
    intro post hp
    refine ⟨w, nm_e ⟨w, nm_r (e' := (0 : Int32)) (by rw [e0]; exact hK) (br_t (by decide) ?_)⟩⟩
    unfold wX_perform_173
    refine pf_la hn (by omega) ?_
    rw [hq]
    exact hp
  have key : ∀ (rY lY : Int32), db_OUT K cl fr n d 0 (nI q) rY lY (nI 0) (nI 0) → (∀ post : Int32 → SY → Prop, post rY (nI d, nI b, nI n, 1, ev, lY, nI 0, K, A, B, C, bp, vs, fr) → wpY_succ (fun r => wpY_moveTo post (nI d, nI b, nI n, 1, ev, nI 0, nI 0, K, A, B, C, bp, vs, fr) r) (nI d, nI b, nI n, 1, ev, nI 0, nI 0, K, A, B, C, bp, vs, fr) (nI 0)) → ∃ (r : Int32) (s' ln' dp' : Nat) (ev' : Int32) (vs2 cl2 fr2 : Nat → Int32), db_RR K cl2 fr2 n d s' ln' dp' ∧
      (∀ post : Int32 → SX → Prop, post r (nI d, nI b, nI n, nI s', nI ln', nI dp', ev', K, A, B, C, P, L, Q, O, bp, vs2, cl2) → wpX_resume post (nI d, nI b, nI n, 1, nI 0, nI 0, ev, K, A, B, C, P, L, Q, O, bp, vs, cl) (nI m)) ∧
      (∀ post : Int32 → SY → Prop, post r (nI d, nI b, nI n, nI s', ev', nI ln', nI dp', K, A, B, C, bp, vs2, fr2) → wpY_resume post (nI d, nI b, nI n, 1, ev, nI 0, nI 0, K, A, B, C, bp, vs, fr) (nI m)) := by
    intro rY lY hO hY
    obtain ⟨r, s', ln', dp', ev', vs2, cl2, fr2, hR, HX, HY⟩ := rs_loop (l0 := 0) (d0 := 0) hn hd hb hm (by omega) (by omega) h hOK (b - 1) 1 (by omega) (by omega) 1 1 ev (nI 0) (nI q) rY lY (nI 0) (nI 0) 0 vs cl vs cl fr hX hO
    refine ⟨r, s', ln', dp', ev', vs2, cl2, fr2, hR, fun post hp => ?_, fun post hp => ?_⟩
    · refine br_t rfl ?_
      exact ⟨b + 1, HX post hp (b + 1) (by omega)⟩
    · refine br_t rfl ?_
      unfold wY_resume_18
      exact br_f (by decide) (hY _ ⟨b + 1, HY post hp (b + 1) (by omega)⟩)
  rcases hq2 with z | ⟨z1, z2, z3⟩
  · refine key 1 (nI 0) (Or.inl ⟨by rw [z]; exact nI_0, rfl⟩) (fun post hp => pf_go hn h (by omega) hq hqn (fun _ => hp) (fun y => absurd y (by omega)))
  · refine key 0 (nI q) (Or.inr (Or.inr ⟨q, 0, rfl, rfl, rfl, rfl, rfl, z1, z2, z3, by omega, fun i i1 i2 => absurd i2 (by omega)⟩)) (fun post hp => pf_go hn h (by omega) hq hqn (fun y => absurd y (by omega)) (fun _ => hp))
