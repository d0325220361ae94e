section
theorem pk_us {f : Nat → Int32} {k : Nat} {x : Int32} : upd f k x k = x := if_pos rfl
theorem pk_un {f : Nat → Int32} {k j : Nat} {x : Int32} (h : j ≠ k) : upd f k x j = f j := if_neg h
theorem pk_m1 (n : Nat) : nI (n + 1) + (-1) = nI n := by
  rw [← nI_1, Int32.add_assoc, show (1 : Int32) + (-1) = 0 from rfl, Int32.add_zero]
theorem pk_ix (x : Int32) {n : Nat} (hn : n < 2 ^ 31) : x < 0 ∨ nI n ≤ x ∨ ∃ j : Nat, j < n ∧ x = nI j := by
  by_cases h : x < 0
  · exact Or.inl h
  · obtain ⟨j, hj, rfl⟩ := nI_of h
    by_cases h2 : j < n
    · exact Or.inr (Or.inr ⟨j, h2, rfl⟩)
    · exact Or.inr (Or.inl (nI_le (by omega) hj))
theorem pk_le {x y : Int32} {A B : Prop} (a b : Nat) (f : a ≤ b → A) (g : b < a → B) (hx : x = nI a := by rfl) (hy : y = nI b := by rfl) (ha : a < 2 ^ 31 := by omega) (hb : b < 2 ^ 31 := by omega) : (x ≤ y → A) ∧ (¬ x ≤ y → B) := by
  subst hx hy
  rw [nI_leI ha hb]
  exact ⟨f, fun z => g (by omega)⟩
theorem pk_lt {x y : Int32} {A B : Prop} (a b : Nat) (f : a < b → A) (g : b ≤ a → B) (hx : x = nI a := by rfl) (hy : y = nI b := by rfl) (ha : a < 2 ^ 31 := by omega) (hb : b < 2 ^ 31 := by omega) : (x < y → A) ∧ (¬ x < y → B) := by
  subst hx hy
  rw [nI_ltI ha hb]
  exact ⟨f, fun z => g (by omega)⟩
theorem pk_eq {x y : Int32} {A B : Prop} (a b : Nat) (f : a = b → A) (g : a ≠ b → B) (hx : x = nI a := by rfl) (hy : y = nI b := by rfl) (ha : a < 2 ^ 31 := by omega) (hb : b < 2 ^ 31 := by omega) : (x = y → A) ∧ (¬ x = y → B) := by
  subst hx hy
  rw [nI_eq ha hb]
  exact ⟨f, g⟩
theorem pk_in {x : Int32} (n N : Nat) (h : n < N) (hx : x = nI n := by rfl) (hN : N < 2 ^ 31 := by omega) : vp_in x N := by
  subst hx
  exact vp_in_nI h hN
theorem pk_cl {x : Int32} (n : Nat) (hx : x = nI n := by rfl) (h : n < 2 ^ 31 := by omega) : x.toNatClampNeg = n := by
  subst hx
  exact nI_clamp h
theorem pk_tn {n : Nat} (h : n < 2 ^ 32) : (nI n).toBitVec.toNat = n := Nat.mod_eq_of_lt h
theorem pk_and (x : Int32) {m : Int32} (k : Nat) (hm : m.toBitVec.toNat = 2 ^ k - 1) : x &&& m = nI (x.toBitVec.toNat % 2 ^ k) := by
  apply Int32.toBitVec_inj.mp
  apply BitVec.eq_of_toNat_eq
  rw [Int32.toBitVec_and, BitVec.toNat_and, hm, Nat.and_two_pow_sub_one_eq_mod]
  show _ = (BitVec.ofNat 32 _).toNat
  rw [BitVec.toNat_ofNat]
  exact (Nat.mod_eq_of_lt (Nat.lt_of_le_of_lt (Nat.mod_le _ _) x.toBitVec.isLt)).symm
theorem pk_andN {n : Nat} (h : n < 2 ^ 32) {m : Int32} (k : Nat) (hm : m.toBitVec.toNat = 2 ^ k - 1) : nI n &&& m = nI (n % 2 ^ k) := by
  rw [pk_and _ k hm, pk_tn h]
/-! the blocks of a program: the search for an END from above (db_M), for an opening from below (db_op), balanced stretches (db_sg) -/
def db_c (k : Int32) : Nat := if k = 5 then 2 else if k = 3 ∨ k = 4 ∨ k = 6 then 1 else 0
theorem db_c5 {k : Int32} (h : k = 5) : db_c k = 2 := if_pos h
theorem db_c1 {k : Int32} (h : k = 3 ∨ k = 4 ∨ k = 6) : db_c k = 1 := by
  rcases h with rfl | rfl | rfl <;> decide
theorem db_c0 {k : Int32} (h5 : ¬ k = 5) (h : ¬ (k = 3 ∨ k = 4 ∨ k = 6)) : db_c k = 0 := by
  unfold db_c
  rw [if_neg h5, if_neg h]
theorem db_c1i {k : Int32} (h : db_c k = 1) : k = 3 ∨ k = 4 ∨ k = 6 := by
  unfold db_c at h
  by_cases h5 : k = 5
  · rw [if_pos h5] at h
    exact absurd h (by decide)
  · rw [if_neg h5] at h
    by_cases h3 : k = 3 ∨ k = 4 ∨ k = 6
    · exact h3
    · rw [if_neg h3] at h
      exact absurd h (by decide)
theorem db_c2i {k : Int32} (h : db_c k = 2) : k = 5 := by
  unfold db_c at h
  by_cases h5 : k = 5
  · exact h5
  · rw [if_neg h5] at h
    by_cases h3 : k = 3 ∨ k = 4 ∨ k = 6
    · rw [if_pos h3] at h
      exact absurd h (by decide)
    · rw [if_neg h3] at h
      exact absurd h (by decide)
def db_me (K : Nat → Int32) : Nat → Nat → Nat → Nat
  | 0, _, _ => 0
  | f + 1, x, o => if db_c (K x) = 1 then db_me K f (x + 1) (o + 1) else if db_c (K x) = 2 then (if o = 0 then x else db_me K f (x + 1) (o - 1)) else db_me K f (x + 1) o
def db_M (K : Nat → Int32) (n x o : Nat) : Nat := db_me K (n + 1 - x) x o
theorem db_M_e {K : Nat → Int32} {n x o : Nat} (h : x ≤ n) : db_M K n x o = if db_c (K x) = 1 then db_M K n (x + 1) (o + 1) else if db_c (K x) = 2 then (if o = 0 then x else db_M K n (x + 1) (o - 1)) else db_M K n (x + 1) o := by
  unfold db_M
  rw [show n + 1 - x = (n + 1 - (x + 1)) + 1 from by omega]
  rfl
theorem db_M0 {K : Nat → Int32} {n x o : Nat} (h : n < x) : db_M K n x o = 0 := by
  unfold db_M
  rw [show n + 1 - x = 0 from by omega]
  rfl
theorem db_M1 {K : Nat → Int32} {n x o : Nat} (h : x ≤ n) (hc : db_c (K x) = 1) : db_M K n x o = db_M K n (x + 1) (o + 1) := by
  rw [db_M_e h, if_pos hc]
theorem db_M2z {K : Nat → Int32} {n x : Nat} (h : x ≤ n) (hc : db_c (K x) = 2) : db_M K n x 0 = x := by
  rw [db_M_e h, if_neg (by omega), if_pos hc, if_pos rfl]
theorem db_M2s {K : Nat → Int32} {n x o : Nat} (h : x ≤ n) (hc : db_c (K x) = 2) : db_M K n x (o + 1) = db_M K n (x + 1) o := by
  rw [db_M_e h, if_neg (by omega), if_pos hc, if_neg (by omega)]
  rfl
theorem db_M3 {K : Nat → Int32} {n x o : Nat} (h : x ≤ n) (hc : db_c (K x) = 0) : db_M K n x o = db_M K n (x + 1) o := by
  rw [db_M_e h, if_neg (by omega), if_neg (by omega)]
def db_op (K : Nat → Int32) : Nat → Nat → Nat
  | 0, _ => 0
  | x + 1, c => if db_c (K (x + 1)) = 2 then db_op K x (c + 1) else if db_c (K (x + 1)) = 1 then (if c = 0 then x + 1 else db_op K x (c - 1)) else db_op K x c
theorem db_op_e {K : Nat → Int32} {x c : Nat} : db_op K (x + 1) c = if db_c (K (x + 1)) = 2 then db_op K x (c + 1) else if db_c (K (x + 1)) = 1 then (if c = 0 then x + 1 else db_op K x (c - 1)) else db_op K x c := rfl
theorem db_o2 {K : Nat → Int32} {x c : Nat} (hc : db_c (K (x + 1)) = 2) : db_op K (x + 1) c = db_op K x (c + 1) := by
  rw [db_op_e, if_pos hc]
theorem db_o1z {K : Nat → Int32} {x : Nat} (hc : db_c (K (x + 1)) = 1) : db_op K (x + 1) 0 = x + 1 := by
  rw [db_op_e, if_neg (by omega), if_pos hc, if_pos rfl]
theorem db_o1s {K : Nat → Int32} {x c : Nat} (hc : db_c (K (x + 1)) = 1) : db_op K (x + 1) (c + 1) = db_op K x c := by
  rw [db_op_e, if_neg (by omega), if_pos hc, if_neg (by omega)]
  rfl
theorem db_o0 {K : Nat → Int32} {x c : Nat} (hc : db_c (K (x + 1)) = 0) : db_op K (x + 1) c = db_op K x c := by
  rw [db_op_e, if_neg (by omega), if_neg (by omega)]
def db_sg (K : Nat → Int32) (n a b : Nat) : Prop := (∀ o, db_M K n a o = db_M K n b o) ∧ (∀ c, db_op K (b - 1) c = db_op K (a - 1) c)
theorem db_sg0 {K : Nat → Int32} {n a : Nat} : db_sg K n a a := ⟨fun _ => rfl, fun _ => rfl⟩
theorem db_sgN {K : Nat → Int32} {n a b : Nat} (h : db_sg K n a b) (h1 : 1 ≤ b) (hb : b ≤ n) (hc : db_c (K b) = 0) : db_sg K n a (b + 1) := by
  refine ⟨fun o => (h.1 o).trans (db_M3 hb hc), fun c => ?_⟩
  obtain ⟨y, rfl⟩ : ∃ y, b = y + 1 := ⟨b - 1, by omega⟩
  exact (db_o0 hc).trans (h.2 c)
theorem db_sgJ {K : Nat → Int32} {n a s x : Nat} (h : db_sg K n a s) (h1 : 1 ≤ s) (hs : db_c (K s) = 1) (h2 : db_sg K n (s + 1) x) (hsx : s < x) (hx : x ≤ n) (hc : db_c (K x) = 2) : db_sg K n a (x + 1) := by
  refine ⟨fun o => ?_, fun c => ?_⟩
  · rw [h.1, db_M1 (by omega) hs, h2.1, db_M2s hx hc]
  · obtain ⟨y, rfl⟩ : ∃ y, x = y + 1 := ⟨x - 1, by omega⟩
    obtain ⟨t, rfl⟩ : ∃ t, s = t + 1 := ⟨s - 1, by omega⟩
    exact (db_o2 hc).trans ((h2.2 (c + 1)).trans ((db_o1s hs).trans (h.2 c)))
theorem db_mt {K : Nat → Int32} {n s x : Nat} (h2 : db_sg K n (s + 1) x) (hx : x ≤ n) (hc : db_c (K x) = 2) : db_M K n (s + 1) 0 = x := (h2.1 0).trans (db_M2z hx hc)
theorem db_ot {K : Nat → Int32} {n s x : Nat} (h2 : db_sg K n (s + 1) x) (h1 : 1 ≤ s) (hs : db_c (K s) = 1) : db_op K (x - 1) 0 = s := by
  obtain ⟨t, rfl⟩ : ∃ t, s = t + 1 := ⟨s - 1, by omega⟩
  exact (h2.2 0).trans (db_o1z hs)
/-! the line is the END of an IF -/
def db_E (K : Nat → Int32) (x : Nat) : Prop := K x = 5 ∧ K (db_op K (x - 1) 0) = 3
/-! q is the line of procedure p among the lines below x, or 0 -/
def db_PP (K A : Nat → Int32) (p x q : Nat) : Prop := (q = 0 ∧ ∀ y, 1 ≤ y → y < x → ¬ (K y = 6 ∧ A y = nI p)) ∨ (1 ≤ q ∧ q < x ∧ K q = 6 ∧ A q = nI p ∧ ∀ y, 1 ≤ y → y < q → ¬ (K y = 6 ∧ A y = nI p))
/-! a line as addLine takes it -/
def db_OK (k a b : Int32) : Prop := (∃ i, 1 ≤ i ∧ i ≤ 8 ∧ k = nI i) ∧ ((k = 1 ∨ k = 2 ∨ k = 3 ∨ k = 4) → ∃ j, j < 8 ∧ a = nI j) ∧ (k = 2 → ∃ j, j < 8 ∧ b = nI j) ∧ ((k = 6 ∨ k = 7) → ∃ j, j < 4 ∧ a = nI j)
/-! what compile makes: partners of ENDs, partners of openings, landings, procedures -/
def db_P5 (K P : Nat → Int32) (m : Nat) : Prop := ∀ x, 1 ≤ x → x < m → K x = 5 → ∃ o, db_op K (x - 1) 0 = o ∧ 1 ≤ o ∧ o < x ∧ (K o = 3 ∨ K o = 4 ∨ K o = 6) ∧ P x = nI o
def db_P1 (K P : Nat → Int32) (n : Nat) : Prop := ∀ x, 1 ≤ x → x ≤ n → (K x = 3 ∨ K x = 4 ∨ K x = 6) → ∃ e, db_M K n (x + 1) 0 = e ∧ x < e ∧ e ≤ n ∧ P x = nI e
def db_LL (K L : Nat → Int32) (n x : Nat) : Prop := (K x = 6 → L x = L (db_M K n (x + 1) 0 + 1)) ∧ (¬ K x = 6 → db_E K x → L x = L (x + 1)) ∧ (¬ K x = 6 → ¬ db_E K x → L x = nI x)
def db_LA (K L : Nat → Int32) (n m : Nat) : Prop := L (n + 1) = 0 ∧ ∀ x, 1 ≤ x → m ≤ x → x ≤ n → db_LL K L n x
def db_PR (K A Q : Nat → Int32) (m : Nat) : Prop := ∀ p, p < 4 → ∃ q, Q p = nI q ∧ db_PP K A p m q
def db_CP (K A P L Q : Nat → Int32) (n : Nat) : Prop := db_P5 K P (n + 1) ∧ db_P1 K P n ∧ db_LA K L n 1 ∧ db_PR K A Q (n + 1)
theorem db_land {K A P L Q : Nat → Int32} {n : Nat} (h : db_CP K A P L Q n) : ∀ d x, n + 1 - x ≤ d → 1 ≤ x → x ≤ n + 1 → ∃ q, L x = nI q ∧ (q = 0 ∨ (1 ≤ q ∧ q ≤ n ∧ ¬ db_E K q)) := by
  intro d
  induction d with
  | zero =>
    intro x hd h1 hx
    have e : x = n + 1 := by omega
    subst e
    exact ⟨0, h.2.2.1.1, Or.inl rfl⟩
  | succ d ih =>
    intro x hd h1 hx
    by_cases e : x = n + 1
    · subst e
      exact ⟨0, h.2.2.1.1, Or.inl rfl⟩
    · have hl := h.2.2.1.2 x h1 h1 (by omega)
      by_cases h6 : K x = 6
      · obtain ⟨e, he, h2, h3, _⟩ := h.2.1 x h1 (by omega) (Or.inr (Or.inr h6))
        rw [hl.1 h6, he]
        exact ih (e + 1) (by omega) (by omega) (by omega)
      · by_cases hE : db_E K x
        · rw [hl.2.1 h6 hE]
          exact ih (x + 1) (by omega) (by omega) (by omega)
        · exact ⟨x, hl.2.2 h6 hE, Or.inr ⟨h1, by omega, hE⟩⟩
/-! the matching of blocks by a stack: O holds m open lines S 0 < S 1 < .. < S (m - 1), S m is the line that comes next -/
theorem db_PPn {K A : Nat → Int32} {p x q : Nat} (h : db_PP K A p x q) (hx : ¬ (K x = 6 ∧ A x = nI p)) : db_PP K A p (x + 1) q := by
  rcases h with ⟨h0, h1⟩ | ⟨h1, h2, h3⟩
  · refine Or.inl ⟨h0, fun y y1 y2 => ?_⟩
    by_cases e : y = x
    · subst e
      exact hx
    · exact h1 y y1 (by omega)
  · exact Or.inr ⟨h1, by omega, h3⟩
theorem db_PPx {K A : Nat → Int32} {p x : Nat} (h1 : 1 ≤ x) (h : db_PP K A p x 0) (hx : K x = 6 ∧ A x = nI p) : db_PP K A p (x + 1) x := by
  rcases h with ⟨_, h⟩ | ⟨h, _⟩
  · exact Or.inr ⟨h1, by omega, hx.1, hx.2, fun y y1 y2 => h y y1 y2⟩
  · exact absurd h (by decide)
theorem db_PRn {K A Q : Nat → Int32} {x : Nat} (h : db_PR K A Q x) (hx : ¬ K x = 6) : db_PR K A Q (x + 1) := by
  intro p hp
  obtain ⟨q, e, hq⟩ := h p hp
  exact ⟨q, e, db_PPn hq (fun z => hx z.1)⟩
theorem db_PRx {K A Q : Nat → Int32} {x p : Nat} (h : db_PR K A Q x) (h1 : 1 ≤ x) (hb : x < 2 ^ 31) (hp : p < 4) (hx : K x = 6) (ha : A x = nI p) (h0 : Q p = 0) : db_PR K A (upd Q p (nI x)) (x + 1) := by
  intro p' hp'
  obtain ⟨q, e, hq⟩ := h p' hp'
  by_cases ep : p' = p
  · subst ep
    refine ⟨x, pk_us, ?_⟩
    have q0 : q = 0 := by
      rcases hq with ⟨z, _⟩ | ⟨z1, z2, z3, z4, z5⟩
      · exact z
      · rw [h0] at e
        exact absurd e.symm (nI_ne0 (by omega) (by omega))
    subst q0
    exact db_PPx h1 hq ⟨hx, ha⟩
  · refine ⟨q, (pk_un ep).trans e, db_PPn hq (fun z => ep ?_)⟩
    have e2 := z.2.symm.trans ha
    rw [nI_eq (by omega) (by omega)] at e2
    exact e2
def db_IV (K A O P Q : Nat → Int32) (n x m : Nat) : Prop := ∃ S : Nat → Nat, S m = x ∧ (∀ i, i < m → O i = nI (S i) ∧ 1 ≤ S i ∧ S i < S (i + 1) ∧ db_c (K (S i)) = 1 ∧ db_sg K n (S i + 1) (S (i + 1))) ∧ (∀ y, 1 ≤ y → y < x → db_c (K y) = 1 → (∃ i, i < m ∧ S i = y) ∨ (∃ e, db_M K n (y + 1) 0 = e ∧ y < e ∧ e < x ∧ P y = nI e)) ∧ db_P5 K P x ∧ db_PR K A Q x
theorem db_iv_m {K A O P Q : Nat → Int32} {n x m : Nat} (h : db_IV K A O P Q n x m) (h1 : 1 ≤ x) : m < x := by
  obtain ⟨S, e, hS, _⟩ := h
  have key : ∀ i, i ≤ m → i < m → i < S i := by
    intro i
    induction i with
    | zero => intro _ hi; exact (hS 0 hi).2.1
    | succ i ih => intro _ hi; have a := ih (by omega) (by omega); have b := (hS i (by omega)).2.2.1; omega
  by_cases hm : m = 0
  · omega
  · obtain ⟨j, rfl⟩ : ∃ j, m = j + 1 := ⟨m - 1, by omega⟩
    have a := key j (by omega) (by omega)
    have b := (hS j (by omega)).2.2.1
    omega
theorem db_iv_0 {K A O P Q : Nat → Int32} {n : Nat} (h : ∀ p, p < 4 → Q p = 0) : db_IV K A O P Q n 1 0 := by
  refine ⟨fun _ => 1, rfl, fun i hi => absurd hi (by omega), fun y h1 h2 => absurd h2 (by omega), fun y h1 h2 => absurd h2 (by omega), fun p hp => ⟨0, h p hp, Or.inl ⟨rfl, fun y h1 h2 => absurd h2 (by omega)⟩⟩⟩
theorem db_iv_n {K A O P Q : Nat → Int32} {n x m : Nat} (h : db_IV K A O P Q n x m) (h1 : 1 ≤ x) (hx : x ≤ n) (hc : db_c (K x) = 0) : db_IV K A O P Q n (x + 1) m := by
  obtain ⟨S, e, hS, hy, h5, hp⟩ := h
  refine ⟨fun i => if i = m then x + 1 else S i, if_pos rfl, fun i hi => ?_, fun y y1 y2 yc => ?_, fun y y1 y2 y5 => ?_, db_PRn hp (fun z => ?_)⟩
  · obtain ⟨a1, a2, a3, a4, a5⟩ := hS i hi
    have ei : (if i = m then x + 1 else S i) = S i := if_neg (by omega)
    dsimp only
    rw [ei]
    by_cases e1 : i + 1 = m
    · rw [if_pos e1]
      rw [e1, e] at a3 a5
      exact ⟨a1, a2, by omega, a4, db_sgN a5 h1 hx hc⟩
    · rw [if_neg e1]
      exact ⟨a1, a2, a3, a4, a5⟩
  · by_cases ex : y = x
    · subst ex
      omega
    · rcases hy y y1 (by omega) yc with ⟨i, hi, es⟩ | ⟨e', q1, q2, q3, q4⟩
      · refine Or.inl ⟨i, hi, ?_⟩
        dsimp only
        rw [if_neg (by omega)]
        exact es
      · exact Or.inr ⟨e', q1, q2, by omega, q4⟩
  · by_cases ex : y = x
    · subst ex
      rw [db_c5 y5] at hc
      exact absurd hc (by decide)
    · exact h5 y y1 (by omega) y5
  · rw [z] at hc
    exact absurd hc (by decide)
theorem db_iv_o {K A O P Q Q' : Nat → Int32} {n x m : Nat} (h : db_IV K A O P Q n x m) (h1 : 1 ≤ x) (hc : db_c (K x) = 1) (hQ : db_PR K A Q' (x + 1)) : db_IV K A (upd O m (nI x)) P Q' n (x + 1) (m + 1) := by
  obtain ⟨S, e, hS, hy, h5, hp⟩ := h
  refine ⟨fun i => if i = m + 1 then x + 1 else S i, if_pos rfl, fun i hi => ?_, fun y y1 y2 yc => ?_, fun y y1 y2 y5 => ?_, hQ⟩
  · have ei : (if i = m + 1 then x + 1 else S i) = S i := if_neg (by omega)
    dsimp only
    rw [ei]
    by_cases e1 : i = m
    · subst e1
      rw [if_pos rfl, e]
      exact ⟨pk_us, h1, by omega, hc, db_sg0⟩
    · rw [if_neg (by omega), pk_un e1]
      exact hS i (by omega)
  · by_cases ex : y = x
    · refine Or.inl ⟨m, by omega, ?_⟩
      dsimp only
      rw [if_neg (by omega), e, ex]
    · rcases hy y y1 (by omega) yc with ⟨i, hi, es⟩ | ⟨e', q1, q2, q3, q4⟩
      · refine Or.inl ⟨i, by omega, ?_⟩
        dsimp only
        rw [if_neg (by omega)]
        exact es
      · exact Or.inr ⟨e', q1, q2, by omega, q4⟩
  · by_cases ex : y = x
    · subst ex
      rw [db_c5 y5] at hc
      exact absurd hc (by decide)
    · exact h5 y y1 (by omega) y5
theorem db_iv_e {K A O P Q : Nat → Int32} {n x m : Nat} (h : db_IV K A O P Q n x (m + 1)) (h1 : 1 ≤ x) (hx : x ≤ n) (hK : K x = 5) : ∃ s, O m = nI s ∧ 1 ≤ s ∧ s < x ∧ db_IV K A O (upd (upd P s (nI x)) x (nI s)) Q n (x + 1) m := by
  obtain ⟨S, e, hS, hy, h5, hp⟩ := h
  have hc : db_c (K x) = 2 := db_c5 hK
  obtain ⟨b1, b2, b3, b4, b5⟩ := hS m (by omega)
  rw [e] at b3 b5
  refine ⟨S m, b1, b2, b3, fun i => if i = m then x + 1 else S i, if_pos rfl, fun i hi => ?_, fun y y1 y2 yc => ?_, fun y y1 y2 y5 => ?_, db_PRn hp (fun z => ?_)⟩
  · obtain ⟨a1, a2, a3, a4, a5⟩ := hS i (by omega)
    have ei : (if i = m then x + 1 else S i) = S i := if_neg (by omega)
    dsimp only
    rw [ei]
    by_cases e1 : i + 1 = m
    · rw [if_pos e1]
      rw [e1] at a3 a5
      exact ⟨a1, a2, by omega, a4, db_sgJ a5 b2 b4 b5 b3 hx hc⟩
    · rw [if_neg e1]
      exact ⟨a1, a2, a3, a4, a5⟩
  · by_cases ex : y = x
    · subst ex
      omega
    · by_cases em : y = S m
      · refine Or.inr ⟨x, ?_, by omega, by omega, ?_⟩
        · rw [em]
          exact db_mt b5 hx hc
        · rw [pk_un ex, em]
          exact pk_us
      · rcases hy y y1 (by omega) yc with ⟨i, hi, es⟩ | ⟨e', q1, q2, q3, q4⟩
        · have him : i ≠ m := fun z => em (by rw [← es, z])
          refine Or.inl ⟨i, by omega, ?_⟩
          dsimp only
          rw [if_neg him]
          exact es
        · exact Or.inr ⟨e', q1, q2, by omega, by rw [pk_un ex, pk_un em]; exact q4⟩
  · by_cases ex : y = x
    · subst ex
      exact ⟨S m, db_ot b5 b2 b4, b2, b3, db_c1i b4, pk_us⟩
    · have em : y ≠ S m := by
        intro z
        rw [← z, db_c5 y5] at b4
        exact absurd b4 (by decide)
      obtain ⟨o, o1, o2, o3, o4, o5⟩ := h5 y y1 (by omega) y5
      exact ⟨o, o1, o2, o3, o4, by rw [pk_un ex, pk_un em]; exact o5⟩
  · rw [hK] at z
    exact absurd z (by decide)
theorem db_iv_z {K A O P Q : Nat → Int32} {n : Nat} (h : db_IV K A O P Q n (n + 1) 0) : db_P5 K P (n + 1) ∧ db_P1 K P n ∧ db_PR K A Q (n + 1) := by
  obtain ⟨S, e, hS, hy, h5, hp⟩ := h
  refine ⟨h5, fun x h1 hx hc => ?_, hp⟩
  rcases hy x h1 (by omega) (db_c1 hc) with ⟨i, hi, _⟩ | ⟨e', q1, q2, q3, q4⟩
  · exact absurd hi (by omega)
  · exact ⟨e', q1, q2, by omega, q4⟩
/-! the landings, from the last line up -/
theorem db_la_0 {K L : Nat → Int32} {n : Nat} : db_LA K (upd L (n + 1) 0) n (n + 1) := ⟨pk_us, fun x h1 h2 h3 => absurd h2 (by omega)⟩
theorem db_la_s {K P L : Nat → Int32} {n x : Nat} {w : Int32} (h1 : db_P1 K P n) (h : db_LA K L n (x + 1)) (hx1 : 1 ≤ x) (hx : x ≤ n) (w6 : K x = 6 → w = L (db_M K n (x + 1) 0 + 1)) (wE : ¬ K x = 6 → db_E K x → w = L (x + 1)) (wN : ¬ K x = 6 → ¬ db_E K x → w = nI x) : db_LA K (upd L x w) n x := by
  refine ⟨(pk_un (by omega)).trans h.1, fun y y1 y2 y3 => ?_⟩
  by_cases e : y = x
  · subst e
    refine ⟨fun z => ?_, fun z zE => ?_, fun z zE => ?_⟩
    · obtain ⟨e', q1, q2, q3, q4⟩ := h1 y y1 y3 (Or.inr (Or.inr z))
      rw [pk_us, pk_un (by omega)]
      exact w6 z
    · rw [pk_us, pk_un (by omega)]
      exact wE z zE
    · rw [pk_us]
      exact wN z zE
  · obtain ⟨l1, l2, l3⟩ := h.2 y y1 (by omega) y3
    refine ⟨fun z => ?_, fun z zE => ?_, fun z zE => ?_⟩
    · obtain ⟨e', q1, q2, q3, q4⟩ := h1 y y1 y3 (Or.inr (Or.inr z))
      rw [pk_un e, pk_un (by omega)]
      exact l1 z
    · rw [pk_un e, pk_un (by omega)]
      exact l2 z zE
    · rw [pk_un e]
      exact l3 z zE
/-! zeros below i -/
def db_z (f : Nat → Int32) (i : Nat) : Nat → Int32 := fun j => if j < i then 0 else f j
theorem db_z0 {f : Nat → Int32} : db_z f 0 = f := funext fun j => if_neg (by omega)
theorem db_zs {f : Nat → Int32} {i : Nat} : upd (db_z f i) i 0 = db_z f (i + 1) := by
  funext j
  unfold upd db_z
  by_cases h : j = i
  · rw [if_pos h, if_pos (by omega)]
  · rw [if_neg h]
    by_cases h2 : j < i
    · rw [if_pos h2, if_pos (by omega)]
    · rw [if_neg h2, if_neg (by omega)]
theorem db_zz {i : Nat} : db_z (fun _ => 0) i = fun _ => 0 := by
  funext j
  unfold db_z
  by_cases h : j < i
  · rw [if_pos h]
  · rw [if_neg h]
theorem db_zb {f : Nat → Int32} {i j : Nat} (h : j < i) : db_z f i j = 0 := if_pos h
end
section
/-! the reference's searches: each answers the pure search -/
variable {yd yb ys ye yl yq : Int32} {K A B C bp vs fr P L Q : Nat → Int32} {n : Nat}
theorem ya_op1 {yc : Int32} {post : Int32 → Prop} {k : Int32} (h : k = 3 ∨ k = 4 ∨ k = 6) (p : post 1) : wpY_opens post (yd, yb, yc, ys, ye, yl, yq, K, A, B, C, bp, vs, fr) k := by
  rcases h with rfl | rfl | rfl
  · exact br_t rfl p
  · exact br_f (by decide) (br_t rfl p)
  · exact br_f (by decide) (br_f (by decide) (br_t rfl p))
theorem ya_op0 {yc : Int32} {post : Int32 → Prop} {k : Int32} (h : ¬ (k = 3 ∨ k = 4 ∨ k = 6)) (p : post 0) : wpY_opens post (yd, yb, yc, ys, ye, yl, yq, K, A, B, C, bp, vs, fr) k :=
  br_f (fun z => h (Or.inl z)) (br_f (fun z => h (Or.inr (Or.inl z))) (br_f (fun z => h (Or.inr (Or.inr z))) p))
theorem ya_me (hn : n ≤ 32) (post : Int32 → Prop) : ∀ f x o, n + 1 - x < f → 1 ≤ x → o ≤ x → x ≤ n + 1 → post (nI (db_M K n x o)) → wY_matchEnd_6 post yd yb (nI n) ys ye yl yq K A B C bp vs fr f (nI o) (nI x) := by
  intro f
  induction f with
  | zero => intro x o hf; exact absurd hf (by omega)
  | succ f ih =>
    intro x o hf h1 ho hx hp
    by_cases hnx : n < x
    · rw [db_M0 hnx] at hp
      exact br_t (nI_lt hnx (by omega)) hp
    · have ex : (nI x).toNatClampNeg = x := nI_clamp (by omega)
      have w : vp_in (nI x) 33 := vp_in_nI (by omega) (by omega)
      refine br_f (nI_nlt (by omega) (by omega)) (br_f (nI_nlt (a := 32) (b := x) (by omega) (by omega)) ⟨w, ?_⟩)
      rw [ex]
      by_cases h3 : K x = 3 ∨ K x = 4 ∨ K x = 6
      · rw [db_M1 (by omega) (db_c1 h3)] at hp
        exact ya_op1 h3 (br_f (by decide) (nm_r (nI_1 o) (nm_r (nI_1 x) (ih (x + 1) (o + 1) (by omega) (by omega) (by omega) (by omega) hp))))
      · by_cases h5 : K x = 5
        · by_cases h0 : o = 0
          · subst h0
            rw [db_M2z (by omega) (db_c5 h5)] at hp
            exact ya_op0 h3 (br_t rfl ⟨w, br_t h5 (br_t nI_0 hp)⟩)
          · obtain ⟨o', rfl⟩ : ∃ o', o = o' + 1 := ⟨o - 1, by omega⟩
            rw [db_M2s (by omega) (db_c5 h5)] at hp
            exact ya_op0 h3 (br_t rfl ⟨w, br_t h5 (br_f (nI_ne0 (by omega) (by omega)) (nm_r (pk_m1 o') (nm_r (nI_1 x) (ih (x + 1) o' (by omega) (by omega) (by omega) (by omega) hp))))⟩)
        · rw [db_M3 (by omega) (db_c0 h5 h3)] at hp
          exact ya_op0 h3 (br_t rfl ⟨w, br_f h5 (nm_r (nI_1 x) (ih (x + 1) o (by omega) (by omega) (by omega) (by omega) hp))⟩)
theorem ya_Me (hn : n ≤ 32) {post : Int32 → Prop} {l : Nat} (hl : l ≤ n) (hp : post (nI (db_M K n (l + 1) 0))) : wpY_matchEnd post (yd, yb, nI n, ys, ye, yl, yq, K, A, B, C, bp, vs, fr) (nI l) :=
  nm_r (nI_1 l) ⟨n + 2, ya_me hn post (n + 2) (l + 1) 0 (by omega) (by omega) (by omega) (by omega) hp⟩
theorem ya_opn {yc : Int32} (post : Int32 → Prop) : ∀ x c f, x < f → c + x ≤ 64 → x ≤ 32 → post (nI (db_op K x c)) → wY_opener_6 post yd yb yc ys ye yl yq K A B C bp vs fr f (nI c) (nI x) := by
  intro x
  induction x with
  | zero =>
    intro c f hf hc hx hp
    obtain ⟨f, rfl⟩ : ∃ g, f = g + 1 := ⟨f - 1, by omega⟩
    exact br_t (nI_lt (a := 0) (b := 1) (by omega) (by omega)) hp
  | succ x ih =>
    intro c f hf hc hx hp
    obtain ⟨f, rfl⟩ : ∃ g, f = g + 1 := ⟨f - 1, by omega⟩
    have ex : (nI (x + 1)).toNatClampNeg = x + 1 := nI_clamp (by omega)
    have w : vp_in (nI (x + 1)) 33 := vp_in_nI (by omega) (by omega)
    refine br_f (nI_nlt (a := x + 1) (b := 1) (by omega) (by omega)) (br_f (nI_nlt (a := 32) (b := x + 1) (by omega) (by omega)) ⟨w, ?_⟩)
    rw [ex]
    by_cases h5 : K (x + 1) = 5
    · rw [db_o2 (db_c5 h5)] at hp
      exact br_t h5 (nm_r (nI_1 c) (nm_r (pk_m1 x) (ih (c + 1) f (by omega) (by omega) (by omega) hp)))
    · refine br_f h5 ⟨w, ?_⟩
      by_cases h3 : K (x + 1) = 3 ∨ K (x + 1) = 4 ∨ K (x + 1) = 6
      · by_cases h0 : c = 0
        · subst h0
          rw [db_o1z (db_c1 h3)] at hp
          exact ya_op1 h3 (br_f (by decide) (br_t nI_0 hp))
        · obtain ⟨c', rfl⟩ : ∃ c', c = c' + 1 := ⟨c - 1, by omega⟩
          rw [db_o1s (db_c1 h3)] at hp
          exact ya_op1 h3 (br_f (by decide) (br_f (nI_ne0 (by omega) (by omega)) (nm_r (pk_m1 c') (nm_r (pk_m1 x) (ih c' f (by omega) (by omega) (by omega) hp)))))
      · rw [db_o0 (db_c0 h5 h3)] at hp
        exact ya_op0 h3 (br_t rfl (nm_r (pk_m1 x) (ih c f (by omega) (by omega) (by omega) hp)))
theorem ya_Op {yc : Int32} {post : Int32 → Prop} {e : Nat} (h1 : 1 ≤ e) (he : e ≤ 32) (hp : post (nI (db_op K (e - 1) 0))) : wpY_opener post (yd, yb, yc, ys, ye, yl, yq, K, A, B, C, bp, vs, fr) (nI e) := by
  obtain ⟨x, rfl⟩ : ∃ x, e = x + 1 := ⟨e - 1, by omega⟩
  exact nm_r (nI_pred x) ⟨x + 1, ya_opn post x 0 (x + 1) (by omega) (by omega) (by omega) hp⟩
theorem ya_pl (hn : n ≤ 32) (post : Int32 → Prop) {p q : Nat} (hq : db_PP K A p (n + 1) q) (hp : post (nI q)) : ∀ f x, n + 1 - x < f → 1 ≤ x → x ≤ n + 1 → (∀ y, 1 ≤ y → y < x → ¬ (K y = 6 ∧ A y = nI p)) → wY_procLine_2 post (nI p) yd yb (nI n) ys ye yl yq K A B C bp vs fr f (nI x) := by
  intro f
  induction f with
  | zero => intro x hf; exact absurd hf (by omega)
  | succ f ih =>
    intro x hf h1 hx hy
    by_cases hnx : n < x
    · have q0 : q = 0 := by
        rcases hq with ⟨z, _⟩ | ⟨z1, z2, z3, z4, _⟩
        · exact z
        · exact absurd ⟨z3, z4⟩ (hy q z1 (by omega))
      rw [q0] at hp
      exact br_t (nI_lt hnx (by omega)) hp
    · have ex : (nI x).toNatClampNeg = x := nI_clamp (by omega)
      have w : vp_in (nI x) 33 := vp_in_nI (by omega) (by omega)
      refine br_f (nI_nlt (by omega) (by omega)) (br_f (nI_nlt (a := 32) (b := x) (by omega) (by omega)) ⟨w, ?_⟩)
      rw [ex]
      by_cases h6 : K x = 6
      · by_cases ha : A x = nI p
        · have qx : q = x := by
            rcases hq with ⟨_, z⟩ | ⟨z1, z2, z3, z4, z5⟩
            · exact absurd ⟨h6, ha⟩ (z x h1 (by omega))
            · rcases Nat.lt_trichotomy q x with l | l | l
              · exact absurd ⟨z3, z4⟩ (hy q z1 l)
              · exact l
              · exact absurd ⟨h6, ha⟩ (z5 x h1 l)
          rw [qx] at hp
          exact br_t h6 ⟨w, br_t ha hp⟩
        · exact br_t h6 ⟨w, br_f ha (nm_r (nI_1 x) (ih (x + 1) (by omega) (by omega) (by omega) (fun y y1 y2 => by
            by_cases e : y = x
            · subst e
              exact fun z => ha z.2
            · exact hy y y1 (by omega))))⟩
      · exact br_f h6 (nm_r (nI_1 x) (ih (x + 1) (by omega) (by omega) (by omega) (fun y y1 y2 => by
            by_cases e : y = x
            · subst e
              exact fun z => h6 z.1
            · exact hy y y1 (by omega))))
theorem ya_Pl (hn : n ≤ 32) {post : Int32 → Prop} {p q : Nat} (hq : db_PP K A p (n + 1) q) (hp : post (nI q)) : wpY_procLine post (yd, yb, nI n, ys, ye, yl, yq, K, A, B, C, bp, vs, fr) (nI p) :=
  ⟨n + 2, ya_pl hn post hq hp (n + 2) 1 (by omega) (by omega) (by omega) (fun y y1 y2 => absurd y2 (by omega))⟩
theorem ya_E1 (hn : n ≤ 32) (h5 : db_P5 K P (n + 1)) {post : Int32 → Prop} {x : Nat} (h1 : 1 ≤ x) (hx : x ≤ n) (hE : db_E K x) (hp : post 1) : wpY_endOfIf post (yd, yb, nI n, ys, ye, yl, yq, K, A, B, C, bp, vs, fr) (nI x) := by
  have ex : (nI x).toNatClampNeg = x := nI_clamp (by omega)
  obtain ⟨o, o1, o2, o3, o4, _⟩ := h5 x h1 (by omega) hE.1
  have eo : (nI o).toNatClampNeg = o := nI_clamp (by omega)
  have hK := hE.2
  rw [o1] at hK
  refine ⟨vp_in_nI (by omega) (by omega), ?_⟩
  rw [ex]
  refine br_t hE.1 (ya_Op h1 (by omega) ?_)
  rw [o1]
  refine br_f (nI_ne0 (by omega) (by omega)) ⟨vp_in_nI (by omega) (by omega), ?_⟩
  rw [eo]
  exact br_t hK hp
theorem ya_E0 (hn : n ≤ 32) (h5 : db_P5 K P (n + 1)) {post : Int32 → Prop} {x : Nat} (h1 : 1 ≤ x) (hx : x ≤ n) (hE : ¬ db_E K x) (hp : post 0) : wpY_endOfIf post (yd, yb, nI n, ys, ye, yl, yq, K, A, B, C, bp, vs, fr) (nI x) := by
  have ex : (nI x).toNatClampNeg = x := nI_clamp (by omega)
  refine ⟨vp_in_nI (by omega) (by omega), ?_⟩
  rw [ex]
  by_cases hk : K x = 5
  · obtain ⟨o, o1, o2, o3, o4, _⟩ := h5 x h1 (by omega) hk
    have eo : (nI o).toNatClampNeg = o := nI_clamp (by omega)
    have hK : ¬ K o = 3 := fun z => hE ⟨hk, by rw [o1]; exact z⟩
    refine br_t hk (ya_Op h1 (by omega) ?_)
    rw [o1]
    refine br_f (nI_ne0 (by omega) (by omega)) ⟨vp_in_nI (by omega) (by omega), ?_⟩
    rw [eo]
    exact br_f hK hp
  · exact br_f hk hp
theorem ya_su (hn : n ≤ 32) (h : db_CP K A P L Q n) (post : Int32 → Prop) : ∀ f x i, n + 1 - x < f → 1 ≤ x → x ≤ n + 1 → i + (n + 1 - x) ≤ 63 → post (L x) → wY_succ_6 post yd yb (nI n) ys ye yl yq K A B C bp vs fr f (nI x) (nI i) := by
  intro f
  induction f with
  | zero => intro x i hf; exact absurd hf (by omega)
  | succ f ih =>
    intro x i hf h1 hx hi hp
    refine br_f (nI_ge (a := i) (b := 64) (by omega) (by omega)) (br_f (nI_nlt (a := x) (b := 1) (by omega) (by omega)) ?_)
    by_cases hnx : n < x
    · have e : x = n + 1 := by omega
      rw [e, h.2.2.1.1] at hp
      exact br_t (nI_lt hnx (by omega)) hp
    · have ex : (nI x).toNatClampNeg = x := nI_clamp (by omega)
      have w : vp_in (nI x) 33 := vp_in_nI (by omega) (by omega)
      have hl := h.2.2.1.2 x h1 h1 (by omega)
      refine br_f (nI_nlt (by omega) (by omega)) (br_t (nI_le (a := x) (b := 32) (by omega) (by omega)) ⟨w, ?_⟩)
      rw [ex]
      by_cases h6 : K x = 6
      · obtain ⟨e, he, h2, h3, _⟩ := h.2.1 x h1 (by omega) (Or.inr (Or.inr h6))
        rw [hl.1 h6, he] at hp
        refine br_t h6 (ya_Me hn (by omega) ?_)
        rw [he]
        exact br_f (nI_ne0 (by omega) (by omega)) (nm_r (nI_1 e) (nm_r (nI_1 i) (ih (e + 1) (i + 1) (by omega) (by omega) (by omega) (by omega) hp)))
      · by_cases hE : db_E K x
        · rw [hl.2.1 h6 hE] at hp
          exact br_f h6 (ya_E1 hn h.1 h1 (by omega) hE (br_f (by decide) (nm_r (nI_1 x) (nm_r (nI_1 i) (ih (x + 1) (i + 1) (by omega) (by omega) (by omega) (by omega) hp)))))
        · rw [hl.2.2 h6 hE] at hp
          exact br_f h6 (ya_E0 hn h.1 h1 (by omega) hE (br_t rfl hp))
theorem ya_Su (hn : n ≤ 32) (h : db_CP K A P L Q n) {post : Int32 → Prop} {l : Nat} (hl : l ≤ n) (hp : post (L (l + 1))) : wpY_succ post (yd, yb, nI n, ys, ye, yl, yq, K, A, B, C, bp, vs, fr) (nI l) :=
  nm_r (nI_1 l) ⟨n + 2, ya_su hn h post (n + 2) (l + 1) 0 (by omega) (by omega) (by omega) (by omega) hp⟩
theorem ya_mv0 {yc : Int32} {post : Int32 → SY → Prop} (hp : post 1 (yd, yb, yc, ys, ye, yl, yq, K, A, B, C, bp, vs, fr)) : wpY_moveTo post (yd, yb, yc, ys, ye, yl, yq, K, A, B, C, bp, vs, fr) (nI 0) := br_t nI_0 hp
theorem ya_mv1 {yc : Int32} {post : Int32 → SY → Prop} {q : Nat} (h1 : 1 ≤ q) (hq : q ≤ 32) (hp : post 0 (yd, yb, yc, ys, ye, nI q, yq, K, A, B, C, bp, vs, fr)) : wpY_moveTo post (yd, yb, yc, ys, ye, yl, yq, K, A, B, C, bp, vs, fr) (nI q) := br_f (nI_ne0 (by omega) (by omega)) hp
theorem ya_rs43 {yc : Int32} (post : SY → Prop) (hp : post (yd, yb, yc, ys, ye, yl, yq, K, A, B, C, bp, vs, db_z fr 9)) : ∀ g i, i + g = 9 → wY_reset_43 post yd yb yc ys ye yl yq (g + 1) (nI i) K A B C bp vs (db_z fr i) := by
  intro g
  induction g with
  | zero =>
    intro i hi
    have e : i = 9 := by omega
    subst e
    exact br_t (nI_le (a := 9) (b := 9) (by omega) (by omega)) hp
  | succ g ih =>
    intro i hi
    have ex : (nI i).toNatClampNeg = i := nI_clamp (by omega)
    refine br_f (nI_ge (a := i) (b := 9) (by omega) (by omega)) ⟨vp_in_nI (by omega) (by omega), nm_r (by rw [ex]; exact db_zs) (nm_r (nI_1 i) (ih (i + 1) (by omega)))⟩
theorem ya_rs22 {yc : Int32} (post : SY → Prop) (hp : post (yd, yb, yc, ys, ye, yl, yq, K, A, B, C, bp, db_z vs 8, db_z fr 9)) : ∀ g i, i + g = 8 → wY_reset_22 post yd yb yc ys ye yl yq (g + 1) (nI i) K A B C bp (db_z vs i) fr := by
  intro g
  induction g with
  | zero =>
    intro i hi
    have e : i = 8 := by omega
    subst e
    refine br_t (nI_le (a := 8) (b := 8) (by omega) (by omega)) ⟨10, ?_⟩
    have H := ya_rs43 (yd := yd) (yb := yb) (yc := yc) (ys := ys) (ye := ye) (yl := yl) (yq := yq) (K := K) (A := A) (B := B) (C := C) (bp := bp) (vs := db_z vs 8) (fr := fr) post hp 9 0 (by omega)
    rw [db_z0] at H
    exact H
  | succ g ih =>
    intro i hi
    have ex : (nI i).toNatClampNeg = i := nI_clamp (by omega)
    refine br_f (nI_ge (a := i) (b := 8) (by omega) (by omega)) ⟨vp_in_nI (by omega) (by omega), nm_r (by rw [ex]; exact db_zs) (nm_r (nI_1 i) (ih (i + 1) (by omega)))⟩
theorem ya_rs {yc : Int32} {post : SY → Prop} (hp : post (yd, yb, yc, 1, 0, 0, 0, K, A, B, C, bp, db_z vs 8, db_z fr 9)) : wpY_reset post (yd, yb, yc, ys, ye, yl, yq, K, A, B, C, bp, vs, fr) := by
  refine ⟨9, ?_⟩
  have H := ya_rs22 (yd := yd) (yb := yb) (yc := yc) (ys := 1) (ye := 0) (yl := 0) (yq := 0) (K := K) (A := A) (B := B) (C := C) (bp := bp) (vs := vs) (fr := fr) post hp 8 0 (by omega)
  rw [db_z0] at H
  exact H
end
section
/-! the class's small methods, and its compile beside the reference's -/
variable {xd xb xs xl xq xe : Int32} {yd yb ys ye yl yq : Int32} {K A B C P L Q O bp vs cl fr : Nat → Int32} {n : Nat}
theorem xa_E1 (hn : n ≤ 32) (h5 : db_P5 K P (n + 1)) {xc : Int32} {post : Int32 → Prop} {x : Nat} (h1 : 1 ≤ x) (hx : x ≤ n) (hE : db_E K x) (hp : post 1) : wpX_closesIf post (xd, xb, xc, xs, xl, xq, xe, K, A, B, C, P, L, Q, O, bp, vs, cl) (nI x) := by
  have ex : (nI x).toNatClampNeg = x := nI_clamp (by omega)
  obtain ⟨o, o1, o2, o3, o4, o5⟩ := h5 x h1 (by omega) hE.1
  have eo : (nI o).toNatClampNeg = o := nI_clamp (by omega)
  have hK := hE.2
  rw [o1] at hK
  have w : vp_in (nI x) 34 := vp_in_nI (by omega) (by omega)
  refine ⟨w, ?_⟩
  rw [ex]
  refine br_t hE.1 ⟨w, ?_⟩
  rw [o5, eo]
  exact ⟨vp_in_nI (by omega) (by omega), br_t hK hp⟩
theorem xa_E0 (hn : n ≤ 32) (h5 : db_P5 K P (n + 1)) {xc : Int32} {post : Int32 → Prop} {x : Nat} (h1 : 1 ≤ x) (hx : x ≤ n) (hE : ¬ db_E K x) (hp : post 0) : wpX_closesIf post (xd, xb, xc, xs, xl, xq, xe, K, A, B, C, P, L, Q, O, bp, vs, cl) (nI x) := by
  have ex : (nI x).toNatClampNeg = x := nI_clamp (by omega)
  have w : vp_in (nI x) 34 := vp_in_nI (by omega) (by omega)
  refine ⟨w, ?_⟩
  rw [ex]
  by_cases hk : K x = 5
  · obtain ⟨o, o1, o2, o3, o4, o5⟩ := h5 x h1 (by omega) hk
    have eo : (nI o).toNatClampNeg = o := nI_clamp (by omega)
    have hK : ¬ K o = 3 := fun z => hE ⟨hk, by rw [o1]; exact z⟩
    refine br_t hk ⟨w, ?_⟩
    rw [o5, eo]
    exact ⟨vp_in_nI (by omega) (by omega), br_f hK hp⟩
  · exact br_f hk hp
theorem xa_ob1 {xc : Int32} {post : Int32 → Prop} {x : Nat} (hx : x ≤ 33) (h : K x = 3 ∨ K x = 4 ∨ K x = 6) (p : post 1) : wpX_opensBlock post (xd, xb, xc, xs, xl, xq, xe, K, A, B, C, P, L, Q, O, bp, vs, cl) (nI x) := by
  have ex : K (nI x).toNatClampNeg = K x := by rw [nI_clamp (by omega)]
  refine ⟨vp_in_nI (by omega) (by omega), nm_r ex ?_⟩
  rcases h with h | h | h <;> rw [h]
  · exact br_t rfl p
  · exact br_f (by decide) (br_t rfl p)
  · exact br_f (by decide) (br_f (by decide) (br_t rfl p))
theorem xa_ob0 {xc : Int32} {post : Int32 → Prop} {x : Nat} (hx : x ≤ 33) (h : ¬ (K x = 3 ∨ K x = 4 ∨ K x = 6)) (p : post 0) : wpX_opensBlock post (xd, xb, xc, xs, xl, xq, xe, K, A, B, C, P, L, Q, O, bp, vs, cl) (nI x) := by
  have ex : K (nI x).toNatClampNeg = K x := by rw [nI_clamp (by omega)]
  exact ⟨vp_in_nI (by omega) (by omega), nm_r ex (br_f (fun z => h (Or.inl z)) (br_f (fun z => h (Or.inr (Or.inl z))) (br_f (fun z => h (Or.inr (Or.inr z))) p)))⟩
theorem xa_jb {xc : Int32} {post : SX → Prop} {s x : Nat} (hs : s ≤ 33) (hx : x ≤ 33) (p : post (xd, xb, xc, xs, xl, xq, xe, K, A, B, C, upd (upd P s (nI x)) x (nI s), L, Q, O, bp, vs, cl)) : wpX_joinBlock post (xd, xb, xc, xs, xl, xq, xe, K, A, B, C, P, L, Q, O, bp, vs, cl) (nI s) (nI x) := by
  have es : (nI s).toNatClampNeg = s := nI_clamp (by omega)
  have ex : (nI x).toNatClampNeg = x := nI_clamp (by omega)
  exact ⟨vp_in_nI (by omega) (by omega), nm_r (by rw [es]) ⟨vp_in_nI (by omega) (by omega), nm_r (by rw [ex]) p⟩⟩
theorem xa_fp2 {xc : Int32} (post : SX → Prop) (hp : post (xd, xb, xc, xs, xl, xq, xe, K, A, B, C, P, L, db_z Q 4, O, bp, vs, cl)) : ∀ g i, i + g = 4 → wX_forgetProcedures_2 post xd xb xc xs xl xq xe (g + 1) (nI i) K A B C P L (db_z Q i) O bp vs cl := by
  intro g
  induction g with
  | zero =>
    intro i hi
    have e : i = 4 := by omega
    subst e
    exact br_t (nI_le (a := 4) (b := 4) (by omega) (by omega)) hp
  | succ g ih =>
    intro i hi
    have ex : (nI i).toNatClampNeg = i := nI_clamp (by omega)
    exact br_f (nI_ge (a := i) (b := 4) (by omega) (by omega)) ⟨vp_in_nI (by omega) (by omega), nm_r (by rw [ex]; exact db_zs) (nm_r (nI_1 i) (ih (i + 1) (by omega)))⟩
theorem xa_fp {xc : Int32} {post : SX → Prop} (hp : post (xd, xb, xc, xs, xl, xq, xe, K, A, B, C, P, L, db_z Q 4, O, bp, vs, cl)) : wpX_forgetProcedures post (xd, xb, xc, xs, xl, xq, xe, K, A, B, C, P, L, Q, O, bp, vs, cl) := by
  refine ⟨5, ?_⟩
  have H := xa_fp2 (xd := xd) (xb := xb) (xs := xs) (xl := xl) (xq := xq) (xe := xe) (K := K) (A := A) (B := B) (C := C) (P := P) (L := L) (Q := Q) (O := O) (bp := bp) (vs := vs) (cl := cl) post hp 4 0 (by omega)
  rw [db_z0] at H
  exact H
theorem xa_mr16 {xc : Int32} (post : SX → Prop) (hp : post (xd, xb, xc, xs, xl, xq, xe, K, A, B, C, P, L, Q, O, bp, db_z vs 8, cl)) : ∀ g i, i + g = 8 → wX_makeReady_16 post xd xb xc xs xl xq xe (g + 1) (nI i) K A B C P L Q O bp (db_z vs i) cl := by
  intro g
  induction g with
  | zero =>
    intro i hi
    have e : i = 8 := by omega
    subst e
    exact br_t (nI_le (a := 8) (b := 8) (by omega) (by omega)) hp
  | succ g ih =>
    intro i hi
    have ex : (nI i).toNatClampNeg = i := nI_clamp (by omega)
    exact br_f (nI_ge (a := i) (b := 8) (by omega) (by omega)) ⟨vp_in_nI (by omega) (by omega), nm_r (by rw [ex]; exact db_zs) (nm_r (nI_1 i) (ih (i + 1) (by omega)))⟩
theorem xa_mr {xc : Int32} {post : SX → Prop} (hp : post (xd, xb, xc, 1, 0, 0, 0, K, A, B, C, P, L, Q, O, bp, db_z vs 8, cl)) : wpX_makeReady post (xd, xb, xc, xs, xl, xq, xe, K, A, B, C, P, L, Q, O, bp, vs, cl) := by
  have H := xa_mr16 (xd := xd) (xb := xb) (xc := xc) (xs := 1) (xl := 0) (xq := 0) (xe := 0) (K := K) (A := A) (B := B) (C := C) (P := P) (L := L) (Q := Q) (O := O) (bp := bp) (vs := vs) (cl := cl) post hp 8 0 (by omega)
  rw [db_z0] at H
  exact ⟨9, H⟩
theorem xa_fl (hn : n ≤ 32) (h5 : db_P5 K P (n + 1)) (h1 : db_P1 K P n) (post : SX → Prop) (hp : ∀ L', db_LA K L' n 1 → post (xd, xb, nI n, xs, xl, xq, xe, K, A, B, C, P, L', Q, O, bp, vs, cl)) : ∀ x L f, x < f → x ≤ n → db_LA K L n (x + 1) → wX_findLandings_17 post xd xb (nI n) xs xl xq xe f (nI x) K A B C P L Q O bp vs cl := by
  intro x
  induction x with
  | zero =>
    intro L f hf hx hL
    obtain ⟨f, rfl⟩ : ∃ g, f = g + 1 := ⟨f - 1, by omega⟩
    exact br_t (nI_lt (a := 0) (b := 1) (by omega) (by omega)) (hp L hL)
  | succ x ih =>
    intro L f hf hx hL
    obtain ⟨f, rfl⟩ : ∃ g, f = g + 1 := ⟨f - 1, by omega⟩
    have ex : (nI (x + 1)).toNatClampNeg = x + 1 := nI_clamp (by omega)
    have w : vp_in (nI (x + 1)) 34 := vp_in_nI (by omega) (by omega)
    refine br_f (nI_nlt (a := x + 1) (b := 1) (by omega) (by omega)) ⟨w, ?_⟩
    rw [ex]
    by_cases h6 : K (x + 1) = 6
    · obtain ⟨e, he, h2, h3, h4⟩ := h1 (x + 1) (by omega) hx (Or.inr (Or.inr h6))
      refine br_t h6 ⟨w, ?_⟩
      rw [h4, nI_1 e, nI_clamp (n := e + 1) (by omega)]
      exact ⟨vp_in_nI (by omega) (by omega), w, nm_e (nm_r (pk_m1 x) (ih _ f (by omega) (by omega) (db_la_s h1 hL (by omega) hx (fun _ => by rw [he]) (fun z => absurd h6 z) (fun z => absurd h6 z))))⟩
    · refine br_f h6 ?_
      by_cases hE : db_E K (x + 1)
      · refine xa_E1 hn h5 (by omega) hx hE (br_f (by decide) ?_)
        rw [nI_1 (x + 1), nI_clamp (n := x + 1 + 1) (by omega)]
        exact ⟨vp_in_nI (by omega) (by omega), w, nm_e (nm_r (pk_m1 x) (ih _ f (by omega) (by omega) (db_la_s h1 hL (by omega) hx (fun z => absurd z h6) (fun _ _ => rfl) (fun _ z => absurd hE z))))⟩
      · refine xa_E0 hn h5 (by omega) hx hE (br_t rfl ?_)
        exact ⟨w, nm_e (nm_r (pk_m1 x) (ih _ f (by omega) (by omega) (db_la_s h1 hL (by omega) hx (fun z => absurd z h6) (fun _ z => absurd z hE) (fun _ _ => rfl))))⟩
theorem xa_Fl (hn : n ≤ 32) (h5 : db_P5 K P (n + 1)) (h1 : db_P1 K P n) {post : SX → Prop} (hp : ∀ L', db_LA K L' n 1 → post (xd, xb, nI n, xs, xl, xq, xe, K, A, B, C, P, L', Q, O, bp, vs, cl)) : wpX_findLandings post (xd, xb, nI n, xs, xl, xq, xe, K, A, B, C, P, L, Q, O, bp, vs, cl) := by
  have e : (nI n + 1).toNatClampNeg = n + 1 := by rw [nI_1, nI_clamp (by omega)]
  refine ⟨by rw [nI_1]; exact vp_in_nI (by omega) (by omega), nm_r (by rw [e]) ⟨n + 1, xa_fl hn h5 h1 post hp n _ (n + 1) (by omega) (by omega) db_la_0⟩⟩
/-! the reference's search for a procedure told twice -/
theorem ya_du0 (hn : n ≤ 32) (post : Int32 → SY → Prop) (J : Int32 → Int32 → Prop) {m x : Nat} (hx : x ≤ n) (hd : ∀ y, 1 ≤ y → y < x → ¬ (K y = 6 ∧ A y = A x)) (hJ : J (nI (m + 1)) (nI (x + 1))) : ∀ f y, x - y < f → 1 ≤ y → y ≤ x → wY_compile_66 post J (nI m) (nI x) yd yb (nI n) ys ye yl yq K A B C bp vs fr f (nI y) := by
  intro f
  induction f with
  | zero => intro y hf; exact absurd hf (by omega)
  | succ f ih =>
    intro y hf h1 hy
    by_cases e : y = x
    · subst e
      exact br_t (nI_le (by omega) (by omega)) (nm_r (nI_1 m) (nm_r (nI_1 y) hJ))
    · have ey : (nI y).toNatClampNeg = y := nI_clamp (by omega)
      have ex : (nI x).toNatClampNeg = x := nI_clamp (by omega)
      have w : vp_in (nI y) 33 := vp_in_nI (by omega) (by omega)
      refine br_f (nI_ge (by omega) (by omega)) ⟨w, ?_⟩
      rw [ey, ex]
      have t := ih (y + 1) (by omega) (by omega) (by omega)
      by_cases h6 : K y = 6
      · have ha : ¬ A y = A x := fun z => hd y h1 (by omega) ⟨h6, z⟩
        exact br_t h6 ⟨w, vp_in_nI (by omega) (by omega), br_f ha (nm_r (nI_1 y) t)⟩
      · exact br_f h6 (nm_r (nI_1 y) t)
theorem ya_du1 (hn : n ≤ 32) (post : Int32 → SY → Prop) (J : Int32 → Int32 → Prop) {m x q : Nat} (hx : x ≤ n) (q6 : K q = 6) (qa : A q = A x) (hq : q < x) (hp : post (nI x) (yd, yb, nI n, ys, ye, yl, yq, K, A, B, C, bp, vs, fr)) : ∀ f y, x - y < f → 1 ≤ y → y ≤ q → wY_compile_66 post J (nI m) (nI x) yd yb (nI n) ys ye yl yq K A B C bp vs fr f (nI y) := by
  intro f
  induction f with
  | zero => intro y hf; exact absurd hf (by omega)
  | succ f ih =>
    intro y hf h1 hy
    have ey : (nI y).toNatClampNeg = y := nI_clamp (by omega)
    have ex : (nI x).toNatClampNeg = x := nI_clamp (by omega)
    have w : vp_in (nI y) 33 := vp_in_nI (by omega) (by omega)
    refine br_f (nI_ge (by omega) (by omega)) ⟨w, ?_⟩
    rw [ey, ex]
    by_cases h6 : K y = 6
    · by_cases ha : A y = A x
      · exact br_t h6 ⟨w, vp_in_nI (by omega) (by omega), br_t ha hp⟩
      · have hne : y ≠ q := fun z => ha (by rw [z]; exact qa)
        exact br_t h6 ⟨w, vp_in_nI (by omega) (by omega), br_f ha (nm_r (nI_1 y) (ih (y + 1) (by omega) (by omega) (by omega)))⟩
    · have hne : y ≠ q := fun z => h6 (by rw [z]; exact q6)
      exact br_f h6 (nm_r (nI_1 y) (ih (y + 1) (by omega) (by omega) (by omega)))
end
section
/-! compile: the class's matching beside the reference's, line by line -/
variable {xd xb xs xl xq xe : Int32} {yd yb ys ye yl yq : Int32} {K A B C P L Q O bp vs cl fr : Nat → Int32} {n : Nat}
theorem cm_pr {m x : Nat} (h : db_IV K A O P Q n x m) : db_PR K A Q x := by
  obtain ⟨S, _, _, _, _, hp⟩ := h
  exact hp
theorem cm_end (hn : n ≤ 32) {m : Nat} (h : db_IV K A O P Q n (n + 1) m) : ∃ (r : Int32) (O' P' Q' : Nat → Int32), ((r = 0 ∧ db_P5 K P' (n + 1) ∧ db_P1 K P' n ∧ db_PR K A Q' (n + 1)) ∨ ¬ r = 0) ∧
    (∀ (post : Int32 → SX → Prop), post r (xd, xb, nI n, xs, xl, xq, xe, K, A, B, C, P', L, Q', O', bp, vs, cl) → ∀ f, wX_matchBlocks_8 post (f + 1) (nI m) (nI (n + 1)) xd xb (nI n) xs xl xq xe K A B C P L Q O bp vs cl) ∧
    (∀ (post : Int32 → SY → Prop), (r = 0 → ∃ n146, wY_compile_146 post yd yb (nI n) ys ye yl yq K A B C bp vs fr n146 1) → (¬ r = 0 → post r (yd, yb, nI n, ys, ye, yl, yq, K, A, B, C, bp, vs, fr)) → ∀ f, wY_compile_13 post yd yb (nI n) ys ye yl yq K A B C bp vs fr (f + 1) (nI m) (nI (n + 1))) := by
  have hm := db_iv_m h (by omega)
  have hlt : nI n < nI (n + 1) := nI_lt (by omega) (by omega)
  by_cases m0 : m = 0
  · subst m0
    have hz : nI 0 ≤ 0 := nI_le (a := 0) (b := 0) (by omega) (by omega)
    exact ⟨0, O, P, Q, Or.inl ⟨rfl, db_iv_z h⟩, fun post hp f => br_t hlt (br_t hz hp), fun post h0 h1 f => br_t hlt (br_t hz (h0 rfl))⟩
  · have hz : ¬ nI m ≤ 0 := nI_nle (by omega) (by omega)
    have hne : ¬ nI (n + 1) = 0 := nI_ne0 (by omega) (by omega)
    exact ⟨nI (n + 1), O, P, Q, Or.inr hne, fun post hp f => br_t hlt (br_f hz (by rw [nI_1]; exact hp)), fun post h0 h1 f => br_t hlt (br_f hz (by rw [nI_1]; exact h1 hne))⟩
theorem cm_mb (hn : n ≤ 32) (hOK : ∀ x, 1 ≤ x → x ≤ n → db_OK (K x) (A x) (B x)) : ∀ g x m (O P Q : Nat → Int32), n + 1 - x ≤ g → 1 ≤ x → x ≤ n + 1 → db_IV K A O P Q n x m → ∃ (r : Int32) (O' P' Q' : Nat → Int32), ((r = 0 ∧ db_P5 K P' (n + 1) ∧ db_P1 K P' n ∧ db_PR K A Q' (n + 1)) ∨ ¬ r = 0) ∧
    (∀ (post : Int32 → SX → Prop), post r (xd, xb, nI n, xs, xl, xq, xe, K, A, B, C, P', L, Q', O', bp, vs, cl) → ∀ f, g < f → wX_matchBlocks_8 post f (nI m) (nI x) xd xb (nI n) xs xl xq xe K A B C P L Q O bp vs cl) ∧
    (∀ (post : Int32 → SY → Prop), (r = 0 → ∃ n146, wY_compile_146 post yd yb (nI n) ys ye yl yq K A B C bp vs fr n146 1) → (¬ r = 0 → post r (yd, yb, nI n, ys, ye, yl, yq, K, A, B, C, bp, vs, fr)) → ∀ f, g < f → wY_compile_13 post yd yb (nI n) ys ye yl yq K A B C bp vs fr f (nI m) (nI x)) := by
  intro g
  induction g with
  | zero =>
    intro x m O P Q hg h1 hx h
    have e : x = n + 1 := by omega
    subst e
    obtain ⟨r, O', P', Q', hr, hX, hY⟩ := cm_end (xd := xd) (xb := xb) (xs := xs) (xl := xl) (xq := xq) (xe := xe) (yd := yd) (yb := yb) (ys := ys) (ye := ye) (yl := yl) (yq := yq) (B := B) (C := C) (L := L) (bp := bp) (vs := vs) (cl := cl) (fr := fr) hn h
    refine ⟨r, O', P', Q', hr, fun post hp f hf => ?_, fun post h0 h1 f hf => ?_⟩
    · obtain ⟨f, rfl⟩ : ∃ g, f = g + 1 := ⟨f - 1, by omega⟩
      exact hX post hp f
    · obtain ⟨f, rfl⟩ : ∃ g, f = g + 1 := ⟨f - 1, by omega⟩
      exact hY post h0 h1 f
  | succ g ih =>
    intro x m O P Q hg h1 hx h
    by_cases e : x = n + 1
    · subst e
      obtain ⟨r, O', P', Q', hr, hX, hY⟩ := cm_end (xd := xd) (xb := xb) (xs := xs) (xl := xl) (xq := xq) (xe := xe) (yd := yd) (yb := yb) (ys := ys) (ye := ye) (yl := yl) (yq := yq) (B := B) (C := C) (L := L) (bp := bp) (vs := vs) (cl := cl) (fr := fr) hn h
      refine ⟨r, O', P', Q', hr, fun post hp f hf => ?_, fun post h0 h1 f hf => ?_⟩
      · obtain ⟨f, rfl⟩ : ∃ g, f = g + 1 := ⟨f - 1, by omega⟩
        exact hX post hp f
      · obtain ⟨f, rfl⟩ : ∃ g, f = g + 1 := ⟨f - 1, by omega⟩
        exact hY post h0 h1 f
    · have hxn : x ≤ n := by omega
      have hm := db_iv_m h h1
      have ex : (nI x).toNatClampNeg = x := nI_clamp (by omega)
      have w : vp_in (nI x) 34 := vp_in_nI (by omega) (by omega)
      have w' : vp_in (nI x) 33 := vp_in_nI (by omega) (by omega)
      have nl : ¬ nI n < nI x := nI_nlt (by omega) (by omega)
      have n32 : ¬ (32 : Int32) < nI x := nI_nlt (a := 32) (b := x) (by omega) (by omega)
      have hne : ¬ nI x = 0 := nI_ne0 (by omega) (by omega)
      have hnm : ∀ j, (nI m).toNatClampNeg = j → m = j := fun j z => by rw [nI_clamp (by omega)] at z; exact z
      have em : (nI m).toNatClampNeg = m := nI_clamp (by omega)
      have wm : vp_in (nI m) 34 := vp_in_nI (by omega) (by omega)
      by_cases h6 : K x = 6
      · obtain ⟨p, p4, ha⟩ := (hOK x h1 hxn).2.2.2 (Or.inl h6)
        obtain ⟨q, hQ, hPP⟩ := cm_pr h p p4
        have ep : (nI p).toNatClampNeg = p := nI_clamp (by omega)
        have wp : vp_in (nI p) 4 := vp_in_nI (by omega) (by omega)
        have ky : K (nI x).toNatClampNeg = 6 := by rw [ex]; exact h6
        by_cases m0 : m = 0
        · subst m0
          have nz : ¬ (0 : Int32) < nI 0 := nI_nlt (a := 0) (b := 0) (by omega) (by omega)
          have hz : nI 0 ≤ 0 := nI_le (a := 0) (b := 0) (by omega) (by omega)
          by_cases q0 : q = 0
          · subst q0
            have hQ0 : Q p = 0 := hQ
            obtain ⟨r, O', P', Q', hr, hX, hY⟩ := ih (x + 1) 1 (upd O 0 (nI x)) P (upd Q p (nI x)) (by omega) (by omega) (by omega) (db_iv_o h h1 (db_c1 (Or.inr (Or.inr h6))) (db_PRx (cm_pr h) h1 (by omega) p4 h6 ha hQ0))
            refine ⟨r, O', P', Q', hr, fun post hp f hf => ?_, fun post h0 h1' f hf => ?_⟩
            · obtain ⟨f, rfl⟩ : ∃ g, f = g + 1 := ⟨f - 1, by omega⟩
              refine br_f nl ⟨w, ?_⟩
              rw [ex]
              refine br_t h6 (br_f nz ⟨w, ?_⟩)
              rw [ha, ep]
              refine ⟨wp, br_t hQ0 ⟨w, wp, nm_e ?_⟩⟩
              unfold wX_matchBlocks_59
              exact xa_ob1 (by omega) (Or.inr (Or.inr h6)) (br_f (by decide) ⟨wm, nm_r (by rw [em]) (nm_r (nI_1 0) (nm_r (nI_1 x) (hX post hp f (by omega))))⟩)
            · obtain ⟨f, rfl⟩ : ∃ g, f = g + 1 := ⟨f - 1, by omega⟩
              refine br_f nl (br_f n32 ⟨w', nm_r ky (br_f (by decide) (br_t rfl (br_t hz ⟨x, ?_⟩)))⟩)
              refine ya_du0 (n := n) (m := 0) (x := x) hn post _ hxn (fun y y1 y2 z => ?_) (hY post h0 h1' f (by omega)) x 1 (by omega) (by omega) (by omega)
              rcases hPP with ⟨_, zz⟩ | ⟨zz, _⟩
              · exact zz y y1 y2 ⟨z.1, z.2.trans ha⟩
              · exact absurd zz (by decide)
          · have hQ0 : ¬ Q p = 0 := by
              rw [hQ]
              rcases hPP with ⟨z, _⟩ | ⟨z1, z2, _⟩
              · exact absurd z q0
              · exact nI_ne0 (by omega) (by omega)
            refine ⟨nI x, O, P, Q, Or.inr hne, fun post hp f hf => ?_, fun post h0 h1' f hf => ?_⟩
            · obtain ⟨f, rfl⟩ : ∃ g, f = g + 1 := ⟨f - 1, by omega⟩
              refine br_f nl ⟨w, ?_⟩
              rw [ex]
              refine br_t h6 (br_f nz ⟨w, ?_⟩)
              rw [ha, ep]
              exact ⟨wp, br_f hQ0 hp⟩
            · obtain ⟨f, rfl⟩ : ∃ g, f = g + 1 := ⟨f - 1, by omega⟩
              refine br_f nl (br_f n32 ⟨w', nm_r ky (br_f (by decide) (br_t rfl (br_t hz ⟨x, ?_⟩)))⟩)
              rcases hPP with ⟨z, _⟩ | ⟨z1, z2, z3, z4, _⟩
              · exact absurd z q0
              · exact ya_du1 (n := n) (m := 0) (x := x) (q := q) hn post _ hxn z3 (z4.trans ha.symm) z2 (h1' hne) x 1 (by omega) (by omega) (by omega)
        · have nz : (0 : Int32) < nI m := nI_lt (a := 0) (b := m) (by omega) (by omega)
          have hz : ¬ nI m ≤ 0 := nI_nle (by omega) (by omega)
          refine ⟨nI x, O, P, Q, Or.inr hne, fun post hp f hf => ?_, fun post h0 h1' f hf => ?_⟩
          · obtain ⟨f, rfl⟩ : ∃ g, f = g + 1 := ⟨f - 1, by omega⟩
            refine br_f nl ⟨w, ?_⟩
            rw [ex]
            exact br_t h6 (br_t nz hp)
          · obtain ⟨f, rfl⟩ : ∃ g, f = g + 1 := ⟨f - 1, by omega⟩
            exact br_f nl (br_f n32 ⟨w', nm_r ky (br_f (by decide) (br_t rfl (br_f hz (h1' hne))))⟩)
      · by_cases h34 : K x = 3 ∨ K x = 4
        · have ho : K x = 3 ∨ K x = 4 ∨ K x = 6 := by
            rcases h34 with z | z
            · exact Or.inl z
            · exact Or.inr (Or.inl z)
          obtain ⟨r, O', P', Q', hr, hX, hY⟩ := ih (x + 1) (m + 1) (upd O m (nI x)) P Q (by omega) (by omega) (by omega) (db_iv_o h h1 (db_c1 ho) (db_PRn (cm_pr h) h6))
          refine ⟨r, O', P', Q', hr, fun post hp f hf => ?_, fun post h0 h1' f hf => ?_⟩
          · obtain ⟨f, rfl⟩ : ∃ g, f = g + 1 := ⟨f - 1, by omega⟩
            refine br_f nl ⟨w, ?_⟩
            rw [ex]
            refine br_f h6 ?_
            unfold wX_matchBlocks_59
            exact xa_ob1 (by omega) ho (br_f (by decide) ⟨wm, nm_r (by rw [em]) (nm_r (nI_1 m) (nm_r (nI_1 x) (hX post hp f (by omega))))⟩)
          · obtain ⟨f, rfl⟩ : ∃ g, f = g + 1 := ⟨f - 1, by omega⟩
            have t := hY post h0 h1' f (by omega)
            rcases h34 with z | z
            · exact br_f nl (br_f n32 ⟨w', nm_r (by rw [ex]; exact z) (br_f (by decide) (br_f (by decide) (br_t rfl (nm_r (nI_1 m) (nm_r (nI_1 x) t)))))⟩)
            · exact br_f nl (br_f n32 ⟨w', nm_r (by rw [ex]; exact z) (br_f (by decide) (br_f (by decide) (br_f (by decide) (br_t rfl (nm_r (nI_1 m) (nm_r (nI_1 x) t))))))⟩)
        · have hno : ¬ (K x = 3 ∨ K x = 4 ∨ K x = 6) := by
            intro z
            rcases z with z | z | z
            · exact h34 (Or.inl z)
            · exact h34 (Or.inr z)
            · exact h6 z
          by_cases h5 : K x = 5
          · by_cases m0 : m = 0
            · subst m0
              refine ⟨nI x, O, P, Q, Or.inr hne, fun post hp f hf => ?_, fun post h0 h1' f hf => ?_⟩
              · obtain ⟨f, rfl⟩ : ∃ g, f = g + 1 := ⟨f - 1, by omega⟩
                refine br_f nl ⟨w, ?_⟩
                rw [ex]
                refine br_f h6 ?_
                unfold wX_matchBlocks_59
                refine xa_ob0 (by omega) hno (br_t rfl ⟨w, ?_⟩)
                rw [ex]
                exact br_t h5 (br_t nI_0 hp)
              · obtain ⟨f, rfl⟩ : ∃ g, f = g + 1 := ⟨f - 1, by omega⟩
                exact br_f nl (br_f n32 ⟨w', nm_r (by rw [ex]; exact h5) (br_t rfl (br_t nI_0 (h1' hne)))⟩)
            · obtain ⟨j, rfl⟩ : ∃ j, m = j + 1 := ⟨m - 1, by omega⟩
              obtain ⟨s, hO, s1, s2, hIV⟩ := db_iv_e h h1 hxn h5
              obtain ⟨r, O', P', Q', hr, hX, hY⟩ := ih (x + 1) j O (upd (upd P s (nI x)) x (nI s)) Q (by omega) (by omega) (by omega) hIV
              have mne : ¬ nI (j + 1) = 0 := nI_ne0 (by omega) (by omega)
              have ej : (nI j).toNatClampNeg = j := nI_clamp (by omega)
              refine ⟨r, O', P', Q', hr, fun post hp f hf => ?_, fun post h0 h1' f hf => ?_⟩
              · obtain ⟨f, rfl⟩ : ∃ g, f = g + 1 := ⟨f - 1, by omega⟩
                refine br_f nl ⟨w, ?_⟩
                rw [ex]
                refine br_f h6 ?_
                unfold wX_matchBlocks_59
                refine xa_ob0 (by omega) hno (br_t rfl ⟨w, ?_⟩)
                rw [ex]
                refine br_t h5 (br_f mne (nm_r (pk_m1 j) ⟨vp_in_nI (by omega) (by omega), ?_⟩))
                rw [ej, hO]
                exact xa_jb (by omega) (by omega) (nm_r (nI_1 x) (hX post hp f (by omega)))
              · obtain ⟨f, rfl⟩ : ∃ g, f = g + 1 := ⟨f - 1, by omega⟩
                exact br_f nl (br_f n32 ⟨w', nm_r (by rw [ex]; exact h5) (br_t rfl (br_f mne (nm_r (pk_m1 j) (nm_r (nI_1 x) (hY post h0 h1' f (by omega))))))⟩)
          · obtain ⟨r, O', P', Q', hr, hX, hY⟩ := ih (x + 1) m O P Q (by omega) (by omega) (by omega) (db_iv_n h h1 hxn (db_c0 h5 hno))
            refine ⟨r, O', P', Q', hr, fun post hp f hf => ?_, fun post h0 h1' f hf => ?_⟩
            · obtain ⟨f, rfl⟩ : ∃ g, f = g + 1 := ⟨f - 1, by omega⟩
              refine br_f nl ⟨w, ?_⟩
              rw [ex]
              refine br_f h6 ?_
              unfold wX_matchBlocks_59
              refine xa_ob0 (by omega) hno (br_t rfl ⟨w, ?_⟩)
              rw [ex]
              exact br_f h5 (nm_r (nI_1 x) (hX post hp f (by omega)))
            · obtain ⟨f, rfl⟩ : ∃ g, f = g + 1 := ⟨f - 1, by omega⟩
              refine br_f nl (br_f n32 ⟨w', nm_r (by rw [ex]) (br_f h5 (br_f h6 (br_f (fun z => h34 (Or.inl z)) (br_f (fun z => h34 (Or.inr z)) (nm_r (nI_1 x) (hY post h0 h1' f (by omega)))))))⟩)
theorem cm_fc (hn : n ≤ 32) (hOK : ∀ x, 1 ≤ x → x ≤ n → db_OK (K x) (A x) (B x)) (hPR : db_PR K A Q (n + 1)) : ∀ g x, n + 1 - x ≤ g → 1 ≤ x → x ≤ n + 1 → ∃ r : Int32,
    (∀ (post : Int32 → Prop), post r → ∀ f, g < f → wX_firstCallOfNoProcedure_2 post xd xb (nI n) xs xl xq xe K A B C P L Q O bp vs cl f (nI x)) ∧
    (∀ (post : Int32 → SY → Prop), (r = 0 → ∃ n194, wY_compile_194 post yd yb (nI n) ys ye yl yq n194 0 K A B C bp vs fr) → (¬ r = 0 → post r (yd, yb, nI n, ys, ye, yl, yq, K, A, B, C, bp, vs, fr)) → ∀ f, g < f → wY_compile_146 post yd yb (nI n) ys ye yl yq K A B C bp vs fr f (nI x)) := by
  intro g
  induction g with
  | zero =>
    intro x hg h1 hx
    have hlt : nI n < nI x := nI_lt (by omega) (by omega)
    refine ⟨0, fun post hp f hf => ?_, fun post h0 h1' f hf => ?_⟩
    · obtain ⟨f, rfl⟩ : ∃ g, f = g + 1 := ⟨f - 1, by omega⟩
      exact br_t hlt hp
    · obtain ⟨f, rfl⟩ : ∃ g, f = g + 1 := ⟨f - 1, by omega⟩
      exact br_t hlt (h0 rfl)
  | succ g ih =>
    intro x hg h1 hx
    by_cases e : n < x
    · have hlt : nI n < nI x := nI_lt (by omega) (by omega)
      refine ⟨0, fun post hp f hf => ?_, fun post h0 h1' f hf => ?_⟩
      · obtain ⟨f, rfl⟩ : ∃ g, f = g + 1 := ⟨f - 1, by omega⟩
        exact br_t hlt hp
      · obtain ⟨f, rfl⟩ : ∃ g, f = g + 1 := ⟨f - 1, by omega⟩
        exact br_t hlt (h0 rfl)
    · have ex : (nI x).toNatClampNeg = x := nI_clamp (by omega)
      have w : vp_in (nI x) 34 := vp_in_nI (by omega) (by omega)
      have w' : vp_in (nI x) 33 := vp_in_nI (by omega) (by omega)
      have nl : ¬ nI n < nI x := nI_nlt (by omega) (by omega)
      have n32 : ¬ (32 : Int32) < nI x := nI_nlt (a := 32) (b := x) (by omega) (by omega)
      have hne : ¬ nI x = 0 := nI_ne0 (by omega) (by omega)
      obtain ⟨r, hX, hY⟩ := ih (x + 1) (by omega) (by omega) (by omega)
      by_cases h7 : K x = 7
      · obtain ⟨p, p4, ha⟩ := (hOK x h1 (by omega)).2.2.2 (Or.inr h7)
        obtain ⟨q, hQ, hPP⟩ := hPR p p4
        have ep : (nI p).toNatClampNeg = p := nI_clamp (by omega)
        have wp : vp_in (nI p) 4 := vp_in_nI (by omega) (by omega)
        have hqn : q ≤ n := by
          rcases hPP with ⟨z, _⟩ | ⟨_, z, _⟩ <;> omega
        by_cases q0 : q = 0
        · subst q0
          refine ⟨nI x, fun post hp f hf => ?_, fun post h0 h1' f hf => ?_⟩
          · obtain ⟨f, rfl⟩ : ∃ g, f = g + 1 := ⟨f - 1, by omega⟩
            refine br_f nl ⟨w, ?_⟩
            rw [ex]
            refine br_t h7 ⟨w, ?_⟩
            rw [ha, ep]
            exact ⟨wp, br_t hQ hp⟩
          · obtain ⟨f, rfl⟩ : ∃ g, f = g + 1 := ⟨f - 1, by omega⟩
            refine br_f nl (br_f n32 ⟨w', ?_⟩)
            rw [ex]
            refine br_t h7 ⟨w', ?_⟩
            rw [ha]
            exact ya_Pl hn hPP (br_t nI_0 (h1' hne))
        · have hq0 : ¬ nI q = 0 := nI_ne0 (by omega) (by omega)
          refine ⟨r, fun post hp f hf => ?_, fun post h0 h1' f hf => ?_⟩
          · obtain ⟨f, rfl⟩ : ∃ g, f = g + 1 := ⟨f - 1, by omega⟩
            refine br_f nl ⟨w, ?_⟩
            rw [ex]
            refine br_t h7 ⟨w, ?_⟩
            rw [ha, ep]
            exact ⟨wp, br_f (by rw [hQ]; exact hq0) (nm_r (nI_1 x) (hX post hp f (by omega)))⟩
          · obtain ⟨f, rfl⟩ : ∃ g, f = g + 1 := ⟨f - 1, by omega⟩
            refine br_f nl (br_f n32 ⟨w', ?_⟩)
            rw [ex]
            refine br_t h7 ⟨w', ?_⟩
            rw [ha]
            exact ya_Pl hn hPP (br_f hq0 (nm_r (nI_1 x) (hY post h0 h1' f (by omega))))
      · refine ⟨r, fun post hp f hf => ?_, fun post h0 h1' f hf => ?_⟩
        · obtain ⟨f, rfl⟩ : ∃ g, f = g + 1 := ⟨f - 1, by omega⟩
          refine br_f nl ⟨w, ?_⟩
          rw [ex]
          exact br_f h7 (nm_r (nI_1 x) (hX post hp f (by omega)))
        · obtain ⟨f, rfl⟩ : ∃ g, f = g + 1 := ⟨f - 1, by omega⟩
          refine br_f nl (br_f n32 ⟨w', ?_⟩)
          rw [ex]
          exact br_f h7 (nm_r (nI_1 x) (hY post h0 h1' f (by omega)))
theorem cm_b0 : vp_nar .boolean 0 = 0 := rfl
theorem cm_u0 {i : Nat} : upd (fun _ => 0) i (vp_nar .boolean 0) = (fun _ => (0 : Int32)) := by
  rw [cm_b0]
  funext j
  unfold upd
  by_cases h : j = i
  · rw [if_pos h]
  · rw [if_neg h]
theorem cm_bp {yc : Int32} (post : Int32 → SY → Prop) (hp : post 0 (yd, yb, yc, 1, 0, 0, 0, K, A, B, C, (fun _ => 0), db_z vs 8, db_z fr 9)) : ∀ g i, i + g = 33 → wY_compile_194 post yd yb yc ys ye yl yq (g + 1) (nI i) K A B C (fun _ => 0) vs fr := by
  intro g
  induction g with
  | zero =>
    intro i hi
    have e : i = 33 := by omega
    subst e
    exact br_t (nI_le (a := 33) (b := 33) (by omega) (by omega)) (ya_rs hp)
  | succ g ih =>
    intro i hi
    have ex : (nI i).toNatClampNeg = i := nI_clamp (by omega)
    exact br_f (nI_ge (a := i) (b := 33) (by omega) (by omega)) ⟨vp_in_nI (by omega) (by omega), nm_r cm_u0 (nm_r (nI_1 i) (ih (i + 1) (by omega)))⟩
theorem cm_MB {xc : Int32} {post : Int32 → SX → Prop} {f : Nat} (h : wX_matchBlocks_8 post f 0 1 xd xb xc xs xl xq xe K A B C P L (db_z Q 4) O bp vs cl) : wpX_matchBlocks post (xd, xb, xc, xs, xl, xq, xe, K, A, B, C, P, L, Q, O, bp, vs, cl) := by
  unfold wpX_matchBlocks
  exact xa_fp ⟨f, h⟩
theorem cm_all (hn : n ≤ 32) (hOK : ∀ x, 1 ≤ x → x ≤ n → db_OK (K x) (A x) (B x)) : ∃ (r : Int32) (O' P' Q' : Nat → Int32),
    (¬ r = 0 ∧ (∀ (post : Int32 → SX → Prop), post r (xd, xb, nI n, 0, xl, xq, xe, K, A, B, C, P', L, Q', O', (fun _ => 0), vs, cl) → wpX_compile post (xd, xb, nI n, 0, xl, xq, xe, K, A, B, C, P, L, Q, O, (fun _ => 0), vs, cl)) ∧
      (∀ (post : Int32 → SY → Prop), post r (yd, yb, nI n, 0, ye, yl, yq, K, A, B, C, (fun _ => 0), vs, fr) → wpY_compile post (yd, yb, nI n, 0, ye, yl, yq, K, A, B, C, (fun _ => 0), vs, fr))) ∨
    (r = 0 ∧ (∀ (post : Int32 → SX → Prop), (∀ L', db_CP K A P' L' Q' n → post r (xd, xb, nI n, 1, 0, 0, 0, K, A, B, C, P', L', Q', O', (fun _ => 0), db_z vs 8, cl)) → wpX_compile post (xd, xb, nI n, 0, xl, xq, xe, K, A, B, C, P, L, Q, O, (fun _ => 0), vs, cl)) ∧
      (∀ (post : Int32 → SY → Prop), post r (yd, yb, nI n, 1, 0, 0, 0, K, A, B, C, (fun _ => 0), db_z vs 8, db_z fr 9) → wpY_compile post (yd, yb, nI n, 0, ye, yl, yq, K, A, B, C, (fun _ => 0), vs, fr))) := by
  obtain ⟨r, O', P', Q', hr, hX, hY⟩ := cm_mb (xd := xd) (xb := xb) (xs := 0) (xl := xl) (xq := xq) (xe := xe) (yd := yd) (yb := yb) (ys := 0) (ye := ye) (yl := yl) (yq := yq) (K := K) (A := A) (B := B) (C := C) (L := L) (bp := fun _ => 0) (vs := vs) (cl := cl) (fr := fr) hn hOK n 1 0 O P (db_z Q 4) (by omega) (by omega) (by omega) (db_iv_0 (fun p hp => db_zb hp))
  rcases hr with ⟨rfl, h5, h1, hPR⟩ | hr
  · obtain ⟨r, hX2, hY2⟩ := cm_fc (xd := xd) (xb := xb) (xs := 0) (xl := xl) (xq := xq) (xe := xe) (yd := yd) (yb := yb) (ys := 0) (ye := ye) (yl := yl) (yq := yq) (K := K) (A := A) (B := B) (C := C) (P := P') (L := L) (Q := Q') (O := O') (bp := fun _ => 0) (vs := vs) (cl := cl) (fr := fr) hn hOK hPR n 1 (by omega) (by omega) (by omega)
    by_cases r0 : r = 0
    · subst r0
      refine ⟨0, O', P', Q', Or.inr ⟨rfl, fun post hp => ?_, fun post hp => ?_⟩⟩
      · refine br_t rfl (cm_MB (f := n + 1) (hX _ (br_t rfl ⟨n + 1, hX2 _ ?_ (n + 1) (by omega)⟩) (n + 1) (by omega)))
        unfold wX_compile_23
        exact br_t rfl (xa_Fl hn h5 h1 (fun L' hL => xa_mr (hp L' ⟨h5, h1, hL, hPR⟩)))
      · refine br_t rfl ⟨n + 1, hY _ (fun _ => ⟨n + 1, hY2 _ (fun _ => ⟨34, ?_⟩) (fun z => absurd rfl z) (n + 1) (by omega)⟩) (fun z => absurd rfl z) (n + 1) (by omega)⟩
        exact cm_bp _ hp 33 0 (by omega)
    · refine ⟨r, O', P', Q', Or.inl ⟨r0, fun post hp => ?_, fun post hp => ?_⟩⟩
      · refine br_t rfl (cm_MB (f := n + 1) (hX _ (br_t rfl ⟨n + 1, hX2 _ ?_ (n + 1) (by omega)⟩) (n + 1) (by omega)))
        unfold wX_compile_23
        exact br_f r0 hp
      · exact br_t rfl ⟨n + 1, hY _ (fun _ => ⟨n + 1, hY2 _ (fun z => absurd z r0) (fun _ => hp) (n + 1) (by omega)⟩) (fun z => absurd rfl z) (n + 1) (by omega)⟩
  · refine ⟨r, O', P', Q', Or.inl ⟨hr, fun post hp => ?_, fun post hp => ?_⟩⟩
    · refine br_t rfl (cm_MB (f := n + 1) (hX _ (br_f hr ?_) (n + 1) (by omega)))
      unfold wX_compile_23
      exact br_f hr hp
    · exact br_t rfl ⟨n + 1, hY _ (fun z => absurd z hr) (fun _ => hp) (n + 1) (by omega)⟩
end
section
/-! one performed line: the class and the reference side by side -/
variable {xb xs xl xq xe : Int32} {yb ys ye yl yq : Int32} {K A B C P L Q O bp vs cl fr : Nat → Int32} {n d ln dp : Nat}
def db_FR (cl fr : Nat → Int32) (n dp : Nat) : Prop := ∀ j, 1 ≤ j → j ≤ dp → cl j = fr j ∧ ∃ c, cl j = nI c ∧ 1 ≤ c ∧ c ≤ n
def db_EV (K cl fr : Nat → Int32) (n d ln dp : Nat) : Prop := 1 ≤ ln ∧ ln ≤ n ∧ ¬ db_E K ln ∧ dp ≤ d ∧ db_FR cl fr n dp
def db_OUT (K cl fr : Nat → Int32) (n d ln : Nat) (rX rY lY qX qY : Int32) : Prop := (rX = 0 ∧ rY = 1) ∨ (∃ dp, rX = -1 ∧ rY = 2 ∧ lY = nI ln ∧ qX = nI dp ∧ qY = nI dp ∧ db_EV K cl fr n d ln dp) ∨ (∃ q dp, rX = nI q ∧ rY = 0 ∧ lY = nI q ∧ qX = nI dp ∧ qY = nI dp ∧ db_EV K cl fr n d q dp)
theorem pf_a7 {a : Nat} (h : a < 8) : nI a &&& 7 = nI a := (pk_andN (by omega) 3 (by decide)).trans (congrArg nI (Nat.mod_eq_of_lt h))
theorem pf_la {xd : Int32} (hn : n ≤ 32) {post : Int32 → Prop} {l : Nat} (hl : l ≤ n) (hp : post (L (l + 1))) : wpX_lineAfter post (xd, xb, nI n, xs, xl, xq, xe, K, A, B, C, P, L, Q, O, bp, vs, cl) (nI l) := by
  have e : L (nI l + 1).toNatClampNeg = L (l + 1) := by rw [nI_1, nI_clamp (by omega)]
  refine ⟨by rw [nI_1]; exact vp_in_nI (by omega) (by omega), ?_⟩
  rw [e]
  exact hp
theorem pf_go {yd : Int32} (hn : n ≤ 32) (h : db_CP K A P L Q n) {post : Int32 → SY → Prop} {l q : Nat} (hl : l ≤ n) (hq : L (l + 1) = nI q) (hqn : q ≤ n) (h0 : q = 0 → post 1 (yd, yb, nI n, ys, ye, yl, yq, K, A, B, C, bp, vs, fr)) (h1 : 1 ≤ q → post 0 (yd, yb, nI n, ys, ye, nI q, yq, K, A, B, C, bp, vs, fr)) : wpY_succ (fun r => wpY_moveTo post (yd, yb, nI n, ys, ye, yl, yq, K, A, B, C, bp, vs, fr) r) (yd, yb, nI n, ys, ye, yl, yq, K, A, B, C, bp, vs, fr) (nI l) := by
  refine ya_Su hn h hl ?_
  rw [hq]
  by_cases z : q = 0
  · subst z
    exact ya_mv0 (h0 rfl)
  · exact ya_mv1 (by omega) (by omega) (h1 (by omega))
theorem pf_xl0 {xd : Int32} {post : Int32 → SX → Prop} (hp : post 0 (xd, xb, nI n, xs, xl, nI 0, xe, K, A, B, C, P, L, Q, O, bp, vs, cl)) : wpX_leaveProcedure post (xd, xb, nI n, xs, xl, nI 0, xe, K, A, B, C, P, L, Q, O, bp, vs, cl) := br_t nI_0 hp
theorem pf_yl0 {yd : Int32} {post : Int32 → SY → Prop} (hp : post 1 (yd, yb, nI n, ys, ye, yl, nI 0, K, A, B, C, bp, vs, fr)) : wpY_leave post (yd, yb, nI n, ys, ye, yl, nI 0, K, A, B, C, bp, vs, fr) := br_t (nI_le (a := 0) (b := 0) (by omega) (by omega)) hp
theorem pf_xl1 {xd : Int32} (hn : n ≤ 32) {post : Int32 → SX → Prop} {j c : Nat} (hj : j + 1 ≤ 8) (hc : cl (j + 1) = nI c) (hcn : c ≤ n) (hp : post (L (c + 1)) (xd, xb, nI n, xs, xl, nI j, xe, K, A, B, C, P, L, Q, O, bp, vs, cl)) : wpX_leaveProcedure post (xd, xb, nI n, xs, xl, nI (j + 1), xe, K, A, B, C, P, L, Q, O, bp, vs, cl) :=
  br_f (nI_ne0 (by omega) (by omega)) ⟨vp_in_nI (by omega) (by omega), nm_r (by rw [nI_clamp (by omega)]; exact hc) (nm_r (nI_pred j) (pf_la hn hcn hp))⟩
theorem pf_yl1 {yd : Int32} (hn : n ≤ 32) (h : db_CP K A P L Q n) {post : Int32 → SY → Prop} {j c q : Nat} (hj : j + 1 ≤ 8) (hc : fr (j + 1) = nI c) (hcn : c ≤ n) (hq : L (c + 1) = nI q) (hqn : q ≤ n) (h0 : q = 0 → post 1 (yd, yb, nI n, ys, ye, yl, nI j, K, A, B, C, bp, vs, upd fr (j + 1) 0)) (h1 : 1 ≤ q → post 0 (yd, yb, nI n, ys, ye, nI q, nI j, K, A, B, C, bp, vs, upd fr (j + 1) 0)) : wpY_leave post (yd, yb, nI n, ys, ye, yl, nI (j + 1), K, A, B, C, bp, vs, fr) := by
  have ej : (nI (j + 1)).toNatClampNeg = j + 1 := nI_clamp (by omega)
  have w : vp_in (nI (j + 1)) 9 := vp_in_nI (by omega) (by omega)
  exact br_f (nI_nle (by omega) (by omega)) (br_t (nI_le (a := j + 1) (b := 8) (by omega) (by omega)) ⟨w, nm_r (by rw [ej]; exact hc) ⟨w, nm_r (by rw [ej]) (nm_r (nI_pred j) (pf_go hn h hcn hq hqn h0 h1))⟩⟩)
theorem pf_FR1 {j : Nat} {z : Int32} (h : db_FR cl fr n (j + 1)) : db_FR cl (upd fr (j + 1) z) n j := by
  intro i i1 i2
  rw [pk_un (by omega)]
  exact h i i1 (by omega)
theorem pf_FR2 (h : db_FR cl fr n dp) (h1 : 1 ≤ ln) (hl : ln ≤ n) : db_FR (upd cl (dp + 1) (nI ln)) (upd fr (dp + 1) (nI ln)) n (dp + 1) := by
  intro i i1 i2
  by_cases e : i = dp + 1
  · subst e
    exact ⟨by rw [pk_us, pk_us], ln, pk_us, h1, hl⟩
  · rw [pk_un e, pk_un e]
    exact h i i1 (by omega)
theorem pf_out {vs' cl' fr' : Nat → Int32} {dp' l q : Nat} (hq : L (l + 1) = nI q) (hq2 : q = 0 ∨ (1 ≤ q ∧ q ≤ n ∧ ¬ db_E K q)) (hd : dp' ≤ d) (hF : db_FR cl' fr' n dp')
    (hX : ∀ post : Int32 → SX → Prop, post (L (l + 1)) (nI d, xb, nI n, xs, nI ln, nI dp', xe, K, A, B, C, P, L, Q, O, bp, vs', cl') → wpX_perform post (nI d, xb, nI n, xs, nI ln, nI dp, xe, K, A, B, C, P, L, Q, O, bp, vs, cl))
    (hY : ∀ post : Int32 → SY → Prop, (q = 0 → post 1 (nI d, yb, nI n, ys, ye, nI ln, nI dp', K, A, B, C, bp, vs', fr')) → (1 ≤ q → post 0 (nI d, yb, nI n, ys, ye, nI q, nI dp', K, A, B, C, bp, vs', fr')) → wpY_perform post (nI d, yb, nI n, ys, ye, nI ln, nI dp, K, A, B, C, bp, vs, fr)) : ∃ (rX rY lY qX qY : Int32) (vs' cl' fr' : Nat → Int32), db_OUT K cl' fr' n d ln rX rY lY qX qY ∧
    (∀ post : Int32 → SX → Prop, post rX (nI d, xb, nI n, xs, nI ln, qX, xe, K, A, B, C, P, L, Q, O, bp, vs', cl') → wpX_perform post (nI d, xb, nI n, xs, nI ln, nI dp, xe, K, A, B, C, P, L, Q, O, bp, vs, cl)) ∧
    (∀ post : Int32 → SY → Prop, post rY (nI d, yb, nI n, ys, ye, lY, qY, K, A, B, C, bp, vs', fr') → wpY_perform post (nI d, yb, nI n, ys, ye, nI ln, nI dp, K, A, B, C, bp, vs, fr)) := by
  rcases hq2 with z | ⟨q1, q2, q3⟩
  · refine ⟨0, 1, nI ln, nI dp', nI dp', vs', cl', fr', Or.inl ⟨rfl, rfl⟩, fun post hp => hX post ?_, fun post hp => hY post (fun _ => hp) (fun z1 => absurd z1 (by omega))⟩
    rw [hq, z]
    exact hp
  · refine ⟨nI q, 0, nI q, nI dp', nI dp', vs', cl', fr', Or.inr (Or.inr ⟨q, dp', rfl, rfl, rfl, rfl, rfl, q1, q2, q3, hd, hF⟩), fun post hp => hX post ?_, fun post hp => hY post (fun z => absurd z (by omega)) (fun _ => hp)⟩
    rw [hq]
    exact hp
theorem pf_1 (hn : n ≤ 32) (hd : d ≤ 8) (h : db_CP K A P L Q n) (hOK : db_OK (K ln) (A ln) (B ln)) (hE : db_EV K cl fr n d ln dp) (hk : K ln = 1) : ∃ (rX rY lY qX qY : Int32) (vs' cl' fr' : Nat → Int32), db_OUT K cl' fr' n d ln rX rY lY qX qY ∧
    (∀ post : Int32 → SX → Prop, post rX (nI d, xb, nI n, xs, nI ln, qX, xe, K, A, B, C, P, L, Q, O, bp, vs', cl') → wpX_perform post (nI d, xb, nI n, xs, nI ln, nI dp, xe, K, A, B, C, P, L, Q, O, bp, vs, cl)) ∧
    (∀ post : Int32 → SY → Prop, post rY (nI d, yb, nI n, ys, ye, lY, qY, K, A, B, C, bp, vs', fr') → wpY_perform post (nI d, yb, nI n, ys, ye, nI ln, nI dp, K, A, B, C, bp, vs, fr)) := by
  obtain ⟨l1, l2, l3, l4, l5⟩ := hE
  have ex : (nI ln).toNatClampNeg = ln := nI_clamp (by omega)
  have w : vp_in (nI ln) 34 := vp_in_nI (by omega) (by omega)
  have w' : vp_in (nI ln) 33 := vp_in_nI (by omega) (by omega)
  have c1 : ¬ nI ln < 1 := nI_nlt (a := ln) (b := 1) (by omega) (by omega)
  have c2 : ¬ nI n < nI ln := nI_nlt (by omega) (by omega)
  have c3 : nI ln ≤ 32 := nI_le (a := ln) (b := 32) (by omega) (by omega)
  have kx : K (nI ln).toNatClampNeg = K ln := by rw [ex]
  obtain ⟨a, a8, ha⟩ := hOK.2.1 (Or.inl hk)
  have ka : A (nI ln).toNatClampNeg = nI a := by rw [ex]; exact ha
  have ea : (nI a).toNatClampNeg = a := nI_clamp (by omega)
  obtain ⟨q, hq, hq2⟩ := db_land h (n + 1) (ln + 1) (by omega) (by omega) (by omega)
  have hqn : q ≤ n := by rcases hq2 with z | ⟨_, z, _⟩ <;> omega
  refine pf_out (vs' := upd vs a (B ln)) (cl' := cl) (fr' := fr) (dp' := dp) hq hq2 l4 l5 (fun post hp => ?_) (fun post h0 h1 => ?_)
  · refine ⟨w, nm_r ka ⟨w, nm_r (kx.trans hk) (br_f (by decide) (br_f (by decide) (br_t rfl ⟨w, vp_in_nI (by omega) (by omega), nm_r (e' := upd vs a (B ln)) (by rw [ea, ex]) (pf_la hn l2 hp)⟩)))⟩⟩
  · refine br_f c1 (br_f c2 (br_t c3 ⟨w', nm_r (kx.trans hk) ⟨w', nm_r ka (br_t rfl ⟨w', ?_⟩)⟩⟩))
    rw [pf_a7 a8]
    exact ⟨vp_in_nI (by omega) (by omega), nm_r (e' := upd vs a (B ln)) (by rw [ea, ex]) (pf_go hn h l2 hq hqn h0 h1)⟩
theorem pf_2 (hn : n ≤ 32) (hd : d ≤ 8) (h : db_CP K A P L Q n) (hOK : db_OK (K ln) (A ln) (B ln)) (hE : db_EV K cl fr n d ln dp) (hk : K ln = 2) : ∃ (rX rY lY qX qY : Int32) (vs' cl' fr' : Nat → Int32), db_OUT K cl' fr' n d ln rX rY lY qX qY ∧
    (∀ post : Int32 → SX → Prop, post rX (nI d, xb, nI n, xs, nI ln, qX, xe, K, A, B, C, P, L, Q, O, bp, vs', cl') → wpX_perform post (nI d, xb, nI n, xs, nI ln, nI dp, xe, K, A, B, C, P, L, Q, O, bp, vs, cl)) ∧
    (∀ post : Int32 → SY → Prop, post rY (nI d, yb, nI n, ys, ye, lY, qY, K, A, B, C, bp, vs', fr') → wpY_perform post (nI d, yb, nI n, ys, ye, nI ln, nI dp, K, A, B, C, bp, vs, fr)) := by
  obtain ⟨l1, l2, l3, l4, l5⟩ := hE
  have ex : (nI ln).toNatClampNeg = ln := nI_clamp (by omega)
  have w : vp_in (nI ln) 34 := vp_in_nI (by omega) (by omega)
  have w' : vp_in (nI ln) 33 := vp_in_nI (by omega) (by omega)
  have c1 : ¬ nI ln < 1 := nI_nlt (a := ln) (b := 1) (by omega) (by omega)
  have c2 : ¬ nI n < nI ln := nI_nlt (by omega) (by omega)
  have c3 : nI ln ≤ 32 := nI_le (a := ln) (b := 32) (by omega) (by omega)
  have kx : K (nI ln).toNatClampNeg = K ln := by rw [ex]
  obtain ⟨a, a8, ha⟩ := hOK.2.1 (Or.inr (Or.inl hk))
  obtain ⟨b, b8, hb⟩ := hOK.2.2.1 hk
  have eb : (nI b).toNatClampNeg = b := nI_clamp (by omega)
  have ka : A (nI ln).toNatClampNeg = nI a := by rw [ex]; exact ha
  have ea : (nI a).toNatClampNeg = a := nI_clamp (by omega)
  obtain ⟨q, hq, hq2⟩ := db_land h (n + 1) (ln + 1) (by omega) (by omega) (by omega)
  have hqn : q ≤ n := by rcases hq2 with z | ⟨_, z, _⟩ <;> omega
  refine pf_out (vs' := upd vs a (vs b + C ln)) (cl' := cl) (fr' := fr) (dp' := dp) hq hq2 l4 l5 (fun post hp => ?_) (fun post h0 h1 => ?_)
  · refine ⟨w, nm_r ka ⟨w, nm_r (kx.trans hk) (br_f (by decide) (br_f (by decide) (br_f (by decide) (br_t rfl ⟨w, ?_⟩))))⟩⟩
    rw [ex, hb]
    exact ⟨vp_in_nI (by omega) (by omega), w, vp_in_nI (by omega) (by omega), nm_r (e' := upd vs a (vs b + C ln)) (by rw [ea, eb]) (pf_la hn l2 hp)⟩
  · refine br_f c1 (br_f c2 (br_t c3 ⟨w', nm_r (kx.trans hk) ⟨w', nm_r ka (br_f (by decide) (br_t rfl ⟨w', ?_⟩))⟩⟩))
    rw [ex, hb, pf_a7 a8, pf_a7 b8]
    exact ⟨vp_in_nI (by omega) (by omega), w', vp_in_nI (by omega) (by omega), nm_r (e' := upd vs a (vs b + C ln)) (by rw [ea, eb]) (pf_go hn h l2 hq hqn h0 h1)⟩
theorem pf_3 (hn : n ≤ 32) (hd : d ≤ 8) (h : db_CP K A P L Q n) (hOK : db_OK (K ln) (A ln) (B ln)) (hE : db_EV K cl fr n d ln dp) (hk : K ln = 3) : ∃ (rX rY lY qX qY : Int32) (vs' cl' fr' : Nat → Int32), db_OUT K cl' fr' n d ln rX rY lY qX qY ∧
    (∀ post : Int32 → SX → Prop, post rX (nI d, xb, nI n, xs, nI ln, qX, xe, K, A, B, C, P, L, Q, O, bp, vs', cl') → wpX_perform post (nI d, xb, nI n, xs, nI ln, nI dp, xe, K, A, B, C, P, L, Q, O, bp, vs, cl)) ∧
    (∀ post : Int32 → SY → Prop, post rY (nI d, yb, nI n, ys, ye, lY, qY, K, A, B, C, bp, vs', fr') → wpY_perform post (nI d, yb, nI n, ys, ye, nI ln, nI dp, K, A, B, C, bp, vs, fr)) := by
  obtain ⟨l1, l2, l3, l4, l5⟩ := hE
  have ex : (nI ln).toNatClampNeg = ln := nI_clamp (by omega)
  have w : vp_in (nI ln) 34 := vp_in_nI (by omega) (by omega)
  have w' : vp_in (nI ln) 33 := vp_in_nI (by omega) (by omega)
  have c1 : ¬ nI ln < 1 := nI_nlt (a := ln) (b := 1) (by omega) (by omega)
  have c2 : ¬ nI n < nI ln := nI_nlt (by omega) (by omega)
  have c3 : nI ln ≤ 32 := nI_le (a := ln) (b := 32) (by omega) (by omega)
  have kx : K (nI ln).toNatClampNeg = K ln := by rw [ex]
  obtain ⟨a, a8, ha⟩ := hOK.2.1 (Or.inr (Or.inr (Or.inl hk)))
  have ka : A (nI ln).toNatClampNeg = nI a := by rw [ex]; exact ha
  have ea : (nI a).toNatClampNeg = a := nI_clamp (by omega)
  have wa : vp_in (nI a) 8 := vp_in_nI (by omega) (by omega)
  by_cases hv : vs a = 0
  · obtain ⟨e, he, e1, e2, e3⟩ := h.2.1 ln l1 l2 (Or.inl hk)
    obtain ⟨q, hq, hq2⟩ := db_land h (n + 1) (e + 1) (by omega) (by omega) (by omega)
    have hqn : q ≤ n := by rcases hq2 with z | ⟨_, z, _⟩ <;> omega
    refine pf_out (vs' := vs) (cl' := cl) (fr' := fr) (dp' := dp) hq hq2 l4 l5 (fun post hp => ?_) (fun post h0 h1 => ?_)
    · refine ⟨w, nm_r ka ⟨w, nm_r (kx.trans hk) (br_f (by decide) (br_f (by decide) (br_f (by decide) (br_f (by decide) (br_t rfl ?_)))))⟩⟩
      unfold wX_perform_127
      rw [ea]
      refine ⟨wa, br_t hv ⟨w, ?_⟩⟩
      unfold wX_perform_153
      rw [ex, e3]
      exact pf_la hn e2 hp
    · refine br_f c1 (br_f c2 (br_t c3 ⟨w', nm_r (kx.trans hk) ⟨w', nm_r ka (br_f (by decide) (br_f (by decide) (br_t rfl ?_)))⟩⟩))
      unfold wY_perform_133
      rw [pf_a7 a8, ea]
      refine ⟨wa, br_t hv (ya_Me hn l2 ?_)⟩
      rw [he]
      exact br_f (nI_ne0 (by omega) (by omega)) (pf_go hn h e2 hq hqn h0 h1)
  · obtain ⟨q, hq, hq2⟩ := db_land h (n + 1) (ln + 1) (by omega) (by omega) (by omega)
    have hqn : q ≤ n := by rcases hq2 with z | ⟨_, z, _⟩ <;> omega
    refine pf_out (vs' := vs) (cl' := cl) (fr' := fr) (dp' := dp) hq hq2 l4 l5 (fun post hp => ?_) (fun post h0 h1 => ?_)
    · refine ⟨w, nm_r ka ⟨w, nm_r (kx.trans hk) (br_f (by decide) (br_f (by decide) (br_f (by decide) (br_f (by decide) (br_t rfl ?_)))))⟩⟩
      unfold wX_perform_127
      rw [ea]
      refine ⟨wa, br_f hv ?_⟩
      unfold wX_perform_153
      exact pf_la hn l2 hp
    · refine br_f c1 (br_f c2 (br_t c3 ⟨w', nm_r (kx.trans hk) ⟨w', nm_r ka (br_f (by decide) (br_f (by decide) (br_t rfl ?_)))⟩⟩))
      unfold wY_perform_133
      rw [pf_a7 a8, ea]
      exact ⟨wa, br_f hv (pf_go hn h l2 hq hqn h0 h1)⟩
theorem pf_4 (hn : n ≤ 32) (hd : d ≤ 8) (h : db_CP K A P L Q n) (hOK : db_OK (K ln) (A ln) (B ln)) (hE : db_EV K cl fr n d ln dp) (hk : K ln = 4) : ∃ (rX rY lY qX qY : Int32) (vs' cl' fr' : Nat → Int32), db_OUT K cl' fr' n d ln rX rY lY qX qY ∧
    (∀ post : Int32 → SX → Prop, post rX (nI d, xb, nI n, xs, nI ln, qX, xe, K, A, B, C, P, L, Q, O, bp, vs', cl') → wpX_perform post (nI d, xb, nI n, xs, nI ln, nI dp, xe, K, A, B, C, P, L, Q, O, bp, vs, cl)) ∧
    (∀ post : Int32 → SY → Prop, post rY (nI d, yb, nI n, ys, ye, lY, qY, K, A, B, C, bp, vs', fr') → wpY_perform post (nI d, yb, nI n, ys, ye, nI ln, nI dp, K, A, B, C, bp, vs, fr)) := by
  obtain ⟨l1, l2, l3, l4, l5⟩ := hE
  have ex : (nI ln).toNatClampNeg = ln := nI_clamp (by omega)
  have w : vp_in (nI ln) 34 := vp_in_nI (by omega) (by omega)
  have w' : vp_in (nI ln) 33 := vp_in_nI (by omega) (by omega)
  have c1 : ¬ nI ln < 1 := nI_nlt (a := ln) (b := 1) (by omega) (by omega)
  have c2 : ¬ nI n < nI ln := nI_nlt (by omega) (by omega)
  have c3 : nI ln ≤ 32 := nI_le (a := ln) (b := 32) (by omega) (by omega)
  have kx : K (nI ln).toNatClampNeg = K ln := by rw [ex]
  obtain ⟨a, a8, ha⟩ := hOK.2.1 (Or.inr (Or.inr (Or.inr hk)))
  have ka : A (nI ln).toNatClampNeg = nI a := by rw [ex]; exact ha
  have ea : (nI a).toNatClampNeg = a := nI_clamp (by omega)
  have wa : vp_in (nI a) 8 := vp_in_nI (by omega) (by omega)
  by_cases hv : vs a = 0
  · obtain ⟨e, he, e1, e2, e3⟩ := h.2.1 ln l1 l2 (Or.inr (Or.inl hk))
    obtain ⟨q, hq, hq2⟩ := db_land h (n + 1) (e + 1) (by omega) (by omega) (by omega)
    have hqn : q ≤ n := by rcases hq2 with z | ⟨_, z, _⟩ <;> omega
    refine pf_out (vs' := vs) (cl' := cl) (fr' := fr) (dp' := dp) hq hq2 l4 l5 (fun post hp => ?_) (fun post h0 h1 => ?_)
    · refine ⟨w, nm_r ka ⟨w, nm_r (kx.trans hk) (br_f (by decide) (br_f (by decide) (br_f (by decide) (br_f (by decide) (br_f (by decide) (br_t rfl ?_))))))⟩⟩
      unfold wX_perform_127
      rw [ea]
      refine ⟨wa, br_t hv ⟨w, ?_⟩⟩
      unfold wX_perform_153
      rw [ex, e3]
      exact pf_la hn e2 hp
    · refine br_f c1 (br_f c2 (br_t c3 ⟨w', nm_r (kx.trans hk) ⟨w', nm_r ka (br_f (by decide) (br_f (by decide) (br_f (by decide) (br_t rfl ?_))))⟩⟩))
      unfold wY_perform_133
      rw [pf_a7 a8, ea]
      refine ⟨wa, br_t hv (ya_Me hn l2 ?_)⟩
      rw [he]
      exact br_f (nI_ne0 (by omega) (by omega)) (pf_go hn h e2 hq hqn h0 h1)
  · obtain ⟨q, hq, hq2⟩ := db_land h (n + 1) (ln + 1) (by omega) (by omega) (by omega)
    have hqn : q ≤ n := by rcases hq2 with z | ⟨_, z, _⟩ <;> omega
    refine pf_out (vs' := vs) (cl' := cl) (fr' := fr) (dp' := dp) hq hq2 l4 l5 (fun post hp => ?_) (fun post h0 h1 => ?_)
    · refine ⟨w, nm_r ka ⟨w, nm_r (kx.trans hk) (br_f (by decide) (br_f (by decide) (br_f (by decide) (br_f (by decide) (br_f (by decide) (br_t rfl ?_))))))⟩⟩
      unfold wX_perform_127
      rw [ea]
      refine ⟨wa, br_f hv ?_⟩
      unfold wX_perform_153
      exact pf_la hn l2 hp
    · refine br_f c1 (br_f c2 (br_t c3 ⟨w', nm_r (kx.trans hk) ⟨w', nm_r ka (br_f (by decide) (br_f (by decide) (br_f (by decide) (br_t rfl ?_))))⟩⟩))
      unfold wY_perform_133
      rw [pf_a7 a8, ea]
      exact ⟨wa, br_f hv (pf_go hn h l2 hq hqn h0 h1)⟩
theorem pf_6 (hn : n ≤ 32) (hd : d ≤ 8) (h : db_CP K A P L Q n) (hOK : db_OK (K ln) (A ln) (B ln)) (hE : db_EV K cl fr n d ln dp) (hk : K ln = 6) : ∃ (rX rY lY qX qY : Int32) (vs' cl' fr' : Nat → Int32), db_OUT K cl' fr' n d ln rX rY lY qX qY ∧
    (∀ post : Int32 → SX → Prop, post rX (nI d, xb, nI n, xs, nI ln, qX, xe, K, A, B, C, P, L, Q, O, bp, vs', cl') → wpX_perform post (nI d, xb, nI n, xs, nI ln, nI dp, xe, K, A, B, C, P, L, Q, O, bp, vs, cl)) ∧
    (∀ post : Int32 → SY → Prop, post rY (nI d, yb, nI n, ys, ye, lY, qY, K, A, B, C, bp, vs', fr') → wpY_perform post (nI d, yb, nI n, ys, ye, nI ln, nI dp, K, A, B, C, bp, vs, fr)) := by
  obtain ⟨l1, l2, l3, l4, l5⟩ := hE
  have ex : (nI ln).toNatClampNeg = ln := nI_clamp (by omega)
  have w : vp_in (nI ln) 34 := vp_in_nI (by omega) (by omega)
  have w' : vp_in (nI ln) 33 := vp_in_nI (by omega) (by omega)
  have c1 : ¬ nI ln < 1 := nI_nlt (a := ln) (b := 1) (by omega) (by omega)
  have c2 : ¬ nI n < nI ln := nI_nlt (by omega) (by omega)
  have c3 : nI ln ≤ 32 := nI_le (a := ln) (b := 32) (by omega) (by omega)
  have kx : K (nI ln).toNatClampNeg = K ln := by rw [ex]
  obtain ⟨q, hq, hq2⟩ := db_land h (n + 1) (ln + 1) (by omega) (by omega) (by omega)
  have hqn : q ≤ n := by rcases hq2 with z | ⟨_, z, _⟩ <;> omega
  refine pf_out (vs' := vs) (cl' := cl) (fr' := fr) (dp' := dp) hq hq2 l4 l5 (fun post hp => ?_) (fun post h0 h1 => ?_)
  · refine ⟨w, nm_e ⟨w, nm_r (kx.trans hk) (br_f (by decide) (br_f (by decide) (br_f (by decide) (br_f (by decide) (br_f (by decide) (br_f (by decide) (br_f (by decide) (br_t rfl ?_))))))))⟩⟩
    unfold wX_perform_173
    exact pf_la hn l2 hp
  · exact br_f c1 (br_f c2 (br_t c3 ⟨w', nm_r (kx.trans hk) ⟨w', nm_e (br_f (by decide) (br_f (by decide) (br_f (by decide) (br_f (by decide) (br_t rfl (pf_go hn h l2 hq hqn h0 h1))))))⟩⟩))
theorem pf_7 (hn : n ≤ 32) (hd : d ≤ 8) (h : db_CP K A P L Q n) (hOK : db_OK (K ln) (A ln) (B ln)) (hE : db_EV K cl fr n d ln dp) (hk : K ln = 7) : ∃ (rX rY lY qX qY : Int32) (vs' cl' fr' : Nat → Int32), db_OUT K cl' fr' n d ln rX rY lY qX qY ∧
    (∀ post : Int32 → SX → Prop, post rX (nI d, xb, nI n, xs, nI ln, qX, xe, K, A, B, C, P, L, Q, O, bp, vs', cl') → wpX_perform post (nI d, xb, nI n, xs, nI ln, nI dp, xe, K, A, B, C, P, L, Q, O, bp, vs, cl)) ∧
    (∀ post : Int32 → SY → Prop, post rY (nI d, yb, nI n, ys, ye, lY, qY, K, A, B, C, bp, vs', fr') → wpY_perform post (nI d, yb, nI n, ys, ye, nI ln, nI dp, K, A, B, C, bp, vs, fr)) := by
  obtain ⟨l1, l2, l3, l4, l5⟩ := hE
  have ex : (nI ln).toNatClampNeg = ln := nI_clamp (by omega)
  have w : vp_in (nI ln) 34 := vp_in_nI (by omega) (by omega)
  have w' : vp_in (nI ln) 33 := vp_in_nI (by omega) (by omega)
  have c1 : ¬ nI ln < 1 := nI_nlt (a := ln) (b := 1) (by omega) (by omega)
  have c2 : ¬ nI n < nI ln := nI_nlt (by omega) (by omega)
  have c3 : nI ln ≤ 32 := nI_le (a := ln) (b := 32) (by omega) (by omega)
  have kx : K (nI ln).toNatClampNeg = K ln := by rw [ex]
  obtain ⟨a, a4, ha⟩ := hOK.2.2.2 (Or.inr hk)
  have ka : A (nI ln).toNatClampNeg = nI a := by rw [ex]; exact ha
  have ea : (nI a).toNatClampNeg = a := nI_clamp (by omega)
  have wa : vp_in (nI a) 4 := vp_in_nI (by omega) (by omega)
  by_cases hdd : dp < d
  · have hlt : nI dp < nI d := nI_lt hdd (by omega)
    obtain ⟨q, hQ, hPP⟩ := h.2.2.2 a a4
    have hqn : q ≤ n := by
      rcases hPP with ⟨z, _⟩ | ⟨_, z, _⟩ <;> omega
    have e1 : (nI (dp + 1)).toNatClampNeg = dp + 1 := nI_clamp (by omega)
    have HX : ∀ post : Int32 → SX → Prop, post (nI q) (nI d, xb, nI n, xs, nI ln, nI (dp + 1), xe, K, A, B, C, P, L, Q, O, bp, vs, upd cl (dp + 1) (nI ln)) → wpX_perform post (nI d, xb, nI n, xs, nI ln, nI dp, xe, K, A, B, C, P, L, Q, O, bp, vs, cl) := by
      intro post hp
      refine ⟨w, nm_r ka ⟨w, nm_r (kx.trans hk) (br_f (by decide) (br_f (by decide) (br_f (by decide) (br_f (by decide) (br_f (by decide) (br_f (by decide) (br_f (by decide) (br_f (by decide) (br_t rfl (br_t hlt (nm_r (nI_1 dp) ⟨vp_in_nI (by omega) (by omega), nm_r (e' := upd cl (dp + 1) (nI ln)) (by rw [e1]) ⟨wa, ?_⟩⟩)))))))))))⟩⟩
      rw [ea, hQ]
      exact hp
    by_cases q0 : q = 0
    · subst q0
      refine ⟨0, 1, nI ln, nI (dp + 1), nI dp, vs, upd cl (dp + 1) (nI ln), fr, Or.inl ⟨rfl, rfl⟩, HX, fun post hp => ?_⟩
      exact br_f c1 (br_f c2 (br_t c3 ⟨w', nm_r (kx.trans hk) ⟨w', nm_r ka (br_f (by decide) (br_f (by decide) (br_f (by decide) (br_f (by decide) (br_f (by decide) (br_t rfl (br_t hlt (ya_Pl hn hPP (br_t nI_0 hp)))))))))⟩⟩))
    · have ev : db_EV K (upd cl (dp + 1) (nI ln)) (upd fr (dp + 1) (nI ln)) n d q (dp + 1) := by
        rcases hPP with ⟨z, _⟩ | ⟨z1, z2, z3, _⟩
        · exact absurd z q0
        · exact ⟨z1, hqn, fun z => absurd (z3.symm.trans z.1) (by decide), by omega, pf_FR2 l5 l1 l2⟩
      refine ⟨nI q, 0, nI q, nI (dp + 1), nI (dp + 1), vs, upd cl (dp + 1) (nI ln), upd fr (dp + 1) (nI ln), Or.inr (Or.inr ⟨q, dp + 1, rfl, rfl, rfl, rfl, rfl, ev⟩), HX, fun post hp => ?_⟩
      refine br_f c1 (br_f c2 (br_t c3 ⟨w', nm_r (kx.trans hk) ⟨w', nm_r ka (br_f (by decide) (br_f (by decide) (br_f (by decide) (br_f (by decide) (br_f (by decide) (br_t rfl (br_t hlt (ya_Pl hn hPP (br_f (nI_ne0 (by omega) (by omega)) ?_)))))))))⟩⟩))
      rw [nI_1 dp, e1]
      exact br_t (nI_le (a := dp + 1) (b := 8) (by omega) (by omega)) ⟨vp_in_nI (by omega) (by omega), nm_e (nm_e hp)⟩
  · have hlt : ¬ nI dp < nI d := nI_nlt (by omega) (by omega)
    refine ⟨-1, 2, nI ln, nI dp, nI dp, vs, cl, fr, Or.inr (Or.inl ⟨dp, rfl, rfl, rfl, rfl, rfl, l1, l2, l3, l4, l5⟩), fun post hp => ?_, fun post hp => ?_⟩
    · exact ⟨w, nm_r ka ⟨w, nm_r (kx.trans hk) (br_f (by decide) (br_f (by decide) (br_f (by decide) (br_f (by decide) (br_f (by decide) (br_f (by decide) (br_f (by decide) (br_f (by decide) (br_t rfl (br_f hlt hp))))))))))⟩⟩
    · exact br_f c1 (br_f c2 (br_t c3 ⟨w', nm_r (kx.trans hk) ⟨w', nm_r ka (br_f (by decide) (br_f (by decide) (br_f (by decide) (br_f (by decide) (br_f (by decide) (br_t rfl (br_f hlt hp)))))))⟩⟩))
theorem pf_8 (hn : n ≤ 32) (hd : d ≤ 8) (h : db_CP K A P L Q n) (hOK : db_OK (K ln) (A ln) (B ln)) (hE : db_EV K cl fr n d ln dp) (hk : K ln = 8) : ∃ (rX rY lY qX qY : Int32) (vs' cl' fr' : Nat → Int32), db_OUT K cl' fr' n d ln rX rY lY qX qY ∧
    (∀ post : Int32 → SX → Prop, post rX (nI d, xb, nI n, xs, nI ln, qX, xe, K, A, B, C, P, L, Q, O, bp, vs', cl') → wpX_perform post (nI d, xb, nI n, xs, nI ln, nI dp, xe, K, A, B, C, P, L, Q, O, bp, vs, cl)) ∧
    (∀ post : Int32 → SY → Prop, post rY (nI d, yb, nI n, ys, ye, lY, qY, K, A, B, C, bp, vs', fr') → wpY_perform post (nI d, yb, nI n, ys, ye, nI ln, nI dp, K, A, B, C, bp, vs, fr)) := by
  obtain ⟨l1, l2, l3, l4, l5⟩ := hE
  have ex : (nI ln).toNatClampNeg = ln := nI_clamp (by omega)
  have w : vp_in (nI ln) 34 := vp_in_nI (by omega) (by omega)
  have w' : vp_in (nI ln) 33 := vp_in_nI (by omega) (by omega)
  have c1 : ¬ nI ln < 1 := nI_nlt (a := ln) (b := 1) (by omega) (by omega)
  have c2 : ¬ nI n < nI ln := nI_nlt (by omega) (by omega)
  have c3 : nI ln ≤ 32 := nI_le (a := ln) (b := 32) (by omega) (by omega)
  have kx : K (nI ln).toNatClampNeg = K ln := by rw [ex]
  by_cases d0 : dp = 0
  · subst d0
    refine ⟨0, 1, nI ln, nI 0, nI 0, vs, cl, fr, Or.inl ⟨rfl, rfl⟩, fun post hp => ?_, fun post hp => ?_⟩
    · exact ⟨w, nm_e ⟨w, nm_r (kx.trans hk) (br_f (by decide) (br_f (by decide) (br_f (by decide) (br_f (by decide) (br_f (by decide) (br_f (by decide) (br_f (by decide) (br_f (by decide) (br_f (by decide) (br_t rfl (pf_xl0 hp)))))))))))⟩⟩
    · exact br_f c1 (br_f c2 (br_t c3 ⟨w', nm_r (kx.trans hk) ⟨w', nm_e (br_f (by decide) (br_f (by decide) (br_f (by decide) (br_f (by decide) (br_f (by decide) (br_f (by decide) (br_t rfl (pf_yl0 hp))))))))⟩⟩))
  · obtain ⟨j, rfl⟩ : ∃ j, dp = j + 1 := ⟨dp - 1, by omega⟩
    obtain ⟨f1, c, f2, f3, f4⟩ := l5 (j + 1) (by omega) (by omega)
    obtain ⟨q, hq, hq2⟩ := db_land h (n + 1) (c + 1) (by omega) (by omega) (by omega)
    have hqn : q ≤ n := by rcases hq2 with z | ⟨_, z, _⟩ <;> omega
    refine pf_out (vs' := vs) (cl' := cl) (fr' := upd fr (j + 1) 0) (dp' := j) hq hq2 (by omega) (pf_FR1 l5) (fun post hp => ?_) (fun post h0 h1 => ?_)
    · exact ⟨w, nm_e ⟨w, nm_r (kx.trans hk) (br_f (by decide) (br_f (by decide) (br_f (by decide) (br_f (by decide) (br_f (by decide) (br_f (by decide) (br_f (by decide) (br_f (by decide) (br_f (by decide) (br_t rfl (pf_xl1 hn (by omega) f2 f4 hp)))))))))))⟩⟩
    · exact br_f c1 (br_f c2 (br_t c3 ⟨w', nm_r (kx.trans hk) ⟨w', nm_e (br_f (by decide) (br_f (by decide) (br_f (by decide) (br_f (by decide) (br_f (by decide) (br_f (by decide) (br_t rfl (pf_yl1 hn h (by omega) (f1.symm.trans f2) f4 hq hqn h0 h1))))))))⟩⟩))
theorem pf_5 (hn : n ≤ 32) (hd : d ≤ 8) (h : db_CP K A P L Q n) (hOK : db_OK (K ln) (A ln) (B ln)) (hE : db_EV K cl fr n d ln dp) (hk : K ln = 5) : ∃ (rX rY lY qX qY : Int32) (vs' cl' fr' : Nat → Int32), db_OUT K cl' fr' n d ln rX rY lY qX qY ∧
    (∀ post : Int32 → SX → Prop, post rX (nI d, xb, nI n, xs, nI ln, qX, xe, K, A, B, C, P, L, Q, O, bp, vs', cl') → wpX_perform post (nI d, xb, nI n, xs, nI ln, nI dp, xe, K, A, B, C, P, L, Q, O, bp, vs, cl)) ∧
    (∀ post : Int32 → SY → Prop, post rY (nI d, yb, nI n, ys, ye, lY, qY, K, A, B, C, bp, vs', fr') → wpY_perform post (nI d, yb, nI n, ys, ye, nI ln, nI dp, K, A, B, C, bp, vs, fr)) := by
  obtain ⟨l1, l2, l3, l4, l5⟩ := hE
  have ex : (nI ln).toNatClampNeg = ln := nI_clamp (by omega)
  have w : vp_in (nI ln) 34 := vp_in_nI (by omega) (by omega)
  have w' : vp_in (nI ln) 33 := vp_in_nI (by omega) (by omega)
  have c1 : ¬ nI ln < 1 := nI_nlt (a := ln) (b := 1) (by omega) (by omega)
  have c2 : ¬ nI n < nI ln := nI_nlt (by omega) (by omega)
  have c3 : nI ln ≤ 32 := nI_le (a := ln) (b := 32) (by omega) (by omega)
  have kx : K (nI ln).toNatClampNeg = K ln := by rw [ex]
  obtain ⟨o, o1, o2, o3, o4, o5⟩ := h.1 ln l1 (by omega) hk
  have eo : (nI o).toNatClampNeg = o := nI_clamp (by omega)
  by_cases k4 : K o = 4
  · have ev : db_EV K cl fr n d o dp := ⟨o2, by omega, fun z => absurd (k4.symm.trans z.1) (by decide), l4, l5⟩
    refine ⟨nI o, 0, nI o, nI dp, nI dp, vs, cl, fr, Or.inr (Or.inr ⟨o, dp, rfl, rfl, rfl, rfl, rfl, ev⟩), fun post hp => ?_, fun post hp => ?_⟩
    · exact ⟨w, nm_e ⟨w, nm_r (kx.trans hk) (br_f (by decide) (br_f (by decide) (br_f (by decide) (br_f (by decide) (br_f (by decide) (br_f (by decide) (br_t rfl ⟨w, nm_r (by rw [ex]; exact o5) ⟨vp_in_nI (by omega) (by omega), br_t (by rw [eo]; exact k4) hp⟩⟩)))))))⟩⟩
    · refine br_f c1 (br_f c2 (br_t c3 ⟨w', nm_r (kx.trans hk) ⟨w', nm_e (br_f (by decide) (br_f (by decide) (br_f (by decide) (br_f (by decide) (br_f (by decide) (br_f (by decide) (br_f (by decide) (ya_Op l1 (by omega) ?_))))))))⟩⟩))
      rw [o1]
      exact br_f (nI_ne0 (by omega) (by omega)) ⟨vp_in_nI (by omega) (by omega), br_t (by rw [eo]; exact k4) hp⟩
  · have k6 : K o = 6 := by
      rcases o4 with z | z | z
      · exact absurd ⟨hk, by rw [o1]; exact z⟩ l3
      · exact absurd z k4
      · exact z
    by_cases d0 : dp = 0
    · subst d0
      refine ⟨0, 1, nI ln, nI 0, nI 0, vs, cl, fr, Or.inl ⟨rfl, rfl⟩, fun post hp => ?_, fun post hp => ?_⟩
      · exact ⟨w, nm_e ⟨w, nm_r (kx.trans hk) (br_f (by decide) (br_f (by decide) (br_f (by decide) (br_f (by decide) (br_f (by decide) (br_f (by decide) (br_t rfl ⟨w, nm_r (by rw [ex]; exact o5) ⟨vp_in_nI (by omega) (by omega), br_f (by rw [eo]; exact k4) (pf_xl0 hp)⟩⟩)))))))⟩⟩
      · exact br_f c1 (br_f c2 (br_t c3 ⟨w', nm_r (kx.trans hk) ⟨w', nm_e (br_f (by decide) (br_f (by decide) (br_f (by decide) (br_f (by decide) (br_f (by decide) (br_f (by decide) (br_f (by decide) (ya_Op l1 (by omega) (by rw [o1]; exact br_f (nI_ne0 (by omega) (by omega)) ⟨vp_in_nI (by omega) (by omega), br_f (by rw [eo]; exact k4) ⟨vp_in_nI (by omega) (by omega), br_t (by rw [eo]; exact k6) (pf_yl0 hp)⟩⟩)))))))))⟩⟩))
    · obtain ⟨j, rfl⟩ : ∃ j, dp = j + 1 := ⟨dp - 1, by omega⟩
      obtain ⟨f1, c, f2, f3, f4⟩ := l5 (j + 1) (by omega) (by omega)
      obtain ⟨q, hq, hq2⟩ := db_land h (n + 1) (c + 1) (by omega) (by omega) (by omega)
      have hqn : q ≤ n := by rcases hq2 with z | ⟨_, z, _⟩ <;> omega
      refine pf_out (vs' := vs) (cl' := cl) (fr' := upd fr (j + 1) 0) (dp' := j) hq hq2 (by omega) (pf_FR1 l5) (fun post hp => ?_) (fun post h0 h1 => ?_)
      · exact ⟨w, nm_e ⟨w, nm_r (kx.trans hk) (br_f (by decide) (br_f (by decide) (br_f (by decide) (br_f (by decide) (br_f (by decide) (br_f (by decide) (br_t rfl ⟨w, nm_r (by rw [ex]; exact o5) ⟨vp_in_nI (by omega) (by omega), br_f (by rw [eo]; exact k4) (pf_xl1 hn (by omega) f2 f4 hp)⟩⟩)))))))⟩⟩
      · exact br_f c1 (br_f c2 (br_t c3 ⟨w', nm_r (kx.trans hk) ⟨w', nm_e (br_f (by decide) (br_f (by decide) (br_f (by decide) (br_f (by decide) (br_f (by decide) (br_f (by decide) (br_f (by decide) (ya_Op l1 (by omega) (by rw [o1]; exact br_f (nI_ne0 (by omega) (by omega)) ⟨vp_in_nI (by omega) (by omega), br_f (by rw [eo]; exact k4) ⟨vp_in_nI (by omega) (by omega), br_t (by rw [eo]; exact k6) (pf_yl1 hn h (by omega) (f1.symm.trans f2) f4 hq hqn h0 h1)⟩⟩)))))))))⟩⟩))
theorem pf_all (hn : n ≤ 32) (hd : d ≤ 8) (h : db_CP K A P L Q n) (hOK : db_OK (K ln) (A ln) (B ln)) (hE : db_EV K cl fr n d ln dp) : ∃ (rX rY lY qX qY : Int32) (vs' cl' fr' : Nat → Int32), db_OUT K cl' fr' n d ln rX rY lY qX qY ∧
    (∀ post : Int32 → SX → Prop, post rX (nI d, xb, nI n, xs, nI ln, qX, xe, K, A, B, C, P, L, Q, O, bp, vs', cl') → wpX_perform post (nI d, xb, nI n, xs, nI ln, nI dp, xe, K, A, B, C, P, L, Q, O, bp, vs, cl)) ∧
    (∀ post : Int32 → SY → Prop, post rY (nI d, yb, nI n, ys, ye, lY, qY, K, A, B, C, bp, vs', fr') → wpY_perform post (nI d, yb, nI n, ys, ye, nI ln, nI dp, K, A, B, C, bp, vs, fr)) := by
  obtain ⟨i, i1, i8, hi⟩ := hOK.1
  have hc : i = 1 ∨ i = 2 ∨ i = 3 ∨ i = 4 ∨ i = 5 ∨ i = 6 ∨ i = 7 ∨ i = 8 := by omega
  rcases hc with z | z | z | z | z | z | z | z <;> subst z
  · exact pf_1 hn hd h hOK hE hi
  · exact pf_2 hn hd h hOK hE hi
  · exact pf_3 hn hd h hOK hE hi
  · exact pf_4 hn hd h hOK hE hi
  · exact pf_5 hn hd h hOK hE hi
  · exact pf_6 hn hd h hOK hE hi
  · exact pf_7 hn hd h hOK hE hi
  · exact pf_8 hn hd h hOK hE hi
end
section
/-! resuming: the two loops, event by event -/
variable {K A B C P L Q O bp : Nat → Int32} {n d b m l0 d0 : Nat}
def db_RR (K cl fr : Nat → Int32) (n d s ln dp : Nat) : Prop := (s = 3 ∧ ln = 0 ∧ dp = 0) ∨ ((s = 2 ∨ s = 4) ∧ db_EV K cl fr n d ln dp)
def db_st (m dp d0 q l0 : Nat) : Prop := m = 1 ∨ (m = 2 ∧ (dp < d0 ∨ (dp = d0 ∧ ¬ q = l0))) ∨ (m = 3 ∧ dp < d0)
theorem rs_m1 {q : Nat} (h : q ≤ 32) : ¬ nI q = -1 := fun z => by
  have e := congrArg Int32.toInt z
  rw [nI_toInt (by omega), show (-1 : Int32).toInt = -1 from by decide] at e
  omega
theorem rs_se {xd xb xc xs xe : Int32} {vs cl : Nat → Int32} {post : Int32 → Prop} {dp q : Nat} (hm : m ≤ 3) (hl0 : l0 ≤ 32) (hd0 : d0 ≤ 8) (hq : q ≤ 32) (hdp : dp ≤ 8) (hT : db_st m dp d0 q l0 → post 1) (hF : ¬ db_st m dp d0 q l0 → post 0) : wpX_stepEnds post (xd, xb, xc, xs, nI q, nI dp, xe, K, A, B, C, P, L, Q, O, bp, vs, cl) (nI m) (nI l0) (nI d0) := by
  have i1 : nI m < 1 ↔ m < 1 := nI_ltI (b := 1) (by omega) (by omega)
  have i3 : 3 < nI m ↔ 3 < m := nI_ltI (a := 3) (by omega) (by omega)
  have e1 : nI m = 1 ↔ m = 1 := nI_eq (b := 1) (by omega) (by omega)
  have e2 : nI m = 2 ↔ m = 2 := nI_eq (b := 2) (by omega) (by omega)
  have e3 : nI m = 3 ↔ m = 3 := nI_eq (b := 3) (by omega) (by omega)
  have t1 : nI dp < nI d0 ↔ dp < d0 := nI_ltI (by omega) (by omega)
  have t2 : nI dp = nI d0 ↔ dp = d0 := nI_eq (by omega) (by omega)
  have t3 : nI q = nI l0 ↔ q = l0 := nI_eq (by omega) (by omega)
  have t4 : nI d0 ≤ nI dp ↔ d0 ≤ dp := nI_leI (by omega) (by omega)
  unfold wpX_stepEnds
  dsimp only
  rw [i1, i3, e1, e2, e3, t1, t2, t3, t4]
  refine ⟨fun z => hF ?_, fun z1 => ⟨fun z => hF ?_, fun z2 => ⟨fun z => hT ?_, fun z3 => ⟨fun z => ⟨fun y => hT ?_, fun y => ⟨fun y2 => ⟨fun y3 => hF ?_, fun y3 => hT ?_⟩, fun y2 => hF ?_⟩⟩, fun z4 => ⟨fun z => ⟨fun y => hF ?_, fun y => hT ?_⟩, fun _ => trivial⟩⟩⟩⟩⟩
  all_goals (unfold db_st; omega)
theorem rs_ye {dp q : Nat} {T F G : Prop} (hm : m ≤ 3) (hl0 : l0 ≤ 32) (hd0 : d0 ≤ 8) (hq : q ≤ 32) (hdp : dp ≤ 8) (hG : (((nI m = 3 → (((nI d0 ≤ nI dp → F) ∧ (¬ nI d0 ≤ nI dp → T)))) ∧ (¬ nI m = 3 → F))) → G) (hT : db_st m dp d0 q l0 → T) (hF : ¬ db_st m dp d0 q l0 → F) :
    (nI m = 1 → T) ∧ (¬ nI m = 1 → ((nI m = 2 → ((nI dp < nI d0 → T) ∧ (¬ nI dp < nI d0 → ((nI dp = nI d0 → ((nI q = nI l0 → G) ∧ (¬ nI q = nI l0 → T))) ∧ (¬ nI dp = nI d0 → G))))) ∧ (¬ nI m = 2 → G))) := by
  have e1 : nI m = 1 ↔ m = 1 := nI_eq (b := 1) (by omega) (by omega)
  have e2 : nI m = 2 ↔ m = 2 := nI_eq (b := 2) (by omega) (by omega)
  have e3 : nI m = 3 ↔ m = 3 := nI_eq (b := 3) (by omega) (by omega)
  have t1 : nI dp < nI d0 ↔ dp < d0 := nI_ltI (by omega) (by omega)
  have t2 : nI dp = nI d0 ↔ dp = d0 := nI_eq (by omega) (by omega)
  have t3 : nI q = nI l0 ↔ q = l0 := nI_eq (by omega) (by omega)
  have t4 : nI d0 ≤ nI dp ↔ d0 ≤ dp := nI_leI (by omega) (by omega)
  rw [e3, t4] at hG
  rw [e1, e2, t1, t2, t3]
  refine ⟨fun z => hT ?_, fun z1 => ⟨fun z => ⟨fun y => hT ?_, fun y => ⟨fun y2 => ⟨fun y3 => hG ⟨fun x => absurd x ?_, fun x => hF ?_⟩, fun y3 => hT ?_⟩, fun y2 => hG ⟨fun x => absurd x ?_, fun x => hF ?_⟩⟩⟩, fun z2 => hG ⟨fun x => ⟨fun y => hF ?_, fun y => hT ?_⟩, fun x => hF ?_⟩⟩⟩
  all_goals (first | (unfold db_st; omega) | omega)
theorem rs_loop (hn : n ≤ 32) (hd : d ≤ 8) (hb : b ≤ 4096) (hm : m ≤ 3) (hl0 : l0 ≤ 32) (hd0 : d0 ≤ 8) (h : db_CP K A P L Q n) (hOK : ∀ x, 1 ≤ x → x ≤ n → db_OK (K x) (A x) (B x)) : ∀ rem j, j + rem = b → 1 ≤ j → ∀ (xs ys ev dpX rX rY lY qX qY : Int32) (ln : Nat) (vs cl vs' cl' fr' : Nat → Int32),
    (∀ post : Int32 → SX → Prop, post rX (nI d, nI b, nI n, xs, nI ln, qX, ev, K, A, B, C, P, L, Q, O, bp, vs', cl') → wpX_perform post (nI d, nI b, nI n, xs, nI ln, dpX, ev, K, A, B, C, P, L, Q, O, bp, vs, cl)) →
    db_OUT K cl' fr' n d ln rX rY lY qX qY →
    ∃ (r : Int32) (s' ln' dp' : Nat) (ev' : Int32) (vs2 cl2 fr2 : Nat → Int32), db_RR K cl2 fr2 n d s' ln' dp' ∧
      (∀ post : Int32 → SX → Prop, post r (nI d, nI b, nI n, nI s', nI ln', nI dp', ev', K, A, B, C, P, L, Q, O, bp, vs2, cl2) → ∀ f, rem + 1 < f → wX_resume_31 post (nI m) (nI l0) (nI d0) f (nI j) (nI d) (nI b) (nI n) xs (nI ln) dpX ev K A B C P L Q O bp vs cl) ∧
      (∀ post : Int32 → SY → Prop, post r (nI d, nI b, nI n, nI s', ev', nI ln', nI dp', K, A, B, C, bp, vs2, fr2) → ∀ f, rem + 1 < f → wY_resume_68 post (nI m) (nI l0) (nI d0) f rY (nI j) (nI d) (nI b) (nI n) ys ev lY qY K A B C bp vs' fr') := by
  intro rem
  induction rem using Nat.strongRecOn with
  | _ rem ih =>
    intro j hj j1 xs ys ev dpX rX rY lY qX qY ln vs cl vs' cl' fr' hX hO
    have nl : ¬ nI b < nI j := nI_nlt (by omega) (by omega)
    rcases hO with ⟨rfl, rfl⟩ | ⟨dp, rfl, rfl, rfl, rfl, rfl, hev⟩ | ⟨q, dp, rfl, rfl, rfl, rfl, rfl, hev⟩
    · refine ⟨4, 3, 0, 0, ev, vs', cl', fr', Or.inl ⟨rfl, rfl, rfl⟩, fun post hp f hf => ?_, fun post hp f hf => ?_⟩
      · obtain ⟨f, rfl⟩ : ∃ g, f = g + 1 := ⟨f - 1, by omega⟩
        exact br_f nl (hX _ (br_t rfl hp))
      · obtain ⟨f, rfl⟩ : ∃ g, f = g + 1 := ⟨f - 1, by omega⟩
        exact br_f nl (br_t rfl hp)
    · refine ⟨5, 4, ln, dp, ev, vs', cl', fr', Or.inr ⟨Or.inr rfl, hev⟩, fun post hp f hf => ?_, fun post hp f hf => ?_⟩
      · obtain ⟨f, rfl⟩ : ∃ g, f = g + 1 := ⟨f - 1, by omega⟩
        exact br_f nl (hX _ (br_f (by decide) (br_t rfl hp)))
      · obtain ⟨f, rfl⟩ : ∃ g, f = g + 1 := ⟨f - 1, by omega⟩
        exact br_f nl (br_f (by decide) (br_t rfl hp))
    · have q1 := hev.1
      have qn := hev.2.1
      have hdp : dp ≤ d := hev.2.2.2.1
      have qz : ¬ nI q = 0 := nI_ne0 (by omega) (by omega)
      have qm : ¬ nI q = -1 := rs_m1 (by omega)
      have eq : bp (nI q).toNatClampNeg = bp q := by rw [nI_clamp (by omega)]
      have w : vp_in (nI q) 34 := vp_in_nI (by omega) (by omega)
      have w' : vp_in (nI q) 33 := vp_in_nI (by omega) (by omega)
      by_cases st : db_st m dp d0 q l0
      · refine ⟨1, 2, q, dp, ev + 1, vs', cl', fr', Or.inr ⟨Or.inl rfl, hev⟩, fun post hp f hf => ?_, fun post hp f hf => ?_⟩
        · obtain ⟨f, rfl⟩ : ∃ g, f = g + 1 := ⟨f - 1, by omega⟩
          exact br_f nl (hX _ (br_f qz (br_f qm (nm_e (rs_se hm hl0 hd0 (by omega) (by omega) (fun _ => br_f (by decide) hp) (fun z => absurd st z))))))
        · obtain ⟨f, rfl⟩ : ∃ g, f = g + 1 := ⟨f - 1, by omega⟩
          exact br_f nl (br_f (by decide) (br_f (by decide) (nm_e (rs_ye hm hl0 hd0 (by omega) (by omega) (fun z => z) (fun _ => br_f (by decide) hp) (fun z => absurd st z)))))
      · by_cases hbp : bp q = 0
        · by_cases jb : j = b
          · refine ⟨3, 2, q, dp, ev + 1, vs', cl', fr', Or.inr ⟨Or.inl rfl, hev⟩, fun post hp f hf => ?_, fun post hp f hf => ?_⟩
            · obtain ⟨f, rfl⟩ : ∃ g, f = g + 1 + 1 := ⟨f - 2, by omega⟩
              exact br_f nl (hX _ (br_f qz (br_f qm (nm_e (rs_se hm hl0 hd0 (by omega) (by omega) (fun z => absurd z st) (fun _ => br_t rfl ⟨w, br_t (eq.trans hbp) (nm_r (nI_1 j) (br_t (nI_lt (by omega) (by omega)) hp))⟩))))))
            · obtain ⟨f, rfl⟩ : ∃ g, f = g + 1 := ⟨f - 1, by omega⟩
              exact br_f nl (br_f (by decide) (br_f (by decide) (nm_e (rs_ye hm hl0 hd0 (by omega) (by omega) (fun z => z) (fun z => absurd z st) (fun _ => br_t rfl ⟨w', br_t (eq.trans hbp) (br_t (congrArg nI jb) hp)⟩)))))
          · obtain ⟨rX', rY', lY', qX', qY', vs3, cl3, fr3, hO', hX', hY'⟩ := pf_all (xb := nI b) (xs := 2) (xe := ev + 1) (yb := nI b) (ys := 2) (ye := ev + 1) (C := C) (O := O) (bp := bp) (vs := vs') hn hd h (hOK q q1 qn) hev
            obtain ⟨r, s', ln', dp', ev', vs2, cl2, fr2, hR, HX, HY⟩ := ih (rem - 1) (by omega) (j + 1) (by omega) (by omega) 2 2 (ev + 1) (nI dp) rX' rY' lY' qX' qY' q vs' cl' vs3 cl3 fr3 hX' hO'
            refine ⟨r, s', ln', dp', ev', vs2, cl2, fr2, hR, fun post hp f hf => ?_, fun post hp f hf => ?_⟩
            · obtain ⟨f, rfl⟩ : ∃ g, f = g + 1 := ⟨f - 1, by omega⟩
              exact br_f nl (hX _ (br_f qz (br_f qm (nm_e (rs_se hm hl0 hd0 (by omega) (by omega) (fun z => absurd z st) (fun _ => br_t rfl ⟨w, br_t (eq.trans hbp) (nm_r (nI_1 j) (HX post hp f (by omega)))⟩))))))
            · obtain ⟨f, rfl⟩ : ∃ g, f = g + 1 := ⟨f - 1, by omega⟩
              have jne : ¬ nI j = nI b := fun z => jb ((nI_eq (by omega) (by omega)).mp z)
              exact br_f nl (br_f (by decide) (br_f (by decide) (nm_e (rs_ye hm hl0 hd0 (by omega) (by omega) (fun z => z) (fun z => absurd z st) (fun _ => br_t rfl ⟨w', br_t (eq.trans hbp) (br_f jne (hY' _ (nm_r (nI_1 j) (HY post hp f (by omega)))))⟩)))))
        · refine ⟨2, 2, q, dp, ev + 1, vs', cl', fr', Or.inr ⟨Or.inl rfl, hev⟩, fun post hp f hf => ?_, fun post hp f hf => ?_⟩
          · obtain ⟨f, rfl⟩ : ∃ g, f = g + 1 := ⟨f - 1, by omega⟩
            exact br_f nl (hX _ (br_f qz (br_f qm (nm_e (rs_se hm hl0 hd0 (by omega) (by omega) (fun z => absurd z st) (fun _ => br_t rfl ⟨w, br_f (by rw [eq]; exact hbp) hp⟩))))))
          · obtain ⟨f, rfl⟩ : ∃ g, f = g + 1 := ⟨f - 1, by omega⟩
            exact br_f nl (br_f (by decide) (br_f (by decide) (nm_e (rs_ye hm hl0 hd0 (by omega) (by omega) (fun z => z) (fun z => absurd z st) (fun _ => br_t rfl ⟨w', br_f (by rw [eq]; exact hbp) hp⟩)))))
theorem rs_2 {ev : Int32} {ln dp : Nat} {vs cl fr : Nat → Int32} (hn : n ≤ 32) (hd : d ≤ 8) (hb1 : 1 ≤ b) (hb : b ≤ 4096) (hm : m ≤ 3) (h : db_CP K A P L Q n) (hOK : ∀ x, 1 ≤ x → x ≤ n → db_OK (K x) (A x) (B x)) (hev : db_EV K cl fr n d ln dp) : ∃ (r : Int32) (s' ln' dp' : Nat) (ev' : Int32) (vs2 cl2 fr2 : Nat → Int32), db_RR K cl2 fr2 n d s' ln' dp' ∧
      (∀ post : Int32 → SX → Prop, post r (nI d, nI b, nI n, nI s', nI ln', nI dp', ev', K, A, B, C, P, L, Q, O, bp, vs2, cl2) → wpX_resume post (nI d, nI b, nI n, 2, nI ln, nI dp, ev, K, A, B, C, P, L, Q, O, bp, vs, cl) (nI m)) ∧
      (∀ post : Int32 → SY → Prop, post r (nI d, nI b, nI n, nI s', ev', nI ln', nI dp', K, A, B, C, bp, vs2, fr2) → wpY_resume post (nI d, nI b, nI n, 2, ev, nI ln, nI dp, K, A, B, C, bp, vs, fr) (nI m)) := by
  obtain ⟨rX, rY, lY, qX, qY, vs3, cl3, fr3, hO, hX, hY⟩ := pf_all (xb := nI b) (xs := 2) (xe := ev) (yb := nI b) (ys := 2) (ye := ev) (C := C) (O := O) (bp := bp) (vs := vs) hn hd h (hOK ln hev.1 hev.2.1) hev
  have hl2 := hev.2.1
  have hdp : dp ≤ d := hev.2.2.2.1
  obtain ⟨r, s', ln', dp', ev', vs2, cl2, fr2, hR, HX, HY⟩ := rs_loop (l0 := ln) (d0 := dp) hn hd hb hm (by omega) (by omega) h hOK (b - 1) 1 (by omega) (by omega) 2 2 ev (nI dp) rX rY lY qX qY ln vs cl vs3 cl3 fr3 hX hO
  refine ⟨r, s', ln', dp', ev', vs2, cl2, fr2, hR, fun post hp => ?_, fun post hp => ?_⟩
  · refine br_f (by decide) (br_t rfl ?_)
    exact ⟨b + 1, HX post hp (b + 1) (by omega)⟩
  · refine br_f (by decide) (br_t rfl ?_)
    unfold wY_resume_18
    exact br_t rfl (hY _ ⟨b + 1, HY post hp (b + 1) (by omega)⟩)
theorem rs_1 {ev : Int32} {vs cl fr : Nat → Int32} (hn : n ≤ 32) (hd : d ≤ 8) (hb1 : 1 ≤ b) (hb : b ≤ 4096) (hm : m ≤ 3) (h : db_CP K A P L Q n) (hOK : ∀ x, 1 ≤ x → x ≤ n → db_OK (K x) (A x) (B x)) (hK : K 0 = 0) : ∃ (r : Int32) (s' ln' dp' : Nat) (ev' : Int32) (vs2 cl2 fr2 : Nat → Int32), db_RR K cl2 fr2 n d s' ln' dp' ∧
      (∀ post : Int32 → SX → Prop, post r (nI d, nI b, nI n, nI s', nI ln', nI dp', ev', K, A, B, C, P, L, Q, O, bp, vs2, cl2) → wpX_resume post (nI d, nI b, nI n, 1, nI 0, nI 0, ev, K, A, B, C, P, L, Q, O, bp, vs, cl) (nI m)) ∧
      (∀ post : Int32 → SY → Prop, post r (nI d, nI b, nI n, nI s', ev', nI ln', nI dp', K, A, B, C, bp, vs2, fr2) → wpY_resume post (nI d, nI b, nI n, 1, ev, nI 0, nI 0, K, A, B, C, bp, vs, fr) (nI m)) := by
  obtain ⟨q, hq, hq2⟩ := db_land h (n + 1) 1 (by omega) (by omega) (by omega)
  have hqn : q ≤ n := by rcases hq2 with z | ⟨_, z, _⟩ <;> omega
  have e0 : (nI 0).toNatClampNeg = 0 := nI_clamp (by omega)
  have w : vp_in (nI 0) 34 := vp_in_nI (by omega) (by omega)
  have hX : ∀ post : Int32 → SX → Prop, post (nI q) (nI d, nI b, nI n, 1, nI 0, nI 0, ev, K, A, B, C, P, L, Q, O, bp, vs, cl) → wpX_perform post (nI d, nI b, nI n, 1, nI 0, nI 0, ev, K, A, B, C, P, L, Q, O, bp, vs, cl) := by
    intro post hp
    refine ⟨w, nm_e ⟨w, nm_r (e' := (0 : Int32)) (by rw [e0]; exact hK) (br_t (by decide) ?_)⟩⟩
    unfold wX_perform_173
    refine pf_la hn (by omega) ?_
    rw [hq]
    exact hp
  have key : ∀ (rY lY : Int32), db_OUT K cl fr n d 0 (nI q) rY lY (nI 0) (nI 0) → (∀ post : Int32 → SY → Prop, post rY (nI d, nI b, nI n, 1, ev, lY, nI 0, K, A, B, C, bp, vs, fr) → wpY_succ (fun r => wpY_moveTo post (nI d, nI b, nI n, 1, ev, nI 0, nI 0, K, A, B, C, bp, vs, fr) r) (nI d, nI b, nI n, 1, ev, nI 0, nI 0, K, A, B, C, bp, vs, fr) (nI 0)) → ∃ (r : Int32) (s' ln' dp' : Nat) (ev' : Int32) (vs2 cl2 fr2 : Nat → Int32), db_RR K cl2 fr2 n d s' ln' dp' ∧
      (∀ post : Int32 → SX → Prop, post r (nI d, nI b, nI n, nI s', nI ln', nI dp', ev', K, A, B, C, P, L, Q, O, bp, vs2, cl2) → wpX_resume post (nI d, nI b, nI n, 1, nI 0, nI 0, ev, K, A, B, C, P, L, Q, O, bp, vs, cl) (nI m)) ∧
      (∀ post : Int32 → SY → Prop, post r (nI d, nI b, nI n, nI s', ev', nI ln', nI dp', K, A, B, C, bp, vs2, fr2) → wpY_resume post (nI d, nI b, nI n, 1, ev, nI 0, nI 0, K, A, B, C, bp, vs, fr) (nI m)) := by
    intro rY lY hO hY
    obtain ⟨r, s', ln', dp', ev', vs2, cl2, fr2, hR, HX, HY⟩ := rs_loop (l0 := 0) (d0 := 0) hn hd hb hm (by omega) (by omega) h hOK (b - 1) 1 (by omega) (by omega) 1 1 ev (nI 0) (nI q) rY lY (nI 0) (nI 0) 0 vs cl vs cl fr hX hO
    refine ⟨r, s', ln', dp', ev', vs2, cl2, fr2, hR, fun post hp => ?_, fun post hp => ?_⟩
    · refine br_t rfl ?_
      exact ⟨b + 1, HX post hp (b + 1) (by omega)⟩
    · refine br_t rfl ?_
      unfold wY_resume_18
      exact br_f (by decide) (hY _ ⟨b + 1, HY post hp (b + 1) (by omega)⟩)
  rcases hq2 with z | ⟨z1, z2, z3⟩
  · refine key 1 (nI 0) (Or.inl ⟨by rw [z]; exact nI_0, rfl⟩) (fun post hp => pf_go hn h (by omega) hq hqn (fun _ => hp) (fun y => absurd y (by omega)))
  · refine key 0 (nI q) (Or.inr (Or.inr ⟨q, 0, rfl, rfl, rfl, rfl, rfl, z1, z2, z3, by omega, fun i i1 i2 => absurd i2 (by omega)⟩)) (fun post hp => pf_go hn h (by omega) hq hqn (fun y => absurd y (by omega)) (fun _ => hp))
end
section
/-! the relation, and what the owed rows need of the small calls -/
variable {xd xb xs xl xq xe : Int32} {yd yb ys ye yl yq : Int32} {K A B C P L Q O bp vs cl fr : Nat → Int32} {n d b s ln dp : Nat} {ev : Int32}
def db_R (d b n s ln dp : Nat) (ev : Int32) (K A B P L Q bp vs cl fr : Nat → Int32) : Prop := 1 ≤ d ∧ d ≤ 8 ∧ 1 ≤ b ∧ b ≤ 4096 ∧ n ≤ 32 ∧ K 0 = 0 ∧ (∀ x, 1 ≤ x → x ≤ n → db_OK (K x) (A x) (B x)) ∧ ((s = 0 ∧ ln = 0 ∧ dp = 0 ∧ ev = 0 ∧ bp = (fun _ => 0) ∧ vs = (fun _ => 0)) ∨ (db_CP K A P L Q n ∧ (((s = 1 ∨ s = 3) ∧ ln = 0 ∧ dp = 0) ∨ ((s = 2 ∨ s = 4) ∧ db_EV K cl fr n d ln dp))))
def i_Rel (_ : Nat) (u : SX) (v : SY) : Prop := ∃ (d b n s ln dp : Nat) (ev : Int32) (K A B C P L Q O bp vs cl fr : Nat → Int32), u = (nI d, nI b, nI n, nI s, nI ln, nI dp, ev, K, A, B, C, P, L, Q, O, bp, vs, cl) ∧ v = (nI d, nI b, nI n, nI s, ev, nI ln, nI dp, K, A, B, C, bp, vs, fr) ∧ db_R d b n s ln dp ev K A B P L Q bp vs cl fr
theorem re_mk {k : Nat} (h : db_R d b n s ln dp ev K A B P L Q bp vs cl fr) : i_Rel k (nI d, nI b, nI n, nI s, nI ln, nI dp, ev, K, A, B, C, P, L, Q, O, bp, vs, cl) (nI d, nI b, nI n, nI s, ev, nI ln, nI dp, K, A, B, C, bp, vs, fr) :=
  ⟨d, b, n, s, ln, dp, ev, K, A, B, C, P, L, Q, O, bp, vs, cl, fr, rfl, rfl, h⟩
theorem re_s4 (h : db_R d b n s ln dp ev K A B P L Q bp vs cl fr) : s ≤ 4 := by
  rcases h.2.2.2.2.2.2.2 with ⟨z, _⟩ | ⟨_, ⟨z, _⟩ | ⟨z, _⟩⟩
  · omega
  · rcases z with z | z <;> omega
  · rcases z with z | z <;> omega
/-- a number against 1 .. n -/
theorem re_ln (v : Int32) (hn : n ≤ 32) : v < 1 ∨ (¬ v < 1 ∧ nI n < v) ∨ ∃ x, 1 ≤ x ∧ x ≤ n ∧ v = nI x := by
  by_cases h : v < 1
  · exact Or.inl h
  · have h0 : ¬ v < 0 := fun z => h (Int32.lt_trans z (by decide))
    obtain ⟨j, hj, rfl⟩ := nI_of h0
    have h1 : ¬ j < 1 := fun z => h (nI_lt (a := j) (b := 1) z (by omega))
    by_cases hjn : j ≤ n
    · exact Or.inr (Or.inr ⟨j, by omega, hjn, rfl⟩)
    · exact Or.inr (Or.inl ⟨h, nI_lt (by omega) hj⟩)
/-! clamping -/
def re_C (k Mi : Int32) (M p : Nat) : Prop := (¬ 1 ≤ k ∧ p = 1) ∨ (1 ≤ k ∧ ¬ k ≤ Mi ∧ p = M) ∨ (1 ≤ k ∧ k ≤ Mi ∧ k = nI p)
theorem re_Cx (k Mi : Int32) (M : Nat) (hM : Mi = nI M) (h1 : 1 ≤ M) (hb : M < 2 ^ 31) : ∃ p, re_C k Mi M p ∧ 1 ≤ p ∧ p ≤ M := by
  by_cases h0 : 1 ≤ k
  · by_cases h2 : k ≤ Mi
    · have hn : ¬ k < 0 := fun z => absurd (Int32.lt_of_le_of_lt h0 z) (by decide)
      obtain ⟨j, hj, rfl⟩ := nI_of hn
      have a : j ≤ M := by rw [hM, nI_leI hj hb] at h2; exact h2
      have c : 1 ≤ j := (nI_leI (a := 1) (b := j) (by omega) hj).mp h0
      exact ⟨j, Or.inr (Or.inr ⟨h0, h2, rfl⟩), c, a⟩
    · exact ⟨M, Or.inr (Or.inl ⟨h0, h2, rfl⟩), h1, Nat.le_refl _⟩
  · exact ⟨1, Or.inl ⟨h0, rfl⟩, Nat.le_refl _, h1⟩
theorem re_Cl {post : Int32 → Prop} {k Mi : Int32} {M p : Nat} (hM : Mi = nI M) (h : re_C k Mi M p) (hp : post (nI p)) : wpX_clampFromOne post k Mi := by
  rcases h with ⟨a, e⟩ | ⟨a, c, e⟩ | ⟨a, c, e⟩
  · subst e
    exact br_f a hp
  · subst e
    refine br_t a (br_f c ?_)
    rw [hM]
    exact hp
  · refine br_t a (br_t c ?_)
    rw [e]
    exact hp
theorem re_Y82 {post : SY → Prop} {k z0 yc yst : Int32} {p : Nat} (h : re_C k 4096 4096 p) (hp : post (z0, nI p, yc, 0, ye, yl, yq, K, A, B, C, bp, vs, fr)) : wY_init_82 post k z0 yd yb yc yst ye yl yq K A B C bp vs fr := by
  unfold wY_init_82
  rcases h with ⟨a, e⟩ | ⟨a, c, e⟩ | ⟨a, c, e⟩
  · subst e
    exact br_f a hp
  · subst e
    exact br_t a (br_f c hp)
  · refine br_t a (br_t c ?_)
    rw [e]
    exact hp
theorem re_Y0 {post : SY → Prop} {k0 k1 : Int32} {p q : Nat} (h : re_C k0 8 8 p) (h1 : re_C k1 4096 4096 q) (hp : post (nI p, nI q, 0, 0, 0, 0, 0, fun _ => 0, fun _ => 0, fun _ => 0, fun _ => 0, fun _ => 0, fun _ => 0, fun _ => 0)) : wpY_init post k0 k1 := by
  unfold wpY_init
  rcases h with ⟨a, e⟩ | ⟨a, c, e⟩ | ⟨a, c, e⟩
  · subst e
    exact br_f a (re_Y82 h1 hp)
  · subst e
    exact br_t a (br_f c (re_Y82 h1 hp))
  · refine br_t a (br_t c (re_Y82 h1 ?_))
    rw [e]
    exact hp
/-! addLine: the operands -/
def re_V (N : Nat) (a : Int32) : Prop := ∃ j, j < N ∧ a = nI j
theorem re_v1 {post : Int32 → Prop} {a : Int32} (h : re_V 8 a) (p : post 1) : wpX_isVariable post a := by
  obtain ⟨j, hj, rfl⟩ := h
  exact br_f (nI_pos (by omega)) (br_f (nI_ge (a := j) (b := 8) (by omega) (by omega)) p)
theorem re_v0 {post : Int32 → Prop} {a : Int32} (h : ¬ re_V 8 a) (p : post 0) : wpX_isVariable post a := by
  by_cases y : a < 0
  · exact br_t y p
  · rcases pk_ix a (n := 8) (by omega) with z | z | z
    · exact absurd z y
    · exact br_f y (br_t z p)
    · exact absurd z h
theorem re_p1 {post : Int32 → Prop} {a : Int32} (h : re_V 4 a) (p : post 1) : wpX_isProcedure post a := by
  obtain ⟨j, hj, rfl⟩ := h
  exact br_f (nI_pos (by omega)) (br_f (nI_ge (a := j) (b := 4) (by omega) (by omega)) p)
theorem re_p0 {post : Int32 → Prop} {a : Int32} (h : ¬ re_V 4 a) (p : post 0) : wpX_isProcedure post a := by
  by_cases y : a < 0
  · exact br_t y p
  · rcases pk_ix a (n := 4) (by omega) with z | z | z
    · exact absurd z y
    · exact br_f y (br_t z p)
    · exact absurd z h
theorem re_y1 {a : Int32} {S Z : Prop} (h : re_V 8 a) (x : S) : (a < 0 → Z) ∧ (¬ a < 0 → ((a ≤ 7 → S) ∧ (¬ a ≤ 7 → Z))) := by
  obtain ⟨j, hj, rfl⟩ := h
  exact br_f (nI_pos (by omega)) (br_t (nI_le (a := j) (b := 7) (by omega) (by omega)) x)
theorem re_y0 {a : Int32} {S Z : Prop} (h : ¬ re_V 8 a) (x : Z) : (a < 0 → Z) ∧ (¬ a < 0 → ((a ≤ 7 → S) ∧ (¬ a ≤ 7 → Z))) := by
  refine ⟨fun _ => x, fun y => ⟨fun z => ?_, fun _ => x⟩⟩
  obtain ⟨j, hj, e⟩ := nI_of2 (M := 7) (n := 7) (by decide) y z
  exact absurd ⟨j, by omega, e⟩ h
theorem re_w1 {a : Int32} {S Z : Prop} (h : re_V 4 a) (x : S) : (a < 0 → Z) ∧ (¬ a < 0 → ((a ≤ 3 → S) ∧ (¬ a ≤ 3 → Z))) := by
  obtain ⟨j, hj, rfl⟩ := h
  exact br_f (nI_pos (by omega)) (br_t (nI_le (a := j) (b := 3) (by omega) (by omega)) x)
theorem re_w0 {a : Int32} {S Z : Prop} (h : ¬ re_V 4 a) (x : Z) : (a < 0 → Z) ∧ (¬ a < 0 → ((a ≤ 3 → S) ∧ (¬ a ≤ 3 → Z))) := by
  refine ⟨fun _ => x, fun y => ⟨fun z => ?_, fun _ => x⟩⟩
  obtain ⟨j, hj, e⟩ := nI_of2 (M := 3) (n := 3) (by decide) y z
  exact absurd ⟨j, by omega, e⟩ h
def re_F (k a x : Int32) : Prop := db_OK k a x ∧ (∀ post : Int32 → Prop, post 1 → wpX_operandsFit post k a x)
def re_N (k a x : Int32) : Prop := ∀ post : Int32 → Prop, post 0 → wpX_operandsFit post k a x
theorem re_k1 (hn : n < 32) (a x c : Int32) : (re_F 1 a x ∧ (∀ post : Int32 → SY → Prop, wY_addLine_115 post 1 a x c yd yb (nI n) 0 ye yl yq K A B C bp vs fr → wpY_addLine post (yd, yb, nI n, 0, ye, yl, yq, K, A, B, C, bp, vs, fr) 1 a x c)) ∨ (re_N 1 a x ∧ (∀ post : Int32 → SY → Prop, post 0 (yd, yb, nI n, 0, ye, yl, yq, K, A, B, C, bp, vs, fr) → wpY_addLine post (yd, yb, nI n, 0, ye, yl, yq, K, A, B, C, bp, vs, fr) 1 a x c)) := by
  have n32 : ¬ nI n = 32 := fun z => absurd ((nI_eq (a := n) (b := 32) (by omega) (by omega)).mp z) (by omega)
  by_cases hv : re_V 8 a
  · refine Or.inl ⟨⟨⟨⟨1, by decide, by decide, rfl⟩, fun _ => hv, fun z => absurd z (by decide), fun z => absurd z (by decide)⟩, fun post p => br_f (by decide) (br_f (by decide) (br_t rfl (re_v1 hv ⟨rfl, p⟩)))⟩, fun post p => ?_⟩
    exact br_t rfl (br_f n32 (br_f (by decide) (br_t (by decide) (br_t rfl (br_f (by decide) (re_y1 hv (br_f (by decide) (br_f (by decide) (br_f (by decide) (p))))))))))
  · refine Or.inr ⟨fun post p => br_f (by decide) (br_f (by decide) (br_t rfl (re_v0 hv ⟨rfl, p⟩))), fun post p => ?_⟩
    exact br_t rfl (br_f n32 (br_f (by decide) (br_t (by decide) (br_t rfl (br_f (by decide) (re_y0 hv p))))))
theorem re_k2 (hn : n < 32) (a x c : Int32) : (re_F 2 a x ∧ (∀ post : Int32 → SY → Prop, wY_addLine_115 post 2 a x c yd yb (nI n) 0 ye yl yq K A B C bp vs fr → wpY_addLine post (yd, yb, nI n, 0, ye, yl, yq, K, A, B, C, bp, vs, fr) 2 a x c)) ∨ (re_N 2 a x ∧ (∀ post : Int32 → SY → Prop, post 0 (yd, yb, nI n, 0, ye, yl, yq, K, A, B, C, bp, vs, fr) → wpY_addLine post (yd, yb, nI n, 0, ye, yl, yq, K, A, B, C, bp, vs, fr) 2 a x c)) := by
  have n32 : ¬ nI n = 32 := fun z => absurd ((nI_eq (a := n) (b := 32) (by omega) (by omega)).mp z) (by omega)
  by_cases hv : re_V 8 a
  · by_cases hx : re_V 8 x
    · refine Or.inl ⟨⟨⟨⟨2, by decide, by decide, rfl⟩, fun _ => hv, fun _ => hx, fun z => absurd z (by decide)⟩, fun post p => br_f (by decide) (br_f (by decide) (br_f (by decide) (br_t rfl (re_v1 hv (br_f (by decide) (re_v1 hx (br_f (by decide) p)))))))⟩, fun post p => ?_⟩
      exact br_t rfl (br_f n32 (br_f (by decide) (br_t (by decide) (br_f (by decide) (br_t rfl (br_f (by decide) (re_y1 hv (br_t rfl (re_y1 hx (br_f (by decide) (br_f (by decide) (p))))))))))))
    · refine Or.inr ⟨fun post p => br_f (by decide) (br_f (by decide) (br_f (by decide) (br_t rfl (re_v1 hv (br_f (by decide) (re_v0 hx (br_t rfl p))))))), fun post p => ?_⟩
      exact br_t rfl (br_f n32 (br_f (by decide) (br_t (by decide) (br_f (by decide) (br_t rfl (br_f (by decide) (re_y1 hv (br_t rfl (re_y0 hx p)))))))))
  · refine Or.inr ⟨fun post p => br_f (by decide) (br_f (by decide) (br_f (by decide) (br_t rfl (re_v0 hv (br_t rfl p))))), fun post p => ?_⟩
    exact br_t rfl (br_f n32 (br_f (by decide) (br_t (by decide) (br_f (by decide) (br_t rfl (br_f (by decide) (re_y0 hv p)))))))
theorem re_k3 (hn : n < 32) (a x c : Int32) : (re_F 3 a x ∧ (∀ post : Int32 → SY → Prop, wY_addLine_115 post 3 a x c yd yb (nI n) 0 ye yl yq K A B C bp vs fr → wpY_addLine post (yd, yb, nI n, 0, ye, yl, yq, K, A, B, C, bp, vs, fr) 3 a x c)) ∨ (re_N 3 a x ∧ (∀ post : Int32 → SY → Prop, post 0 (yd, yb, nI n, 0, ye, yl, yq, K, A, B, C, bp, vs, fr) → wpY_addLine post (yd, yb, nI n, 0, ye, yl, yq, K, A, B, C, bp, vs, fr) 3 a x c)) := by
  have n32 : ¬ nI n = 32 := fun z => absurd ((nI_eq (a := n) (b := 32) (by omega) (by omega)).mp z) (by omega)
  by_cases hv : re_V 8 a
  · refine Or.inl ⟨⟨⟨⟨3, by decide, by decide, rfl⟩, fun _ => hv, fun z => absurd z (by decide), fun z => absurd z (by decide)⟩, fun post p => br_f (by decide) (br_f (by decide) (br_f (by decide) (br_f (by decide) (br_t rfl (re_v1 hv ⟨rfl, p⟩)))))⟩, fun post p => ?_⟩
    exact br_t rfl (br_f n32 (br_f (by decide) (br_t (by decide) (br_f (by decide) (br_f (by decide) (br_t rfl (br_f (by decide) (re_y1 hv (br_f (by decide) (br_f (by decide) (br_f (by decide) (p))))))))))))
  · refine Or.inr ⟨fun post p => br_f (by decide) (br_f (by decide) (br_f (by decide) (br_f (by decide) (br_t rfl (re_v0 hv ⟨rfl, p⟩))))), fun post p => ?_⟩
    exact br_t rfl (br_f n32 (br_f (by decide) (br_t (by decide) (br_f (by decide) (br_f (by decide) (br_t rfl (br_f (by decide) (re_y0 hv p))))))))
theorem re_k4 (hn : n < 32) (a x c : Int32) : (re_F 4 a x ∧ (∀ post : Int32 → SY → Prop, wY_addLine_115 post 4 a x c yd yb (nI n) 0 ye yl yq K A B C bp vs fr → wpY_addLine post (yd, yb, nI n, 0, ye, yl, yq, K, A, B, C, bp, vs, fr) 4 a x c)) ∨ (re_N 4 a x ∧ (∀ post : Int32 → SY → Prop, post 0 (yd, yb, nI n, 0, ye, yl, yq, K, A, B, C, bp, vs, fr) → wpY_addLine post (yd, yb, nI n, 0, ye, yl, yq, K, A, B, C, bp, vs, fr) 4 a x c)) := by
  have n32 : ¬ nI n = 32 := fun z => absurd ((nI_eq (a := n) (b := 32) (by omega) (by omega)).mp z) (by omega)
  by_cases hv : re_V 8 a
  · refine Or.inl ⟨⟨⟨⟨4, by decide, by decide, rfl⟩, fun _ => hv, fun z => absurd z (by decide), fun z => absurd z (by decide)⟩, fun post p => br_f (by decide) (br_f (by decide) (br_f (by decide) (br_f (by decide) (br_f (by decide) (br_t rfl (re_v1 hv ⟨rfl, p⟩))))))⟩, fun post p => ?_⟩
    exact br_t rfl (br_f n32 (br_f (by decide) (br_t (by decide) (br_f (by decide) (br_f (by decide) (br_f (by decide) (br_t rfl (br_f (by decide) (re_y1 hv (br_f (by decide) (br_f (by decide) (br_f (by decide) (p)))))))))))))
  · refine Or.inr ⟨fun post p => br_f (by decide) (br_f (by decide) (br_f (by decide) (br_f (by decide) (br_f (by decide) (br_t rfl (re_v0 hv ⟨rfl, p⟩)))))), fun post p => ?_⟩
    exact br_t rfl (br_f n32 (br_f (by decide) (br_t (by decide) (br_f (by decide) (br_f (by decide) (br_f (by decide) (br_t rfl (br_f (by decide) (re_y0 hv p)))))))))
theorem re_k5 (hn : n < 32) (a x c : Int32) : (re_F 5 a x ∧ (∀ post : Int32 → SY → Prop, wY_addLine_115 post 5 a x c yd yb (nI n) 0 ye yl yq K A B C bp vs fr → wpY_addLine post (yd, yb, nI n, 0, ye, yl, yq, K, A, B, C, bp, vs, fr) 5 a x c)) ∨ (re_N 5 a x ∧ (∀ post : Int32 → SY → Prop, post 0 (yd, yb, nI n, 0, ye, yl, yq, K, A, B, C, bp, vs, fr) → wpY_addLine post (yd, yb, nI n, 0, ye, yl, yq, K, A, B, C, bp, vs, fr) 5 a x c)) := by
  have n32 : ¬ nI n = 32 := fun z => absurd ((nI_eq (a := n) (b := 32) (by omega) (by omega)).mp z) (by omega)
  refine Or.inl ⟨⟨⟨⟨5, by decide, by decide, rfl⟩, fun z => absurd z (by decide), fun z => absurd z (by decide), fun z => absurd z (by decide)⟩, fun post p => br_f (by decide) (br_f (by decide) (br_f (by decide) (br_f (by decide) (br_f (by decide) (br_f (by decide) (br_t rfl (p)))))))⟩, fun post p => ?_⟩
  exact br_t rfl (br_f n32 (br_f (by decide) (br_t (by decide) (br_f (by decide) (br_f (by decide) (br_f (by decide) (br_f (by decide) (br_t rfl (br_f (by decide) (br_f (by decide) (br_f (by decide) (p))))))))))))
theorem re_k6 (hn : n < 32) (a x c : Int32) : (re_F 6 a x ∧ (∀ post : Int32 → SY → Prop, wY_addLine_115 post 6 a x c yd yb (nI n) 0 ye yl yq K A B C bp vs fr → wpY_addLine post (yd, yb, nI n, 0, ye, yl, yq, K, A, B, C, bp, vs, fr) 6 a x c)) ∨ (re_N 6 a x ∧ (∀ post : Int32 → SY → Prop, post 0 (yd, yb, nI n, 0, ye, yl, yq, K, A, B, C, bp, vs, fr) → wpY_addLine post (yd, yb, nI n, 0, ye, yl, yq, K, A, B, C, bp, vs, fr) 6 a x c)) := by
  have n32 : ¬ nI n = 32 := fun z => absurd ((nI_eq (a := n) (b := 32) (by omega) (by omega)).mp z) (by omega)
  by_cases hw : re_V 4 a
  · refine Or.inl ⟨⟨⟨⟨6, by decide, by decide, rfl⟩, fun z => absurd z (by decide), fun z => absurd z (by decide), fun _ => hw⟩, fun post p => br_f (by decide) (br_f (by decide) (br_f (by decide) (br_f (by decide) (br_f (by decide) (br_f (by decide) (br_f (by decide) (br_t rfl (re_p1 hw ⟨rfl, p⟩))))))))⟩, fun post p => ?_⟩
    exact br_t rfl (br_f n32 (br_f (by decide) (br_t (by decide) (br_f (by decide) (br_f (by decide) (br_f (by decide) (br_f (by decide) (br_t rfl (br_f (by decide) (br_t rfl (re_w1 hw p)))))))))))
  · refine Or.inr ⟨fun post p => br_f (by decide) (br_f (by decide) (br_f (by decide) (br_f (by decide) (br_f (by decide) (br_f (by decide) (br_f (by decide) (br_t rfl (re_p0 hw ⟨rfl, p⟩)))))))), fun post p => ?_⟩
    exact br_t rfl (br_f n32 (br_f (by decide) (br_t (by decide) (br_f (by decide) (br_f (by decide) (br_f (by decide) (br_f (by decide) (br_t rfl (br_f (by decide) (br_t rfl (re_w0 hw p)))))))))))
theorem re_k7 (hn : n < 32) (a x c : Int32) : (re_F 7 a x ∧ (∀ post : Int32 → SY → Prop, wY_addLine_115 post 7 a x c yd yb (nI n) 0 ye yl yq K A B C bp vs fr → wpY_addLine post (yd, yb, nI n, 0, ye, yl, yq, K, A, B, C, bp, vs, fr) 7 a x c)) ∨ (re_N 7 a x ∧ (∀ post : Int32 → SY → Prop, post 0 (yd, yb, nI n, 0, ye, yl, yq, K, A, B, C, bp, vs, fr) → wpY_addLine post (yd, yb, nI n, 0, ye, yl, yq, K, A, B, C, bp, vs, fr) 7 a x c)) := by
  have n32 : ¬ nI n = 32 := fun z => absurd ((nI_eq (a := n) (b := 32) (by omega) (by omega)).mp z) (by omega)
  by_cases hw : re_V 4 a
  · refine Or.inl ⟨⟨⟨⟨7, by decide, by decide, rfl⟩, fun z => absurd z (by decide), fun z => absurd z (by decide), fun _ => hw⟩, fun post p => br_f (by decide) (br_f (by decide) (br_f (by decide) (br_f (by decide) (br_f (by decide) (br_f (by decide) (br_f (by decide) (br_f (by decide) (br_t rfl (re_p1 hw ⟨rfl, p⟩)))))))))⟩, fun post p => ?_⟩
    exact br_t rfl (br_f n32 (br_f (by decide) (br_t (by decide) (br_f (by decide) (br_f (by decide) (br_f (by decide) (br_f (by decide) (br_t rfl (br_f (by decide) (br_f (by decide) (br_t rfl (re_w1 hw p))))))))))))
  · refine Or.inr ⟨fun post p => br_f (by decide) (br_f (by decide) (br_f (by decide) (br_f (by decide) (br_f (by decide) (br_f (by decide) (br_f (by decide) (br_f (by decide) (br_t rfl (re_p0 hw ⟨rfl, p⟩))))))))), fun post p => ?_⟩
    exact br_t rfl (br_f n32 (br_f (by decide) (br_t (by decide) (br_f (by decide) (br_f (by decide) (br_f (by decide) (br_f (by decide) (br_t rfl (br_f (by decide) (br_f (by decide) (br_t rfl (re_w0 hw p))))))))))))
theorem re_k8 (hn : n < 32) (a x c : Int32) : (re_F 8 a x ∧ (∀ post : Int32 → SY → Prop, wY_addLine_115 post 8 a x c yd yb (nI n) 0 ye yl yq K A B C bp vs fr → wpY_addLine post (yd, yb, nI n, 0, ye, yl, yq, K, A, B, C, bp, vs, fr) 8 a x c)) ∨ (re_N 8 a x ∧ (∀ post : Int32 → SY → Prop, post 0 (yd, yb, nI n, 0, ye, yl, yq, K, A, B, C, bp, vs, fr) → wpY_addLine post (yd, yb, nI n, 0, ye, yl, yq, K, A, B, C, bp, vs, fr) 8 a x c)) := by
  have n32 : ¬ nI n = 32 := fun z => absurd ((nI_eq (a := n) (b := 32) (by omega) (by omega)).mp z) (by omega)
  refine Or.inl ⟨⟨⟨⟨8, by decide, by decide, rfl⟩, fun z => absurd z (by decide), fun z => absurd z (by decide), fun z => absurd z (by decide)⟩, fun post p => br_f (by decide) (br_t (by decide) p)⟩, fun post p => ?_⟩
  exact br_t rfl (br_f n32 (br_f (by decide) (br_t (by decide) (br_f (by decide) (br_f (by decide) (br_f (by decide) (br_f (by decide) (br_t rfl (br_f (by decide) (br_f (by decide) (br_f (by decide) (p))))))))))))
theorem re_kk (hn : n < 32) {k : Int32} (h1 : ¬ k < 1) (h8 : k ≤ 8) (a x c : Int32) : (re_F k a x ∧ (∀ post : Int32 → SY → Prop, wY_addLine_115 post k a x c yd yb (nI n) 0 ye yl yq K A B C bp vs fr → wpY_addLine post (yd, yb, nI n, 0, ye, yl, yq, K, A, B, C, bp, vs, fr) k a x c)) ∨ (re_N k a x ∧ (∀ post : Int32 → SY → Prop, post 0 (yd, yb, nI n, 0, ye, yl, yq, K, A, B, C, bp, vs, fr) → wpY_addLine post (yd, yb, nI n, 0, ye, yl, yq, K, A, B, C, bp, vs, fr) k a x c)) := by
  rcases re_ln k (n := 8) (by omega) with z | ⟨_, z⟩ | ⟨i, i1, i8, rfl⟩
  · exact absurd z h1
  · exact absurd h8 (Int32.not_le.mpr z)
  · have hc : i = 1 ∨ i = 2 ∨ i = 3 ∨ i = 4 ∨ i = 5 ∨ i = 6 ∨ i = 7 ∨ i = 8 := by omega
    rcases hc with z | z | z | z | z | z | z | z <;> subst z
    · exact re_k1 hn a x c
    · exact re_k2 hn a x c
    · exact re_k3 hn a x c
    · exact re_k4 hn a x c
    · exact re_k5 hn a x c
    · exact re_k6 hn a x c
    · exact re_k7 hn a x c
    · exact re_k8 hn a x c
theorem re_xa (hn : n < 32) {k a x c : Int32} (h1 : ¬ k < 1) (h8 : k ≤ 8) (hF : ∀ post : Int32 → Prop, post 1 → wpX_operandsFit post k a x) {post : Int32 → SX → Prop} (hp : post (nI (n + 1)) (xd, xb, nI (n + 1), 0, xl, xq, xe, upd K (n + 1) k, upd A (n + 1) a, upd B (n + 1) x, upd C (n + 1) c, P, L, Q, O, bp, vs, cl)) : wpX_addLine post (xd, xb, nI n, 0, xl, xq, xe, K, A, B, C, P, L, Q, O, bp, vs, cl) k a x c := by
  have e : (nI (n + 1)).toNatClampNeg = n + 1 := nI_clamp (by omega)
  have wv : vp_in (nI (n + 1)) 34 := vp_in_nI (by omega) (by omega)
  exact br_t rfl (br_t (nI_lt (a := n) (b := 32) hn (by omega)) (br_f h1 (br_f (Int32.not_lt.mpr h8) (hF _ (br_f (by decide) (nm_r (nI_1 n) ⟨wv, nm_r (by rw [e]) ⟨wv, nm_r (by rw [e]) ⟨wv, nm_r (by rw [e]) ⟨wv, nm_r (by rw [e]) hp⟩⟩⟩⟩))))))
theorem re_xn (hn : n < 32) {k a x c : Int32} (h1 : ¬ k < 1) (h8 : k ≤ 8) (hN : ∀ post : Int32 → Prop, post 0 → wpX_operandsFit post k a x) {post : Int32 → SX → Prop} (hp : post 0 (xd, xb, nI n, 0, xl, xq, xe, K, A, B, C, P, L, Q, O, bp, vs, cl)) : wpX_addLine post (xd, xb, nI n, 0, xl, xq, xe, K, A, B, C, P, L, Q, O, bp, vs, cl) k a x c :=
  br_t rfl (br_t (nI_lt (a := n) (b := 32) hn (by omega)) (br_f h1 (br_f (Int32.not_lt.mpr h8) (hN _ (br_t rfl hp)))))
theorem re_ya (hn : n < 32) {k a x c : Int32} {post : Int32 → SY → Prop} (hp : post (nI (n + 1)) (yd, yb, nI (n + 1), 0, ye, yl, yq, upd K (n + 1) k, upd A (n + 1) a, upd B (n + 1) x, upd C (n + 1) c, bp, vs, fr)) : wY_addLine_115 post k a x c yd yb (nI n) 0 ye yl yq K A B C bp vs fr := by
  have e : (nI (n + 1)).toNatClampNeg = n + 1 := nI_clamp (by omega)
  have wv : vp_in (nI (n + 1)) 33 := vp_in_nI (by omega) (by omega)
  exact nm_r (nI_1 n) ⟨wv, nm_r (by rw [e]) ⟨wv, nm_r (by rw [e]) ⟨wv, nm_r (by rw [e]) ⟨wv, nm_r (by rw [e]) hp⟩⟩⟩⟩
theorem re_ok {k a x : Int32} (h : ∀ y, 1 ≤ y → y ≤ n → db_OK (K y) (A y) (B y)) (hk : db_OK k a x) : ∀ y, 1 ≤ y → y ≤ n + 1 → db_OK (upd K (n + 1) k y) (upd A (n + 1) a y) (upd B (n + 1) x y) := by
  intro y y1 y2
  by_cases e : y = n + 1
  · subst e
    rw [pk_us, pk_us, pk_us]
    exact hk
  · rw [pk_un e, pk_un e, pk_un e]
    exact h y y1 (by omega)
/-! lines and breakpoints -/
theorem re_il1 {post : Int32 → Prop} {x : Nat} (hn : n ≤ 32) (h1 : 1 ≤ x) (hx : x ≤ n) (p : post 1) : wpX_isLine post (xd, xb, nI n, xs, xl, xq, xe, K, A, B, C, P, L, Q, O, bp, vs, cl) (nI x) :=
  br_f (nI_nlt (a := x) (b := 1) (by omega) (by omega)) (br_f (nI_nlt (by omega) (by omega)) p)
theorem re_il0 {post : Int32 → Prop} {v : Int32} (h : v < 1 ∨ (¬ v < 1 ∧ nI n < v)) (p : post 0) : wpX_isLine post (xd, xb, nI n, xs, xl, xq, xe, K, A, B, C, P, L, Q, O, bp, vs, cl) v := by
  rcases h with z | ⟨z1, z2⟩
  · exact br_t z p
  · exact br_f z1 (br_t z2 p)
theorem re_sb (hn : n ≤ 32) (h5 : db_P5 K P (n + 1)) : ∀ g x, n + 1 - x ≤ g → 1 ≤ x → x ≤ n + 1 → ∃ (r : Int32) (bp' : Nat → Int32),
    (∀ post : Int32 → SX → Prop, post r (xd, xb, nI n, xs, xl, xq, xe, K, A, B, C, P, L, Q, O, bp', vs, cl) → ∀ f, g < f → wX_setBreakpoint_19 post xd xb (nI n) xs xl xq xe K A B C P L Q O bp vs cl f (nI x)) ∧
    (∀ post : Int32 → SY → Prop, post r (yd, yb, nI n, ys, ye, yl, yq, K, A, B, C, bp', vs, fr) → ∀ f, g < f → wY_setBreakpoint_24 post yd yb (nI n) ys ye yl yq K A B C bp vs fr f (nI x)) := by
  intro g
  induction g with
  | zero =>
    intro x hg h1 hx
    have hlt : nI n < nI x := nI_lt (by omega) (by omega)
    refine ⟨0, bp, fun post hp f hf => ?_, fun post hp f hf => ?_⟩
    · obtain ⟨f, rfl⟩ : ∃ g, f = g + 1 := ⟨f - 1, by omega⟩
      exact br_t hlt hp
    · obtain ⟨f, rfl⟩ : ∃ g, f = g + 1 := ⟨f - 1, by omega⟩
      exact br_t hlt hp
  | succ g ih =>
    intro x hg h1 hx
    by_cases e : n < x
    · have hlt : nI n < nI x := nI_lt (by omega) (by omega)
      refine ⟨0, bp, fun post hp f hf => ?_, fun post hp f hf => ?_⟩
      · obtain ⟨f, rfl⟩ : ∃ g, f = g + 1 := ⟨f - 1, by omega⟩
        exact br_t hlt hp
      · obtain ⟨f, rfl⟩ : ∃ g, f = g + 1 := ⟨f - 1, by omega⟩
        exact br_t hlt hp
    · have ex : (nI x).toNatClampNeg = x := nI_clamp (by omega)
      have nl : ¬ nI n < nI x := nI_nlt (by omega) (by omega)
      have n32 : ¬ (32 : Int32) < nI x := nI_nlt (a := 32) (b := x) (by omega) (by omega)
      by_cases hE : db_E K x
      · obtain ⟨r, bp', hX, hY⟩ := ih (x + 1) (by omega) (by omega) (by omega)
        refine ⟨r, bp', fun post hp f hf => ?_, fun post hp f hf => ?_⟩
        · obtain ⟨f, rfl⟩ : ∃ g, f = g + 1 := ⟨f - 1, by omega⟩
          exact br_f nl (xa_E1 hn h5 h1 (by omega) hE (br_f (by decide) (nm_r (nI_1 x) (hX post hp f (by omega)))))
        · obtain ⟨f, rfl⟩ : ∃ g, f = g + 1 := ⟨f - 1, by omega⟩
          exact br_f nl (br_f n32 (ya_E1 hn h5 h1 (by omega) hE (br_f (by decide) (nm_r (nI_1 x) (hY post hp f (by omega))))))
      · refine ⟨nI x, upd bp x (vp_nar .boolean 1), fun post hp f hf => ?_, fun post hp f hf => ?_⟩
        · obtain ⟨f, rfl⟩ : ∃ g, f = g + 1 := ⟨f - 1, by omega⟩
          exact br_f nl (xa_E0 hn h5 h1 (by omega) hE (br_t rfl ⟨vp_in_nI (by omega) (by omega), nm_r (by rw [ex]) hp⟩))
        · obtain ⟨f, rfl⟩ : ∃ g, f = g + 1 := ⟨f - 1, by omega⟩
          exact br_f nl (br_f n32 (ya_E0 hn h5 h1 (by omega) hE (br_t rfl ⟨vp_in_nI (by omega) (by omega), nm_r (by rw [ex]) hp⟩)))
/-! resuming, from any related states -/
theorem re_re {m : Nat} (hm : m ≤ 3) (hI : db_R d b n s ln dp ev K A B P L Q bp vs cl fr) : ∃ (r : Int32) (s' ln' dp' : Nat) (ev' : Int32) (vs2 cl2 fr2 : Nat → Int32), db_R d b n s' ln' dp' ev' K A B P L Q bp vs2 cl2 fr2 ∧
    (∀ post : Int32 → SX → Prop, post r (nI d, nI b, nI n, nI s', nI ln', nI dp', ev', K, A, B, C, P, L, Q, O, bp, vs2, cl2) → wpX_resume post (nI d, nI b, nI n, nI s, nI ln, nI dp, ev, K, A, B, C, P, L, Q, O, bp, vs, cl) (nI m)) ∧
    (∀ post : Int32 → SY → Prop, post r (nI d, nI b, nI n, nI s', ev', nI ln', nI dp', K, A, B, C, bp, vs2, fr2) → wpY_resume post (nI d, nI b, nI n, nI s, ev, nI ln, nI dp, K, A, B, C, bp, vs, fr) (nI m)) := by
  have hs4 := re_s4 hI
  have hI' := hI
  obtain ⟨d1, d8, b1, b4, hn, hK0, hOK, hS⟩ := hI
  by_cases h12 : s = 1 ∨ s = 2
  · have hCP : db_CP K A P L Q n := by
      rcases hS with ⟨z, _⟩ | ⟨z, _⟩
      · omega
      · exact z
    have fin : ∀ (s' ln' dp' : Nat) (ev' : Int32) (vs2 cl2 fr2 : Nat → Int32), db_RR K cl2 fr2 n d s' ln' dp' → db_R d b n s' ln' dp' ev' K A B P L Q bp vs2 cl2 fr2 := by
      intro s' ln' dp' ev' vs2 cl2 fr2 hR
      refine ⟨d1, d8, b1, b4, hn, hK0, hOK, Or.inr ⟨hCP, ?_⟩⟩
      rcases hR with ⟨z1, z2, z3⟩ | z
      · exact Or.inl ⟨Or.inr z1, z2, z3⟩
      · exact Or.inr z
    rcases h12 with rfl | rfl
    · rcases hS with ⟨z, _⟩ | ⟨_, ⟨_, rfl, rfl⟩ | ⟨z, _⟩⟩
      · exact absurd z (by decide)
      · obtain ⟨r, s', ln', dp', ev', vs2, cl2, fr2, hR, hX, hY⟩ := rs_1 (C := C) (O := O) (bp := bp) (ev := ev) (vs := vs) (cl := cl) (fr := fr) hn d8 b1 b4 hm hCP hOK hK0
        exact ⟨r, s', ln', dp', ev', vs2, cl2, fr2, fin _ _ _ _ _ _ _ hR, hX, hY⟩
      · exact absurd z (by decide)
    · rcases hS with ⟨z, _⟩ | ⟨_, ⟨z, _⟩ | ⟨_, z⟩⟩
      · exact absurd z (by decide)
      · exact absurd z (by decide)
      · obtain ⟨r, s', ln', dp', ev', vs2, cl2, fr2, hR, hX, hY⟩ := rs_2 (C := C) (O := O) (bp := bp) (ev := ev) (vs := vs) hn d8 b1 b4 hm hCP hOK z
        exact ⟨r, s', ln', dp', ev', vs2, cl2, fr2, fin _ _ _ _ _ _ _ hR, hX, hY⟩
  · have n1 : ¬ nI s = 1 := fun z => h12 (Or.inl ((nI_eq (a := s) (b := 1) (by omega) (by omega)).mp z))
    have n2 : ¬ nI s = 2 := fun z => h12 (Or.inr ((nI_eq (a := s) (b := 2) (by omega) (by omega)).mp z))
    exact ⟨0, s, ln, dp, ev, vs, cl, fr, hI', fun post hp => br_f n1 (br_f n2 hp), fun post hp => br_f n1 (br_f n2 hp)⟩
end
section
/-! the owed rows -/
theorem i_up {k : Nat} {u : SX} {v : SY} (h : i_Rel k u v) : i_Rel (k + 5) u v := h
theorem i_vc0 (k0 : Int32) (k1 : Int32) : wpX_init (fun u => wpY_init (fun v => i_Rel 2 u v) k0 k1) k0 k1 := by
  obtain ⟨p, hp, p1, p8⟩ := re_Cx k0 8 8 rfl (by omega) (by omega)
  obtain ⟨q, hq, q1, q4⟩ := re_Cx k1 4096 4096 rfl (by omega) (by omega)
  refine re_Cl rfl hp (re_Cl rfl hq (re_Y0 hp hq ?_))
  exact ⟨p, q, 0, 0, 0, 0, 0, fun _ => 0, fun _ => 0, fun _ => 0, fun _ => 0, fun _ => 0, fun _ => 0, fun _ => 0, fun _ => 0, fun _ => 0, fun _ => 0, fun _ => 0, fun _ => 0, rfl, rfl, p1, p8, q1, q4, by omega, rfl, fun x h1 h2 => absurd h2 (by omega), Or.inl ⟨rfl, rfl, rfl, rfl, rfl, rfl⟩⟩
theorem i_vc_addLine {k : Nat} {u : SX} {v : SY} (I : i_Rel k u v) (hk : k + 5 ≤ 2562) (v1 : Int32) (v2 : Int32) (v3 : Int32) (v4 : Int32) : wpX_addLine (fun r u' => wpY_addLine (fun r' v' => r' = r ∧ i_Rel (k + 5) u' v') v v1 v2 v3 v4) u v1 v2 v3 v4 := by
  obtain ⟨d, b, n, s, ln, dp, ev, K, A, B, C, P, L, Q, O, bp, vs, cl, fr, rfl, rfl, hI⟩ := I
  have hs4 := re_s4 hI
  have J := hI
  obtain ⟨d1, d8, b1, b4, hn, hK0, hOK, hS⟩ := hI
  by_cases s0 : s = 0
  · subst s0
    obtain ⟨_, rfl, rfl, rfl, rfl, rfl⟩ : 0 = 0 ∧ ln = 0 ∧ dp = 0 ∧ ev = 0 ∧ bp = (fun _ => 0) ∧ vs = (fun _ => 0) := by
      rcases hS with z | ⟨_, ⟨z, _⟩ | ⟨z, _⟩⟩
      · exact z
      · exact absurd z (by decide)
      · exact absurd z (by decide)
    by_cases hc : n < 32
    · by_cases h1 : v1 < 1
      · have c32 : ¬ nI n = 32 := fun z => absurd ((nI_eq (a := n) (b := 32) (by omega) (by omega)).mp z) (by omega)
        exact br_t rfl (br_t (nI_lt (a := n) (b := 32) hc (by omega)) (br_t h1 (br_t rfl (br_f c32 (br_t h1 ⟨rfl, re_mk J⟩)))))
      · by_cases h8 : v1 ≤ 8
        · rcases re_kk (yd := nI d) (yb := nI b) (ye := 0) (yl := nI 0) (yq := nI 0) (K := K) (A := A) (B := B) (C := C) (bp := fun _ => 0) (vs := fun _ => 0) (fr := fr) hc h1 h8 v2 v3 v4 with ⟨⟨hk, hF⟩, hY⟩ | ⟨hN, hY⟩
          · refine re_xa hc h1 h8 hF (hY _ (re_ya hc ⟨rfl, re_mk (s := 0) (ln := 0) (dp := 0) ⟨d1, d8, b1, b4, hc, ?_, re_ok hOK hk, Or.inl ⟨rfl, rfl, rfl, rfl, rfl, rfl⟩⟩⟩))
            rw [pk_un (by omega)]
            exact hK0
          · exact re_xn hc h1 h8 hN (hY _ ⟨rfl, re_mk J⟩)
        · have c32 : ¬ nI n = 32 := fun z => absurd ((nI_eq (a := n) (b := 32) (by omega) (by omega)).mp z) (by omega)
          exact br_t rfl (br_t (nI_lt (a := n) (b := 32) hc (by omega)) (br_f h1 (br_t (Int32.not_le.mp h8) (br_t rfl (br_f c32 (br_f h1 (br_f h8 ⟨rfl, re_mk J⟩)))))))
    · have c32 : nI n = 32 := congrArg nI (show n = 32 by omega)
      exact br_t rfl (br_f (nI_nlt (a := n) (b := 32) (by omega) (by omega)) (br_t rfl (br_t c32 ⟨rfl, re_mk J⟩)))
  · have hs : ¬ nI s = 0 := nI_ne0 (by omega) (by omega)
    exact br_f hs (br_f hs ⟨rfl, re_mk J⟩)
theorem i_vc_compile {k : Nat} {u : SX} {v : SY} (I : i_Rel k u v) (hk : k + 5 ≤ 2562) : wpX_compile (fun r u' => wpY_compile (fun r' v' => r' = r ∧ i_Rel (k + 5) u' v') v) u := by
  obtain ⟨d, b, n, s, ln, dp, ev, K, A, B, C, P, L, Q, O, bp, vs, cl, fr, rfl, rfl, hI⟩ := I
  have hs4 := re_s4 hI
  have J := hI
  obtain ⟨d1, d8, b1, b4, hn, hK0, hOK, hS⟩ := hI
  by_cases s0 : s = 0
  · subst s0
    obtain ⟨_, rfl, rfl, rfl, rfl, rfl⟩ : 0 = 0 ∧ ln = 0 ∧ dp = 0 ∧ ev = 0 ∧ bp = (fun _ => 0) ∧ vs = (fun _ => 0) := by
      rcases hS with z | ⟨_, ⟨z, _⟩ | ⟨z, _⟩⟩
      · exact z
      · exact absurd z (by decide)
      · exact absurd z (by decide)
    obtain ⟨r, O', P', Q', hr⟩ := cm_all (xd := nI d) (xb := nI b) (xl := nI 0) (xq := nI 0) (xe := 0) (yd := nI d) (yb := nI b) (ye := 0) (yl := nI 0) (yq := nI 0) (K := K) (A := A) (B := B) (C := C) (P := P) (L := L) (Q := Q) (O := O) (vs := fun _ => 0) (cl := cl) (fr := fr) hn hOK
    rcases hr with ⟨hr, hX, hY⟩ | ⟨hr, hX, hY⟩
    · exact hX _ (hY _ ⟨rfl, re_mk (s := 0) (ln := 0) (dp := 0) ⟨d1, d8, b1, b4, hn, hK0, hOK, Or.inl ⟨rfl, rfl, rfl, rfl, rfl, rfl⟩⟩⟩)
    · exact hX _ (fun L' hL => hY _ ⟨rfl, re_mk (s := 1) (ln := 0) (dp := 0) ⟨d1, d8, b1, b4, hn, hK0, hOK, Or.inr ⟨hL, Or.inl ⟨Or.inl rfl, rfl, rfl⟩⟩⟩⟩)
  · have hs : ¬ nI s = 0 := nI_ne0 (by omega) (by omega)
    exact br_f hs (br_f hs ⟨rfl, re_mk J⟩)
theorem i_vc_setBreakpoint {k : Nat} {u : SX} {v : SY} (I : i_Rel k u v) (hk : k + 5 ≤ 2562) (v1 : Int32) : wpX_setBreakpoint (fun r u' => wpY_setBreakpoint (fun r' v' => r' = r ∧ i_Rel (k + 5) u' v') v v1) u v1 := by
  obtain ⟨d, b, n, s, ln, dp, ev, K, A, B, C, P, L, Q, O, bp, vs, cl, fr, rfl, rfl, hI⟩ := I
  have hs4 := re_s4 hI
  have J := hI
  obtain ⟨d1, d8, b1, b4, hn, hK0, hOK, hS⟩ := hI
  by_cases s0 : s = 0
  · have hs : nI s = 0 := congrArg nI s0
    exact br_t hs (br_t hs ⟨rfl, re_mk J⟩)
  · have hs : ¬ nI s = 0 := nI_ne0 (by omega) (by omega)
    have hCP : db_CP K A P L Q n := by
      rcases hS with ⟨z, _⟩ | ⟨z, _⟩
      · exact absurd z s0
      · exact z
    have hR := hS.resolve_left (fun z => s0 z.1)
    rcases re_ln v1 hn with z | ⟨z1, z2⟩ | ⟨x, x1, x2, rfl⟩
    · exact br_f hs (re_il0 (Or.inl z) (br_t rfl (br_f hs (br_t z ⟨rfl, re_mk J⟩))))
    · exact br_f hs (re_il0 (Or.inr ⟨z1, z2⟩) (br_t rfl (br_f hs (br_f z1 (br_f (Int32.not_le.mpr z2) ⟨rfl, re_mk J⟩)))))
    · obtain ⟨r, bp', hX, hY⟩ := re_sb (xd := nI d) (xb := nI b) (xs := nI s) (xl := nI ln) (xq := nI dp) (xe := ev) (yd := nI d) (yb := nI b) (ys := nI s) (ye := ev) (yl := nI ln) (yq := nI dp) (A := A) (B := B) (C := C) (L := L) (Q := Q) (O := O) (bp := bp) (vs := vs) (cl := cl) (fr := fr) hn hCP.1 (n + 1) x (by omega) x1 (by omega)
      exact br_f hs (re_il1 hn x1 x2 (br_f (by decide) ⟨n + 2, hX _ (br_f hs (br_f (nI_nlt (a := x) (b := 1) (by omega) (by omega)) (br_t (nI_le x2 (by omega)) ⟨n + 2, hY _ ⟨rfl, re_mk ⟨d1, d8, b1, b4, hn, hK0, hOK, Or.inr hR⟩⟩ (n + 2) (by omega)⟩))) (n + 2) (by omega)⟩))
theorem i_vc_clearBreakpoint {k : Nat} {u : SX} {v : SY} (I : i_Rel k u v) (hk : k + 5 ≤ 2562) (v1 : Int32) : wpX_clearBreakpoint (fun r u' => wpY_clearBreakpoint (fun r' v' => r' = r ∧ i_Rel (k + 5) u' v') v v1) u v1 := by
  obtain ⟨d, b, n, s, ln, dp, ev, K, A, B, C, P, L, Q, O, bp, vs, cl, fr, rfl, rfl, hI⟩ := I
  have hs4 := re_s4 hI
  have J := hI
  obtain ⟨d1, d8, b1, b4, hn, hK0, hOK, hS⟩ := hI
  by_cases s0 : s = 0
  · have hs : nI s = 0 := congrArg nI s0
    exact br_t hs (br_t hs ⟨rfl, re_mk J⟩)
  · have hs : ¬ nI s = 0 := nI_ne0 (by omega) (by omega)
    have hCP : db_CP K A P L Q n := by
      rcases hS with ⟨z, _⟩ | ⟨z, _⟩
      · exact absurd z s0
      · exact z
    have hR := hS.resolve_left (fun z => s0 z.1)
    rcases re_ln v1 hn with z | ⟨z1, z2⟩ | ⟨x, x1, x2, rfl⟩
    · exact br_f hs (re_il0 (Or.inl z) (br_t rfl (br_f hs (br_t z ⟨rfl, re_mk J⟩))))
    · exact br_f hs (re_il0 (Or.inr ⟨z1, z2⟩) (br_t rfl (br_f hs (br_f z1 (br_t z2 ⟨rfl, re_mk J⟩)))))
    · have l1 : ¬ nI x < 1 := nI_nlt (a := x) (b := 1) (by omega) (by omega)
      have l2 : ¬ nI n < nI x := nI_nlt (by omega) (by omega)
      have w : vp_in (nI x) 34 := vp_in_nI (by omega) (by omega)
      have w' : vp_in (nI x) 33 := vp_in_nI (by omega) (by omega)
      by_cases hb : bp (nI x).toNatClampNeg = 0
      · exact br_f hs (re_il1 hn x1 x2 (br_f (by decide) ⟨w, br_t hb (br_f hs (br_f l1 (br_f l2 ⟨w', br_t hb ⟨rfl, re_mk J⟩⟩)))⟩))
      · exact br_f hs (re_il1 hn x1 x2 (br_f (by decide) ⟨w, br_f hb ⟨w, nm_e (br_f hs (br_f l1 (br_f l2 ⟨w', br_f hb ⟨w', nm_e ⟨rfl, re_mk ⟨d1, d8, b1, b4, hn, hK0, hOK, Or.inr hR⟩⟩⟩⟩)))⟩⟩))
theorem i_vc_restart {k : Nat} {u : SX} {v : SY} (I : i_Rel k u v) (hk : k + 5 ≤ 2562) : wpX_restart (fun r u' => wpY_restart (fun r' v' => r' = r ∧ i_Rel (k + 5) u' v') v) u := by
  obtain ⟨d, b, n, s, ln, dp, ev, K, A, B, C, P, L, Q, O, bp, vs, cl, fr, rfl, rfl, hI⟩ := I
  have hs4 := re_s4 hI
  have J := hI
  obtain ⟨d1, d8, b1, b4, hn, hK0, hOK, hS⟩ := hI
  by_cases s0 : s = 0
  · have hs : nI s = 0 := congrArg nI s0
    exact br_t hs (br_t hs ⟨rfl, re_mk J⟩)
  · have hs : ¬ nI s = 0 := nI_ne0 (by omega) (by omega)
    have hCP : db_CP K A P L Q n := by
      rcases hS with ⟨z, _⟩ | ⟨z, _⟩
      · exact absurd z s0
      · exact z
    have hR := hS.resolve_left (fun z => s0 z.1)
    exact br_f hs (xa_mr (br_f hs (ya_rs ⟨rfl, re_mk (s := 1) (ln := 0) (dp := 0) ⟨d1, d8, b1, b4, hn, hK0, hOK, Or.inr ⟨hCP, Or.inl ⟨Or.inl rfl, rfl, rfl⟩⟩⟩⟩)))
theorem i_vc_cont {k : Nat} {u : SX} {v : SY} (I : i_Rel k u v) (hk : k + 5 ≤ 2562) : wpX_cont (fun r u' => wpY_cont (fun r' v' => r' = r ∧ i_Rel (k + 5) u' v') v) u := by
  obtain ⟨d, b, n, s, ln, dp, ev, K, A, B, C, P, L, Q, O, bp, vs, cl, fr, rfl, rfl, hI⟩ := I
  obtain ⟨r, s', ln', dp', ev', vs2, cl2, fr2, hR, hX, hY⟩ := re_re (m := 0) (C := C) (O := O) (by omega) hI
  unfold wpX_cont
  refine hX _ ?_
  dsimp only
  unfold wpY_cont
  exact hY _ ⟨rfl, re_mk hR⟩
theorem i_vc_stepInto {k : Nat} {u : SX} {v : SY} (I : i_Rel k u v) (hk : k + 5 ≤ 2562) : wpX_stepInto (fun r u' => wpY_stepInto (fun r' v' => r' = r ∧ i_Rel (k + 5) u' v') v) u := by
  obtain ⟨d, b, n, s, ln, dp, ev, K, A, B, C, P, L, Q, O, bp, vs, cl, fr, rfl, rfl, hI⟩ := I
  obtain ⟨r, s', ln', dp', ev', vs2, cl2, fr2, hR, hX, hY⟩ := re_re (m := 1) (C := C) (O := O) (by omega) hI
  unfold wpX_stepInto
  refine hX _ ?_
  dsimp only
  unfold wpY_stepInto
  exact hY _ ⟨rfl, re_mk hR⟩
theorem i_vc_stepOver {k : Nat} {u : SX} {v : SY} (I : i_Rel k u v) (hk : k + 5 ≤ 2562) : wpX_stepOver (fun r u' => wpY_stepOver (fun r' v' => r' = r ∧ i_Rel (k + 5) u' v') v) u := by
  obtain ⟨d, b, n, s, ln, dp, ev, K, A, B, C, P, L, Q, O, bp, vs, cl, fr, rfl, rfl, hI⟩ := I
  obtain ⟨r, s', ln', dp', ev', vs2, cl2, fr2, hR, hX, hY⟩ := re_re (m := 2) (C := C) (O := O) (by omega) hI
  unfold wpX_stepOver
  refine hX _ ?_
  dsimp only
  unfold wpY_stepOver
  exact hY _ ⟨rfl, re_mk hR⟩
theorem i_vc_stepOut {k : Nat} {u : SX} {v : SY} (I : i_Rel k u v) (hk : k + 5 ≤ 2562) : wpX_stepOut (fun r u' => wpY_stepOut (fun r' v' => r' = r ∧ i_Rel (k + 5) u' v') v) u := by
  obtain ⟨d, b, n, s, ln, dp, ev, K, A, B, C, P, L, Q, O, bp, vs, cl, fr, rfl, rfl, hI⟩ := I
  obtain ⟨r, s', ln', dp', ev', vs2, cl2, fr2, hR, hX, hY⟩ := re_re (m := 3) (C := C) (O := O) (by omega) hI
  unfold wpX_stepOut
  refine hX _ ?_
  dsimp only
  unfold wpY_stepOut
  exact hY _ ⟨rfl, re_mk hR⟩
theorem i_vc_state {k : Nat} {u : SX} {v : SY} (I : i_Rel k u v) (hk : k + 5 ≤ 2562) : wpX_state (fun r => wpY_state (fun r' => r' = r ∧ i_Rel (k + 5) u v) v) u := by
  obtain ⟨d, b, n, s, ln, dp, ev, K, A, B, C, P, L, Q, O, bp, vs, cl, fr, rfl, rfl, hI⟩ := I
  exact ⟨rfl, re_mk hI⟩
theorem i_vc_currentLine {k : Nat} {u : SX} {v : SY} (I : i_Rel k u v) (hk : k + 5 ≤ 2562) : wpX_currentLine (fun r => wpY_currentLine (fun r' => r' = r ∧ i_Rel (k + 5) u v) v) u := by
  obtain ⟨d, b, n, s, ln, dp, ev, K, A, B, C, P, L, Q, O, bp, vs, cl, fr, rfl, rfl, hI⟩ := I
  have hs4 := re_s4 hI
  have J := hI
  obtain ⟨d1, d8, b1, b4, hn, hK0, hOK, hS⟩ := hI
  by_cases s24 : s = 2 ∨ s = 4
  · rcases s24 with s2 | s4
    · have h2 : nI s = 2 := congrArg nI s2
      exact br_t h2 ⟨rfl, re_mk J⟩
    · have h2 : ¬ nI s = 2 := fun z => absurd ((nI_eq (a := s) (b := 2) (by omega) (by omega)).mp z) (by omega)
      have h4 : nI s = 4 := congrArg nI s4
      exact br_f h2 (br_t h4 ⟨rfl, re_mk J⟩)
  · have h2 : ¬ nI s = 2 := fun z => s24 (Or.inl ((nI_eq (a := s) (b := 2) (by omega) (by omega)).mp z))
    have h4 : ¬ nI s = 4 := fun z => s24 (Or.inr ((nI_eq (a := s) (b := 4) (by omega) (by omega)).mp z))
    have hz : ln = 0 ∧ dp = 0 := by
      rcases hS with ⟨_, z1, z2, _⟩ | ⟨_, ⟨_, z1, z2⟩ | ⟨z, _⟩⟩
      · exact ⟨z1, z2⟩
      · exact ⟨z1, z2⟩
      · exact absurd z s24
    refine br_f h2 (br_f h4 ⟨?_, re_mk J⟩)
    rw [hz.1]
    exact nI_0.symm
theorem i_vc_depth {k : Nat} {u : SX} {v : SY} (I : i_Rel k u v) (hk : k + 5 ≤ 2562) : wpX_depth (fun r => wpY_depth (fun r' => r' = r ∧ i_Rel (k + 5) u v) v) u := by
  obtain ⟨d, b, n, s, ln, dp, ev, K, A, B, C, P, L, Q, O, bp, vs, cl, fr, rfl, rfl, hI⟩ := I
  have hs4 := re_s4 hI
  have J := hI
  obtain ⟨d1, d8, b1, b4, hn, hK0, hOK, hS⟩ := hI
  by_cases s24 : s = 2 ∨ s = 4
  · rcases s24 with s2 | s4
    · have h2 : nI s = 2 := congrArg nI s2
      exact br_t h2 ⟨rfl, re_mk J⟩
    · have h2 : ¬ nI s = 2 := fun z => absurd ((nI_eq (a := s) (b := 2) (by omega) (by omega)).mp z) (by omega)
      have h4 : nI s = 4 := congrArg nI s4
      exact br_f h2 (br_t h4 ⟨rfl, re_mk J⟩)
  · have h2 : ¬ nI s = 2 := fun z => s24 (Or.inl ((nI_eq (a := s) (b := 2) (by omega) (by omega)).mp z))
    have h4 : ¬ nI s = 4 := fun z => s24 (Or.inr ((nI_eq (a := s) (b := 4) (by omega) (by omega)).mp z))
    have hz : ln = 0 ∧ dp = 0 := by
      rcases hS with ⟨_, z1, z2, _⟩ | ⟨_, ⟨_, z1, z2⟩ | ⟨z, _⟩⟩
      · exact ⟨z1, z2⟩
      · exact ⟨z1, z2⟩
      · exact absurd z s24
    refine br_f h2 (br_f h4 ⟨?_, re_mk J⟩)
    rw [hz.2]
    exact nI_0.symm
theorem i_vc_frameLine {k : Nat} {u : SX} {v : SY} (I : i_Rel k u v) (hk : k + 5 ≤ 2562) (v1 : Int32) : wpX_frameLine (fun r => wpY_frameLine (fun r' => r' = r ∧ i_Rel (k + 5) u v) v v1) u v1 := by
  obtain ⟨d, b, n, s, ln, dp, ev, K, A, B, C, P, L, Q, O, bp, vs, cl, fr, rfl, rfl, hI⟩ := I
  have hs4 := re_s4 hI
  have J := hI
  obtain ⟨d1, d8, b1, b4, hn, hK0, hOK, hS⟩ := hI
  have hdp : dp ≤ 8 := by
    rcases hS with ⟨_, _, z, _⟩ | ⟨_, ⟨_, _, z⟩ | ⟨_, z⟩⟩
    · omega
    · omega
    · have := z.2.2.2.1
      omega
  by_cases s24 : s = 2 ∨ s = 4
  · have hF : db_FR cl fr n dp := by
      rcases hS with ⟨z, _⟩ | ⟨_, ⟨z, _⟩ | ⟨_, z⟩⟩
      · omega
      · omega
      · exact z.2.2.2.2
    have hY : ∀ post : Int32 → Prop, wY_frameLine_18 post v1 (nI d) (nI b) (nI n) (nI s) ev (nI ln) (nI dp) K A B C bp vs fr → wpY_frameLine post (nI d, nI b, nI n, nI s, ev, nI ln, nI dp, K, A, B, C, bp, vs, fr) v1 := by
      intro post hp
      rcases s24 with s2 | s4
      · exact br_t (congrArg nI s2) hp
      · exact br_f (fun z => absurd ((nI_eq (a := s) (b := 2) (by omega) (by omega)).mp z) (by omega)) (br_t (congrArg nI s4) hp)
    rcases re_ln v1 (n := dp) (by omega) with z | ⟨z1, z2⟩ | ⟨x, x1, x2, rfl⟩
    · exact br_t z (hY _ (br_t z ⟨rfl, re_mk J⟩))
    · exact br_f z1 (br_f (Int32.not_le.mpr z2) (hY _ (br_f z1 (br_t z2 ⟨rfl, re_mk J⟩))))
    · have l1 : ¬ nI x < 1 := nI_nlt (a := x) (b := 1) (by omega) (by omega)
      have w : vp_in (nI x) 9 := vp_in_nI (by omega) (by omega)
      have e : fr (nI x).toNatClampNeg = cl (nI x).toNatClampNeg := by
        rw [nI_clamp (by omega)]
        exact (hF x x1 x2).1.symm
      exact br_f l1 (br_t (nI_le x2 (by omega)) ⟨w, hY _ (br_f l1 (br_f (nI_nlt (by omega) (by omega)) (br_t (nI_le (a := x) (b := 8) (by omega) (by omega)) ⟨w, e, re_mk J⟩)))⟩)
  · have h2 : ¬ nI s = 2 := fun z => s24 (Or.inl ((nI_eq (a := s) (b := 2) (by omega) (by omega)).mp z))
    have h4 : ¬ nI s = 4 := fun z => s24 (Or.inr ((nI_eq (a := s) (b := 4) (by omega) (by omega)).mp z))
    have hz : ln = 0 ∧ dp = 0 := by
      rcases hS with ⟨_, z1, z2, _⟩ | ⟨_, ⟨_, z1, z2⟩ | ⟨z, _⟩⟩
      · exact ⟨z1, z2⟩
      · exact ⟨z1, z2⟩
      · exact absurd z s24
    have hY : ∀ post : Int32 → Prop, post 0 → wpY_frameLine post (nI d, nI b, nI n, nI s, ev, nI ln, nI dp, K, A, B, C, bp, vs, fr) v1 := fun post hp => br_f h2 (br_f h4 hp)
    rcases re_ln v1 (n := dp) (by omega) with z | ⟨z1, z2⟩ | ⟨x, x1, x2, rfl⟩
    · exact br_t z (hY _ ⟨rfl, re_mk J⟩)
    · exact br_f z1 (br_f (Int32.not_le.mpr z2) (hY _ ⟨rfl, re_mk J⟩))
    · omega
theorem i_vc_variable {k : Nat} {u : SX} {v : SY} (I : i_Rel k u v) (hk : k + 5 ≤ 2562) (v1 : Int32) : wpX_variable (fun r => wpY_variable (fun r' => r' = r ∧ i_Rel (k + 5) u v) v v1) u v1 := by
  obtain ⟨d, b, n, s, ln, dp, ev, K, A, B, C, P, L, Q, O, bp, vs, cl, fr, rfl, rfl, hI⟩ := I
  unfold wpX_variable
  dsimp only
  have hs4 := re_s4 hI
  have J := hI
  obtain ⟨d1, d8, b1, b4, hn, hK0, hOK, hS⟩ := hI
  by_cases s0 : s = 0
  · have hs : nI s = 0 := congrArg nI s0
    have hv : vs = (fun _ => 0) := by
      rcases hS with ⟨_, _, _, _, _, z⟩ | ⟨_, ⟨z, _⟩ | ⟨z, _⟩⟩
      · exact z
      · omega
      · omega
    by_cases h : re_V 8 v1
    · refine re_v1 h (br_f (by decide) ⟨?_, br_t hs ⟨?_, re_mk J⟩⟩)
      · obtain ⟨j, hj, rfl⟩ := h
        exact vp_in_nI hj (by omega)
      · rw [hv]
    · exact re_v0 h (br_t rfl (br_t hs ⟨rfl, re_mk J⟩))
  · have hs : ¬ nI s = 0 := nI_ne0 (by omega) (by omega)
    by_cases h : re_V 8 v1
    · have w : vp_in v1 8 := by
        obtain ⟨j, hj, rfl⟩ := h
        exact vp_in_nI hj (by omega)
      exact re_v1 h (br_f (by decide) ⟨w, br_f hs (re_y1 h ⟨w, rfl, re_mk J⟩)⟩)
    · exact re_v0 h (br_t rfl (br_f hs (re_y0 h ⟨rfl, re_mk J⟩)))
theorem i_vc_eventCount {k : Nat} {u : SX} {v : SY} (I : i_Rel k u v) (hk : k + 5 ≤ 2562) : wpX_eventCount (fun r => wpY_eventCount (fun r' => r' = r ∧ i_Rel (k + 5) u v) v) u := by
  obtain ⟨d, b, n, s, ln, dp, ev, K, A, B, C, P, L, Q, O, bp, vs, cl, fr, rfl, rfl, hI⟩ := I
  have hs4 := re_s4 hI
  have J := hI
  obtain ⟨d1, d8, b1, b4, hn, hK0, hOK, hS⟩ := hI
  by_cases s0 : s = 0
  · have hs : nI s = 0 := congrArg nI s0
    have hv : ev = 0 := by
      rcases hS with ⟨_, _, _, z, _⟩ | ⟨_, ⟨z, _⟩ | ⟨z, _⟩⟩
      · exact z
      · omega
      · omega
    exact br_t hs ⟨hv.symm, re_mk J⟩
  · have hs : ¬ nI s = 0 := nI_ne0 (by omega) (by omega)
    exact br_f hs ⟨rfl, re_mk J⟩
theorem i_vc_hasCode {k : Nat} {u : SX} {v : SY} (I : i_Rel k u v) (hk : k + 5 ≤ 2562) (v1 : Int32) : wpX_hasCode (fun r => wpY_hasCode (fun r' => r' = r ∧ i_Rel (k + 5) u v) v v1) u v1 := by
  obtain ⟨d, b, n, s, ln, dp, ev, K, A, B, C, P, L, Q, O, bp, vs, cl, fr, rfl, rfl, hI⟩ := I
  have hs4 := re_s4 hI
  have J := hI
  obtain ⟨d1, d8, b1, b4, hn, hK0, hOK, hS⟩ := hI
  by_cases s0 : s = 0
  · have hs : nI s = 0 := congrArg nI s0
    exact br_t hs (br_t hs ⟨rfl, re_mk J⟩)
  · have hs : ¬ nI s = 0 := nI_ne0 (by omega) (by omega)
    have hCP : db_CP K A P L Q n := by
      rcases hS with ⟨z, _⟩ | ⟨z, _⟩
      · exact absurd z s0
      · exact z
    have hR := hS.resolve_left (fun z => s0 z.1)
    rcases re_ln v1 hn with z | ⟨z1, z2⟩ | ⟨x, x1, x2, rfl⟩
    · exact br_f hs (re_il0 (Or.inl z) (br_t rfl (br_f hs (br_t z ⟨rfl, re_mk J⟩))))
    · exact br_f hs (re_il0 (Or.inr ⟨z1, z2⟩) (br_t rfl (br_f hs (br_f z1 (br_f (Int32.not_le.mpr z2) ⟨rfl, re_mk J⟩)))))
    · have l1 : ¬ nI x < 1 := nI_nlt (a := x) (b := 1) (by omega) (by omega)
      have l2 : nI x ≤ nI n := nI_le x2 (by omega)
      by_cases hE : db_E K x
      · exact br_f hs (re_il1 hn x1 x2 (br_f (by decide) (xa_E1 hn hCP.1 x1 x2 hE (br_f (by decide) (br_f hs (br_f l1 (br_t l2 (ya_E1 hn hCP.1 x1 x2 hE (br_f (by decide) ⟨rfl, re_mk J⟩)))))))))
      · exact br_f hs (re_il1 hn x1 x2 (br_f (by decide) (xa_E0 hn hCP.1 x1 x2 hE (br_t rfl (br_f hs (br_f l1 (br_t l2 (ya_E0 hn hCP.1 x1 x2 hE (br_t rfl ⟨rfl, re_mk J⟩)))))))))
end
