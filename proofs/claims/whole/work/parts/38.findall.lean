/-! no set comes behind level 27; the model's findAll -/
theorem ll7_bit : ∀ c, c < 3 → (7 : Nat).testBit c = true := by decide
theorem ll7 {k W : Nat} {vs : Nat → Nat} (h : TG k vs W) {u w : Nat} : ∀ j, j ≤ k → (ll vs 7 w j u = true ↔ ∀ c, c < j → vl vs u c = vl vs w c) := by
  have h3 := h.k3
  intro j
  induction j with
  | zero => intro _; exact ⟨fun _ c hc => by omega, fun _ => rfl⟩
  | succ j ih =>
    intro hj
    rw [ll, ll7_bit j (by omega), Bool.and_eq_true, ih (by omega)]
    simp only [Bool.not_true, Bool.false_or, beq_iff_eq]
    constructor
    · rintro ⟨h1, h2⟩ c hc
      by_cases hq : c = j
      · subst hq; exact h2
      · exact h1 c (by omega)
    · intro hh
      exact ⟨fun c hc => hh c (by omega), hh j (by omega)⟩
theorem dv_zero {k W u : Nat} {vs : Nat → Nat} (h : TG k vs W) (hu : u < W) : dv vs u k = 0 := by
  rw [dv_stp, ← h.2.2.2.1]
  exact Nat.div_eq_of_lt hu
theorem same_world {k W u w : Nat} {vs : Nat → Nat} (h : TG k vs W) (hu : u < W) (hw : w < W) (e : ∀ c, c < k → vl vs u c = vl vs w c) : u = w := by
  have key : ∀ d, d ≤ k → dv vs u (k - d) = dv vs w (k - d) := by
    intro d
    induction d with
    | zero => intro _; rw [Nat.sub_zero, dv_zero h hu, dv_zero h hw]
    | succ d ih =>
      intro hd
      have h1 := ih (by omega)
      have h2 := e (k - (d + 1)) (by omega)
      rw [show k - d = k - (d + 1) + 1 by omega, dv, dv] at h1
      rw [vl, vl] at h2
      have a1 := Nat.div_add_mod (dv vs u (k - (d + 1))) (vs (k - (d + 1)))
      have a2 := Nat.div_add_mod (dv vs w (k - (d + 1))) (vs (k - (d + 1)))
      rw [← a1, ← a2, h1, h2]
  have := key k (Nat.le_refl _)
  rw [Nat.sub_self] at this
  exact this
theorem T_sign {G : Nat → Prop} {s : Nat} (h : G s) : T G 1 s ≠ 0 := by
  rw [T_new (n := 0) rfl (Or.inl ⟨rfl, h⟩)]
  decide
theorem T_world {k W nw w : Nat} {vs wl : Nat → Nat} {mo : Option Nat} (h : TG k vs W) (hw : w < W) : ∀ j, 1 ≤ j → j ≤ k → T (GS k vs W nw wl mo) j (ofB (ll vs 7 w j) W) ≠ 0 := by
  have h3 := h.k3
  intro j
  induction j with
  | zero => intro h1; omega
  | succ j ih =>
    intro _ hj
    have sg : T (GS k vs W nw wl mo) 1 (mk vs W j (vl vs w j)) ≠ 0 := T_sign (Or.inl ⟨j, vl vs w j, by omega, vl_lt h w j, rfl⟩)
    have e : ofB (ll vs 7 w (j + 1)) W = ofB (ll vs 7 w j) W &&& mk vs W j (vl vs w j) := by
      rw [mk, ofB_and]
      exact ofB_congr (fun i _ => by rw [ll, ll7_bit j (by omega)]; simp)
    by_cases hj0 : j = 0
    · subst hj0
      have e2 : ofB (ll vs 7 w (0 + 1)) W = mk vs W 0 (vl vs w 0) := by
        rw [e]
        apply bit_ext (Nat.lt_of_le_of_lt Nat.and_le_right (mk_lt _ _ _ _)) (mk_lt _ _ _ _)
        intro i hi
        rw [Nat.testBit_and, ofB_bit, mk_bit]
        simp [ll, hi]
      rw [e2]
      exact sg
    · rw [e]
      exact T_comb (ih (by omega) (by omega)) sg (Or.inl rfl)
theorem T_single {k W nw w : Nat} {vs wl : Nat → Nat} {mo : Option Nat} (h : TG k vs W) (hk : 1 ≤ k) (hw : w < W) : T (GS k vs W nw wl mo) k (2 ^ w) ≠ 0 := by
  have e : ofB (ll vs 7 w k) W = 2 ^ w := by
    apply bit_ext (ofB_lt _ _) (Nat.pow_lt_pow_right (by decide) hw)
    intro i hi
    rw [ofB_bit, pow_bit, decide_eq_true hi, Bool.true_and]
    by_cases hq : w = i
    · subst hq; rw [ll_self]; simp
    · rw [decide_eq_false hq]
      cases hc : ll vs 7 w k i with
      | false => rfl
      | true => exact absurd (same_world h hi hw ((ll7 h k (Nat.le_refl _)).mp hc)).symm hq
  rw [← e]
  exact T_world h hw k hk (Nat.le_refl _)
theorem T_mono {G : Nat → Prop} {n m s : Nat} (h : T G n s ≠ 0) (hm : n ≤ m) : T G m s ≠ 0 := by rw [T_up h hm]; exact h
theorem T_all {k W nw s : Nat} {vs wl : Nat → Nat} {mo : Option Nat} (h : TG k vs W) (hk : 1 ≤ k) (hs : s < 2 ^ W) : T (GS k vs W nw wl mo) 27 s ≠ 0 := by
  have h3 := h.k3
  have h9 := h.le
  have key : ∀ i, i ≤ W → ofB s.testBit i = 0 ∨ T (GS k vs W nw wl mo) (k * i) (ofB s.testBit i) ≠ 0 := by
    intro i
    induction i with
    | zero => intro _; exact Or.inl rfl
    | succ i ih =>
      intro hi
      rw [ofB]
      by_cases hb : s.testBit i = true
      · rw [if_pos hb]
        have s1 : T (GS k vs W nw wl mo) k (2 ^ i) ≠ 0 := T_single h hk (by omega)
        rcases ih (by omega) with q | q
        · rw [q, Nat.zero_or]
          exact Or.inr (T_mono s1 (Nat.le_mul_of_pos_right k (Nat.succ_pos i)))
        · exact Or.inr (T_comb q s1 (Or.inr rfl))
      · rw [if_neg hb, Nat.or_zero]
        rcases ih (by omega) with q | q
        · exact Or.inl q
        · exact Or.inr (T_mono q (Nat.mul_le_mul_left k (Nat.le_succ i)))
  have hm : k * W ≤ 27 := Nat.le_trans (Nat.mul_le_mul h3 h9) (by decide)
  rw [← ofB_of hs]
  rcases key W (Nat.le_refl _) with q | q
  · rw [q]
    have v := h.2.1 0 (by omega)
    have a : T (GS k vs W nw wl mo) 1 (mk vs W 0 0) ≠ 0 := T_sign (Or.inl ⟨0, 0, by omega, by omega, rfl⟩)
    have b : T (GS k vs W nw wl mo) 1 (mk vs W 0 1) ≠ 0 := T_sign (Or.inl ⟨0, 1, by omega, by omega, rfl⟩)
    refine T_mono (T_comb a b (Or.inl ?_)) (show 1 + 1 ≤ 27 by decide)
    apply bit_ext (Nat.lt_of_le_of_lt Nat.and_le_left (mk_lt vs W 0 0)) (Nat.two_pow_pos W)
    intro i hi
    rw [Nat.testBit_and, mk_bit, mk_bit, Nat.zero_testBit]
    by_cases hv : vl vs i 0 = 0
    · simp [hv]
    · simp [hv]
  · exact T_mono q hm
theorem W1_of {W : Nat} {vs : Nat → Nat} (h : TG 0 vs W) : W = 1 := h.2.2.2.1
theorem two01 {x : Nat} (h : x < 2 ^ 1) : x = 0 ∨ x = 1 := by omega
theorem CAP_GS {k W nw : Nat} {vs wl : Nat → Nat} {fw : Nat → Int32} {mo : Option Nat} (h : TG k vs W) (hw : WD W nw wl fw) (hm : MO W mo) : CAP W (GS k vs W nw wl mo) := by
  have hG := GS_lt (k := k) (vs := vs) hw hm
  intro m hmm
  by_cases hk : 1 ≤ k
  · intro s hs
    exact T_full (W := W) (fun x hx => T_all h hk hx) hmm hs
  · have hk0 : k = 0 := by omega
    subst hk0
    have hW := W1_of h
    refine T_cap (n := 27) hG (fun m hm s hs => ?_) m hmm
    by_cases g : T (GS 0 vs W nw wl mo) m s = 0
    · rw [g]
      refine T_no g ?_
      rintro (⟨z, -⟩ | ⟨x, y, x0, y0, -, hop⟩)
      · omega
      · have lx := T_lt hG m x x0
        have ly := T_lt hG m y y0
        subst hW
        rcases two01 lx with rfl | rfl <;> rcases two01 ly with rfl | rfl <;> rcases hop with o | o
        all_goals first
          | (rw [← o] at g; exact x0 g)
          | (rw [← o] at g; exact y0 g)
    · exact T_old g
theorem TF_pos {k W nw s : Nat} {vs wl : Nat → Nat} {mo : Option Nat} (h : TG k vs W) (hk : 1 ≤ k) (hs : s < 2 ^ W) : 1 ≤ TF (GS k vs W nw wl mo) s := Nat.pos_of_ne_zero (T_all h hk hs)
theorem TF_le (G : Nat → Prop) (s : Nat) : TF G s ≤ 27 := T_le G 27 s
