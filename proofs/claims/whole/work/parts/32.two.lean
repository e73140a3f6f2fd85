/-! the model's tongue; who knows a world; silence -/
def MT (k : Nat) (vs : Nat → Nat) (W : Nat) (mv : Nat → Int32) : Prop := TG k vs W ∧ ∀ i, i < k → mv i = nI (vs i)
def bI (b : Bool) : Int32 := if b then 1 else 0
theorem bI_0 (b : Bool) : bI b = 0 ↔ b = false := by cases b <;> decide
theorem bI_1 (b : Bool) : bI b = 1 ↔ b = true := by cases b <;> decide
theorem dz_ne {α : Type} {y : Int32} (a : Option α) (h : ¬ y = 0) : dz y a = a := if_neg h
theorem nI_ne {n : Nat} (h : 1 ≤ n) (h2 : n < 2 ^ 31) : ¬ nI n = 0 := nI_ne0 h h2
theorem valueOf_loop {k W w c : Nat} {vs : Nat → Nat} {mv : Nat → Int32} {K : Int32 → Option Int32} (h : MT k vs W mv) (hc : c < k) (hw : w < 2 ^ 31) : ∀ (m i n : Nat), i + m = c → m < n → P_X11_valueOf_5 (nI c) mv K n (nI (dv vs w i)) (nI i) = K (nI (dv vs w c)) := by
  have h3 := h.1.k3
  intro m
  induction m with
  | zero =>
    intro i n hi hn
    obtain ⟨n, rfl⟩ : ∃ q, n = q + 1 := ⟨n - 1, by omega⟩
    have : i = c := by omega
    subst this
    rw [P_X11_valueOf_5, if_pos (nI_le (Nat.le_refl _) (by omega))]
  | succ m ih =>
    intro i n hi hn
    obtain ⟨n, rfl⟩ : ∃ q, n = q + 1 := ⟨n - 1, by omega⟩
    have hp := h.1.pos i
    have hd := dv_le vs w i
    rw [P_X11_valueOf_5, if_neg (nI_ge (by omega) (by omega)), ck_in _ (show i < 3 by omega) (by decide), nI_clamp (by omega), h.2 i (by omega), dz_ne _ (nI_ne hp.1 (by omega)), pk_div (by omega) (by omega) (by omega), nI_1]
    exact ih (i + 1) n (by omega) (by omega)
theorem valueOf_eq {k W w c : Nat} {vs : Nat → Nat} {mv : Nat → Int32} (h : MT k vs W mv) (hc : c < k) (hw : w < 2 ^ 31) : P_X11_valueOf (nI w) (nI c) mv = some (nI (vl vs w c)) := by
  have h3 := h.1.k3
  have hp := h.1.pos c
  have hd := dv_le vs w c
  unfold P_X11_valueOf
  rw [jn, e0]
  have := valueOf_loop (K := fun (x27_l3 : Int32) => ck (nI c) 3 (dz (mv (nI c).toNatClampNeg) (some (x27_l3 - x27_l3 / (mv (nI c).toNatClampNeg) * (mv (nI c).toNatClampNeg))))) h hc hw c 0 QF (by omega) (by unfold QF; omega)
  rw [show dv vs w 0 = w from rfl] at this
  rw [this, ck_in _ (show c < 3 by omega) (by decide), nI_clamp (by omega), h.2 c hc, dz_ne _ (nI_ne hp.1 (by omega)), pk_rem (by omega) (by omega) (by omega), vl]
theorem worldsOf_loop {k W c v : Nat} {vs : Nat → Nat} {mv : Nat → Int32} (h : MT k vs W mv) (hc : c < k) (hv : v < 2 ^ 31) : ∀ (m i n : Nat), i + m = W → m < n → P_X11_worldsOf_5 (nI c) (nI v) (nI W) mv n (nI (ofB (fun w => vl vs w c == v) i)) (nI i) = some (nI (mk vs W c v)) := by
  have h9 := h.1.le
  have hp := h.1.pos c
  intro m
  induction m with
  | zero =>
    intro i n hi hn
    obtain ⟨n, rfl⟩ : ∃ q, n = q + 1 := ⟨n - 1, by omega⟩
    have : i = W := by omega
    subst this
    rw [P_X11_worldsOf_5, if_pos (nI_le (Nat.le_refl _) (by omega))]
    rfl
  | succ m ih =>
    intro i n hi hn
    obtain ⟨n, rfl⟩ : ∃ q, n = q + 1 := ⟨n - 1, by omega⟩
    have hl := vl_lt h.1 i c
    rw [P_X11_worldsOf_5, if_neg (nI_ge (by omega) (by omega)), valueOf_eq h hc (by omega), Option.bind_some]
    simp only [jn]
    rw [nI_1]
    have := ih (i + 1) n (by omega) (by omega)
    rw [ofB] at this
    by_cases hz : vl vs i c = v
    · rw [if_pos (by rw [hz]), nx_one (by omega), nx_or]
      rw [if_pos (by rw [hz]; simp)] at this
      exact this
    · rw [if_neg (by rw [nI_eq (by omega) (by omega)]; exact hz), e0, nx_or]
      rw [if_neg (by simp [hz])] at this
      exact this
theorem worldsOf_eq {k W c v : Nat} {vs : Nat → Nat} {mv : Nat → Int32} (h : MT k vs W mv) (hc : c < k) (hv : v < 2 ^ 31) : P_X11_worldsOf (nI c) (nI v) (nI W) mv = some (nI (mk vs W c v)) := by
  have h9 := h.1.le
  unfold P_X11_worldsOf
  rw [e0]
  exact worldsOf_loop h hc hv W 0 QF (by omega) (by unfold QF; omega)
theorem bit_I {s c : Nat} (hs : s < 2 ^ 31) (hc : c < 32) : (nI s >>> (nI c &&& 31)) &&& 1 = bI (s.testBit c) := by
  rw [nx_shr hs hc, e1, nx_and, Nat.and_one_is_mod, Nat.testBit_eq_decide_div_mod_eq]
  rcases Nat.mod_two_eq_zero_or_one (s / 2 ^ c) with q | q <;> rw [q] <;> rfl
theorem alike_in {k W u w seen : Nat} {vs : Nat → Nat} {mv : Nat → Int32} {K : Int32 → Option Int32} (h : MT k vs W mv) (hs : seen < 8) (hw : w < 2 ^ 31) (hu : u < 2 ^ 31) (a : Bool) : ∀ (m c n : Nat), c + m = k → m < n → P_X11_alikeTo_35 (nI seen) (nI w) (nI k) mv (nI u) K n (bI (a && ll vs seen w c u)) (nI c) = K (bI (a && ll vs seen w k u)) := by
  have h3 := h.1.k3
  intro m
  induction m with
  | zero =>
    intro i n hi hn
    obtain ⟨n, rfl⟩ : ∃ q, n = q + 1 := ⟨n - 1, by omega⟩
    have : i = k := by omega
    subst this
    rw [P_X11_alikeTo_35, if_pos (nI_le (Nat.le_refl _) (by omega))]
  | succ m ih =>
    intro c n hi hn
    obtain ⟨n, rfl⟩ : ∃ q, n = q + 1 := ⟨n - 1, by omega⟩
    have h0 := ih (c + 1) n (by omega) (by omega)
    have g1 := h.1.pos c
    have g2 := vl_lt h.1 u c
    have g3 := vl_lt h.1 w c
    rw [P_X11_alikeTo_35, if_neg (nI_ge (by omega) (by omega))]
    simp only [jn]
    rw [nI_1, bit_I (by omega) (by omega), valueOf_eq h (by omega) hu, Option.bind_some, valueOf_eq h (by omega) hw, Option.bind_some]
    rw [ll] at h0
    by_cases hb : (a && ll vs seen w c u) = true
    · rw [if_neg (by rw [bI_0, hb]; decide)]
      rw [← Bool.and_assoc, hb, Bool.true_and] at h0
      by_cases ht : seen.testBit c = true
      · rw [if_neg (by rw [bI_0, ht]; decide)]
        rw [ht] at h0
        by_cases hq : vl vs u c = vl vs w c
        · rw [if_pos (by rw [hq])]
          rw [hq] at h0
          simpa [bI] using h0
        · rw [if_neg (by rw [nI_eq (by omega) (by omega)]; exact hq)]
          have : (!true || vl vs u c == vl vs w c) = false := by simp [hq]
          rw [this] at h0
          exact h0
      · have ht' : seen.testBit c = false := by simpa using ht
        rw [if_pos (by rw [bI_0]; exact ht')]
        rw [ht'] at h0
        simpa [bI] using h0
    · have hb' : (a && ll vs seen w c u) = false := by simpa using hb
      rw [if_pos (by rw [bI_0]; exact hb')]
      rw [← Bool.and_assoc, hb', Bool.false_and] at h0
      exact h0
theorem alikeTo_loop {k W w seen s : Nat} {vs : Nat → Nat} {mv : Nat → Int32} (h : MT k vs W mv) (hw : w < W) (hs : seen < 8) (ha : s < 2 ^ W) : ∀ (m i n : Nat), i + m = W → m < n → P_X11_alikeTo_6 (nI seen) (nI w) (nI s) (nI k) (nI W) mv n (nI (ofB (fun u => s.testBit u && ll vs seen w k u) i)) (nI i) = some (nI (ofB (fun u => s.testBit u && ll vs seen w k u) W)) := by
  have h9 := h.1.le
  have h5 := h.1.lt512 ha
  have h3 := h.1.k3
  intro m
  induction m with
  | zero =>
    intro i n hi hn
    obtain ⟨n, rfl⟩ : ∃ q, n = q + 1 := ⟨n - 1, by omega⟩
    have : i = W := by omega
    subst this
    rw [P_X11_alikeTo_6, if_pos (nI_le (Nat.le_refl _) (by omega))]
  | succ m ih =>
    intro i n hi hn
    obtain ⟨n, rfl⟩ : ∃ q, n = q + 1 := ⟨n - 1, by omega⟩
    have h0 := ih (i + 1) n (by omega) (by omega)
    rw [P_X11_alikeTo_6, if_neg (nI_ge (by omega) (by omega))]
    simp only [jn]
    rw [bit_I (by omega) (by omega), nI_1, nx_one (by omega)]
    have key := fun b => alike_in (K := fun (x89_l6 : Int32) => if x89_l6 = 0 then P_X11_alikeTo_6 (nI seen) (nI w) (nI s) (nI k) (nI W) mv n (nI (ofB (fun u => s.testBit u && ll vs seen w k u) i) ||| 0) (nI (i + 1)) else P_X11_alikeTo_6 (nI seen) (nI w) (nI s) (nI k) (nI W) mv n (nI (ofB (fun u => s.testBit u && ll vs seen w k u) i) ||| nI (2 ^ i)) (nI (i + 1))) h hs (show w < 2 ^ 31 by omega) (show i < 2 ^ 31 by omega) b k 0 QF (by omega) (by unfold QF; omega)
    have kt := key true
    have kf := key false
    rw [show bI (true && ll vs seen w 0 i) = 1 from rfl, ← e0] at kt
    rw [show bI (false && ll vs seen w 0 i) = 0 from rfl, ← e0] at kf
    rw [ofB] at h0
    by_cases ht : s.testBit i = true
    · rw [if_pos (by rw [bI_1]; exact ht), kt]
      rw [ht, Bool.true_and] at h0
      rw [Bool.true_and]
      by_cases hl : ll vs seen w k i = true
      · rw [if_neg (by rw [bI_0, hl]; decide), nx_or]
        rw [if_pos hl] at h0
        exact h0
      · rw [if_pos (by rw [bI_0]; simpa using hl), e0, nx_or]
        rw [if_neg hl] at h0
        exact h0
    · rw [if_neg (by rw [bI_1]; exact ht), kf, Bool.false_and, if_pos (show bI false = 0 from rfl), e0, nx_or]
      rw [if_neg (by simp [ht])] at h0
      exact h0
/-- the worlds among s that look alike -/
def al (vs : Nat → Nat) (k W seen w s : Nat) : Nat := ofB (fun u => s.testBit u && ll vs seen w k u) W
theorem al_and {W s : Nat} (vs : Nat → Nat) (k seen w : Nat) (h : s < 2 ^ W) : s &&& ofB (ll vs seen w k) W = al vs k W seen w s := by
  rw [al]
  apply bit_ext (Nat.lt_of_le_of_lt Nat.and_le_left h) (ofB_lt _ _)
  intro i hi
  rw [Nat.testBit_and, ofB_bit, ofB_bit]
  simp [hi]
theorem alikeTo_eq {k W w seen s : Nat} {vs : Nat → Nat} {mv : Nat → Int32} (h : MT k vs W mv) (hw : w < W) (hs : seen < 8) (ha : s < 2 ^ W) : P_X11_alikeTo (nI seen) (nI w) (nI s) (nI k) (nI W) mv = some (nI (al vs k W seen w s)) := by
  have h9 := h.1.le
  unfold P_X11_alikeTo
  rw [e0]
  exact alikeTo_loop h hw hs ha W 0 QF (by omega) (by unfold QF; omega)
theorem ll_self (vs : Nat → Nat) (seen w : Nat) : ∀ c, ll vs seen w c w = true := by
  intro c
  induction c with
  | zero => rfl
  | succ c ih => rw [ll, ih]; simp
theorem al_lt (vs : Nat → Nat) (k W seen w s : Nat) : al vs k W seen w s < 2 ^ W := ofB_lt _ _
theorem al_bit (vs : Nat → Nat) (k W seen w s i : Nat) : (al vs k W seen w s).testBit i = (decide (i < W) && (s.testBit i && ll vs seen w k i)) := ofB_bit _ _ _
/-- who sees so knows that it is w, of s -/
def kn (vs : Nat → Nat) (k W seen s w : Nat) : Bool := al vs k W seen w s == 2 ^ w
/-- how many -/
def pc (n : Nat) : Nat → Nat
  | 0 => 0
  | i + 1 => pc n i + (if n.testBit i then 1 else 0)
theorem bitCount_eq : ∀ x, x < 512 → P_J6_bitCount_0f7a4 (nI x) = some (nI (pc x 9)) := by decide +kernel
theorem pc_one : ∀ x, x < 512 → ∀ w, w < 9 → x.testBit w = true → (pc x 9 = 1 ↔ x = 2 ^ w) := by decide +kernel
theorem pc_le (n : Nat) : ∀ i, pc n i ≤ i := by
  intro i
  induction i with
  | zero => exact Nat.le_refl 0
  | succ i ih => rw [pc]; split <;> omega
theorem bitsIn_loop {x : Nat} (hx : x < 512) : ∀ (m i n : Nat), i + m = 9 → m < n → P_X11_bitsIn_4 (nI x) n (nI (pc x i)) (nI i) = some (nI (pc x 9)) := by
  intro m
  induction m with
  | zero =>
    intro i n hi hn
    obtain ⟨n, rfl⟩ : ∃ q, n = q + 1 := ⟨n - 1, by omega⟩
    have : i = 9 := by omega
    subst this
    rw [P_X11_bitsIn_4, if_pos (show (9 : Int32) ≤ nI 9 from nI_le (Nat.le_refl _) (by decide))]
  | succ m ih =>
    intro i n hi hn
    obtain ⟨n, rfl⟩ : ∃ q, n = q + 1 := ⟨n - 1, by omega⟩
    have h0 := ih (i + 1) n (by omega) (by omega)
    rw [P_X11_bitsIn_4, e9, if_neg (nI_ge (by omega) (by decide)), bit_I (by omega) (by omega), nI_1]
    rw [pc] at h0
    cases hb : x.testBit i with
    | true => rw [hb, if_pos rfl] at h0; rw [bI, if_pos rfl, nI_1]; exact h0
    | false => rw [hb, if_neg (by decide)] at h0; rw [bI, if_neg (by decide), e0, nI_add]; exact h0
theorem bitsIn_eq {x : Nat} (hx : x < 512) : P_X11_bitsIn (nI x) = some (nI (pc x 9)) := by
  unfold P_X11_bitsIn
  rw [e0]
  exact bitsIn_loop hx 9 0 QF (by omega) (by unfold QF; omega)
theorem has_eq {s w : Nat} (hs : s < 512) (hw : w < 9) : P_X4_has (nI s) (nI w) = some (bI (s.testBit w)) := by
  have hb : s &&& 2 ^ w < 512 := Nat.lt_of_le_of_lt Nat.and_le_left hs
  unfold P_X4_has
  rw [if_neg (nI_pos (by omega)), e9, if_neg (nI_ge hw (by decide)), nx_one (by omega), nx_and, and_one]
  cases ht : s.testBit w with
  | true =>
    have := Nat.two_pow_pos w
    have h2 : 2 ^ w < 512 := Nat.lt_of_le_of_lt (Nat.pow_le_pow_right (by decide) (show w ≤ 8 by omega)) (by decide)
    rw [if_pos rfl, if_neg (by rw [e0, nI_eq (by omega) (by omega)]; omega)]
    rfl
  | false => rfl
theorem knows_c {k W w seen s : Nat} {vs : Nat → Nat} {fv fl : Nat → Int32} (h : CT k vs W fv fl) (hw : w < W) (hs : seen < 8) (ha : s < 2 ^ W) (hb : s.testBit w = true) : P_X9_knows (nI seen) (nI w) (nI s) (nI k) (nI W) fv fl = some (bI (kn vs k W seen s w)) := by
  have h9 := h.1.le
  have hl := h.1.lt512 (al_lt vs k W seen w s)
  unfold P_X9_knows
  rw [looksLike_eq h hw hs, Option.bind_some, nx_and, al_and vs k seen w ha, bitCount_eq _ hl, Option.bind_some]
  have hbit : (al vs k W seen w s).testBit w = true := by rw [al_bit, hb, ll_self]; simp [hw]
  have h1 := pc_one _ hl w (by omega) hbit
  have h2 := pc_le (al vs k W seen w s) 9
  by_cases hq : al vs k W seen w s = 2 ^ w
  · rw [if_pos (show nI (pc (al vs k W seen w s) 9) = 1 by rw [h1.mpr hq]; rfl), kn, hq]; simp [bI]
  · rw [if_neg (show ¬ nI (pc (al vs k W seen w s) 9) = 1 from fun z => hq (h1.mp ((nI_eq (b := 1) (by omega) (by decide)).mp z))), kn, beq_eq_false_iff_ne.mpr hq]; simp [bI]
theorem knows_m {k W w seen s : Nat} {vs : Nat → Nat} {mv : Nat → Int32} (h : MT k vs W mv) (hw : w < W) (hs : seen < 8) (ha : s < 2 ^ W) : P_X11_knows (nI seen) (nI w) (nI s) (nI k) (nI W) mv = some (bI (kn vs k W seen s w)) := by
  have h9 := h.1.le
  have hl := h.1.lt512 (al_lt vs k W seen w s)
  have h2 : 2 ^ w < 512 := Nat.lt_of_le_of_lt (Nat.pow_le_pow_right (by decide) (show w ≤ 8 by omega)) (by decide)
  unfold P_X11_knows
  rw [alikeTo_eq h hw hs ha, Option.bind_some, nx_one (by omega)]
  by_cases hq : al vs k W seen w s = 2 ^ w
  · rw [if_pos (by rw [hq]), kn, hq]; simp [bI]
  · rw [if_neg (fun z => hq ((nI_eq (by omega) (by omega)).mp z)), kn, beq_eq_false_iff_ne.mpr hq]; simp [bI]
/-- what is left when one was silent -/
def uk (vs : Nat → Nat) (k W seen s : Nat) : Nat := ofB (fun w => s.testBit w && !kn vs k W seen s w) W
theorem uk_lt (vs : Nat → Nat) (k W seen s : Nat) : uk vs k W seen s < 2 ^ W := ofB_lt _ _
theorem uk_bit (vs : Nat → Nat) (k W seen s i : Nat) : (uk vs k W seen s).testBit i = (decide (i < W) && (s.testBit i && !kn vs k W seen s i)) := ofB_bit _ _ _
theorem unknownTo_loop {k W seen s : Nat} {vs : Nat → Nat} {fv fl : Nat → Int32} (h : CT k vs W fv fl) (hs : seen < 8) (ha : s < 2 ^ W) : ∀ (m i n : Nat), i + m = W → m < n → P_X9_unknownTo_5 (nI seen) (nI s) (nI k) (nI W) fv fl n (nI (ofB (fun w => s.testBit w && !kn vs k W seen s w) i)) (nI i) = some (nI (uk vs k W seen s)) := by
  have h9 := h.1.le
  have h5 := h.1.lt512 ha
  intro m
  induction m with
  | zero =>
    intro i n hi hn
    obtain ⟨n, rfl⟩ : ∃ q, n = q + 1 := ⟨n - 1, by omega⟩
    have : i = W := by omega
    subst this
    rw [P_X9_unknownTo_5, P_X8_worlds, Option.bind_some, if_pos (nI_le (Nat.le_refl _) (by omega))]
    rfl
  | succ m ih =>
    intro i n hi hn
    obtain ⟨n, rfl⟩ : ∃ q, n = q + 1 := ⟨n - 1, by omega⟩
    have h0 := ih (i + 1) n (by omega) (by omega)
    rw [ofB] at h0
    rw [P_X9_unknownTo_5, P_X8_worlds, Option.bind_some, if_neg (nI_ge (by omega) (by omega)), has_eq h5 (by omega), Option.bind_some]
    simp only [jn]
    rw [nI_1]
    cases ht : s.testBit i with
    | false =>
      rw [if_pos (show bI false = 0 from rfl)]
      rw [ht, Bool.false_and, if_neg (by decide), Nat.or_zero] at h0
      exact h0
    | true =>
      rw [if_neg (show ¬ bI true = 0 by decide), knows_c h (by omega) hs ha ht, Option.bind_some, nx_one (by omega), nx_or]
      rw [ht, Bool.true_and] at h0
      cases hk : kn vs k W seen s i with
      | false =>
        rw [hk] at h0
        rw [if_pos (show bI false = 0 from rfl)]
        exact h0
      | true =>
        rw [hk, if_neg (by decide), Nat.or_zero] at h0
        rw [if_neg (show ¬ bI true = 0 by decide)]
        exact h0
theorem unknownTo_eq {k W seen s : Nat} {vs : Nat → Nat} {fv fl : Nat → Int32} (h : CT k vs W fv fl) (hs : seen < 8) (ha : s < 2 ^ W) : P_X9_unknownTo (nI seen) (nI s) (nI k) (nI W) fv fl = some (nI (uk vs k W seen s)) := by
  have h9 := h.1.le
  unfold P_X9_unknownTo
  rw [e0]
  exact unknownTo_loop h hs ha W 0 QF (by omega) (by unfold QF; omega)
theorem and_m1 {a : Nat} (h : a < 4294967296) : a &&& 4294967295 = a := by
  have := Nat.and_two_pow_sub_one_of_lt_two_pow (n := 32) h
  exact this
theorem silent_loop {k W seen s : Nat} {vs : Nat → Nat} {mv : Nat → Int32} (h : MT k vs W mv) (hs : seen < 8) (ha : s < 2 ^ W) : ∀ (m i n : Nat), i + m = W → m < n → P_X11_silent_5 (nI seen) (nI s) (nI k) (nI W) mv n (nI (ofB (fun w => s.testBit w && (decide (i ≤ w) || !kn vs k W seen s w)) W)) (nI i) = some (nI (uk vs k W seen s)) := by
  have h9 := h.1.le
  have h5 := h.1.lt512 ha
  intro m
  induction m with
  | zero =>
    intro i n hi hn
    obtain ⟨n, rfl⟩ : ∃ q, n = q + 1 := ⟨n - 1, by omega⟩
    have : i = W := by omega
    subst this
    rw [P_X11_silent_5, if_pos (nI_le (Nat.le_refl _) (by omega))]
    congr 2
    exact ofB_congr (fun j hj => by rw [decide_eq_false (by omega), Bool.false_or])
  | succ m ih =>
    intro i n hi hn
    obtain ⟨n, rfl⟩ : ∃ q, n = q + 1 := ⟨n - 1, by omega⟩
    have h0 := ih (i + 1) n (by omega) (by omega)
    have hlt := h.1.lt512 (ofB_lt (fun w => s.testBit w && (decide (i ≤ w) || !kn vs k W seen s w)) W)
    have same : (s.testBit i && kn vs k W seen s i) = false → ofB (fun w => s.testBit w && (decide (i ≤ w) || !kn vs k W seen s w)) W = ofB (fun w => s.testBit w && (decide (i + 1 ≤ w) || !kn vs k W seen s w)) W := fun hz => ofB_congr (fun j hj => by
      by_cases hj : j = i
      · subst hj
        rw [decide_eq_true (Nat.le_refl _), decide_eq_false (by omega)]
        cases hsj : s.testBit j <;> cases hk : kn vs k W seen s j <;> simp_all
      · rw [show decide (i ≤ j) = decide (i + 1 ≤ j) by
          by_cases hq : i ≤ j
          · rw [decide_eq_true hq, decide_eq_true (by omega)]
          · rw [decide_eq_false hq, decide_eq_false (by omega)]])
    rw [P_X11_silent_5, if_neg (nI_ge (by omega) (by omega))]
    simp only [jn]
    rw [nI_1, bit_I (by omega) (by omega), em1, nx_and, and_m1 (by omega)]
    cases ht : s.testBit i with
    | false =>
      rw [if_neg (show ¬ bI false = 1 by decide), same (by rw [ht, Bool.false_and])]
      exact h0
    | true =>
      rw [if_pos (show bI true = 1 from rfl), knows_m h (by omega) hs ha, Option.bind_some]
      cases hk : kn vs k W seen s i with
      | false =>
        rw [if_pos (show bI false = 0 from rfl), same (by rw [hk, Bool.and_false])]
        exact h0
      | true =>
        rw [if_neg (show ¬ bI true = 0 by decide), nx_one (by omega), ← em1, cm_I]
        have e : cm (ofB (fun w => s.testBit w && (decide (i ≤ w) || !kn vs k W seen s w)) W) (2 ^ i) = ofB (fun w => s.testBit w && (decide (i + 1 ≤ w) || !kn vs k W seen s w)) W := by
          apply bit_ext (cm_lt (ofB_lt _ _)) (ofB_lt _ _)
          intro j hj
          rw [cm_bit (by omega), ofB_bit, ofB_bit, pow_bit]
          by_cases hq : j = i
          · subst hq
            rw [decide_eq_false (show ¬ j + 1 ≤ j by omega), hk]
            simp
          · rw [decide_eq_false (show ¬ i = j by omega), show decide (i ≤ j) = decide (i + 1 ≤ j) by
              by_cases hq : i ≤ j
              · rw [decide_eq_true hq, decide_eq_true (by omega)]
              · rw [decide_eq_false hq, decide_eq_false (by omega)]]
            simp
        rw [e]
        exact h0
theorem silent_eq {k W seen s : Nat} {vs : Nat → Nat} {mv : Nat → Int32} (h : MT k vs W mv) (hs : seen < 8) (ha : s < 2 ^ W) : P_X11_silent (nI seen) (nI s) (nI k) (nI W) mv = some (nI (uk vs k W seen s)) := by
  have h9 := h.1.le
  unfold P_X11_silent
  have e : s = ofB (fun w => s.testBit w && (decide (0 ≤ w) || !kn vs k W seen s w)) W := by
    apply bit_ext ha (ofB_lt _ _)
    intro j hj
    rw [ofB_bit]
    simp [hj]
  have := silent_loop h hs ha W 0 QF (by omega) (by unfold QF; omega)
  rw [← e] at this
  rw [e0]
  exact this
