/-! the tongue: k choices, vs c values of each; a world's value of a choice; the worlds of a value -/
def dv (vs : Nat → Nat) (w : Nat) : Nat → Nat
  | 0 => w
  | c + 1 => dv vs w c / vs c
def stp (vs : Nat → Nat) : Nat → Nat
  | 0 => 1
  | c + 1 => stp vs c * vs c
def vl (vs : Nat → Nat) (w c : Nat) : Nat := dv vs w c % vs c
def mk (vs : Nat → Nat) (W c v : Nat) : Nat := ofB (fun w => vl vs w c == v) W
def TG (k : Nat) (vs : Nat → Nat) (W : Nat) : Prop := k ≤ 3 ∧ (∀ i, i < k → 2 ≤ vs i ∧ vs i ≤ 9) ∧ (∀ i, k ≤ i → vs i = 1) ∧ W = stp vs k ∧ W ≤ 9
theorem TG.pos {k W : Nat} {vs : Nat → Nat} (h : TG k vs W) (i : Nat) : 1 ≤ vs i ∧ vs i ≤ 9 := by
  by_cases hi : i < k
  · have := h.2.1 i hi; omega
  · have := h.2.2.1 i (by omega); omega
theorem TG.le {k W : Nat} {vs : Nat → Nat} (h : TG k vs W) : W ≤ 9 := h.2.2.2.2
theorem TG.k3 {k W : Nat} {vs : Nat → Nat} (h : TG k vs W) : k ≤ 3 := h.1
theorem stp_pos {vs : Nat → Nat} (h : ∀ i, 1 ≤ vs i) (c : Nat) : 1 ≤ stp vs c := by
  induction c with
  | zero => exact Nat.le_refl 1
  | succ c ih => exact Nat.mul_pos ih (h c)
theorem TG.W1 {k W : Nat} {vs : Nat → Nat} (h : TG k vs W) : 1 ≤ W := by
  rw [h.2.2.2.1]; exact stp_pos (fun i => (h.pos i).1) k
theorem TG.lt512 {k W s : Nat} {vs : Nat → Nat} (h : TG k vs W) (hs : s < 2 ^ W) : s < 512 :=
  Nat.lt_of_lt_of_le hs (Nat.pow_le_pow_right (by decide) h.le)
theorem TG.p512 {k W : Nat} {vs : Nat → Nat} (h : TG k vs W) : 2 ^ W ≤ 512 := Nat.pow_le_pow_right (by decide) h.le
theorem mk_lt (vs : Nat → Nat) (W c v : Nat) : mk vs W c v < 2 ^ W := ofB_lt _ _
theorem mk_bit (vs : Nat → Nat) (W c v i : Nat) : (mk vs W c v).testBit i = (decide (i < W) && (vl vs i c == v)) := ofB_bit _ _ _
theorem vl_lt {k W : Nat} {vs : Nat → Nat} (h : TG k vs W) (w c : Nat) : vl vs w c < vs c := Nat.mod_lt _ (h.pos c).1
theorem dv_stp (vs : Nat → Nat) (w c : Nat) : dv vs w c = w / stp vs c := by
  induction c with
  | zero => exact (Nat.div_one w).symm
  | succ c ih => rw [dv, stp, ih, Nat.div_div_eq_div_mul]
theorem dv_le (vs : Nat → Nat) (w c : Nat) : dv vs w c ≤ w := by rw [dv_stp]; exact Nat.div_le_self _ _
/-- the first place from i on, of m, where p holds -/
def fnd (p : Nat → Bool) : Nat → Nat → Option Nat
  | 0, _ => none
  | m + 1, i => if p i then some i else fnd p m (i + 1)
theorem fnd_some {p : Nat → Bool} : ∀ (m i v : Nat), fnd p m i = some v → i ≤ v ∧ v < i + m ∧ p v = true ∧ ∀ u, i ≤ u → u < v → p u = false := by
  intro m
  induction m with
  | zero => intro i v h; cases h
  | succ m ih =>
    intro i v h
    rw [fnd] at h
    by_cases hp : p i = true
    · rw [if_pos hp] at h
      cases h
      exact ⟨Nat.le_refl _, by omega, hp, fun u h1 h2 => by omega⟩
    · rw [if_neg hp] at h
      obtain ⟨h1, h2, h3, h4⟩ := ih (i + 1) v h
      refine ⟨by omega, by omega, h3, fun u h5 h6 => ?_⟩
      by_cases hu : u = i
      · subst hu; cases hq : p u with
        | true => exact absurd hq hp
        | false => rfl
      · exact h4 u (by omega) h6
theorem fnd_none {p : Nat → Bool} : ∀ (m i : Nat), fnd p m i = none → ∀ u, i ≤ u → u < i + m → p u = false := by
  intro m
  induction m with
  | zero => intro i h u h1 h2; omega
  | succ m ih =>
    intro i h u h1 h2
    rw [fnd] at h
    by_cases hp : p i = true
    · rw [if_pos hp] at h; cases h
    · rw [if_neg hp] at h
      by_cases hu : u = i
      · subst hu; cases hq : p u with
        | true => exact absurd hq hp
        | false => rfl
      · exact ih (i + 1) h u (by omega) (by omega)
theorem fnd_of {p : Nat → Bool} {m v : Nat} (hv : v < m) (hp : p v = true) (hu : ∀ u, u < v → p u = false) : fnd p m 0 = some v := by
  cases h : fnd p m 0 with
  | none => have := fnd_none m 0 h v (by omega) (by omega); rw [hp] at this; cases this
  | some u =>
    obtain ⟨-, h2, h3, h4⟩ := fnd_some m 0 u h
    rcases Nat.lt_trichotomy u v with q | q | q
    · rw [hu u q] at h3; cases h3
    · rw [q]
    · rw [h4 v (by omega) q] at hp; cases hp
def toI (o : Option Nat) : Int32 := match o with
  | some v => nI v
  | none => -1
/-- the class's tongue -/
def CT (k : Nat) (vs : Nat → Nat) (W : Nat) (fv fl : Nat → Int32) : Prop := TG k vs W ∧ (∀ i, i < k → fv i = nI (vs i)) ∧ ∀ c v, c < k → v < vs c → fl (10 * c + v) = nI (mk vs W c v)
theorem isChoice_in {k c : Nat} (h : c < k) (hk : k < 2 ^ 31) : P_X8_isChoice (nI c) (nI k) = some 1 := by
  unfold P_X8_isChoice
  rw [if_neg (nI_pos (by omega)), if_neg (nI_ge h hk)]
theorem isChoice_out {k : Nat} {p : Int32} (h : p < 0 ∨ nI k ≤ p) : P_X8_isChoice p (nI k) = some 0 := by
  unfold P_X8_isChoice
  by_cases h0 : p < 0
  · rw [if_pos h0]
  · rw [if_neg h0, if_pos (h.resolve_left h0)]
theorem one_ne : ¬ (1 : Int32) = 0 := by decide
theorem valuesOf_in {k W c : Nat} {vs : Nat → Nat} {fv fl : Nat → Int32} (h : CT k vs W fv fl) (hc : c < k) : P_X8_valuesOf (nI c) (nI k) fv = some (nI (vs c)) := by
  have h3 := h.1.k3
  unfold P_X8_valuesOf
  rw [isChoice_in hc (by omega), Option.bind_some, if_neg one_ne, at_in _ (show c < 3 by omega) (by decide), Option.bind_some, h.2.1 c hc]
theorem valuesOf_out {k : Nat} {fv : Nat → Int32} {p : Int32} (h : p < 0 ∨ nI k ≤ p) : P_X8_valuesOf p (nI k) fv = some 0 := by
  unfold P_X8_valuesOf
  rw [isChoice_out h, Option.bind_some, if_pos rfl]
theorem all_eq {W : Nat} (h : W ≤ 9) : P_X8_all (nI W) = some (nI (2 ^ W - 1)) := by
  unfold P_X8_all
  rw [nx_one (show W < 32 by omega), e1, pk_sub (Nat.one_le_two_pow)]
theorem allSets_eq {W : Nat} (h : W ≤ 9) : P_X11_allSets (nI W) = some (nI (2 ^ W - 1)) := by
  unfold P_X11_allSets
  rw [nx_one (show W < 32 by omega), e1, pk_sub (Nat.one_le_two_pow)]
theorem p9 {W : Nat} (h : W ≤ 9) : 2 ^ W ≤ 512 ∧ 1 ≤ 2 ^ W := ⟨Nat.pow_le_pow_right (by decide) h, Nat.one_le_two_pow⟩
/-- a number that is a set, or not -/
theorem set_cases {W : Nat} (h : W ≤ 9) (p : Int32) : (∃ s, s < 2 ^ W ∧ p = nI s) ∨ (p < 0 ∨ nI (2 ^ W - 1) < p) := by
  have ⟨h1, h2⟩ := p9 h
  by_cases h0 : p < 0
  · exact Or.inr (Or.inl h0)
  · obtain ⟨j, hj, rfl⟩ := nI_of h0
    by_cases hl : j < 2 ^ W
    · exact Or.inl ⟨j, hl, rfl⟩
    · exact Or.inr (Or.inr ((nI_ltI (by omega) hj).mpr (by omega)))
theorem isSet_in {W s : Nat} (h : W ≤ 9) (hs : s < 2 ^ W) : P_X8_isSet (nI s) (nI W) = some 1 := by
  have ⟨h1, h2⟩ := p9 h
  unfold P_X8_isSet
  rw [if_neg (nI_pos (by omega)), all_eq h, Option.bind_some, if_neg (nI_nlt (by omega) (by omega))]
theorem isSet_out {W : Nat} {p : Int32} (h : W ≤ 9) (hp : p < 0 ∨ nI (2 ^ W - 1) < p) : P_X8_isSet p (nI W) = some 0 := by
  unfold P_X8_isSet
  by_cases h0 : p < 0
  · rw [if_pos h0]
  · rw [if_neg h0, all_eq h, Option.bind_some, if_pos (hp.resolve_left h0)]
theorem in_in {a b c : Nat} (h1 : a ≤ b) (h2 : b ≤ c) (hc : c < 2 ^ 31) : P_X11_in (nI b) (nI a) (nI c) = some 1 := by
  unfold P_X11_in
  rw [if_neg (nI_nlt h1 (by omega)), if_neg (nI_nlt h2 hc)]
theorem in_out {p a c : Int32} (h : p < a ∨ c < p) : P_X11_in p a c = some 0 := by
  unfold P_X11_in
  by_cases h0 : p < a
  · rw [if_pos h0]
  · rw [if_neg h0, if_pos (h.resolve_left h0)]
theorem isSet_in_m {W s : Nat} (h : W ≤ 9) (hs : s < 2 ^ W) : P_X11_isSet (nI s) (nI W) = some 1 := by
  have ⟨h1, h2⟩ := p9 h
  unfold P_X11_isSet
  rw [allSets_eq h, Option.bind_some, e0, in_in (Nat.zero_le _) (show s ≤ 2 ^ W - 1 by omega) (by omega), Option.bind_some, cz, if_pos (Or.inr rfl)]
theorem isSet_out_m {W : Nat} {p : Int32} (h : W ≤ 9) (hp : p < 0 ∨ nI (2 ^ W - 1) < p) : P_X11_isSet p (nI W) = some 0 := by
  unfold P_X11_isSet
  rw [allSets_eq h, Option.bind_some, in_out hp, Option.bind_some, cz, if_pos (Or.inl rfl)]
theorem others_eq {W s : Nat} (h : W ≤ 9) : P_X8_others (nI s) (nI W) = some (nI (cm (2 ^ W - 1) s)) := by
  unfold P_X8_others
  rw [all_eq h, Option.bind_some, cm_I]
theorem isWorld_in {W w : Nat} (h : W ≤ 9) (hw : w < W) : P_X8_isWorld (nI w) (nI W) = some 1 := by
  unfold P_X8_isWorld
  rw [if_neg (nI_pos (by omega)), if_neg (nI_ge hw (by omega))]
theorem isWorld_out {W : Nat} {p : Int32} (hp : p < 0 ∨ nI W ≤ p) : P_X8_isWorld p (nI W) = some 0 := by
  unfold P_X8_isWorld
  by_cases h0 : p < 0
  · rw [if_pos h0]
  · rw [if_neg h0, if_pos (hp.resolve_left h0)]
theorem leftBy_in {k W c v : Nat} {vs : Nat → Nat} {fv fl : Nat → Int32} (h : CT k vs W fv fl) (hc : c < k) (hv : v < vs c) : P_X8_leftBy (nI c) (nI v) fl = some (nI (mk vs W c v)) := by
  have h3 := h.1.k3
  have h9 := (h.1.pos c).2
  unfold P_X8_leftBy
  rw [e10, pk_mul, nI_add, at_in _ (show 10 * c + v < 30 by omega) (by decide), Option.bind_some, h.2.2 c v hc hv]
/-- the value that all worlds of a set have -/
def fx (vs : Nat → Nat) (W s c : Nat) : Option Nat := fnd (fun v => cm s (mk vs W c v) == 0) (vs c) 0
theorem fixedIn_loop {k W s c : Nat} {vs : Nat → Nat} {fv fl : Nat → Int32} (h : CT k vs W fv fl) (hc : c < k) (hs : s < 2 ^ W) : ∀ (m i n : Nat), i + m = vs c → m < n → P_X8_fixedIn_2 (nI s) (nI c) (nI k) fv fl n (nI i) = some (toI (fnd (fun v => cm s (mk vs W c v) == 0) m i)) := by
  have h512 := h.1.lt512 hs
  have h9 := (h.1.pos c).2
  intro m
  induction m with
  | zero =>
    intro i n hi hn
    obtain ⟨n, rfl⟩ : ∃ q, n = q + 1 := ⟨n - 1, by omega⟩
    rw [P_X8_fixedIn_2, valuesOf_in h hc, Option.bind_some, if_pos (nI_le (by omega) (by omega))]
    rfl
  | succ m ih =>
    intro i n hi hn
    obtain ⟨n, rfl⟩ : ∃ q, n = q + 1 := ⟨n - 1, by omega⟩
    have hb : cm s (mk vs W c i) < 512 := Nat.lt_of_le_of_lt Nat.and_le_left h512
    rw [P_X8_fixedIn_2, valuesOf_in h hc, Option.bind_some, if_neg (nI_ge (by omega) (by omega)), leftBy_in h hc (by omega), Option.bind_some, cm_I, fnd]
    by_cases hz : cm s (mk vs W c i) = 0
    · rw [if_pos (by rw [hz]; rfl), if_pos (by rw [hz]; rfl)]
      rfl
    · rw [if_neg (by rw [e0, nI_eq (by omega) (by omega)]; exact hz), if_neg (by simp [hz]), nI_1]
      exact ih (i + 1) n (by omega) (by omega)
theorem fixedIn_eq {k W s c : Nat} {vs : Nat → Nat} {fv fl : Nat → Int32} (h : CT k vs W fv fl) (hc : c < k) (hs : s < 2 ^ W) : P_X8_fixedIn (nI s) (nI c) (nI k) fv fl = some (toI (fx vs W s c)) := by
  have h9 := (h.1.pos c).2
  unfold P_X8_fixedIn
  exact fixedIn_loop h hc hs (vs c) 0 QF (by omega) (by unfold QF; omega)
theorem pow_bit (w i : Nat) : (2 ^ w).testBit i = decide (w = i) := Nat.testBit_two_pow
theorem fx_one {k W w c : Nat} {vs : Nat → Nat} (h : TG k vs W) (hw : w < W) : fx vs W (2 ^ w) c = some (vl vs w c) := by
  have h9 := h.le
  have hlt : 2 ^ w < 2 ^ W := Nat.pow_lt_pow_right (by decide) hw
  have key : ∀ v, (cm (2 ^ w) (mk vs W c v) == 0) = (vl vs w c == v) := by
    intro v
    have h1 := cm_eq0 (a := 2 ^ w) (s := mk vs W c v) (n := W) (by omega) hlt
    by_cases hv : vl vs w c = v
    · have : cm (2 ^ w) (mk vs W c v) = 0 := h1.mpr (fun i hi hb => by
        rw [pow_bit] at hb
        have := of_decide_eq_true hb
        subst this
        rw [mk_bit]; simp [hi, hv])
      simp [this, hv]
    · have : ¬ cm (2 ^ w) (mk vs W c v) = 0 := fun e => by
        have := h1.mp e w hw (by rw [pow_bit]; simp)
        rw [mk_bit] at this
        simp [hv] at this
      rw [beq_eq_false_iff_ne.mpr this, beq_eq_false_iff_ne.mpr hv]
  exact fnd_of (vl_lt h w c) (by rw [key]; simp) (fun u hu => by rw [key]; simp; omega)
theorem valueIn_eq {k W w c : Nat} {vs : Nat → Nat} {fv fl : Nat → Int32} (h : CT k vs W fv fl) (hc : c < k) (hw : w < W) : P_X8_valueIn (nI w) (nI c) (nI k) fv fl = some (nI (vl vs w c)) := by
  have h9 := h.1.le
  unfold P_X8_valueIn
  rw [nx_one (by omega), fixedIn_eq h hc (Nat.pow_lt_pow_right (by decide) hw), Option.bind_some, fx_one h.1 hw]
  rfl
/-- the worlds that look alike to one who sees some choices -/
def ll (vs : Nat → Nat) (seen w : Nat) : Nat → Nat → Bool
  | 0, _ => true
  | c + 1, u => ll vs seen w c u && (!seen.testBit c || vl vs u c == vl vs w c)
theorem and_one (s c : Nat) : s &&& 2 ^ c = if s.testBit c then 2 ^ c else 0 := by
  apply Nat.eq_of_testBit_eq
  intro i
  rw [Nat.testBit_and, pow_bit]
  by_cases h : c = i
  · subst h
    cases hs : s.testBit c
    · simp
    · simp [pow_bit]
  · cases hs : s.testBit c <;> simp [h, pow_bit]
theorem looksLike_loop {k W w seen : Nat} {vs : Nat → Nat} {fv fl : Nat → Int32} (h : CT k vs W fv fl) (hw : w < W) (hs : seen < 8) : ∀ (m c n : Nat), c + m = k → m < n → P_X8_looksLike_8 (nI seen) (nI w) (nI k) fv fl n (nI (ofB (ll vs seen w c) W)) (nI c) = some (nI (ofB (ll vs seen w k) W)) := by
  have h9 := h.1.le
  have h3 := h.1.k3
  intro m
  induction m with
  | zero =>
    intro c n hc hn
    obtain ⟨n, rfl⟩ : ∃ q, n = q + 1 := ⟨n - 1, by omega⟩
    have : c = k := by omega
    subst this
    rw [P_X8_looksLike_8, if_pos (nI_le (Nat.le_refl _) (by omega))]
  | succ m ih =>
    intro c n hc hn
    obtain ⟨n, rfl⟩ : ∃ q, n = q + 1 := ⟨n - 1, by omega⟩
    have hp : 2 ^ c < 512 := Nat.lt_of_le_of_lt (Nat.pow_le_pow_right (by decide) (show c ≤ 2 by omega)) (by decide)
    have hb : seen &&& 2 ^ c < 512 := Nat.lt_of_le_of_lt Nat.and_le_left (by omega)
    rw [P_X8_looksLike_8, if_neg (nI_ge (by omega) (by omega)), jn, nx_one (show c < 32 by omega), nx_and, and_one]
    by_cases ht : seen.testBit c = true
    · rw [if_pos ht, if_neg (by rw [e0, nI_eq (by omega) (by omega)]; have := Nat.two_pow_pos c; omega), nx_one (show w < 32 by omega), fixedIn_eq h (by omega) (Nat.pow_lt_pow_right (by decide) hw), Option.bind_some, fx_one h.1 hw, toI, leftBy_in h (by omega) (vl_lt h.1 w c), Option.bind_some, nx_and, mk, ofB_and, nI_1]
      have e : ofB (fun i => ll vs seen w c i && (vl vs i c == vl vs w c)) W = ofB (ll vs seen w (c + 1)) W := ofB_congr (fun i _ => by rw [ll, ht]; simp)
      rw [e]
      exact ih (c + 1) n (by omega) (by omega)
    · rw [if_neg ht, if_pos (show nI 0 = 0 from rfl), nI_1]
      have e : ofB (ll vs seen w c) W = ofB (ll vs seen w (c + 1)) W := ofB_congr (fun i _ => by rw [ll]; simp [ht])
      rw [e]
      exact ih (c + 1) n (by omega) (by omega)
theorem looksLike_eq {k W w seen : Nat} {vs : Nat → Nat} {fv fl : Nat → Int32} (h : CT k vs W fv fl) (hw : w < W) (hs : seen < 8) : P_X8_looksLike (nI seen) (nI w) (nI k) (nI W) fv fl = some (nI (ofB (ll vs seen w k) W)) := by
  have h9 := h.1.le
  have h3 := h.1.k3
  unfold P_X8_looksLike
  rw [all_eq h9, Option.bind_some]
  have e : 2 ^ W - 1 = ofB (ll vs seen w 0) W := bit_ext (by have := Nat.two_pow_pos W; omega) (ofB_lt _ _) (fun i hi => by rw [all_bit, ofB_bit]; simp [ll])
  rw [e, e0]
  exact looksLike_loop h hw hs k 0 QF (by omega) (by unfold QF; omega)
